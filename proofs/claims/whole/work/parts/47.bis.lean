/-! what people treat alike -/
def sBN (PE : List P2) (i d : Nat) : Nat := abN (made (PE.getD i p2).1 (PE.getD i p2).2 (nI d))
theorem abA0 : ∀ k, k < 81 → iabs (nI k - 40) = nI (abN (nI k - 40)) ∧ abN (nI k - 40) ≤ 40 := by decide +kernel
theorem abA {v : Int32} (h : okA v) : iabs v = nI (abN v) ∧ abN v ≤ 40 := by
  obtain ⟨k, hk, rfl⟩ := h
  exact abA0 k hk
theorem bis0 : ∀ kd, kd < 4 → ∀ b, b < 21 → ∀ k, k < 81 → ((iabs (nI k - 40) ≤ limO (nI kd) (nI b)) ↔ abN (made (nI kd) (nI b) (nI (abN (nI k - 40)))) = abN (nI k - 40)) ∧ abN (made (nI kd) (nI b) (nI k - 40)) = abN (made (nI kd) (nI b) (nI (abN (nI k - 40)))) := by decide +kernel
theorem bis1 {PE : List P2} (ok : okP PE) {i : Nat} (hi : i < PE.length) {v : Int32} (hv : okA v) : ((iabs v ≤ limO (PE.getD i p2).1 (PE.getD i p2).2) ↔ sBN PE i (abN v) = abN v) ∧ abN (made (PE.getD i p2).1 (PE.getD i p2).2 v) = sBN PE i (abN v) := by
  obtain ⟨⟨k, h1, e1⟩, ⟨j, h2, e2⟩⟩ := ok i hi
  obtain ⟨m, h3, rfl⟩ := hv
  unfold sBN
  rw [e1, e2]
  exact bis0 k h1 j h2 m h3
theorem sB0 : ∀ kd, kd < 4 → ∀ b, b < 21 → ∀ d, d < 41 → abN (made (nI kd) (nI b) (nI d)) ≤ d ∧ iabs (made (nI kd) (nI b) (nI d)) = nI (abN (made (nI kd) (nI b) (nI d))) := by decide +kernel
theorem sB1 {PE : List P2} (ok : okP PE) {i : Nat} (hi : i < PE.length) {d : Nat} (hd : d < 41) : sBN PE i d ≤ d ∧ iabs (made (PE.getD i p2).1 (PE.getD i p2).2 (nI d)) = nI (sBN PE i d) := by
  obtain ⟨⟨k, h1, e1⟩, ⟨j, h2, e2⟩⟩ := ok i hi
  unfold sBN
  rw [e1, e2]
  exact sB0 k h1 j h2 d hd
/-- all who set one of them right set the other, too, to what is alike again -/
def AlkP (PE : List P2) (al : Nat → Nat) (d e : Nat) : Prop := ∀ i, i < PE.length → ((sBN PE i d = d) ↔ (sBN PE i e = e)) ∧ (¬ sBN PE i e = e → al (sBN PE i d) = al (sBN PE i e))
def GoodU (PE : List P2) (al : Nat → Nat) (n : Nat) : Prop := ∀ d, d < n → al d ≤ d ∧ al (al d) = al d ∧ AlkP PE al (al d) d
theorem GoodU_step {PE : List P2} (ok : okP PE) {al : Nat → Nat} {f r : Nat} (hf : f < 41) (g : GoodU PE al f) (h : r = f ∨ (r < f ∧ al r = r ∧ AlkP PE al r f)) : GoodU PE (fun d => if d = f then r else al d) (f + 1) := by
  obtain ⟨al', hal⟩ : ∃ al' : Nat → Nat, al' = fun d => if d = f then r else al d := ⟨_, rfl⟩
  rw [← hal]
  have e1 : ∀ d, d < f → al' d = al d := fun d hd => by rw [hal]; exact if_neg (by omega)
  have e2 : al' f = r := by rw [hal]; exact if_pos rfl
  intro d hd
  by_cases c : d = f
  · subst c
    rw [e2]
    rcases h with h | ⟨h1, h2, h3⟩
    · subst h
      exact ⟨Nat.le_refl _, e2, fun i hi => ⟨Iff.rfl, fun _ => rfl⟩⟩
    · refine ⟨by omega, by rw [e1 r h1, h2], fun i hi => ⟨(h3 i hi).1, fun hn => ?_⟩⟩
      have s1 := (sB1 ok hi hf).1
      have s2 := (sB1 ok hi (show r < 41 by omega)).1
      rw [e1 _ (by omega), e1 _ (by omega)]
      exact (h3 i hi).2 hn
  · obtain ⟨g1, g2, g3⟩ := g d (by omega)
    rw [e1 d (by omega)]
    refine ⟨g1, by rw [e1 _ (by omega)]; exact g2, fun i hi => ⟨(g3 i hi).1, fun hn => ?_⟩⟩
    have s1 := (sB1 ok hi (show d < 41 by omega)).1
    have s2 := (sB1 ok hi (show al d < 41 by omega)).1
    rw [e1 _ (by omega), e1 _ (by omega)]
    exact (g3 i hi).2 hn
theorem Good_eq {PE : List P2} {al : Nat → Nat} (g : GoodU PE al 41) {d e : Nat} (hd : d < 41) (he : e < 41) (h : al d = al e) : AlkP PE al d e := by
  intro i hi
  have g1 := (g d hd).2.2 i hi
  have g2 := (g e he).2.2 i hi
  rw [h] at g1
  refine ⟨g1.1.symm.trans g2.1, fun hn => ?_⟩
  have hn2 : ¬ sBN PE i d = d := fun z => hn (g2.1.mp (g1.1.mpr z))
  rw [← g1.2 hn2, g2.2 hn]
/-- somebody comes into the frame's room -/
def ent (FR : List F4) (SC : List C3) (k : Nat) : Prop := ∃ c, c ∈ SC ∧ c.2.2 = (FR.getD k f4).1
def RelA (FR : List F4) (SC : List C3) (al : Nat → Nat) (a a' : List Int32) : Prop := ∀ k, k < FR.length → ent FR SC k → al (abN (a.getD k 0)) = al (abN (a'.getD k 0))
theorem find_cg {α : Type} {p q : α → Bool} : ∀ {l : List α}, (∀ x, x ∈ l → p x = q x) → l.find? p = l.find? q
  | [], _ => rfl
  | x :: l, h => by
    rw [List.find?_cons, List.find?_cons, h x (by simp), find_cg (fun y hy => h y (by simp [hy]))]
theorem bis_cm {FR : List F4} {PE : List P2} {SC : List C3} {al : Nat → Nat} (ok : okP PE) (g : GoodU PE al 41) {c : C3} (hc : c ∈ SC) (hp : c.1 < PE.length) {a a' s : List Int32} (hA : allA a) (hA' : allA a') (hl : a.length = FR.length) (hl' : a'.length = FR.length) (r : RelA FR SC al a a') : (cmL FR PE (a, s) c).2 = (cmL FR PE (a', s) c).2 ∧ RelA FR SC al (cmL FR PE (a, s) c).1 (cmL FR PE (a', s) c).1 := by
  have key : ∀ k, k < FR.length → (FR.getD k f4).1 = c.2.2 → ((iabs (a.getD k 0) ≤ limO (PE.getD c.1 p2).1 (PE.getD c.1 p2).2) ↔ (iabs (a'.getD k 0) ≤ limO (PE.getD c.1 p2).1 (PE.getD c.1 p2).2)) ∧ (¬ iabs (a'.getD k 0) ≤ limO (PE.getD c.1 p2).1 (PE.getD c.1 p2).2 → al (abN (made (PE.getD c.1 p2).1 (PE.getD c.1 p2).2 (a.getD k 0))) = al (abN (made (PE.getD c.1 p2).1 (PE.getD c.1 p2).2 (a'.getD k 0)))) := by
    intro k hk hr
    have o1 := hA k (by omega)
    have o2 := hA' k (by omega)
    have e := Good_eq g (show abN (a.getD k 0) < 41 by have := (abA o1).2; omega) (show abN (a'.getD k 0) < 41 by have := (abA o2).2; omega) (r k hk ⟨c, hc, hr.symm⟩) c.1 hp
    have b1 := bis1 ok hp o1
    have b2 := bis1 ok hp o2
    rw [b1.2, b2.2, b1.1, b2.1]
    exact e
  have hf : fTL FR (limO (PE.getD c.1 p2).1 (PE.getD c.1 p2).2) c.2.2 a 0 FR.length = fTL FR (limO (PE.getD c.1 p2).1 (PE.getD c.1 p2).2) c.2.2 a' 0 FR.length := by
    unfold fTL
    apply find_cg
    intro k hk
    rw [List.mem_range'_1] at hk
    by_cases e : (FR.getD k f4).1 = c.2.2
    · have := (key k (by omega) e).1
      simp only [this]
    · simp only [e, decide_false, Bool.false_and]
  unfold cmL
  simp only
  by_cases c4 : s.getD c.1 0 = -4
  · rw [if_pos c4, if_pos c4, ← hf]
    cases hk : fTL FR (limO (PE.getD c.1 p2).1 (PE.getD c.1 p2).2) c.2.2 a 0 FR.length with
    | none => exact ⟨rfl, r⟩
    | some k =>
      refine ⟨rfl, fun j hj he => ?_⟩
      have hkl := fT_lt hk
      show al (abN ((a.set k _).getD j 0)) = al (abN ((a'.set k _).getD j 0))
      rw [gDset (by omega), gDset (by omega)]
      by_cases e : j = k
      · rw [if_pos e, if_pos e]
        rw [hf] at hk
        have h1 := List.find?_some hk
        simp only [Bool.and_eq_true, decide_eq_true_eq] at h1
        exact (key k (by omega) h1.1).2 h1.2
      · rw [if_neg e, if_neg e]
        exact r j hj he
  · rw [if_neg c4, if_neg c4]
    exact ⟨rfl, r⟩
theorem bis_fold {FR : List F4} {PE : List P2} {SC : List C3} {al : Nat → Nat} (ok : okP PE) (g : GoodU PE al 41) (okc : okC PE SC) : ∀ (l : List C3) (a a' s : List Int32), (∀ c, c ∈ l → c ∈ SC) → allA a → allA a' → a.length = FR.length → a'.length = FR.length → RelA FR SC al a a' → (l.foldl (cmL FR PE) (a, s)).2 = (l.foldl (cmL FR PE) (a', s)).2 := by
  intro l
  induction l with
  | nil => intro a a' s _ _ _ _ _ _; rfl
  | cons c l ih =>
    intro a a' s hm hA hA' hl hl' r
    have hc := hm c (by simp)
    have hp : c.1 < PE.length := by
      obtain ⟨i, hi, e⟩ := List.getElem_of_mem hc
      have := okc i hi
      rw [gD hi, e] at this
      exact this
    obtain ⟨b1, b2⟩ := bis_cm (s := s) ok g hc hp hA hA' hl hl' r
    rw [List.foldl_cons, List.foldl_cons]
    have n1 := cm_len (FR := FR) (PE := PE) (a, s) c
    have n2 := cm_len (FR := FR) (PE := PE) (a', s) c
    have e1 : cmL FR PE (a, s) c = ((cmL FR PE (a, s) c).1, (cmL FR PE (a, s) c).2) := rfl
    have e2 : cmL FR PE (a', s) c = ((cmL FR PE (a', s) c).1, (cmL FR PE (a, s) c).2) := by rw [b1]
    rw [e1, e2]
    exact ih _ _ _ (fun x hx => hm x (by simp [hx])) (allA_cm ok hp hA hl) (allA_cm ok hp hA' hl') (n1.1.trans hl) (n2.1.trans hl') b2
theorem bis {FR : List F4} {PE : List P2} {SC : List C3} {al : Nat → Nat} (ok : okP PE) (g : GoodU PE al 41) (okc : okC PE SC) {a a' : List Int32} (hA : allA a) (hA' : allA a') (hl : a.length = FR.length) (hl' : a'.length = FR.length) (r : RelA FR SC al a a') : (mnL FR PE SC a).2 = (mnL FR PE SC a').2 := bis_fold ok g okc SC a a' none5 (fun _ h => h) hA hA' hl hl' r
/-! bits -/
def Bt (x : Int32) (i : Nat) : Prop := x.toBitVec.getLsbD i = true
theorem bt_ext {x y : Int32} (h : ∀ i, i < 32 → (Bt x i ↔ Bt y i)) : x = y := by
  apply Int32.toBitVec_inj.1
  apply BitVec.eq_of_getLsbD_eq
  intro i hi
  have := h i hi
  unfold Bt at this
  exact Bool.eq_iff_iff.mpr this
theorem bt_or (x y : Int32) (i : Nat) : Bt (x ||| y) i ↔ Bt x i ∨ Bt y i := by
  unfold Bt
  rw [Int32.toBitVec_or, BitVec.getLsbD_or, Bool.or_eq_true]
theorem bt_and (x y : Int32) (i : Nat) : Bt (x &&& y) i ↔ Bt x i ∧ Bt y i := by
  unfold Bt
  rw [Int32.toBitVec_and, BitVec.getLsbD_and, Bool.and_eq_true]
theorem bt_m1 : ∀ i, i < 32 → (-1 : Int32).toBitVec.getLsbD i = true := by decide
theorem bt_not (x : Int32) {i : Nat} (hi : i < 32) : Bt (x ^^^ (-1)) i ↔ ¬ Bt x i := by
  unfold Bt
  rw [Int32.toBitVec_xor, BitVec.getLsbD_xor, bt_m1 i hi]
  simp
theorem bt_0 : ∀ i, i < 32 → ¬ Bt 0 i := by
  intro i hi
  unfold Bt
  simp
def Sup (x s : Int32) : Prop := ∀ i, i < 32 → Bt s i → Bt x i
theorem sup1 (x s : Int32) : (x &&& s) = s ↔ Sup x s := by
  constructor
  · intro h i hi hs
    rw [← h, bt_and] at hs
    exact hs.1
  · intro h
    apply bt_ext
    intro i hi
    rw [bt_and]
    exact ⟨fun z => z.2, fun z => ⟨h i hi z, z⟩⟩
theorem sup2 (x s : Int32) : (s &&& (x ^^^ (-1))) = 0 ↔ Sup x s := by
  constructor
  · intro h i hi hs
    by_cases c : Bt x i
    · exact c
    · have : Bt (s &&& (x ^^^ (-1))) i := (bt_and _ _ _).mpr ⟨hs, (bt_not x hi).mpr c⟩
      rw [h] at this
      exact absurd this (bt_0 i hi)
  · intro h
    apply bt_ext
    intro i hi
    rw [bt_and, bt_not x hi]
    exact ⟨fun z => absurd (h i hi z.1) z.2, fun z => absurd z (bt_0 i hi)⟩
/-! turns by places 0 to 80 -/
theorem pl0 : ∀ k, k < 81 → ∀ s, s < 41 → wth (nI k - 40 + nI s) = nI (min 80 (k + s)) - 40 ∧ wth (nI k - 40 + -(nI s)) = nI (k - s) - 40 ∧ wth (nI k - 40 - nI s) = nI (k - s) - 40 := by decide +kernel
def dN (j : Nat) : Nat := abN (nI j - 40)
theorem dN_le {j : Nat} (h : j < 81) : dN j ≤ 40 := (abA0 j h).2
theorem abN_nI : ∀ d, d < 41 → abN (nI d) = d ∧ okA (nI d) := by
  intro d hd
  have h : ∀ d, d < 41 → abN (nI d) = d ∧ nI d = nI (d + 40) - 40 := by decide +kernel
  exact ⟨(h d hd).1, d + 40, by omega, (h d hd).2⟩
/-- a turn that may be told -/
def isD (v : Int32) : Prop := ∃ s, 1 ≤ s ∧ s ≤ 20 ∧ (v = nI s ∨ v = -(nI s))
theorem tt_in {F t : Nat} (h1 : 0 < F) (ht : t < 40 * F) : t / 2 % F < F ∧ isD (byI F t) := by
  refine ⟨Nat.mod_lt _ h1, 1 + t / (2 * F), Nat.le_add_right 1 _, ?_, ?_⟩
  · have : t / (2 * F) < 20 := by rw [Nat.div_lt_iff_lt_mul (by omega)]; omega
    omega
  · unfold byI
    split
    · exact Or.inl rfl
    · exact Or.inr rfl
theorem tt_sur {F k : Nat} {v : Int32} (h1 : 0 < F) (h7 : F ≤ 7) (hk : k < F) (hv : isD v) : ∃ t, t < 40 * F ∧ ∀ a, ttL F t a = tnL k v a := by
  obtain ⟨s, s1, s2, hs⟩ := hv
  obtain ⟨t1, t2, t3, t4, t5, t6⟩ := tt_ar (s := s - 1) h1 h7 hk
  have hb : 2 * F * (s - 1) + 2 * k + 1 < 40 * F := by
    have := Nat.mul_le_mul_left (2 * F) (show s - 1 ≤ 19 by omega)
    omega
  rcases hs with rfl | rfl
  · refine ⟨2 * F * (s - 1) + 2 * k, by omega, fun a => ?_⟩
    unfold ttL byI
    rw [t1, t3, if_pos t5, show 1 + (s - 1) = s by omega]
  · refine ⟨2 * F * (s - 1) + 2 * k + 1, by omega, fun a => ?_⟩
    unfold ttL byI
    rw [t2, t4, if_neg (by omega), show 1 + (s - 1) = s by omega]
/-- one turn from place k leads to the places beside it -/
theorem one_to {k : Nat} (hk : k < 81) {v : Int32} (hv : isD v) : ∃ j, k - 20 ≤ j ∧ j ≤ min 80 (k + 20) ∧ wth (nI k - 40 + v) = nI j - 40 := by
  obtain ⟨s, s1, s2, rfl | rfl⟩ := hv
  · exact ⟨min 80 (k + s), by omega, by omega, (pl0 k hk s (by omega)).1⟩
  · exact ⟨k - s, by omega, by omega, (pl0 k hk s (by omega)).2.1⟩
theorem one_fr {k j : Nat} (hk : k < 81) (h1 : k - 20 ≤ j) (h2 : j ≤ min 80 (k + 20)) (hne : j ≠ k) : ∃ v, isD v ∧ wth (nI k - 40 + v) = nI j - 40 := by
  by_cases c : k < j
  · refine ⟨nI (j - k), ⟨j - k, by omega, by omega, Or.inl rfl⟩, ?_⟩
    rw [(pl0 k hk (j - k) (by omega)).1, show min 80 (k + (j - k)) = j by omega]
  · refine ⟨-(nI (k - j)), ⟨k - j, by omega, by omega, Or.inr rfl⟩, ?_⟩
    rw [(pl0 k hk (k - j) (by omega)).2.1, show k - (k - j) = j by omega]
theorem two_to {k : Nat} (hk : k < 81) {v u : Int32} (hv : isD v) (hu : isD u) : ∃ j, k - 40 ≤ j ∧ j ≤ min 80 (k + 40) ∧ wth (wth (nI k - 40 + v) + u) = nI j - 40 := by
  obtain ⟨j1, a1, a2, e1⟩ := one_to hk hv
  obtain ⟨j2, b1, b2, e2⟩ := one_to (show j1 < 81 by omega) hu
  exact ⟨j2, by omega, by omega, by rw [e1, e2]⟩
theorem two_fr {k j : Nat} (hk : k < 81) (h1 : k - 40 ≤ j) (h2 : j ≤ min 80 (k + 40)) : ∃ v u, isD v ∧ isD u ∧ wth (wth (nI k - 40 + v) + u) = nI j - 40 := by
  have mid : ∃ m, m < 81 ∧ m ≠ k ∧ m ≠ j ∧ k - 20 ≤ m ∧ m ≤ min 80 (k + 20) ∧ m - 20 ≤ j ∧ j ≤ min 80 (m + 20) := by
    by_cases c1 : k + 2 ≤ j
    · exact ⟨(k + j) / 2, by omega, by omega, by omega, by omega, by omega, by omega, by omega⟩
    · by_cases c2 : j + 2 ≤ k
      · exact ⟨(k + j) / 2, by omega, by omega, by omega, by omega, by omega, by omega, by omega⟩
      · by_cases c3 : k + 2 ≤ 80
        · by_cases c4 : j = k + 1
          · exact ⟨k + 2, by omega, by omega, by omega, by omega, by omega, by omega, by omega⟩
          · exact ⟨k + 1, by omega, by omega, by omega, by omega, by omega, by omega, by omega⟩
        · by_cases c4 : j + 1 = k
          · exact ⟨k - 2, by omega, by omega, by omega, by omega, by omega, by omega, by omega⟩
          · exact ⟨k - 1, by omega, by omega, by omega, by omega, by omega, by omega, by omega⟩
  obtain ⟨m, m0, m1, m2, m3, m4, m5, m6⟩ := mid
  obtain ⟨v, hv, ev⟩ := one_fr hk m3 m4 m1
  obtain ⟨u, hu, eu⟩ := one_fr m0 m5 m6 (fun e => m2 e.symm)
  exact ⟨v, u, hv, hu, by rw [ev, eu]⟩
