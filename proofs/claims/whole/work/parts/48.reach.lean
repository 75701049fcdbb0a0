theorem nod_le : ∀ (n : Nat) (l : List Nat), l.Nodup → (∀ x, x ∈ l → x < n) → l.length ≤ n := by
  intro n
  induction n with
  | zero =>
    intro l _ h
    cases l with
    | nil => exact Nat.le_refl _
    | cons x l => exact absurd (h x (by simp)) (by omega)
  | succ n ih =>
    intro l hn h
    have h1 := ih (l.erase n) (hn.erase n) (fun x hx => by
      have := (hn.mem_erase_iff).mp hx
      have h2 := h x this.2
      omega)
    have h2 := List.length_erase (a := n) (l := l)
    split at h2 <;> omega
/-- the distances that a frame reaches, as the class holds them -/
def RcAt (J : Nat → Nat → Int32) (L k : Nat) (Q : List Nat) : Prop := J (L + 12) k = nI Q.length ∧ (∀ n, n < Q.length → J (L + 5 + k) n = nI (Q.getD n 0)) ∧ Q.Nodup ∧ ∀ v, v ∈ Q → v < 41
theorem RcAt.le {J : Nat → Nat → Int32} {L k : Nat} {Q : List Nat} (h : RcAt J L k Q) : Q.length ≤ 41 := nod_le 41 Q h.2.2.1 h.2.2.2
theorem RcAt.of {J J' : Nat → Nat → Int32} {L k : Nat} {Q : List Nat} (h : RcAt J L k Q) (e1 : J' (L + 12) k = J (L + 12) k) (e2 : J' (L + 5 + k) = J (L + 5 + k)) : RcAt J' L k Q := by
  unfold RcAt
  rw [e1, e2]
  exact h
section REACH
variable {R : Nat → Nat → Option Nat} {S : Nat → Nat × Nat} {N T G U V Kp Y L X W C h h2 q row : Nat} {I : Nat → Nat → Int32} {tx : List Int32} {FR : List F4} {PE : List P2} {CO SC : List C3} {TL TT : List T3} {UL KL : List (List T3)} {SN : List P2} {a : List Int32} {al : Nat → Nat}
theorem C_aaL (hL : isLu R S N L) (hH : isHo R S N h) (dH : HAt I h FR PE SC TT) (ok : okP PE) {near far : Nat} (hnf : near < far) (hf : far < 41) (hal : ∀ d, d < far → I (L + 3) d = nI (al d)) (hb : ∀ d, d < far → al d ≤ d) (K0 K1 : Wd → Option (Int32 × Wd)) : ∀ (m i n : Nat), i + m = PE.length → m < n → ∃ b : Bool, fX5_areAlike_3 L h (nI near) (nI far) K0 K1 n (nI i) (I, R, S, N) = (if b = true then K1 (I, R, S, N) else K0 (I, R, S, N)) ∧ (b = true → ∀ j, i ≤ j → j < PE.length → ((sBN PE j near = near) ↔ (sBN PE j far = far)) ∧ (¬ sBN PE j far = far → al (sBN PE j near) = al (sBN PE j far))) := by
  have d1 := dH.1
  intro m
  induction m with
  | zero =>
    intro i n hi hn
    obtain ⟨n, rfl⟩ : ∃ n', n = n' + 1 := ⟨n - 1, by omega⟩
    refine ⟨true, ?_, fun _ j h1 h2 => by omega⟩
    rw [fX5_areAlike_3, Ho_g hH, bS, dH.2.1.2.1, if_pos (nI_le (by omega) (by omega)), if_pos rfl]
  | succ m ih =>
    intro i n hi hn
    obtain ⟨n, rfl⟩ : ∃ n', n = n' + 1 := ⟨n - 1, by omega⟩
    obtain ⟨b, e1, e2⟩ := ih (i + 1) n (by omega) (by omega)
    have hip : i < PE.length := by omega
    obtain ⟨s1, s2⟩ := sB1 ok hip (show near < 41 by omega)
    obtain ⟨s3, s4⟩ := sB1 ok hip hf
    rw [fX5_areAlike_3, Ho_g hH, bS, dH.2.1.2.1, if_neg (nI_ge (by omega) (by omega)), Ho_o hH, bS, S_setBy hH dH ok hip, bS, Ho_o hH, bS, S_setBy hH dH ok hip, bS, s2, s4, nI_i1]
    by_cases c1 : sBN PE i near = near
    · rw [if_pos (by rw [c1])]
      by_cases c2 : sBN PE i far = far
      · rw [if_pos (by rw [c2]), if_pos rfl, if_neg i10]
        refine ⟨b, e1, fun hb j h1 h2 => ?_⟩
        by_cases e : j = i
        · subst e
          exact ⟨⟨fun _ => c2, fun _ => c1⟩, fun z => absurd c2 z⟩
        · exact e2 hb j (by omega) h2
      · rw [if_neg (fun z => c2 ((nI_eq (by omega) (by omega)).mp z)), if_neg i10]
        exact ⟨false, (if_neg (by decide)).symm, fun z => absurd z (by decide)⟩
    · rw [if_neg (fun z => c1 ((nI_eq (by omega) (by omega)).mp z))]
      by_cases c2 : sBN PE i far = far
      · rw [if_pos (by rw [c2]), if_neg (by decide)]
        exact ⟨false, (if_neg (by decide)).symm, fun z => absurd z (by decide)⟩
      · rw [if_neg (fun z => c2 ((nI_eq (by omega) (by omega)).mp z)), if_pos rfl, if_pos rfl, Lu_2 hL, bS, Lu_r2 hL I (show sBN PE i near < 41 by omega), bS, bS, Lu_r2 hL I (show sBN PE i far < 41 by omega), bS, hal _ (by omega), hal _ (by omega)]
        have q1 := hb (sBN PE i near) (by omega)
        have q2 := hb (sBN PE i far) (by omega)
        by_cases c3 : al (sBN PE i near) = al (sBN PE i far)
        · rw [if_pos (by rw [c3])]
          refine ⟨b, e1, fun hb j h1 h2 => ?_⟩
          by_cases e : j = i
          · subst e
            exact ⟨⟨fun z => absurd z c1, fun z => absurd z c2⟩, fun _ => c3⟩
          · exact e2 hb j (by omega) h2
        · rw [if_neg (fun z => c3 ((nI_eq (by omega) (by omega)).mp z))]
          exact ⟨false, (if_neg (by decide)).symm, fun z => absurd z (by decide)⟩
theorem C_areAlike (hL : isLu R S N L) (hH : isHo R S N h) (dH : HAt I h FR PE SC TT) (ok : okP PE) {near far : Nat} (hnf : near < far) (hf : far < 41) (hal : ∀ d, d < far → I (L + 3) d = nI (al d)) (hb : ∀ d, d < far → al d ≤ d) : ∃ b : Bool, fX5_areAlike L h (nI near) (nI far) (I, R, S, N) = some (if b = true then 1 else 0, (I, R, S, N)) ∧ (b = true → AlkP PE al near far) := by
  have d1 := dH.1
  obtain ⟨b, e1, e2⟩ := C_aaL hL hH dH ok hnf hf hal hb (fun w => some ((0 : Int32), w)) (fun w => some ((1 : Int32), w)) PE.length 0 FV (by omega) (FV_lt (by omega))
  refine ⟨b, ?_, fun z j hj => e2 z j (by omega) hj⟩
  rw [← z0] at e1
  refine (show fX5_areAlike L h (nI near) (nI far) (I, R, S, N) = _ from rfl).trans (e1.trans ?_)
  split <;> rfl
theorem C_faI (hL : isLu R S N L) (hH : isHo R S N h) (dH : HAt I h FR PE SC TT) (ok : okP PE) {far : Nat} (hf : far < 41) (hal : ∀ d, d < far → I (L + 3) d = nI (al d)) (hb : ∀ d, d < far → al d ≤ d) (K : Int32 → Wd → Option (Unit × Wd)) : ∀ (m r n : Nat), r + m = far → m < n → ∃ r', fX5_findAlike_10 L h (nI far) K n (nI r) (I, R, S, N) = K (nI r') (I, R, S, N) ∧ (r' = far ∨ (r' < far ∧ al r' = r' ∧ AlkP PE al r' far)) := by
  intro m
  induction m with
  | zero =>
    intro r n hi hn
    obtain ⟨n, rfl⟩ : ∃ n', n = n' + 1 := ⟨n - 1, by omega⟩
    refine ⟨r, ?_, Or.inl (by omega)⟩
    rw [fX5_findAlike_10, if_pos (nI_le (by omega) (by omega))]
  | succ m ih =>
    intro r n hi hn
    obtain ⟨n, rfl⟩ : ∃ n', n = n' + 1 := ⟨n - 1, by omega⟩
    obtain ⟨r', e1, e2⟩ := ih (r + 1) n (by omega) (by omega)
    have q1 := hb r (by omega)
    rw [fX5_findAlike_10, if_neg (nI_ge (by omega) (by omega)), Lu_2 hL, bS, Lu_r2 hL I (show r < 41 by omega), bS, hal r (by omega), nI_i1]
    by_cases c : al r = r
    · obtain ⟨b, g1, g2⟩ := C_areAlike hL hH dH ok (show r < far by omega) hf hal hb
      rw [if_pos (by rw [c]), Lu_o hL, bS, g1, bS]
      cases b with
      | false =>
        refine ⟨r', ?_, e2⟩
        rw [if_pos (show (if false = true then (1 : Int32) else 0) = 0 from rfl)]
        exact e1
      | true =>
        refine ⟨r, ?_, Or.inr ⟨by omega, c, g2 rfl⟩⟩
        rw [if_neg (show ¬ (if true = true then (1 : Int32) else 0) = 0 from i10)]
    · refine ⟨r', ?_, e2⟩
      rw [if_neg (fun z => c ((nI_eq (by omega) (by omega)).mp z))]
      exact e1
theorem C_faL (hL : isLu R S N L) (hH : isHo R S N h) (o1 : L + 12 < h) (ok : okP PE) (K : Wd → Option (Unit × Wd)) : ∀ (m f n : Nat) (J : Nat → Nat → Int32) (al : Nat → Nat), f + m = 41 → m < n → HAt J h FR PE SC TT → GoodU PE al f → (∀ d, d < f → J (L + 3) d = nI (al d)) →
    ∃ J' al', fX5_findAlike_2 L h K n (nI f) (J, R, S, N) = K (J', R, S, N) ∧ GoodU PE al' 41 ∧ (∀ d, d < 41 → J' (L + 3) d = nI (al' d)) ∧ ∀ p, p ≠ L + 3 → J' p = J p := by
  intro m
  induction m with
  | zero =>
    intro f n J al hi hn dH g hal
    obtain ⟨n, rfl⟩ : ∃ n', n = n' + 1 := ⟨n - 1, by omega⟩
    have hf : f = 41 := by omega
    subst hf
    refine ⟨J, al, ?_, g, hal, fun _ _ => rfl⟩
    rw [fX5_findAlike_2, if_pos (by decide)]
  | succ m ih =>
    intro f n J al hi hn dH g hal
    obtain ⟨n, rfl⟩ : ∃ n', n = n' + 1 := ⟨n - 1, by omega⟩
    obtain ⟨r, g1, g2⟩ := C_faI hL hH dH ok (show f < 41 by omega) hal (fun d hd => (g d hd).1) (fun (v3_10 : Int32) (w_9 : Wd) => (gfR 4 2 L w_9).bind fun r_11 => (wrI r_11 (nI f) v3_10 w_9).bind fun w_12 => fX5_findAlike_2 L h K n (nI f + (1 : Int32)) w_12) f 0 FV (by omega) (FV_lt (by omega))
    obtain ⟨J1, hJ1⟩ : ∃ J1, J1 = up1 J (L + 3) (upd (J (L + 3)) f (nI r)) := ⟨_, rfl⟩
    have f1 : ∀ p, p ≠ L + 3 → J1 p = J p := fun p hp => by rw [hJ1, up1_n _ _ hp]
    have w1 : wrI (L + 3) (nI f) (nI r) (J, R, S, N) = some (J1, R, S, N) := by rw [hJ1]; exact Lu_w2 hL J _ (by omega)
    obtain ⟨J', al', e1, e2, e3, e4⟩ := ih (f + 1) n J1 (fun d => if d = f then r else al d) (by omega) (by omega) (dH.of (fun p h1 h2 => f1 p (by omega))) (GoodU_step ok (by omega) g g2) (fun d hd => by
      rw [hJ1, up1_s]
      by_cases c : d = f
      · simp only [upd, c, if_true]
      · simp only [upd, c, if_false]
        exact hal d (by omega))
    refine ⟨J', al', ?_, e2, e3, fun p hp => by rw [e4 p hp, f1 p hp]⟩
    rw [fX5_findAlike_2, if_neg (show ¬ (40 : Int32) < nI f by rw [z40]; exact nI_nlt (by omega) (by omega))]
    rw [← z0] at g1
    refine g1.trans ?_
    show ((gfR 4 2 L (J, R, S, N)).bind fun r_11 => (wrI r_11 (nI f) (nI r) (J, R, S, N)).bind fun w_12 => fX5_findAlike_2 L h K n (nI f + (1 : Int32)) w_12) = _
    rw [Lu_2 hL, bS, w1, bS, nI_i1]
    exact e1
theorem C_findAlike (hL : isLu R S N L) (hH : isHo R S N h) (o1 : L + 12 < h) (ok : okP PE) {J : Nat → Nat → Int32} (dH : HAt J h FR PE SC TT) : ∃ J' al, fX5_findAlike L h (J, R, S, N) = some ((), (J', R, S, N)) ∧ GoodU PE al 41 ∧ (∀ d, d < 41 → J' (L + 3) d = nI (al d)) ∧ ∀ p, p ≠ L + 3 → J' p = J p := by
  obtain ⟨J', al', e1, e2, e3, e4⟩ := C_faL hL hH o1 ok (fun w => some ((), w)) 41 0 FV J (fun _ => 0) (by omega) (FV_lt (by omega)) dH (fun d hd => by omega) (fun d hd => by omega)
  rw [← z0] at e1
  exact ⟨J', al', (show fX5_findAlike L h (J, R, S, N) = _ from rfl).trans e1, e2, e3, e4⟩
theorem C_ieL (hH : isHo R S N h) (dH : HAt I h FR PE SC TT) (room : Int32) (K1 K0 : Wd → Option (Int32 × Wd)) : ∀ (m i n : Nat), i + m = SC.length → m < n → fX5_isEntered_2 h room K1 K0 n (nI i) (I, R, S, N) = if (SC.drop i).any (fun c => decide (c.2.2 = room)) = true then K1 (I, R, S, N) else K0 (I, R, S, N) := by
  have d1 := dH.1
  intro m
  induction m with
  | zero =>
    intro i n hi hn
    obtain ⟨n, rfl⟩ : ∃ n', n = n' + 1 := ⟨n - 1, by omega⟩
    rw [fX5_isEntered_2, Ho_g hH, bS, dH.2.1.2.2, if_pos (nI_le (by omega) (by omega)), List.drop_eq_nil_of_le (by omega)]
    rfl
  | succ m ih =>
    intro i n hi hn
    obtain ⟨n, rfl⟩ : ∃ n', n = n' + 1 := ⟨n - 1, by omega⟩
    have hc := dH.2.2.2.2.1 i (by omega)
    rw [fX5_isEntered_2, Ho_g hH, bS, dH.2.1.2.2, if_neg (nI_ge (by omega) (by omega)), Ho_10 hH, bS, Ho_r10 hH I (show i < 10 by omega), bS, hc.2.2, nI_i1, ih (i + 1) n (by omega) (by omega), dropc c3 (show i < SC.length by omega), List.any_cons]
    by_cases c : (SC.getD i c3).2.2 = room
    · simp only [c, if_true, decide_true, Bool.true_or]
    · simp only [c, if_false, decide_false, Bool.false_or]
theorem ent_any (k : Nat) : SC.any (fun c => decide (c.2.2 = (FR.getD k f4).1)) = true ↔ ent FR SC k := by
  rw [List.any_eq_true]
  unfold ent
  constructor
  · rintro ⟨c, h1, h2⟩
    exact ⟨c, h1, of_decide_eq_true h2⟩
  · rintro ⟨c, h1, h2⟩
    exact ⟨c, h1, decide_eq_true h2⟩
theorem C_isEntered (hH : isHo R S N h) (dH : HAt I h FR PE SC TT) (room : Int32) : fX5_isEntered h room (I, R, S, N) = some (if SC.any (fun c => decide (c.2.2 = room)) = true then 1 else 0, (I, R, S, N)) := by
  have d1 := dH.1
  have e1 := C_ieL hH dH room (fun w => some ((1 : Int32), w)) (fun w => some ((0 : Int32), w)) SC.length 0 FV (by omega) (FV_lt (by omega))
  rw [← z0, List.drop_zero] at e1
  refine (show fX5_isEntered h room (I, R, S, N) = _ from rfl).trans (e1.trans ?_)
  split <;> rfl
/-- a distance more, if it isn't there -/
theorem C_arL (hL : isLu R S N L) {k v : Nat} (hk : k < 7) (hv : v < 41) {Q : List Nat} (d : RcAt I L k Q) (K1 K0 : Wd → Option (Unit × Wd)) : ∀ (m i n : Nat), i + m = Q.length → m < n → fX5_addReached_2 L (nI k) (nI v) K1 K0 n (nI i) (I, R, S, N) = if v ∈ Q.drop i then K1 (I, R, S, N) else K0 (I, R, S, N) := by
  have dl := d.le
  intro m
  induction m with
  | zero =>
    intro i n hi hn
    obtain ⟨n, rfl⟩ : ∃ n', n = n' + 1 := ⟨n - 1, by omega⟩
    rw [fX5_addReached_2, Lu_4 hL, bS, Lu_r4 hL I hk, bS, d.1, if_pos (nI_le (by omega) (by omega)), List.drop_eq_nil_of_le (by omega), if_neg (by simp)]
  | succ m ih =>
    intro i n hi hn
    obtain ⟨n, rfl⟩ : ∃ n', n = n' + 1 := ⟨n - 1, by omega⟩
    have hq : Q.getD i 0 < 41 := d.2.2.2 _ (by rw [gD (show i < Q.length by omega)]; exact List.getElem_mem _)
    rw [fX5_addReached_2, Lu_4 hL, bS, Lu_r4 hL I hk, bS, d.1, if_neg (nI_ge (by omega) (by omega)), Lu_3 hL, bS, Lu_t3 hL I hk, bS, Lu_r3 hL I hk (show i < 41 by omega), bS, d.2.1 i (by omega), nI_i1, ih (i + 1) n (by omega) (by omega), dropc 0 (show i < Q.length by omega)]
    by_cases c : Q.getD i 0 = v
    · rw [if_pos (by rw [c]), if_pos (by rw [c]; simp)]
    · rw [if_neg (fun z => c ((nI_eq (by omega) (by omega)).mp z))]
      have : (v ∈ Q.getD i 0 :: Q.drop (i + 1)) ↔ v ∈ Q.drop (i + 1) := by
        rw [List.mem_cons]
        exact ⟨fun z => z.elim (fun e => absurd e.symm c) id, Or.inr⟩
      by_cases c2 : v ∈ Q.drop (i + 1)
      · rw [if_pos c2, if_pos (this.mpr c2)]
      · rw [if_neg c2, if_neg (fun z => c2 (this.mp z))]
theorem C_addReached (hL : isLu R S N L) {k v : Nat} (hk : k < 7) (hv : v < 41) {Q : List Nat} (d : RcAt I L k Q) : ∃ J' Q', fX5_addReached L (nI k) (nI v) (I, R, S, N) = some ((), (J', R, S, N)) ∧ RcAt J' L k Q' ∧ (∀ x, x ∈ Q' ↔ x ∈ Q ∨ x = v) ∧ (∀ p, p ≠ L + 12 → p ≠ L + 5 + k → J' p = I p) ∧ ∀ j, j ≠ k → J' (L + 12) j = I (L + 12) j := by
  have dl := d.le
  have e1 := C_arL hL hk hv d (fun w => some ((), w)) (fun (w_9 : Wd) => (gfR 4 4 L w_9).bind fun r_10 => (rdI r_10 (nI k) w_9).bind fun x_11 => if (40 : Int32) < x_11 then some ((), w_9) else (gfR 4 3 L w_9).bind fun r_13 => (rdR 14 r_13 (nI k) w_9).bind fun r_14 => (gfR 4 4 L w_9).bind fun r_15 => (rdI r_15 (nI k) w_9).bind fun x_16 => (wrI r_14 x_16 (nI v) w_9).bind fun w_17 => (gfR 4 4 L w_17).bind fun r_18 => (rdI r_18 (nI k) w_17).bind fun x_19 => (wrI r_18 (nI k) (x_19 + (1 : Int32)) w_17).bind fun w_20 => some ((), w_20)) Q.length 0 FV (by omega) (FV_lt (by omega))
  rw [← z0, List.drop_zero] at e1
  have e2 := (show fX5_addReached L (nI k) (nI v) (I, R, S, N) = _ from rfl).trans e1
  by_cases c : v ∈ Q
  · refine ⟨I, Q, by rw [e2, if_pos c], d, fun x => ⟨Or.inl, fun z => z.elim id (fun e => e ▸ c)⟩, fun _ _ _ => rfl, fun _ _ => rfl⟩
  · have hnd : (Q ++ [v]).Nodup := by
      rw [List.nodup_append]
      exact ⟨d.2.2.1, by simp, fun a ha b hb => by simp at hb; subst hb; exact fun e => c (e ▸ ha)⟩
    have hlt : ∀ x, x ∈ Q ++ [v] → x < 41 := fun x hx => by
      rw [List.mem_append] at hx
      rcases hx with hx | hx
      · exact d.2.2.2 x hx
      · simp at hx; omega
    have hle := nod_le 41 _ hnd hlt
    rw [List.length_append, List.length_singleton] at hle
    obtain ⟨J1, hJ1⟩ : ∃ J1, J1 = up1 I (L + 5 + k) (upd (I (L + 5 + k)) Q.length (nI v)) := ⟨_, rfl⟩
    obtain ⟨J2, hJ2⟩ : ∃ J2, J2 = up1 J1 (L + 12) (upd (J1 (L + 12)) k (nI (Q.length + 1))) := ⟨_, rfl⟩
    have w1 : wrI (L + 5 + k) (nI Q.length) (nI v) (I, R, S, N) = some (J1, R, S, N) := by rw [hJ1]; exact Lu_w3 hL I _ hk (by omega)
    have w2 : wrI (L + 12) (nI k) (nI (Q.length + 1)) (J1, R, S, N) = some (J2, R, S, N) := by rw [hJ2]; exact Lu_w4 hL J1 _ hk
    have x1 : J1 (L + 12) k = nI Q.length := by rw [hJ1, up1_n _ _ (by omega)]; exact d.1
    refine ⟨J2, Q ++ [v], ?_, ⟨?_, ?_, hnd, hlt⟩, fun x => by simp, fun p h1 h2 => by rw [hJ2, up1_n _ _ h1, hJ1, up1_n _ _ h2], fun j hj => ?_⟩
    · rw [e2, if_neg c]
      show ((gfR 4 4 L (I, R, S, N)).bind fun r_10 => (rdI r_10 (nI k) (I, R, S, N)).bind fun x_11 => if (40 : Int32) < x_11 then some ((), (I, R, S, N)) else (gfR 4 3 L (I, R, S, N)).bind fun r_13 => (rdR 14 r_13 (nI k) (I, R, S, N)).bind fun r_14 => (gfR 4 4 L (I, R, S, N)).bind fun r_15 => (rdI r_15 (nI k) (I, R, S, N)).bind fun x_16 => (wrI r_14 x_16 (nI v) (I, R, S, N)).bind fun w_17 => (gfR 4 4 L w_17).bind fun r_18 => (rdI r_18 (nI k) w_17).bind fun x_19 => (wrI r_18 (nI k) (x_19 + (1 : Int32)) w_17).bind fun w_20 => some ((), w_20)) = _
      simp only [Lu_4 hL, bS, Lu_r4 hL I hk, d.1]
      rw [if_neg (show ¬ (40 : Int32) < nI Q.length by rw [z40]; exact nI_nlt (by omega) (by omega))]
      simp only [Lu_3 hL, bS, Lu_t3 hL I hk, w1, Lu_4 hL, Lu_r4 hL J1 hk, x1, nI_i1, w2]
    · rw [hJ2, up1_s]
      simp [upd]
    · intro n hn
      rw [List.length_append, List.length_singleton] at hn
      rw [hJ2, up1_n _ _ (by omega), hJ1, up1_s]
      by_cases e : n = Q.length
      · subst e
        simp only [upd, if_true]
        rw [gDlast]
      · simp only [upd, if_neg e]
        rw [gDapp (by omega)]
        exact d.2.1 n (by omega)
    · rw [hJ2, up1_s]
      simp only [upd, if_neg hj]
      rw [hJ1, up1_n _ _ (by omega)]
theorem jt {i j : Nat} (hi : i < 2 ^ 20) (hj : j < 2 ^ 20) : ((nI i - 40 : Int32) < nI j - 40) ↔ i < j := by
  rw [ltT, z40, pk_sub_toInt (by omega) (by omega), pk_sub_toInt (by omega) (by omega)]
  omega
theorem j1 : ∀ j, j < 81 → nI j - 40 + 1 = nI (j + 1) - 40 := by decide +kernel
def kvO (v : Int32) : Nat := (v + 40).toNatClampNeg
theorem kvO0 : ∀ k, k < 81 → kvO (nI k - 40) = k := by decide +kernel
theorem kvO_e {v : Int32} (h : okA v) : v = nI (kvO v) - 40 ∧ kvO v < 81 := by
  obtain ⟨k, hk, rfl⟩ := h
  rw [kvO0 k hk]
  exact ⟨rfl, hk⟩
theorem C_rcL (hL : isLu R S N L) {k : Nat} (hk : k < 7) {kv m hi : Nat} (hkv : kv < 81) (hm : m < 41) (hhi : hi = min 80 (kv + m)) (gd : ∀ d, d < 41 → al d ≤ d) (K : Wd → Option (Unit × Wd)) : ∀ (u j n : Nat) (J : Nat → Nat → Int32) (Q : List Nat), j + u = hi + 1 → u < n → (∀ d, d < 41 → J (L + 3) d = nI (al d)) → RcAt J L k Q →
    ∃ J' Q', fX5_reach_30 L (nI kv - 40) (nI k) (nI m) K n (nI j - 40) (J, R, S, N) = K (J', R, S, N) ∧ RcAt J' L k Q' ∧ (∀ x, x ∈ Q' ↔ x ∈ Q ∨ ∃ i, j ≤ i ∧ i ≤ hi ∧ x = al (dN i)) ∧ (∀ p, p ≠ L + 12 → p ≠ L + 5 + k → J' p = J p) ∧ ∀ j, j ≠ k → J' (L + 12) j = J (L + 12) j := by
  intro u
  induction u with
  | zero =>
    intro j n J Q hj hn hal hQ
    obtain ⟨n, rfl⟩ : ∃ n', n = n' + 1 := ⟨n - 1, by omega⟩
    refine ⟨J, Q, ?_, hQ, fun x => ⟨Or.inl, fun z => z.elim id (fun ⟨i, h1, h2, _⟩ => by omega)⟩, fun _ _ _ => rfl, fun _ _ => rfl⟩
    rw [fX5_reach_30, S_kept, bS, (pl0 kv hkv m hm).1, if_pos ((jt (by omega) (by omega)).mpr (by omega))]
  | succ u ih =>
    intro j n J Q hj hn hal hQ
    obtain ⟨n, rfl⟩ : ∃ n', n = n' + 1 := ⟨n - 1, by omega⟩
    have hj81 : j < 81 := by omega
    have hd := dN_le hj81
    have hg := gd (dN j) (by omega)
    obtain ⟨J1, Q1, g1, g2, g3, g4, g5⟩ := C_addReached (R := R) (S := S) hL hk (show al (dN j) < 41 by omega) hQ
    obtain ⟨J', Q', e1, e2, e3, e4, e5⟩ := ih (j + 1) n J1 Q1 (by omega) (by omega) (fun d hd => by rw [g4 (L + 3) (by omega) (by omega)]; exact hal d hd) g2
    refine ⟨J', Q', ?_, e2, fun x => ?_, fun p h1 h2 => by rw [e4 p h1 h2, g4 p h1 h2], fun i hi => by rw [e5 i hi, g5 i hi]⟩
    · rw [fX5_reach_30, S_kept, bS, (pl0 kv hkv m hm).1, if_neg (fun z => by have := (jt (by omega) (by omega)).mp z; omega), Lu_2 hL, bS, (abA0 j hj81).1]
      have r1 : rdI (L + 3) (nI (abN (nI j - 40))) (J, R, S, N) = some (J (L + 3) (dN j)) := Lu_r2 hL J (show dN j < 41 by omega)
      rw [r1, bS, hal _ (by omega), Lu_o hL, bS, g1, bS, j1 j hj81]
      exact e1
    · rw [e3, g3]
      constructor
      · rintro ((z | z) | ⟨i, h1, h2, h3⟩)
        · exact Or.inl z
        · exact Or.inr ⟨j, by omega, by omega, z⟩
        · exact Or.inr ⟨i, by omega, h2, h3⟩
      · rintro (z | ⟨i, h1, h2, h3⟩)
        · exact Or.inl (Or.inl z)
        · by_cases e : i = j
          · subst e; exact Or.inl (Or.inr h3)
          · exact Or.inr ⟨i, by omega, h2, h3⟩
/-- the distances of what a frame reaches by so much -/
def RQ (FR : List F4) (SC : List C3) (al : Nat → Nat) (a : List Int32) (m k : Nat) (Q : List Nat) : Prop := ∀ x, x ∈ Q ↔ ent FR SC k ∧ ∃ i, kvO (a.getD k 0) - m ≤ i ∧ i ≤ min 80 (kvO (a.getD k 0) + m) ∧ x = al (dN i)
theorem C_reach (hL : isLu R S N L) (hH : isHo R S N h) (o1 : L + 12 < h) (hA : allA a) (hl : a.length = FR.length) {k m : Nat} (hk : k < FR.length) (hm : m < 41) (gd : ∀ d, d < 41 → al d ≤ d) {J : Nat → Nat → Int32} (dH : HAt J h FR PE SC TT) (hal : ∀ d, d < 41 → J (L + 3) d = nI (al d)) : ∃ J' Q, fX5_reach L h (a.getD k 0) (nI k) (nI m) (J, R, S, N) = some ((), (J', R, S, N)) ∧ RcAt J' L k Q ∧ RQ FR SC al a m k Q ∧ (∀ p, p ≠ L + 12 → p ≠ L + 5 + k → J' p = J p) ∧ ∀ j, j ≠ k → J' (L + 12) j = J (L + 12) j := by
  have d1 := dH.1
  obtain ⟨ev, hv⟩ := kvO_e (hA k (by omega))
  obtain ⟨J1, hJ1⟩ : ∃ J1, J1 = up1 J (L + 12) (upd (J (L + 12)) k 0) := ⟨_, rfl⟩
  have f1 : ∀ p, p ≠ L + 12 → J1 p = J p := fun p hp => by rw [hJ1, up1_n _ _ hp]
  have f2 : ∀ j, j ≠ k → J1 (L + 12) j = J (L + 12) j := fun j hj => by rw [hJ1, up1_s]; simp only [upd, if_neg hj]
  have w1 : wrI (L + 12) (nI k) 0 (J, R, S, N) = some (J1, R, S, N) := by rw [hJ1]; exact Lu_w4 hL J _ (by omega)
  have dH1 : HAt J1 h FR PE SC TT := dH.of (fun p h1 h2 => f1 p (by omega))
  have q0 : RcAt J1 L k [] := ⟨by rw [hJ1, up1_s]; simp only [upd, if_true]; exact z0, fun n hn => by simp at hn, by simp, fun v hv => by simp at hv⟩
  have hro := (dH1.2.2.1 k hk).1
  by_cases c : ent FR SC k
  · obtain ⟨J', Q', e1, e2, e3, e4, e5⟩ := C_rcL hL (show k < 7 by omega) hv hm rfl gd (fun w => some ((), w)) (min 80 (kvO (a.getD k 0) + m) + 1 - (kvO (a.getD k 0) - m)) (kvO (a.getD k 0) - m) FV J1 [] (by omega) (FV_lt (by omega)) (fun d hd => by rw [f1 _ (by omega)]; exact hal d hd) q0
    refine ⟨J', Q', ?_, e2, fun x => ?_, fun p h1 h2 => by rw [e4 p h1 h2, f1 p h1], fun j hj => by rw [e5 j hj, f2 j hj]⟩
    · rw [fX5_reach, Lu_4 hL, bS, w1, bS, Ho_0 hH, bS, Ho_r0 hH J1 (show k < 7 by omega), bS, hro, C_isEntered hH dH1, bS, if_pos ((ent_any k).mpr c), if_neg i10, S_kept, bS]
      rw [← (pl0 _ hv m hm).2.2, ← ev] at e1
      exact e1
    · rw [e3]
      constructor
      · rintro (z | z)
        · simp at z
        · exact ⟨c, z⟩
      · exact fun z => Or.inr z.2
  · refine ⟨J1, [], ?_, q0, fun x => ⟨fun z => by simp at z, fun z => absurd z.1 c⟩, fun p h1 _ => f1 p h1, f2⟩
    rw [fX5_reach, Lu_4 hL, bS, w1, bS, Ho_0 hH, bS, Ho_r0 hH J1 (show k < 7 by omega), bS, hro, C_isEntered hH dH1, bS, if_neg (fun z => c ((ent_any k).mp z)), if_pos rfl]
theorem C_raL (hL : isLu R S N L) (hH : isHo R S N h) (o1 : L + 12 < h) (o2 : row < L) (hr : isA S N row 7) (hA : allA a) (hl : a.length = FR.length) (gd : ∀ d, d < 41 → al d ≤ d) (K : Wd → Option (Unit × Wd)) : ∀ (u k n : Nat) (J : Nat → Nat → Int32) (Qs : Nat → List Nat), k + u = FR.length → u < n → HAt J h FR PE SC TT → (∀ d, d < 41 → J (L + 3) d = nI (al d)) → arr (J row) a → (∀ j, j < k → RcAt J L j (Qs j) ∧ RQ FR SC al a 20 j (Qs j)) →
    ∃ (J' : Nat → Nat → Int32) (Qs' : Nat → List Nat), fX5_reachAll_2 L h row K n (nI k) (J, R, S, N) = K (J', R, S, N) ∧ (∀ j, j < FR.length → RcAt J' L j (Qs' j) ∧ RQ FR SC al a 20 j (Qs' j)) ∧ ∀ p, (p < L + 5 ∨ L + 12 < p) → J' p = J p := by
  intro u
  induction u with
  | zero =>
    intro k n J Qs hk hn dH hal ha hQ
    obtain ⟨n, rfl⟩ : ∃ n', n = n' + 1 := ⟨n - 1, by omega⟩
    have d1 := dH.1
    refine ⟨J, Qs, ?_, fun j hj => hQ j (by omega), fun _ _ => rfl⟩
    rw [fX5_reachAll_2, Ho_g hH, bS, dH.2.1.1, if_pos (nI_le (by omega) (by omega))]
  | succ u ih =>
    intro k n J Qs hk hn dH hal ha hQ
    obtain ⟨n, rfl⟩ : ∃ n', n = n' + 1 := ⟨n - 1, by omega⟩
    have d1 := dH.1
    obtain ⟨J1, Q, g1, g2, g3, g4, g5⟩ := C_reach hL hH o1 hA hl (show k < FR.length by omega) (show 20 < 41 by omega) gd dH hal
    obtain ⟨J', Qs', e1, e2, e3⟩ := ih (k + 1) n J1 (fun j => if j = k then Q else Qs j) (by omega) (by omega) (dH.of (fun p h1 h2 => g4 p (by omega) (by omega))) (fun d hd => by rw [g4 _ (by omega) (by omega)]; exact hal d hd) (by rw [g4 _ (by omega) (by omega)]; exact ha) (fun j hj => by
      by_cases e : j = k
      · subst e
        simp only [if_true]
        exact ⟨g2, g3⟩
      · simp only [if_neg e]
        obtain ⟨q1, q2⟩ := hQ j (by omega)
        exact ⟨q1.of (g5 j e) (g4 _ (by omega) (by omega)), q2⟩)
    refine ⟨J', Qs', ?_, e2, fun p hp => by rw [e3 p hp, g4 p (by omega) (by omega)]⟩
    have r1 : rdI row (nI k) (J, R, S, N) = some (J row k) := rd hr.1 hr.2 (show k < 7 by omega) (by omega)
    rw [← z20] at g1
    rw [fX5_reachAll_2, Ho_g hH, bS, dH.2.1.1, if_neg (nI_ge (by omega) (by omega)), r1, bS, ha k (by omega), Lu_o hL, bS, g1, bS, nI_i1]
    exact e1
theorem C_reachAll (hL : isLu R S N L) (hH : isHo R S N h) (o1 : L + 12 < h) (o2 : row < L) (ok : okP PE) (hr : isA S N row 7) (hA : allA a) (hl : a.length = FR.length) {J : Nat → Nat → Int32} (dH : HAt J h FR PE SC TT) (ha : arr (J row) a) : ∃ (J0 J' : Nat → Nat → Int32) (al : Nat → Nat) (Qs : Nat → List Nat), fX5_findAlike L h (J, R, S, N) = some ((), (J0, R, S, N)) ∧ fX5_reachAll L h row (J0, R, S, N) = some ((), (J', R, S, N)) ∧ GoodU PE al 41 ∧ (∀ d, d < 41 → J' (L + 3) d = nI (al d)) ∧ (∀ j, j < FR.length → RcAt J' L j (Qs j) ∧ RQ FR SC al a 20 j (Qs j)) ∧ ∀ p, (p < L + 3 ∨ L + 12 < p) → J' p = J p := by
  have d1 := dH.1
  obtain ⟨J1, al, g1, g2, g3, g4⟩ := C_findAlike hL hH o1 ok dH
  have dH1 : HAt J1 h FR PE SC TT := dH.of (fun p h1 h2 => g4 p (by omega))
  obtain ⟨J', Qs, e1, e2, e3⟩ := C_raL hL hH o1 o2 hr hA hl (fun d hd => (g2 d hd).1) (fun w => some ((), w)) FR.length 0 FV J1 (fun _ => []) (by omega) (FV_lt (by omega)) dH1 g3 (by rw [g4 _ (by omega)]; exact ha) (fun j hj => by omega)
  refine ⟨J1, J', al, Qs, g1, ?_, g2, fun d hd => by rw [e3 _ (by omega)]; exact g3 d hd, e2, fun p hp => by rw [e3 p (by omega), g4 p (by omega)]⟩
  rw [← z0] at e1
  rw [fX5_reachAll]
  exact e1
end REACH
