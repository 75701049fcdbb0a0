theorem allA_tw (FR : List F4) (a : List Int32) : allA (twL FR a) := by
  intro k hk
  rw [tw_len] at hk
  rw [twL, gDmap hk]
  exact wth_okA _
theorem allA_set {a : List Int32} (h : allA a) (i : Nat) {v : Int32} (hv : okA v) : allA (a.set i v) := by
  intro k hk
  rw [List.length_set] at hk
  by_cases hi : i < a.length
  · rw [gDset hi]
    split
    · exact hv
    · exact h k hk
  · rw [List.set_eq_of_length_le (by omega)]
    exact h k hk
theorem allA_tn {a : List Int32} (h : allA a) (k : Nat) (v : Int32) : allA (tnL k v a) := allA_set h k (wth_okA _)
theorem allA_nt (TL : List T3) (v : Int32) : ∀ {a : List Int32}, allA a → allA (ntL TL v a) := by
  unfold ntL
  induction TL with
  | nil => intro a h; exact h
  | cons t TL ih =>
    intro a h
    rw [List.foldl_cons]
    apply ih
    split
    · exact allA_tn h _ _
    · exact h
theorem allA_dw (FR : List F4) (PE : List P2) (SC : List C3) (TL : List T3) (d : Nat) : allA (dwL FR PE SC TL d) := allA_nt TL _ (allA_tw FR _)
theorem allA_cm {FR : List F4} {PE : List P2} (ok : okP PE) {st : List Int32 × List Int32} {c : C3} (hc : c.1 < PE.length) (h : allA st.1) (hl : st.1.length = FR.length) : allA (cmL FR PE st c).1 := by
  unfold cmL
  split
  · split
    · exact h
    · rename_i k hk
      have := fT_lt hk
      exact allA_set h _ (made_okA (ok _ hc).1 (ok _ hc).2 (h k (by omega)))
  · exact h
def cmK (FR : List F4) (PE : List P2) (a s : List Int32) (i : Nat) (room : Int32) (k m : Nat) : List Int32 × List Int32 := (fTL FR (limO (PE.getD i p2).1 (PE.getD i p2).2) room a k m).elim (a, s) (fun j => (a.set j (made (PE.getD i p2).1 (PE.getD i p2).2 (a.getD j 0)), s.set i (nI j)))
theorem cmK_cm (FR : List F4) (PE : List P2) (a s : List Int32) (c : C3) (h : s.getD c.1 0 = -4) : cmL FR PE (a, s) c = cmK FR PE a s c.1 c.2.2 0 FR.length := by
  unfold cmL cmK
  rw [if_pos h]
  cases fTL FR (limO (PE.getD c.1 p2).1 (PE.getD c.1 p2).2) c.2.2 a 0 FR.length <;> rfl
/-- the reference's angles, who set what, who is hers -/
def MS (J : Nat → Nat → Int32) (q : Nat) (st : List Int32 × List Int32) : Prop := arr (J (q + 15)) st.1 ∧ arr (J (q + 17)) st.2 ∧ J q 28 = mask st.2
/-- but these nothing of the reference changes -/
def MF (J J' : Nat → Nat → Int32) (q : Nat) : Prop := (∀ p, p ≠ q → p ≠ q + 15 → p ≠ q + 17 → J' p = J p) ∧ ∀ j, j ≠ 28 → J' q j = J q j
theorem MF.rf {J : Nat → Nat → Int32} {q : Nat} : MF J J q := ⟨fun _ _ _ _ => rfl, fun _ _ => rfl⟩
theorem MF.tr {J J1 J2 : Nat → Nat → Int32} {q : Nat} (h : MF J J1 q) (h2 : MF J1 J2 q) : MF J J2 q := ⟨fun p a b c => (h2.1 p a b c).trans (h.1 p a b c), fun j hj => (h2.2 j hj).trans (h.2 j hj)⟩
theorem MF.mh {J J' : Nat → Nat → Int32} {q : Nat} {FR : List F4} {PE : List P2} {CO SC : List C3} {TL : List T3} (h : MF J J' q) (d : MH J q FR PE CO SC TL) : MH J' q FR PE CO SC TL := d.of (h.2 0 (by omega)) (h.2 2 (by omega)) (h.2 4 (by omega)) (fun p h1 h2 => h.1 p (by omega) (by omega) (by omega))
section MMORN
variable {R : Nat → Nat → Option Nat} {S : Nat → Nat × Nat} {N q : Nat} {FR : List F4} {PE : List P2} {CO SC : List C3} {TL : List T3}
theorem M_cmA (hm : isMo R S N q) {i : Nat} (hi : i < 5) (room : Int32) (K : Wd → Option (Unit × Wd)) (n k : Nat) {J : Nat → Nat → Int32} {s : List Int32} (d : MH J q FR PE CO SC TL) (hh : J q 28 = mask s) (hs : s.length = 5) (h4 : ¬ s.getD i 0 = -4) (hk : k ≤ 7) : fX12_comes_2 q (nI i) room K (n + 1) (nI k) (J, R, S, N) = K (J, R, S, N) := by
  have d1 := d.1
  simp (disch := omega) only [fX12_comes_2, Mo_g hm, Option.bind_some, d.2.1.1, nle, hh, M_has s hs i hi, h4, if_false]
  by_cases c : FR.length ≤ k
  · rw [if_pos c]
  · rw [if_neg c, if_neg (by decide)]
theorem M_cmB (hm : isMo R S N q) (ok : okP PE) {i : Nat} (hi : i < PE.length) (room : Int32) (K : Wd → Option (Unit × Wd)) : ∀ (m k n : Nat) (J : Nat → Nat → Int32) (a s : List Int32), k + m = FR.length → m + 1 < n → MH J q FR PE CO SC TL → MS J q (a, s) → a.length = FR.length → s.length = 5 → s.getD i 0 = -4 → allA a →
    ∃ J', fX12_comes_2 q (nI i) room K n (nI k) (J, R, S, N) = K (J', R, S, N) ∧ MS J' q (cmK FR PE a s i room k m) ∧ MF J J' q := by
  intro m
  induction m with
  | zero =>
    intro k n J a s hk hn d ms hl hs h4 hA
    obtain ⟨n, rfl⟩ : ∃ n', n = n' + 1 := ⟨n - 1, by omega⟩
    have d1 := d.1
    refine ⟨J, ?_, ms, MF.rf⟩
    simp (disch := omega) only [fX12_comes_2, Mo_g hm, Option.bind_some, d.2.1.1, nle]
    rw [if_pos (by omega)]
  | succ m ih =>
    intro k n J a s hk hn d ms hl hs h4 hA
    obtain ⟨n, rfl⟩ : ∃ n', n = n' + 1 := ⟨n - 1, by omega⟩
    have d1 := d.1
    have hf := d.2.2.1 k (by omega)
    have hak := ms.1 k (by show k < a.length; omega)
    have hH : J q 28 = mask s := ms.2.2
    have hmd := made_eq (ok i hi).1 (ok i hi).2 (hA k (by omega))
    by_cases c : (FR.getD k f4).1 = room ∧ ¬ iabs (a.getD k 0) ≤ limO (PE.getD i p2).1 (PE.getD i p2).2
    · have e0 : cmK FR PE a s i room k (m + 1) = (a.set k (made (PE.getD i p2).1 (PE.getD i p2).2 (a.getD k 0)), s.set i (nI k)) := by
        unfold cmK
        rw [fTL_succ, if_pos c]
        rfl
      have hne : ¬ made (PE.getD i p2).1 (PE.getD i p2).2 (a.getD k 0) = a.getD k 0 := fun z => c.2 (hmd.mp z)
      obtain ⟨J1, hJ1⟩ : ∃ J1, J1 = up1 J (q + 15) (upd (J (q + 15)) k (made (PE.getD i p2).1 (PE.getD i p2).2 (a.getD k 0))) := ⟨_, rfl⟩
      obtain ⟨J2, hJ2⟩ : ∃ J2, J2 = up1 J1 (q + 17) (upd (J1 (q + 17)) i (nI k)) := ⟨_, rfl⟩
      obtain ⟨J3, hJ3⟩ : ∃ J3, J3 = up1 J2 q (upd (J2 q) 28 (mask s ||| ((1 : Int32) <<< (nI i &&& 31)))) := ⟨_, rfl⟩
      have f1 : ∀ p, p ≠ q + 15 → J1 p = J p := fun p hp => by rw [hJ1, up1_n _ _ hp]
      have f2 : ∀ p, p ≠ q + 17 → J2 p = J1 p := fun p hp => by rw [hJ2, up1_n _ _ hp]
      have f3 : ∀ p, p ≠ q → J3 p = J2 p := fun p hp => by rw [hJ3, up1_n _ _ hp]
      have mf : MF J J3 q := ⟨fun p h1 h2 h3 => by rw [f3 p h1, f2 p h3, f1 p h2], fun j hj => by rw [hJ3, up1_s]; simp only [upd, if_neg hj]; rw [f2 q (by omega), f1 q (by omega)]⟩
      have ms3 : MS J3 q (a.set k (made (PE.getD i p2).1 (PE.getD i p2).2 (a.getD k 0)), s.set i (nI k)) := by
        refine ⟨?_, ?_, ?_⟩
        · rw [f3 _ (by omega), f2 _ (by omega), hJ1, up1_s]
          exact ms.1.set _ _ (by show k < a.length; omega)
        · rw [f3 _ (by omega), hJ2, up1_s, f1 _ (by omega)]
          exact ms.2.1.set _ _ (by show i < s.length; omega)
        · rw [hJ3, up1_s]
          simp only [upd, if_true]
          exact (mask_set s hs i (by omega) (nI k) (n4 (by omega)) h4).symm
      have d3 := mf.mh d
      have hMB := M_madeBy hm d hi (a.getD k 0)
      have g1 : wrI (q + 15) (nI k) (made (PE.getD i p2).1 (PE.getD i p2).2 (a.getD k 0)) (J, R, S, N) = some (J1, R, S, N) := by rw [hJ1]; exact Mo_w25 hm J _ (by omega)
      have g2 : wrI (q + 17) (nI i) (nI k) (J1, R, S, N) = some (J2, R, S, N) := by rw [hJ2]; exact Mo_w27 hm J1 _ (by omega)
      have g3 : pfI 11 28 q (mask s ||| ((1 : Int32) <<< (nI i &&& 31))) (J2, R, S, N) = some (J3, R, S, N) := by rw [hJ3]; exact Mo_p hm J2 _ _
      have g4 : J2 q 28 = mask s := by rw [f2 q (by omega), f1 q (by omega)]; exact hH
      obtain ⟨n, rfl⟩ : ∃ n', n = n' + 1 := ⟨n - 1, by omega⟩
      have g5 := M_cmA (R := R) (S := S) hm (show i < 5 by omega) room K n (k + 1) d3 ms3.2.2 (by simp [hs]) (by rw [gDset (by omega), if_pos rfl]; exact n4 (by omega)) (by omega)
      rw [e0]
      refine ⟨J3, ?_, ms3, mf⟩
      rw [← g5]
      rw [fX12_comes_2]
      simp (disch := omega) only [Mo_g hm, Mo_1 hm, Mo_r1 hm, Mo_25 hm, Mo_r25 hm, Mo_27 hm, Mo_o hm, ix4, Option.bind_some, d.2.1.1, nle, hH, M_has s hs i (show i < 5 by omega), h4, hf.1, c.1, hak, hMB, hne, g1, g2, g3, g4, nI_i1, if_true, if_false]
      rw [if_neg (by omega)]
    · have e0 : cmK FR PE a s i room k (m + 1) = cmK FR PE a s i room (k + 1) m := by
        unfold cmK
        rw [fTL_succ, if_neg c]
      obtain ⟨J', e1, e2, e3⟩ := ih (k + 1) n J a s (by omega) (by omega) d ms hl hs h4 hA
      rw [e0]
      refine ⟨J', ?_, e2, e3⟩
      have hMB := M_madeBy hm d hi (a.getD k 0)
      rw [fX12_comes_2]
      by_cases c1 : (FR.getD k f4).1 = room
      · have c2 : made (PE.getD i p2).1 (PE.getD i p2).2 (a.getD k 0) = a.getD k 0 := hmd.mpr (Classical.byContradiction fun z => c ⟨c1, z⟩)
        rw [c2] at hMB
        simp (disch := omega) only [Mo_g hm, Mo_1 hm, Mo_r1 hm, Mo_25 hm, Mo_r25 hm, Mo_o hm, ix4, Option.bind_some, d.2.1.1, nle, hH, M_has s hs i (show i < 5 by omega), h4, hf.1, c1, hak, hMB, nI_i1, if_true, e1]
        rw [if_neg (by omega)]
      · simp (disch := omega) only [Mo_g hm, Mo_1 hm, Mo_r1 hm, ix4, Option.bind_some, d.2.1.1, nle, hH, M_has s hs i (show i < 5 by omega), h4, hf.1, c1, nI_i1, if_true, if_false, e1]
        rw [if_neg (by omega)]
theorem M_comes (hm : isMo R S N q) (ok : okP PE) (cc : C3) (hi : cc.1 < PE.length) {J : Nat → Nat → Int32} {st : List Int32 × List Int32} (d : MH J q FR PE CO SC TL) (ms : MS J q st) (hl : st.1.length = FR.length) (hs : st.2.length = 5) (hA : allA st.1) :
    ∃ J', fX12_comes q (nI cc.1) cc.2.2 (J, R, S, N) = some ((), (J', R, S, N)) ∧ MS J' q (cmL FR PE st cc) ∧ MF J J' q := by
  have d1 := d.1
  obtain ⟨a, s⟩ := st
  by_cases h4 : s.getD cc.1 0 = -4
  · obtain ⟨J', e1, e2, e3⟩ := M_cmB hm ok hi cc.2.2 (fun w => some ((), w)) FR.length 0 FV J a s (by omega) (FV_lt (by omega)) d ms hl hs h4 hA
    refine ⟨J', by rw [fX12_comes, z0]; exact e1, by rw [cmK_cm FR PE a s cc h4]; exact e2, e3⟩
  · refine ⟨J, ?_, ?_, MF.rf⟩
    · obtain ⟨n, hn⟩ : ∃ n', FV = n' + 1 := ⟨FV - 1, by have := FV_ge; omega⟩
      rw [fX12_comes, z0, hn]
      exact M_cmA hm (show cc.1 < 5 by omega) cc.2.2 _ n 0 d ms.2.2 hs h4 (by omega)
    · have e0 : cmL FR PE (a, s) cc = (a, s) := by simp only [cmL, h4, if_false]
      rw [e0]
      exact ms
theorem M_mnA (hm : isMo R S N q) (K : Wd → Option (Unit × Wd)) : ∀ (m i n : Nat) (J : Nat → Nat → Int32), i + m = 5 → m < n → fX12_morning_7 q K n (nI i) (J, R, S, N) = K (up1 J (q + 17) (fun k => if i ≤ k ∧ k < 5 then -4 else J (q + 17) k), R, S, N) := by
  intro m
  induction m with
  | zero =>
    intro i n J hi hn
    obtain ⟨n, rfl⟩ : ∃ n', n = n' + 1 := ⟨n - 1, by omega⟩
    simp (disch := omega) only [fX12_morning_7, z5, nle]
    rw [if_pos (by omega)]
    congr 2
    funext a b
    by_cases ha : a = q + 17
    · subst ha
      simp only [up1, if_true]
      rw [if_neg (by omega)]
    · simp [up1, ha]
  | succ m ih =>
    intro i n J hi hn
    obtain ⟨n, rfl⟩ : ∃ n', n = n' + 1 := ⟨n - 1, by omega⟩
    simp (disch := omega) only [fX12_morning_7, z5, nle, Mo_27 hm, Mo_w27 hm, Option.bind_some, nI_i1, ih (i + 1) n _ (by omega) (by omega), up1_u, up1_s]
    rw [if_neg (by omega)]
    congr 3
    funext k
    by_cases e : k = i
    · subst e
      simp only [upd, if_true]
      rw [if_neg (by omega), if_pos (by omega)]
    · simp only [upd, if_neg e]
      by_cases c : i ≤ k ∧ k < 5
      · rw [if_pos c, if_pos (by omega)]
      · rw [if_neg c, if_neg (by omega)]
theorem M_mnB (hm : isMo R S N q) (ok : okP PE) (okc : okC PE SC) (K : Wd → Option (Unit × Wd)) : ∀ (m i n : Nat) (J : Nat → Nat → Int32) (st : List Int32 × List Int32), i + m = SC.length → m < n → MH J q FR PE CO SC TL → MS J q st → st.1.length = FR.length → st.2.length = 5 → allA st.1 →
    ∃ J', fX12_morning_28 q K n (nI i) (J, R, S, N) = K (J', R, S, N) ∧ MS J' q ((SC.drop i).foldl (cmL FR PE) st) ∧ MF J J' q := by
  intro m
  induction m with
  | zero =>
    intro i n J st hi hn d ms hl hs hA
    obtain ⟨n, rfl⟩ : ∃ n', n = n' + 1 := ⟨n - 1, by omega⟩
    have d1 := d.1
    rw [List.drop_eq_nil_of_le (by omega)]
    refine ⟨J, ?_, ms, MF.rf⟩
    simp (disch := omega) only [fX12_morning_28, Mo_g hm, Option.bind_some, d.2.1.2.2.1, nle]
    rw [if_pos (by omega)]
  | succ m ih =>
    intro i n J st hi hn d ms hl hs hA
    obtain ⟨n, rfl⟩ : ∃ n', n = n' + 1 := ⟨n - 1, by omega⟩
    have d1 := d.1
    obtain ⟨o, ho1, ho2, ho3⟩ := d.2.2.2.2.2.1 i (by omega)
    have hc := d.2.2.2.2.1 o ho1
    have hp := okc i (by omega)
    rw [ho3] at hc
    rw [dropc c3 (show i < SC.length by omega), List.foldl_cons]
    generalize SC.getD i c3 = cc at hc hp ⊢
    obtain ⟨J1, g1, g2, g3⟩ := M_comes hm ok cc hp d ms hl hs hA
    have hcl := cm_len (FR := FR) (PE := PE) st cc
    obtain ⟨J', e1, e2, e3⟩ := ih (i + 1) n J1 (cmL FR PE st cc) (by omega) (by omega) (g3.mh d) g2 (hcl.1.trans hl) (hcl.2.trans hs) (allA_cm ok hp hA hl)
    refine ⟨J', ?_, e2, g3.tr e3⟩
    simp (disch := omega) only [fX12_morning_28, Mo_g hm, Mo_5 hm, Mo_6 hm, Mo_r5 hm, Mo_r6 hm, Mo_o hm, ix3, nI_i2, Option.bind_some, d.2.1.2.2.1, nle, ho2, hc.1, hc.2.2, g1, nI_i1, e1]
    rw [if_neg (by omega)]
theorem M_morning (hm : isMo R S N q) (ok : okP PE) (okc : okC PE SC) {J : Nat → Nat → Int32} {a : List Int32} (d : MH J q FR PE CO SC TL) (ha : arr (J (q + 15)) a) (hl : a.length = FR.length) (hA : allA a) :
    ∃ J', fX12_morning q (J, R, S, N) = some ((), (J', R, S, N)) ∧ MS J' q (mnL FR PE SC a) ∧ MF J J' q := by
  have d1 := d.1
  obtain ⟨J1, hJ1⟩ : ∃ J1, J1 = up1 J q (upd (J q) 28 0) := ⟨_, rfl⟩
  obtain ⟨J2, hJ2⟩ : ∃ J2, J2 = up1 J1 (q + 17) (fun k => if 0 ≤ k ∧ k < 5 then -4 else J1 (q + 17) k) := ⟨_, rfl⟩
  have mf : MF J J2 q := ⟨fun p h1 h2 h3 => by rw [hJ2, up1_n _ _ h3, hJ1, up1_n _ _ h1], fun j hj => by rw [hJ2, up1_n _ _ (by omega), hJ1, up1_s]; simp only [upd, if_neg hj]⟩
  have ms : MS J2 q (a, none5) := by
    refine ⟨?_, ?_, ?_⟩
    · rw [hJ2, up1_n _ _ (by omega), hJ1, up1_n _ _ (by omega)]
      exact ha
    · rw [hJ2, up1_s]
      intro k hk
      have hk5 : k < 5 := hk
      show (if 0 ≤ k ∧ k < 5 then (-4 : Int32) else J1 (q + 17) k) = _
      rw [if_pos (by omega)]
      rcases (show k = 0 ∨ k = 1 ∨ k = 2 ∨ k = 3 ∨ k = 4 by omega) with rfl | rfl | rfl | rfl | rfl <;> rfl
    · rw [hJ2, up1_n _ _ (by omega), hJ1, up1_s]
      simp only [upd, if_true]
      decide
  obtain ⟨J', e1, e2, e3⟩ := M_mnB hm ok okc (fun w => some ((), w)) SC.length 0 FV J2 (a, none5) (by omega) (FV_lt (by omega)) (mf.mh d) ms hl rfl hA
  refine ⟨J', ?_, e2, mf.tr e3⟩
  have g1 : pfI 11 28 q 0 (J, R, S, N) = some (J1, R, S, N) := by rw [hJ1]; exact Mo_p hm J _ _
  simp only [fX12_morning, g1, Option.bind_some]
  rw [z0, M_mnA hm _ 5 0 FV J1 (by omega) (FV_lt (by omega)), ← hJ2]
  exact e1
/-- the dawn's row too may change -/
def MG (J J' : Nat → Nat → Int32) (q : Nat) : Prop := (∀ p, p ≠ q → p ≠ q + 15 → p ≠ q + 16 → p ≠ q + 17 → J' p = J p) ∧ ∀ j, j ≠ 28 → J' q j = J q j
theorem MG.rf {J : Nat → Nat → Int32} {q : Nat} : MG J J q := ⟨fun _ _ _ _ _ => rfl, fun _ _ => rfl⟩
theorem MG.tr {J J1 J2 : Nat → Nat → Int32} {q : Nat} (h : MG J J1 q) (h2 : MG J1 J2 q) : MG J J2 q := ⟨fun p a b c e => (h2.1 p a b c e).trans (h.1 p a b c e), fun j hj => (h2.2 j hj).trans (h.2 j hj)⟩
theorem MG.mh {J J' : Nat → Nat → Int32} {q : Nat} {FR : List F4} {PE : List P2} {CO SC : List C3} {TL : List T3} (h : MG J J' q) (d : MH J q FR PE CO SC TL) : MH J' q FR PE CO SC TL := d.of (h.2 0 (by omega)) (h.2 2 (by omega)) (h.2 4 (by omega)) (fun p h1 h2 => h.1 p (by omega) (by omega) (by omega) (by omega))
theorem MF.mg {J J' : Nat → Nat → Int32} {q : Nat} (h : MF J J' q) : MG J J' q := ⟨fun p a b _ c => h.1 p a b c, h.2⟩
theorem MG.o15 {J J' : Nat → Nat → Int32} {q : Nat} (h : ∀ p, p ≠ q + 15 → J' p = J p) : MG J J' q := ⟨fun p _ b _ _ => h p b, fun j _ => by rw [h q (by omega)]⟩
theorem M_dawnL (hm : isMo R S N q) (v1 v2 : Int32) (K : Wd → Option (Unit × Wd)) : ∀ (m i n : Nat) (J : Nat → Nat → Int32), i + m = 7 → m < n → ∃ J', fX12_goes_18 q v1 v2 K n (nI i) (J, R, S, N) = K (J', R, S, N) ∧ (∀ k, i ≤ k → k < 7 → J' (q + 16) k = J (q + 15) k) ∧ (∀ k, k < i → J' (q + 16) k = J (q + 16) k) ∧ ∀ p, p ≠ q + 16 → J' p = J p := by
  intro m
  induction m with
  | zero =>
    intro i n J hi hn
    obtain ⟨n, rfl⟩ : ∃ n', n = n' + 1 := ⟨n - 1, by omega⟩
    refine ⟨J, ?_, fun k h1 h2 => by omega, fun _ _ => rfl, fun _ _ => rfl⟩
    simp (disch := omega) only [fX12_goes_18, z7, nle]
    rw [if_pos (by omega)]
  | succ m ih =>
    intro i n J hi hn
    obtain ⟨n, rfl⟩ : ∃ n', n = n' + 1 := ⟨n - 1, by omega⟩
    obtain ⟨J', e1, e2, e3, e4⟩ := ih (i + 1) n (up1 J (q + 16) (upd (J (q + 16)) i (J (q + 15) i))) (by omega) (by omega)
    refine ⟨J', ?_, ?_, ?_, fun p hp => by rw [e4 p hp, up1_n _ _ hp]⟩
    · simp (disch := omega) only [fX12_goes_18, z7, nle, Mo_25 hm, Mo_26 hm, Mo_r25 hm, Mo_w26 hm, nI_i1, Option.bind_some, e1]
      rw [if_neg (by omega)]
    · intro k h1 h2
      by_cases e : k = i
      · subst e
        rw [e3 k (by omega), up1_s]
        simp [upd]
      · rw [e2 k (by omega) h2, up1_n _ _ (by omega)]
    · intro k hk
      rw [e3 k (by omega), up1_s]
      simp only [upd, if_neg (show ¬ k = i by omega)]
/-- behind the reference's 'goes(day)' -/
def GoAt (J : Nat → Nat → Int32) (q : Nat) (FR : List F4) (PE : List P2) (SC : List C3) (TL : List T3) (d : Nat) : Prop := arr (J (q + 15)) (pvL FR PE SC TL (d + 1)) ∧ arr (J (q + 16)) (dwL FR PE SC TL d) ∧ arr (J (q + 17)) (stL FR PE SC TL d) ∧ J q 28 = mask (stL FR PE SC TL d)
theorem M_goL (hm : isMo R S N q) (ok : okP PE) (okc : okC PE SC) (okt : okT FR TL) {day : Nat} (hday : day < 31) (K : Wd → Option (Unit × Wd)) : ∀ (m d n : Nat) (J : Nat → Nat → Int32), d + m = day + 1 → m < n → MH J q FR PE CO SC TL → arr (J (q + 15)) (pvL FR PE SC TL d) → (0 < d → GoAt J q FR PE SC TL (d - 1)) →
    ∃ J', fX12_goes_6 q (nI day) K n (nI d) (J, R, S, N) = K (J', R, S, N) ∧ GoAt J' q FR PE SC TL day ∧ MG J J' q := by
  intro m
  induction m with
  | zero =>
    intro d n J hd hn dM ha hg
    obtain ⟨n, rfl⟩ : ∃ n', n = n' + 1 := ⟨n - 1, by omega⟩
    have hg' := hg (by omega)
    rw [show d - 1 = day by omega] at hg'
    refine ⟨J, ?_, hg', MG.rf⟩
    simp (disch := omega) only [fX12_goes_6, nlt]
    rw [if_pos (by omega)]
  | succ m ih =>
    intro d n J hd hn dM ha hg
    obtain ⟨n, rfl⟩ : ∃ n', n = n' + 1 := ⟨n - 1, by omega⟩
    have d1 := dM.1
    obtain ⟨J1, g1, a1, f1⟩ := M_nightOf hm okt (nI d) dM ha (pv_len FR PE SC TL d)
    have m1 : MG J J1 q := MG.o15 f1
    have l1 := dw_len' FR PE SC TL d
    obtain ⟨J2, g2, b2, -, f2⟩ := M_dawnL (R := R) (S := S) hm (nI day) (nI d) (fun w => (isO 11 q w).bind fun _ => (fX12_morning q w).bind fun z => fX12_goes_6 q (nI day) K n (nI d + 1) z.2) 7 0 FV J1 (by omega) (FV_lt (by omega))
    have m2 : MG J1 J2 q := ⟨fun p _ _ c _ => f2 p c, fun j _ => by rw [f2 q (by omega)]⟩
    have a2 : arr (J2 (q + 15)) (dwL FR PE SC TL d) := by rw [f2 _ (by omega)]; exact a1
    have a2d : arr (J2 (q + 16)) (dwL FR PE SC TL d) := by
      intro k hk
      rw [b2 k (by omega) (by omega)]
      exact a1 k hk
    obtain ⟨J3, g3, s3, f3⟩ := M_morning hm ok okc ((m1.tr m2).mh dM) a2 l1 (allA_dw FR PE SC TL d)
    have m3 : MG J J3 q := (m1.tr m2).tr f3.mg
    have go : GoAt J3 q FR PE SC TL d := ⟨s3.1, by rw [f3.1 (q + 16) (by omega) (by omega) (by omega)]; exact a2d, s3.2.1, s3.2.2⟩
    obtain ⟨J', e1, e2, e3⟩ := ih (d + 1) n J3 (by omega) (by omega) (m3.mh dM) go.1 (fun _ => by rw [show d + 1 - 1 = d by omega]; exact go)
    refine ⟨J', ?_, e2, m3.tr e3⟩
    simp (disch := omega) only [fX12_goes_6, nlt, Mo_o hm, g1, Option.bind_some]
    rw [if_neg (by omega), z0]
    rw [g2]
    simp only [Mo_o hm, Option.bind_some, g3, nI_i1, e1]
theorem M_goes (hm : isMo R S N q) (ok : okP PE) (okc : okC PE SC) (okt : okT FR TL) {day : Nat} (hday : day < 31) {J : Nat → Nat → Int32} (d : MH J q FR PE CO SC TL) :
    ∃ J', fX12_goes q (nI day) (J, R, S, N) = some ((), (J', R, S, N)) ∧ GoAt J' q FR PE SC TL day ∧ MG J J' q := by
  obtain ⟨J1, g1, a1, f1⟩ := M_begins (TL := TL) hm d
  have m1 : MG J J1 q := MG.o15 f1
  obtain ⟨J', e1, e2, e3⟩ := M_goL hm ok okc okt hday (fun w => some ((), w)) (day + 1) 0 FV J1 (by omega) (FV_lt (by omega)) (m1.mh d) a1 (fun h => by omega)
  refine ⟨J', ?_, e2, m1.tr e3⟩
  simp only [fX12_goes, Mo_o hm, Option.bind_some, g1, z0]
  exact e1
end MMORN
