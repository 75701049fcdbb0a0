/-! HABITS -/
def okK (kd : Int32) : Prop := ∃ k, k < 4 ∧ kd = nI k
def okB (b : Int32) : Prop := ∃ k, k < 21 ∧ b = nI k
theorem ltT {a b : Int32} : (a < b) = (a.toInt < b.toInt) := propext Int32.lt_iff_toInt_lt
theorem leT {a b : Int32} : (a ≤ b) = (a.toInt ≤ b.toInt) := propext Int32.le_iff_toInt_le
theorem eqT {a b : Int32} : (a = b) = (a.toInt = b.toInt) := propext Int32.toInt_inj.symm
theorem i0 : (0 : Int32).toInt = 0 := by decide
theorem i40 : (40 : Int32).toInt = 40 := by decide
theorem im40 : (-40 : Int32).toInt = -40 := by decide
theorem S_fb (kd b : Int32) (w : Wd) : fX3_farthestBorne kd b w = some (limO kd b, w) := by
  unfold fX3_farthestBorne limO
  split <;> rfl
theorem lim0 : ∀ k, k < 4 → ∀ j, j < 21 → iabs 0 ≤ limO (nI k) (nI j) := by decide +kernel
theorem dvI2 (v : Int32) : dvI v 2 = some (v / 2) := if_neg (by decide)
theorem S_settle {kd b : Int32} (hk : okK kd) (hb : okB b) (v : Int32) (w : Wd) : fX3_settle kd b v w = some (made kd b v, w) := by
  obtain ⟨k, hk, rfl⟩ := hk
  obtain ⟨j, hj, rfl⟩ := hb
  unfold fX3_settle
  rw [S_fb]
  simp only [Option.bind_some, dvI2]
  unfold made
  by_cases h : iabs v ≤ limO (nI k) (nI j)
  · rw [if_pos h, if_neg (Int32.not_lt.mpr h)]
  · rw [if_neg h, if_pos (Int32.not_le.mp h)]
    have hv : v ≠ 0 := fun e => h (by rw [e]; exact lim0 k hk j hj)
    rcases (show k = 0 ∨ k = 1 ∨ k = 2 ∨ k = 3 by omega) with rfl | rfl | rfl | rfl
    · rfl
    · rfl
    · rfl
    · show (if v ≤ 0 then some (-nI j, w) else some (nI j, w)) = some (if v < 0 then -nI j else nI j, w)
      by_cases c : v < 0
      · rw [if_pos c, if_pos (Int32.le_of_lt c)]
      · have c2 : ¬ v ≤ 0 := by
          simp only [ltT, leT, eqT, ne_eq] at *
          omega
        rw [if_neg c, if_neg c2]
theorem wth_max (v : Int32) : imax (-40) (imin 40 v) = wth v := by
  unfold imax imin wth
  by_cases h1 : v < -40
  · have h2 : v < 40 := by simp only [ltT, i40, im40] at *; omega
    rw [if_pos h2, if_neg (by simp only [ltT, im40] at *; omega), if_pos h1]
  · by_cases h2 : 40 < v
    · rw [if_neg (show ¬ v < 40 by simp only [ltT, i40] at *; omega), if_pos (by decide), if_neg h1, if_pos h2]
    · rw [if_neg h1, if_neg h2]
      by_cases h3 : v < 40
      · rw [if_pos h3]
        by_cases h4 : -40 < v
        · rw [if_pos h4]
        · rw [if_neg h4]
          simp only [ltT, eqT, i40, im40] at *
          omega
      · rw [if_neg h3, if_pos (by decide)]
        simp only [ltT, eqT, i40, im40] at *
        omega
theorem S_kept (v : Int32) (w : Wd) : fX11_keptWithin v w = some (wth v, w) := by
  unfold fX11_keptWithin
  rw [wth_max]
/-! A HOUSE of the class at place h -/
def HAt (I : Nat → Nat → Int32) (h : Nat) (FR : List F4) (PE : List P2) (SC : List C3) (TL : List T3) : Prop :=
  (FR.length ≤ 7 ∧ PE.length ≤ 5 ∧ SC.length ≤ 10) ∧ (I h 4 = nI FR.length ∧ I h 7 = nI PE.length ∧ I h 11 = nI SC.length) ∧
  (∀ k, k < FR.length → I (h + 1) k = (FR.getD k f4).1 ∧ I (h + 2) k = (FR.getD k f4).2.1 ∧ I (h + 3) k = (FR.getD k f4).2.2.1 ∧ I (h + 4) k = (FR.getD k f4).2.2.2) ∧
  (∀ i, i < PE.length → I (h + 5) i = (PE.getD i p2).1 ∧ I (h + 6) i = (PE.getD i p2).2) ∧
  (∀ c, c < SC.length → I (h + 7) c = nI (SC.getD c c3).1 ∧ I (h + 8) c = (SC.getD c c3).2.1 ∧ I (h + 9) c = (SC.getD c c3).2.2) ∧ TAt I (h + 10) TL
/-- what every house that was told keeps -/
def okP (PE : List P2) : Prop := ∀ i, i < PE.length → okK (PE.getD i p2).1 ∧ okB (PE.getD i p2).2
def okC (PE : List P2) (SC : List C3) : Prop := ∀ c, c < SC.length → (SC.getD c c3).1 < PE.length
def okT (FR : List F4) (TL : List T3) : Prop := ∀ k, k < TL.length → (TL.getD k t3).2.1 < FR.length
theorem HAt.of {I J : Nat → Nat → Int32} {h : Nat} {FR : List F4} {PE : List P2} {SC : List C3} {TL : List T3} (d : HAt I h FR PE SC TL) (e : ∀ p, h ≤ p → p ≤ h + 13 → J p = I p) : HAt J h FR PE SC TL := by
  obtain ⟨d1, d2, d3, d4, d5, d6⟩ := d
  refine ⟨d1, ?_, fun k hk => ?_, fun k hk => ?_, fun k hk => ?_, d6.of (fun p h1 h2 => e p (by omega) (by omega))⟩
  · rw [e h (by omega) (by omega)]; exact d2
  · rw [e (h + 1) (by omega) (by omega), e (h + 2) (by omega) (by omega), e (h + 3) (by omega) (by omega), e (h + 4) (by omega) (by omega)]; exact d3 k hk
  · rw [e (h + 5) (by omega) (by omega), e (h + 6) (by omega) (by omega)]; exact d4 k hk
  · rw [e (h + 7) (by omega) (by omega), e (h + 8) (by omega) (by omega), e (h + 9) (by omega) (by omega)]; exact d5 k hk
/-- an int[] of that length -/
def isA (S : Nat → Nat × Nat) (N p n : Nat) : Prop := p < N ∧ S p = (12, n)
section SIM
variable {I : Nat → Nat → Int32} {R : Nat → Nat → Option Nat} {S : Nat → Nat × Nat} {N h row rt : Nat} {FR : List F4} {PE : List P2} {SC : List C3} {TL : List T3} {a : List Int32}
theorem S_setBy (hh : isHo R S N h) (d : HAt I h FR PE SC TL) (ok : okP PE) {i : Nat} (hi : i < PE.length) (v : Int32) : fX4_setBy h (nI i) v (I, R, S, N) = some (made (PE.getD i p2).1 (PE.getD i p2).2 v, (I, R, S, N)) := by
  obtain ⟨d1, d2, d3, d4, d5, d6⟩ := d
  have hp := d4 i hi
  simp (disch := omega) only [fX4_setBy, Ho_5 hh, Ho_6 hh, Ho_r5 hh, Ho_r6 hh, Option.bind_some, hp.1, hp.2, S_settle (ok i hi).1 (ok i hi).2]
theorem fTL_succ (lim room : Int32) (i m : Nat) : fTL FR lim room a i (m + 1) = if (FR.getD i f4).1 = room ∧ ¬ iabs (a.getD i 0) ≤ lim then some i else fTL FR lim room a (i + 1) m := by
  unfold fTL
  rw [List.range'_succ, List.find?_cons]
  by_cases c1 : (FR.getD i f4).1 = room <;> by_cases c2 : iabs (a.getD i 0) ≤ lim <;> simp only [c1, c2, not_true_eq_false, not_false_eq_true, and_true, and_false, false_and, true_and, decide_true, decide_false, Bool.and_true, Bool.and_false, Bool.false_and, Bool.true_and, if_true, if_false]
theorem S_ft (hh : isHo R S N h) (d : HAt I h FR PE SC TL) (hr : isA S N row 7) (ha : arr (I row) a) (hla : a.length = FR.length) (lim room : Int32) (K1 : Int32 → Wd → Option (Int32 × Wd)) (K2 : Wd → Option (Int32 × Wd)) :
    ∀ (m i n : Nat), i + m = FR.length → m < n → fX4_firstTempting_20 h room row lim K1 K2 n (nI i) (I, R, S, N) = (fTL FR lim room a i m).elim (K2 (I, R, S, N)) (fun k => K1 (nI k) (I, R, S, N)) := by
  have hrd : ∀ k, k < 7 → rdI row (nI k) (I, R, S, N) = some (I row k) := fun k hk => rd hr.1 hr.2 hk (by omega)
  obtain ⟨d1, d2, d3, d4, d5, d6⟩ := d
  intro m
  induction m with
  | zero =>
    intro i n hi hn
    obtain ⟨n, rfl⟩ : ∃ n', n = n' + 1 := ⟨n - 1, by omega⟩
    simp (disch := omega) only [fX4_firstTempting_20, Ho_g hh, Option.bind_some, d2.1, nle]
    rw [if_pos (by omega)]
    rfl
  | succ m ih =>
    intro i n hi hn
    obtain ⟨n, rfl⟩ : ∃ n', n = n' + 1 := ⟨n - 1, by omega⟩
    have hk := d3 i (by omega)
    simp (disch := omega) only [fX4_firstTempting_20, Ho_g hh, Ho_0 hh, Ho_r0 hh, hrd, Option.bind_some, d2.1, nle, hk.1, ha i (by omega), nI_i1, ih (i + 1) n (by omega) (by omega)]
    rw [if_neg (by omega), fTL_succ]
    by_cases c1 : (FR.getD i f4).1 = room <;> by_cases c2 : iabs (a.getD i 0) ≤ lim <;> simp only [c1, c2, not_true_eq_false, not_false_eq_true, and_true, and_false, false_and, true_and, if_true, if_false, Option.elim]
theorem S_firstT (hh : isHo R S N h) (d : HAt I h FR PE SC TL) (hr : isA S N row 7) (ha : arr (I row) a) (hla : a.length = FR.length) {i : Nat} (hi : i < PE.length) (room : Int32) :
    fX4_firstTempting h (nI i) room row (I, R, S, N) = some ((fTL FR (limO (PE.getD i p2).1 (PE.getD i p2).2) room a 0 FR.length).elim (-4) (fun k => nI k), (I, R, S, N)) := by
  have hp := d.2.2.2.1 i hi
  have hp5 := d.1.2.1
  have hp7 := d.1.1
  simp (disch := omega) only [fX4_firstTempting, Ho_5 hh, Ho_6 hh, Ho_r5 hh, Ho_r6 hh, Option.bind_some, hp.1, hp.2, S_fb, z0]
  rw [S_ft hh d hr ha hla _ _ _ _ FR.length 0 FV (by omega) (FV_lt (by omega))]
  cases fTL FR (limO (PE.getD i p2).1 (PE.getD i p2).2) room a 0 FR.length <;> simp only [Option.elim]
end SIM
