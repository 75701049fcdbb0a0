section TAKE
variable {R : Nat → Nat → Option Nat} {S : Nat → Nat × Nat} {N T G h : Nat} {tx : List Int32} {J : Nat → Nat → Int32} {FR : List F4} {PE : List P2} {CO SC : List C3} {TT : List T3}
theorem C_outN {x n : Nat} (hx : x < 2 ^ 31) (hn : n < 2 ^ 31) (w : Wd) : fX11_outside (nI x) (nI n) w = some (if x < n then 0 else 1, w) := by
  by_cases c : x < n
  · rw [if_pos c, C_out0 c hn]
  · rw [if_neg c, C_out1 (Or.inr (nI_le (by omega) hx))]
theorem C_takeFrame (hh : isHo R S N h) (d : HAt J h FR PE SC TT) {x y : Nat} (hx : x < 1000) (hy : y < 1000) : ∃ J', (∀ p, (p < h ∨ h + 13 < p) → J' p = J p) ∧ (((FR.length < 7 ∧ x < 4 ∧ y < 41) ∧ fX4_takeFrame h (nI x) (nI y) (J, R, S, N) = some (1, (J', R, S, N)) ∧ HAt J' h (FR ++ [(nI x, nI y - 20, 0, 0)]) PE SC TT) ∨ (¬ (FR.length < 7 ∧ x < 4 ∧ y < 41) ∧ fX4_takeFrame h (nI x) (nI y) (J, R, S, N) = some (0, (J', R, S, N)))) := by
  obtain ⟨d1, d2, d3, d4, d5, d6⟩ := id d
  rw [fX4_takeFrame, Ho_g hh, bS, d2.1]
  by_cases c1 : FR.length < 7
  · rw [if_neg (show ¬ (7 : Int32) ≤ nI FR.length by rw [z7]; exact nI_ge c1 (by omega)), show (4 : Int32) = nI 4 from z4, C_outN (by omega) (by omega), bS]
    by_cases c2 : x < 4
    · rw [if_pos c2, if_pos rfl, show (41 : Int32) = nI 41 from z41, C_outN (by omega) (by omega), bS]
      by_cases c3 : y < 41
      · rw [if_pos c3, if_pos rfl]
        obtain ⟨J1, hJ1⟩ : ∃ J1, J1 = up1 J (h + 1) (upd (J (h + 1)) FR.length (nI x)) := ⟨_, rfl⟩
        obtain ⟨J2, hJ2⟩ : ∃ J2, J2 = up1 J1 (h + 2) (upd (J1 (h + 2)) FR.length (nI y - 20)) := ⟨_, rfl⟩
        obtain ⟨J3, hJ3⟩ : ∃ J3, J3 = up1 J2 (h + 3) (upd (J2 (h + 3)) FR.length 0) := ⟨_, rfl⟩
        obtain ⟨J4, hJ4⟩ : ∃ J4, J4 = up1 J3 (h + 4) (upd (J3 (h + 4)) FR.length 0) := ⟨_, rfl⟩
        obtain ⟨J5, hJ5⟩ : ∃ J5, J5 = up1 J4 h (upd (J4 h) 4 (nI (FR.length + 1))) := ⟨_, rfl⟩
        have w1 : wrI (h + 1) (nI FR.length) (nI x) (J, R, S, N) = some (J1, R, S, N) := by rw [hJ1]; exact Ho_w0 hh J _ c1
        have w2 : wrI (h + 2) (nI FR.length) (nI y - 20) (J1, R, S, N) = some (J2, R, S, N) := by rw [hJ2]; exact Ho_w1 hh J1 _ c1
        have w3 : wrI (h + 3) (nI FR.length) 0 (J2, R, S, N) = some (J3, R, S, N) := by rw [hJ3]; exact Ho_w2 hh J2 _ c1
        have w4 : wrI (h + 4) (nI FR.length) 0 (J3, R, S, N) = some (J4, R, S, N) := by rw [hJ4]; exact Ho_w3 hh J3 _ c1
        have w5 : pfI 3 4 h (nI (FR.length + 1)) (J4, R, S, N) = some (J5, R, S, N) := by rw [hJ5]; exact Ho_p hh J4 _ _
        have x1 : J1 h 4 = nI FR.length := by rw [hJ1, up1_n _ _ (by omega)]; exact d2.1
        have x2 : J2 h 4 = nI FR.length := by rw [hJ2, up1_n _ _ (by omega)]; exact x1
        have x3 : J3 h 4 = nI FR.length := by rw [hJ3, up1_n _ _ (by omega)]; exact x2
        have x4 : J4 h 4 = nI FR.length := by rw [hJ4, up1_n _ _ (by omega)]; exact x3
        have ff : ∀ p, p ≠ h → p ≠ h + 1 → p ≠ h + 2 → p ≠ h + 3 → p ≠ h + 4 → J5 p = J p := fun p a b c e f => by rw [hJ5, up1_n _ _ a, hJ4, up1_n _ _ f, hJ3, up1_n _ _ e, hJ2, up1_n _ _ c, hJ1, up1_n _ _ b]
        have y1 : J5 (h + 1) = upd (J (h + 1)) FR.length (nI x) := by rw [hJ5, up1_n _ _ (by omega), hJ4, up1_n _ _ (by omega), hJ3, up1_n _ _ (by omega), hJ2, up1_n _ _ (by omega), hJ1, up1_s]
        have y2 : J5 (h + 2) = upd (J (h + 2)) FR.length (nI y - 20) := by rw [hJ5, up1_n _ _ (by omega), hJ4, up1_n _ _ (by omega), hJ3, up1_n _ _ (by omega), hJ2, up1_s, hJ1, up1_n _ _ (by omega)]
        have y3 : J5 (h + 3) = upd (J (h + 3)) FR.length 0 := by rw [hJ5, up1_n _ _ (by omega), hJ4, up1_n _ _ (by omega), hJ3, up1_s, hJ2, up1_n _ _ (by omega), hJ1, up1_n _ _ (by omega)]
        have y4 : J5 (h + 4) = upd (J (h + 4)) FR.length 0 := by rw [hJ5, up1_n _ _ (by omega), hJ4, up1_s, hJ3, up1_n _ _ (by omega), hJ2, up1_n _ _ (by omega), hJ1, up1_n _ _ (by omega)]
        have yh : ∀ j, j ≠ 4 → J5 h j = J h j := fun j hj => by rw [hJ5, up1_s]; simp only [upd, if_neg hj]; rw [hJ4, up1_n _ _ (by omega), hJ3, up1_n _ _ (by omega), hJ2, up1_n _ _ (by omega), hJ1, up1_n _ _ (by omega)]
        refine ⟨J5, fun p hp => ff p (by omega) (by omega) (by omega) (by omega) (by omega), Or.inl ⟨⟨c1, c2, c3⟩, ?_, ⟨by simp; omega, ?_, ?_, ?_, ?_, d6.of (fun p a b => ff p (by omega) (by omega) (by omega) (by omega) (by omega))⟩⟩⟩
        · simp only [Ho_0 hh, Ho_1 hh, Ho_2 hh, Ho_3 hh, Ho_g hh, bS, d2.1, w1, x1, w2, x2, w3, x3, w4, x4, nI_i1, w5]
        · refine ⟨by rw [hJ5, up1_s]; simp [upd], by rw [yh 7 (by omega)]; exact d2.2.1, by rw [yh 11 (by omega)]; exact d2.2.2⟩
        · intro k hk
          rw [List.length_append, List.length_singleton] at hk
          rw [y1, y2, y3, y4]
          by_cases e : k = FR.length
          · subst e
            rw [gDlast]
            simp [upd]
          · rw [gDapp (by omega)]
            simp only [upd, if_neg e]
            exact d3 k (by omega)
        · intro i hi
          rw [ff (h + 5) (by omega) (by omega) (by omega) (by omega) (by omega), ff (h + 6) (by omega) (by omega) (by omega) (by omega) (by omega)]
          exact d4 i hi
        · intro i hi
          rw [ff (h + 7) (by omega) (by omega) (by omega) (by omega) (by omega), ff (h + 8) (by omega) (by omega) (by omega) (by omega) (by omega), ff (h + 9) (by omega) (by omega) (by omega) (by omega) (by omega)]
          exact d5 i hi
      · exact ⟨J, fun _ _ => rfl, Or.inr ⟨fun z => c3 z.2.2, by rw [if_neg c3, if_neg i10]⟩⟩
    · exact ⟨J, fun _ _ => rfl, Or.inr ⟨fun z => c2 z.2.1, by rw [if_neg c2, if_neg i10]⟩⟩
  · exact ⟨J, fun _ _ => rfl, Or.inr ⟨fun z => c1 z.1, by rw [if_pos (show (7 : Int32) ≤ nI FR.length by rw [z7]; exact nI_le (by omega) (by omega))]⟩⟩
/-- one field of a frame anew -/
theorem HAt_set (d : HAt J h FR PE SC TT) {x : Nat} (hx : x < FR.length) {J' : Nat → Nat → Int32} {f : F4} (e0 : ∀ p, p ≠ h + 3 → p ≠ h + 4 → J' p = J p) (f1 : f.1 = (FR.getD x f4).1) (f2 : f.2.1 = (FR.getD x f4).2.1) (e3 : ∀ k, k < FR.length → J' (h + 3) k = if k = x then f.2.2.1 else J (h + 3) k) (e4 : ∀ k, k < FR.length → J' (h + 4) k = if k = x then f.2.2.2 else J (h + 4) k) : HAt J' h (FR.set x f) PE SC TT := by
  obtain ⟨d1, d2, d3, d4, d5, d6⟩ := d
  refine ⟨by simpa using d1, ?_, ?_, ?_, ?_, d6.of (fun p a b => e0 p (by omega) (by omega))⟩
  · rw [e0 h (by omega) (by omega), List.length_set]; exact d2
  · intro k hk
    rw [List.length_set] at hk
    rw [gDset4 hx, e0 (h + 1) (by omega) (by omega), e0 (h + 2) (by omega) (by omega), e3 k hk, e4 k hk]
    by_cases e : k = x
    · subst e
      rw [if_pos rfl, if_pos rfl, if_pos rfl, f1, f2]
      exact ⟨(d3 k hk).1, (d3 k hk).2.1, rfl, rfl⟩
    · rw [if_neg e, if_neg e, if_neg e]
      exact d3 k hk
  · intro i hi
    rw [e0 (h + 5) (by omega) (by omega), e0 (h + 6) (by omega) (by omega)]
    exact d4 i hi
  · intro i hi
    rw [e0 (h + 7) (by omega) (by omega), e0 (h + 8) (by omega) (by omega), e0 (h + 9) (by omega) (by omega)]
    exact d5 i hi
theorem C_takeWire (hh : isHo R S N h) (d : HAt J h FR PE SC TT) {x y : Nat} (hx : x < 1000) (hy : y < 1000) : ∃ J', (∀ p, (p < h ∨ h + 13 < p) → J' p = J p) ∧ (((x < FR.length ∧ y < 11) ∧ fX4_takeWire h (nI x) (nI y) (J, R, S, N) = some (1, (J', R, S, N)) ∧ HAt J' h (FR.set x ((FR.getD x f4).1, (FR.getD x f4).2.1, nI y - 5, (FR.getD x f4).2.2.2)) PE SC TT) ∨ (¬ (x < FR.length ∧ y < 11) ∧ fX4_takeWire h (nI x) (nI y) (J, R, S, N) = some (0, (J', R, S, N)))) := by
  obtain ⟨d1, d2, d3, d4, d5, d6⟩ := id d
  rw [fX4_takeWire, Ho_g hh, bS, d2.1, C_outN (by omega) (by omega), bS]
  by_cases c2 : x < FR.length
  · rw [if_pos c2, if_pos rfl, show (11 : Int32) = nI 11 from z11, C_outN (by omega) (by omega), bS]
    by_cases c3 : y < 11
    · rw [if_pos c3, if_pos rfl, Ho_2 hh, bS, Ho_w2 hh J _ (show x < 7 by omega), bS]
      refine ⟨_, fun p hp => up1_n _ _ (by omega), Or.inl ⟨⟨c2, c3⟩, rfl, HAt_set d c2 (fun p a b => up1_n _ _ a) rfl rfl (fun k hk => ?_) (fun k hk => ?_)⟩⟩
      · rw [up1_s]; rfl
      · rw [up1_n _ _ (by omega)]
        by_cases e : k = x
        · subst e; rw [if_pos rfl]; exact (d3 k hk).2.2.2
        · rw [if_neg e]
    · exact ⟨J, fun _ _ => rfl, Or.inr ⟨fun z => c3 z.2, by rw [if_neg c3, if_neg i10]⟩⟩
  · exact ⟨J, fun _ _ => rfl, Or.inr ⟨fun z => c2 z.1, by rw [if_neg c2, if_neg i10]⟩⟩
theorem C_takePatch (hh : isHo R S N h) (d : HAt J h FR PE SC TT) {x y : Nat} (hx : x < 1000) (hy : y < 1000) : ∃ J', (∀ p, (p < h ∨ h + 13 < p) → J' p = J p) ∧ (((x < FR.length ∧ y < 41) ∧ fX4_takePatch h (nI x) (nI y) (J, R, S, N) = some (1, (J', R, S, N)) ∧ HAt J' h (FR.set x ((FR.getD x f4).1, (FR.getD x f4).2.1, (FR.getD x f4).2.2.1, nI y - 20)) PE SC TT) ∨ (¬ (x < FR.length ∧ y < 41) ∧ fX4_takePatch h (nI x) (nI y) (J, R, S, N) = some (0, (J', R, S, N)))) := by
  obtain ⟨d1, d2, d3, d4, d5, d6⟩ := id d
  rw [fX4_takePatch, Ho_g hh, bS, d2.1, C_outN (by omega) (by omega), bS]
  by_cases c2 : x < FR.length
  · rw [if_pos c2, if_pos rfl, show (41 : Int32) = nI 41 from z41, C_outN (by omega) (by omega), bS]
    by_cases c3 : y < 41
    · rw [if_pos c3, if_pos rfl, Ho_3 hh, bS, Ho_w3 hh J _ (show x < 7 by omega), bS]
      refine ⟨_, fun p hp => up1_n _ _ (by omega), Or.inl ⟨⟨c2, c3⟩, rfl, HAt_set d c2 (fun p a b => up1_n _ _ b) rfl rfl (fun k hk => ?_) (fun k hk => ?_)⟩⟩
      · rw [up1_n _ _ (by omega)]
        by_cases e : k = x
        · subst e; rw [if_pos rfl]; exact (d3 k hk).2.2.1
        · rw [if_neg e]
      · rw [up1_s]; rfl
    · exact ⟨J, fun _ _ => rfl, Or.inr ⟨fun z => c3 z.2, by rw [if_neg c3, if_neg i10]⟩⟩
  · exact ⟨J, fun _ _ => rfl, Or.inr ⟨fun z => c2 z.1, by rw [if_neg c2, if_neg i10]⟩⟩
theorem C_takePerson (hh : isHo R S N h) (d : HAt J h FR PE SC TT) {x y : Nat} (hx : x < 1000) (hy : y < 1000) : ∃ J', (∀ p, (p < h ∨ h + 13 < p) → J' p = J p) ∧ (((PE.length < 5 ∧ x < 4 ∧ y < 21) ∧ fX4_takePerson h (nI x) (nI y) (J, R, S, N) = some (1, (J', R, S, N)) ∧ HAt J' h FR (PE ++ [(nI x, nI y)]) SC TT) ∨ (¬ (PE.length < 5 ∧ x < 4 ∧ y < 21) ∧ fX4_takePerson h (nI x) (nI y) (J, R, S, N) = some (0, (J', R, S, N)))) := by
  obtain ⟨d1, d2, d3, d4, d5, d6⟩ := id d
  rw [fX4_takePerson, Ho_g hh, bS, d2.2.1]
  by_cases c1 : PE.length < 5
  · rw [if_neg (show ¬ (5 : Int32) ≤ nI PE.length by rw [z5]; exact nI_ge c1 (by omega)), show (4 : Int32) = nI 4 from z4, C_outN (by omega) (by omega), bS]
    by_cases c2 : x < 4
    · rw [if_pos c2, if_pos rfl, show (21 : Int32) = nI 21 from z21, C_outN (by omega) (by omega), bS]
      by_cases c3 : y < 21
      · rw [if_pos c3, if_pos rfl]
        obtain ⟨J1, hJ1⟩ : ∃ J1, J1 = up1 J (h + 5) (upd (J (h + 5)) PE.length (nI x)) := ⟨_, rfl⟩
        obtain ⟨J2, hJ2⟩ : ∃ J2, J2 = up1 J1 (h + 6) (upd (J1 (h + 6)) PE.length (nI y)) := ⟨_, rfl⟩
        obtain ⟨J5, hJ5⟩ : ∃ J5, J5 = up1 J2 h (upd (J2 h) 7 (nI (PE.length + 1))) := ⟨_, rfl⟩
        have w1 : wrI (h + 5) (nI PE.length) (nI x) (J, R, S, N) = some (J1, R, S, N) := by rw [hJ1]; exact Ho_w5 hh J _ c1
        have w2 : wrI (h + 6) (nI PE.length) (nI y) (J1, R, S, N) = some (J2, R, S, N) := by rw [hJ2]; exact Ho_w6 hh J1 _ c1
        have w5 : pfI 3 7 h (nI (PE.length + 1)) (J2, R, S, N) = some (J5, R, S, N) := by rw [hJ5]; exact Ho_p hh J2 _ _
        have x1 : J1 h 7 = nI PE.length := by rw [hJ1, up1_n _ _ (by omega)]; exact d2.2.1
        have x2 : J2 h 7 = nI PE.length := by rw [hJ2, up1_n _ _ (by omega)]; exact x1
        have ff : ∀ p, p ≠ h → p ≠ h + 5 → p ≠ h + 6 → J5 p = J p := fun p a b c => by rw [hJ5, up1_n _ _ a, hJ2, up1_n _ _ c, hJ1, up1_n _ _ b]
        have y1 : J5 (h + 5) = upd (J (h + 5)) PE.length (nI x) := by rw [hJ5, up1_n _ _ (by omega), hJ2, up1_n _ _ (by omega), hJ1, up1_s]
        have y2 : J5 (h + 6) = upd (J (h + 6)) PE.length (nI y) := by rw [hJ5, up1_n _ _ (by omega), hJ2, up1_s, hJ1, up1_n _ _ (by omega)]
        have yh : ∀ j, j ≠ 7 → J5 h j = J h j := fun j hj => by rw [hJ5, up1_s]; simp only [upd, if_neg hj]; rw [hJ2, up1_n _ _ (by omega), hJ1, up1_n _ _ (by omega)]
        refine ⟨J5, fun p hp => ff p (by omega) (by omega) (by omega), Or.inl ⟨⟨c1, c2, c3⟩, ?_, ⟨by simp; omega, ?_, ?_, ?_, ?_, d6.of (fun p a b => ff p (by omega) (by omega) (by omega))⟩⟩⟩
        · simp only [Ho_5 hh, Ho_6 hh, Ho_g hh, bS, d2.2.1, w1, x1, w2, x2, nI_i1, w5]
        · refine ⟨by rw [yh 4 (by omega)]; exact d2.1, by rw [hJ5, up1_s]; simp [upd], by rw [yh 11 (by omega)]; exact d2.2.2⟩
        · intro k hk
          rw [ff (h + 1) (by omega) (by omega) (by omega), ff (h + 2) (by omega) (by omega) (by omega), ff (h + 3) (by omega) (by omega) (by omega), ff (h + 4) (by omega) (by omega) (by omega)]
          exact d3 k hk
        · intro k hk
          rw [List.length_append, List.length_singleton] at hk
          rw [y1, y2]
          by_cases e : k = PE.length
          · subst e
            rw [gDlast]
            simp [upd]
          · rw [gDapp (by omega)]
            simp only [upd, if_neg e]
            exact d4 k (by omega)
        · intro i hi
          rw [ff (h + 7) (by omega) (by omega) (by omega), ff (h + 8) (by omega) (by omega) (by omega), ff (h + 9) (by omega) (by omega) (by omega)]
          exact d5 i hi
      · exact ⟨J, fun _ _ => rfl, Or.inr ⟨fun z => c3 z.2.2, by rw [if_neg c3, if_neg i10]⟩⟩
    · exact ⟨J, fun _ _ => rfl, Or.inr ⟨fun z => c2 z.2.1, by rw [if_neg c2, if_neg i10]⟩⟩
  · exact ⟨J, fun _ _ => rfl, Or.inr ⟨fun z => c1 z.1, by rw [if_pos (show (5 : Int32) ≤ nI PE.length by rw [z5]; exact nI_le (by omega) (by omega))]⟩⟩
theorem C_takeTurn (hh : isHo R S N h) (d : HAt J h FR PE SC TT) {x y z : Nat} (hx : x < 1000) (hy : y < 1000) (hz : z < 1000) : ∃ J', (∀ p, (p < h ∨ h + 13 < p) → J' p = J p) ∧ (((TT.length < 8 ∧ x < 31 ∧ y < FR.length ∧ z < 41) ∧ fX4_takeTurn h (nI x) (nI y) (nI z) (J, R, S, N) = some (1, (J', R, S, N)) ∧ HAt J' h FR PE SC (TT ++ [(nI x, y, nI z - 20)])) ∨ (¬ (TT.length < 8 ∧ x < 31 ∧ y < FR.length ∧ z < 41) ∧ fX4_takeTurn h (nI x) (nI y) (nI z) (J, R, S, N) = some (0, (J', R, S, N)))) := by
  obtain ⟨d1, d2, d3, d4, d5, d6⟩ := id d
  have hT := Ho_T hh
  have d60 := d6.1
  rw [fX4_takeTurn, Ho_12 hh, bS, T_g hT, bS, d6.2.1]
  by_cases c1 : TT.length < 8
  · rw [if_neg (show ¬ (8 : Int32) ≤ nI TT.length by rw [z8]; exact nI_ge c1 (by omega)), show (31 : Int32) = nI 31 from z31, C_outN (by omega) (by omega), bS]
    by_cases c2 : x < 31
    · rw [if_pos c2, if_pos rfl, Ho_g hh, bS, d2.1, C_outN (by omega) (by omega), bS]
      by_cases c3 : y < FR.length
      · rw [if_pos c3, if_pos rfl, show (41 : Int32) = nI 41 from z41, C_outN (by omega) (by omega), bS]
        by_cases c4 : z < 41
        · obtain ⟨J', e1, e2, e3⟩ := T_add hT d6 c1 (nI x) y (nI z - 20)
          refine ⟨J', fun p hp => e3 p (by omega), Or.inl ⟨⟨c1, c2, c3, c4⟩, ?_, ⟨d1, ?_, ?_, ?_, ?_, e2⟩⟩⟩
          · rw [if_pos c4, if_pos rfl, Ho_12 hh, bS, T_o hT, bS, e1, bS]
          · rw [e3 h (by omega)]; exact d2
          · intro k hk
            rw [e3 (h + 1) (by omega), e3 (h + 2) (by omega), e3 (h + 3) (by omega), e3 (h + 4) (by omega)]
            exact d3 k hk
          · intro k hk
            rw [e3 (h + 5) (by omega), e3 (h + 6) (by omega)]
            exact d4 k hk
          · intro k hk
            rw [e3 (h + 7) (by omega), e3 (h + 8) (by omega), e3 (h + 9) (by omega)]
            exact d5 k hk
        · exact ⟨J, fun _ _ => rfl, Or.inr ⟨fun z => c4 z.2.2.2, by rw [if_neg c4, if_neg i10]⟩⟩
      · exact ⟨J, fun _ _ => rfl, Or.inr ⟨fun z => c3 z.2.2.1, by rw [if_neg c3, if_neg i10]⟩⟩
    · exact ⟨J, fun _ _ => rfl, Or.inr ⟨fun z => c2 z.2.1, by rw [if_neg c2, if_neg i10]⟩⟩
  · exact ⟨J, fun _ _ => rfl, Or.inr ⟨fun z => c1 z.1, by rw [if_pos (show (8 : Int32) ≤ nI TT.length by rw [z8]; exact nI_le (by omega) (by omega))]⟩⟩
theorem gDins (A B : List C3) (c : C3) (i : Nat) : (A ++ c :: B).getD i c3 = if i < A.length then (A ++ B).getD i c3 else if i = A.length then c else (A ++ B).getD (i - 1) c3 := by
  simp only [List.getD_eq_getElem?_getD]
  by_cases h1 : i < A.length
  · rw [if_pos h1, List.getElem?_append_left h1, List.getElem?_append_left h1]
  · rw [if_neg h1, List.getElem?_append_right (by omega)]
    by_cases h2 : i = A.length
    · subst h2
      simp
    · rw [if_neg h2, List.getElem?_append_right (by omega), List.getElem?_cons, if_neg (by omega), show i - A.length - 1 = i - 1 - A.length by omega]
/-- a coming of the row at a place -/
def Cr (J : Nat → Nat → Int32) (h i : Nat) (c : C3) : Prop := J (h + 7) i = nI c.1 ∧ J (h + 8) i = c.2.1 ∧ J (h + 9) i = c.2.2
theorem m1s {v : Nat} (h : 0 < v) : nI v + (-1 : Int32) = nI (v - 1) := by rw [← nI_sub1 h, Int32.sub_eq_add_neg]
theorem C_tcL (hh : isHo R S N h) {A B : List C3} {hr : Int32} (hA : ∀ c, c ∈ A → c.2.1 ≤ hr) (hB : ∀ c, c ∈ B → ¬ c.2.1 ≤ hr) (hn : (A ++ B).length < 10) (v1 v3 : Int32) (K : Int32 → Wd → Option (Int32 × Wd)) : ∀ (m f : Nat) (J : Nat → Nat → Int32), m ≤ B.length → m < f → (∀ i, i < A.length + m → Cr J h i ((A ++ B).getD i c3)) → (∀ i, A.length + m < i → i ≤ (A ++ B).length → Cr J h i ((A ++ B).getD (i - 1) c3)) →
    ∃ J', fX4_takeComing_45 h v1 hr v3 K f (nI (A.length + m)) (J, R, S, N) = K (nI A.length) (J', R, S, N) ∧ (∀ i, i < A.length → Cr J' h i ((A ++ B).getD i c3)) ∧ (∀ i, A.length < i → i ≤ (A ++ B).length → Cr J' h i ((A ++ B).getD (i - 1) c3)) ∧ ∀ p, p ≠ h + 7 → p ≠ h + 8 → p ≠ h + 9 → J' p = J p := by
  have hl : (A ++ B).length = A.length + B.length := List.length_append
  intro m
  induction m with
  | zero =>
    intro f J hm hf h1 h2
    obtain ⟨f, rfl⟩ : ∃ n', f = n' + 1 := ⟨f - 1, by omega⟩
    refine ⟨J, ?_, fun i hi => h1 i (by omega), fun i a b => h2 i (by omega) b, fun _ _ _ _ => rfl⟩
    rw [fX4_takeComing_45, Nat.add_zero]
    by_cases c : A.length = 0
    · rw [c, if_pos (by decide)]
    · have hi : A.length - 1 < A.length := by omega
      have hc : (A ++ B).getD (A.length - 1) c3 ∈ A := by
        rw [List.getD_eq_getElem?_getD, List.getElem?_append_left hi, List.getElem?_eq_getElem hi]
        exact List.getElem_mem hi
      rw [if_neg (nI_nle (by omega) (by omega)), Ho_9 hh, bS, nI_sub1 (by omega), Ho_r9 hh J (show A.length - 1 < 10 by omega), bS, (h1 (A.length - 1) (by omega)).2.1, if_pos (hA _ hc)]
  | succ m ih =>
    intro f J hm hf h1 h2
    obtain ⟨f, rfl⟩ : ∃ n', f = n' + 1 := ⟨f - 1, by omega⟩
    obtain ⟨v, hv⟩ : ∃ v, v = A.length + m := ⟨_, rfl⟩
    obtain ⟨q1, q2, q3⟩ := h1 v (by omega)
    have hi : m < B.length := by omega
    have hc : (A ++ B).getD v c3 ∈ B := by
      rw [List.getD_eq_getElem?_getD, List.getElem?_append_right (by omega), show v - A.length = m by omega, List.getElem?_eq_getElem hi]
      exact List.getElem_mem hi
    obtain ⟨J1, hJ1⟩ : ∃ J1, J1 = up1 J (h + 7) (upd (J (h + 7)) (v + 1) (J (h + 7) v)) := ⟨_, rfl⟩
    obtain ⟨J2, hJ2⟩ : ∃ J2, J2 = up1 J1 (h + 8) (upd (J1 (h + 8)) (v + 1) (J1 (h + 8) v)) := ⟨_, rfl⟩
    obtain ⟨J3, hJ3⟩ : ∃ J3, J3 = up1 J2 (h + 9) (upd (J2 (h + 9)) (v + 1) (J2 (h + 9) v)) := ⟨_, rfl⟩
    have w1 : wrI (h + 7) (nI (v + 1)) (J (h + 7) v) (J, R, S, N) = some (J1, R, S, N) := by rw [hJ1]; exact Ho_w8 hh J _ (by omega)
    have w2 : wrI (h + 8) (nI (v + 1)) (J1 (h + 8) v) (J1, R, S, N) = some (J2, R, S, N) := by rw [hJ2]; exact Ho_w9 hh J1 _ (by omega)
    have w3 : wrI (h + 9) (nI (v + 1)) (J2 (h + 9) v) (J2, R, S, N) = some (J3, R, S, N) := by rw [hJ3]; exact Ho_w10 hh J2 _ (by omega)
    have ff : ∀ p, p ≠ h + 7 → p ≠ h + 8 → p ≠ h + 9 → J3 p = J p := fun p a b c => by rw [hJ3, up1_n _ _ c, hJ2, up1_n _ _ b, hJ1, up1_n _ _ a]
    have y1 : J3 (h + 7) = upd (J (h + 7)) (v + 1) (J (h + 7) v) := by rw [hJ3, up1_n _ _ (by omega), hJ2, up1_n _ _ (by omega), hJ1, up1_s]
    have y2 : J3 (h + 8) = upd (J (h + 8)) (v + 1) (J (h + 8) v) := by rw [hJ3, up1_n _ _ (by omega), hJ2, up1_s, hJ1, up1_n _ _ (by omega)]
    have y3 : J3 (h + 9) = upd (J (h + 9)) (v + 1) (J (h + 9) v) := by rw [hJ3, up1_s, hJ2, up1_n _ _ (by omega), hJ1, up1_n _ _ (by omega)]
    have cr : ∀ i c, i ≠ v + 1 → Cr J h i c → Cr J3 h i c := fun i c hi hc => by
      unfold Cr
      rw [y1, y2, y3]
      simp only [upd, if_neg hi]
      exact hc
    obtain ⟨J', e1, e2, e3, e4⟩ := ih f J3 (by omega) (by omega) (fun i hi => cr i _ (by omega) (h1 i (by omega))) (fun i a b => by
      by_cases e : i = v + 1
      · subst e
        unfold Cr
        rw [y1, y2, y3, show v + 1 - 1 = v by omega]
        simp only [upd, if_true]
        exact ⟨q1, q2, q3⟩
      · exact cr i _ e (h2 i (by omega) b))
    refine ⟨J', ?_, e2, e3, fun p a b c => by rw [e4 p a b c, ff p a b c]⟩
    have r1 := Ho_r8 hh J (show v < 10 by omega)
    have r2 := Ho_r9 hh J1 (show v < 10 by omega)
    have r3 := Ho_r10 hh J2 (show v < 10 by omega)
    rw [show A.length + (m + 1) = v + 1 by omega, fX4_takeComing_45, if_neg (nI_nle (by omega) (by omega)), Ho_9 hh, bS, nI_sub1 (by omega), show v + 1 - 1 = v by omega, Ho_r9 hh J (show v < 10 by omega), bS, q2, if_neg (hB _ hc)]
    simp only [Ho_8 hh, Ho_9 hh, Ho_10 hh, bS, r1, w1, r2, w2, r3, w3]
    rw [m1s (by omega), show v + 1 - 1 = A.length + m by omega]
    exact e1
theorem C_takeComing (hh : isHo R S N h) (d : HAt J h FR PE (bkt CO) TT) {x y z : Nat} (hx : x < 1000) (hy : y < 1000) (hz : z < 1000) (hlen : (bkt CO).length = CO.length) : ∃ J', (∀ p, (p < h ∨ h + 13 < p) → J' p = J p) ∧ (((CO.length < 10 ∧ x < PE.length ∧ y < 24 ∧ z < 4) ∧ fX4_takeComing h (nI x) (nI y) (nI z) (J, R, S, N) = some (1, (J', R, S, N)) ∧ HAt J' h FR PE (bkt (CO ++ [(x, nI y, nI z)])) TT) ∨ (¬ (CO.length < 10 ∧ x < PE.length ∧ y < 24 ∧ z < 4) ∧ fX4_takeComing h (nI x) (nI y) (nI z) (J, R, S, N) = some (0, (J', R, S, N)))) := by
  obtain ⟨d1, d2, d3, d4, d5, d6⟩ := id d
  rw [fX4_takeComing, Ho_g hh, bS, d2.2.2]
  by_cases c1 : CO.length < 10
  · rw [if_neg (show ¬ (10 : Int32) ≤ nI (bkt CO).length by rw [z10, hlen]; exact nI_ge c1 (by omega)), Ho_g hh, bS, d2.2.1, C_outN (by omega) (by omega), bS]
    by_cases c2 : x < PE.length
    · rw [if_pos c2, if_pos rfl, show (24 : Int32) = nI 24 from z24, C_outN (by omega) (by omega), bS]
      by_cases c3 : y < 24
      · rw [if_pos c3, if_pos rfl, show (4 : Int32) = nI 4 from z4, C_outN (by omega) (by omega), bS]
        by_cases c4 : z < 4
        · rw [if_pos c4, if_pos rfl]
          obtain ⟨b1, b2⟩ := bkt_app (CO := CO) (c := (x, nI y, nI z)) (h0 := y) rfl c3
          obtain ⟨A, hA⟩ : ∃ A, A = bkN CO (y + 1) := ⟨_, rfl⟩
          obtain ⟨B, hB⟩ : ∃ B, B = bkM CO (y + 1) (23 - y) := ⟨_, rfl⟩
          rw [← hA, ← hB] at b1 b2
          have hAle : ∀ c, c ∈ A → c.2.1 ≤ nI y := fun c hc => by
            rw [hA] at hc
            have := bkN_le (by omega) c hc
            rw [ltT, nI_toInt (by omega)] at this
            rw [leT, nI_toInt (by omega)]
            omega
          have hBgt : ∀ c, c ∈ B → ¬ c.2.1 ≤ nI y := fun c hc => by
            rw [hB] at hc
            have := bkM_ge (by omega) c hc
            rw [leT, nI_toInt (by omega)] at this
            rw [leT, nI_toInt (by omega)]
            omega
          have hlb : (A ++ B).length = CO.length := by rw [← b2, hlen]
          have hlab : (A ++ B).length = A.length + B.length := List.length_append
          obtain ⟨J1, e1, e2, e3, e4⟩ := C_tcL hh hAle hBgt (by omega) (nI x) (nI z) (fun (v4_28 : Int32) (w_27 : Wd) => (gfR 3 8 h w_27).bind fun r_29 => (wrI r_29 v4_28 (nI x) w_27).bind fun w_30 => (gfR 3 9 h w_30).bind fun r_31 => (wrI r_31 v4_28 (nI y) w_30).bind fun w_32 => (gfR 3 10 h w_32).bind fun r_33 => (wrI r_33 v4_28 (nI z) w_32).bind fun w_34 => (gfI 3 11 h w_34).bind fun x_35 => (pfI 3 11 h (x_35 + (1 : Int32)) w_34).bind fun w_36 => some ((1 : Int32), w_36)) B.length FV J (Nat.le_refl _) (FV_lt (by omega)) (fun i hi => by
            rw [← b2]
            exact d5 i (by rw [b2, hlab]; omega)) (fun i a b => by omega)
          rw [← hlab, ← b2] at e1
          obtain ⟨J2, hJ2⟩ : ∃ J2, J2 = up1 J1 (h + 7) (upd (J1 (h + 7)) A.length (nI x)) := ⟨_, rfl⟩
          obtain ⟨J3, hJ3⟩ : ∃ J3, J3 = up1 J2 (h + 8) (upd (J2 (h + 8)) A.length (nI y)) := ⟨_, rfl⟩
          obtain ⟨J4, hJ4⟩ : ∃ J4, J4 = up1 J3 (h + 9) (upd (J3 (h + 9)) A.length (nI z)) := ⟨_, rfl⟩
          obtain ⟨J5, hJ5⟩ : ∃ J5, J5 = up1 J4 h (upd (J4 h) 11 (nI (CO.length + 1))) := ⟨_, rfl⟩
          have w2 : wrI (h + 7) (nI A.length) (nI x) (J1, R, S, N) = some (J2, R, S, N) := by rw [hJ2]; exact Ho_w8 hh J1 _ (by omega)
          have w3 : wrI (h + 8) (nI A.length) (nI y) (J2, R, S, N) = some (J3, R, S, N) := by rw [hJ3]; exact Ho_w9 hh J2 _ (by omega)
          have w4 : wrI (h + 9) (nI A.length) (nI z) (J3, R, S, N) = some (J4, R, S, N) := by rw [hJ4]; exact Ho_w10 hh J3 _ (by omega)
          have w5 : pfI 3 11 h (nI (CO.length + 1)) (J4, R, S, N) = some (J5, R, S, N) := by rw [hJ5]; exact Ho_p hh J4 _ _
          have hJ4h : J4 h = J h := by rw [hJ4, up1_n _ _ (by omega), hJ3, up1_n _ _ (by omega), hJ2, up1_n _ _ (by omega), e4 h (by omega) (by omega) (by omega)]
          have x4 : J4 h 11 = nI CO.length := by rw [hJ4h, d2.2.2, hlen]
          have ff : ∀ p, p ≠ h → p ≠ h + 7 → p ≠ h + 8 → p ≠ h + 9 → J5 p = J p := fun p a b c e => by rw [hJ5, up1_n _ _ a, hJ4, up1_n _ _ e, hJ3, up1_n _ _ c, hJ2, up1_n _ _ b, e4 p b c e]
          have y1 : J5 (h + 7) = upd (J1 (h + 7)) A.length (nI x) := by rw [hJ5, up1_n _ _ (by omega), hJ4, up1_n _ _ (by omega), hJ3, up1_n _ _ (by omega), hJ2, up1_s]
          have y2 : J5 (h + 8) = upd (J1 (h + 8)) A.length (nI y) := by rw [hJ5, up1_n _ _ (by omega), hJ4, up1_n _ _ (by omega), hJ3, up1_s, hJ2, up1_n _ _ (by omega)]
          have y3 : J5 (h + 9) = upd (J1 (h + 9)) A.length (nI z) := by rw [hJ5, up1_n _ _ (by omega), hJ4, up1_s, hJ3, up1_n _ _ (by omega), hJ2, up1_n _ _ (by omega)]
          have yh : ∀ j, j ≠ 11 → J5 h j = J h j := fun j hj => by rw [hJ5, up1_s]; simp only [upd, if_neg hj]; rw [hJ4h]
          have hbl : (bkt (CO ++ [(x, nI y, nI z)])).length = CO.length + 1 := by rw [b1, List.length_append, List.length_cons]; omega
          refine ⟨J5, fun p hp => ff p (by omega) (by omega) (by omega) (by omega), Or.inl ⟨⟨c1, c2, c3, c4⟩, ?_, ⟨by rw [hbl]; omega, ?_, ?_, ?_, ?_, d6.of (fun p a b => ff p (by omega) (by omega) (by omega) (by omega))⟩⟩⟩
          · rw [Ho_g hh, bS, d2.2.2]
            refine e1.trans ?_
            show ((gfR 3 8 h (J1, R, S, N)).bind fun r_29 => (wrI r_29 (nI A.length) (nI x) (J1, R, S, N)).bind fun w_30 => (gfR 3 9 h w_30).bind fun r_31 => (wrI r_31 (nI A.length) (nI y) w_30).bind fun w_32 => (gfR 3 10 h w_32).bind fun r_33 => (wrI r_33 (nI A.length) (nI z) w_32).bind fun w_34 => (gfI 3 11 h w_34).bind fun x_35 => (pfI 3 11 h (x_35 + (1 : Int32)) w_34).bind fun w_36 => some ((1 : Int32), w_36)) = _
            simp only [Ho_8 hh, Ho_9 hh, Ho_10 hh, Ho_g hh, bS, w2, w3, w4, x4, nI_i1, w5]
          · refine ⟨by rw [yh 4 (by omega)]; exact d2.1, by rw [yh 7 (by omega)]; exact d2.2.1, by rw [hJ5, up1_s, hbl]; simp [upd]⟩
          · intro k hk
            rw [ff (h + 1) (by omega) (by omega) (by omega) (by omega), ff (h + 2) (by omega) (by omega) (by omega) (by omega), ff (h + 3) (by omega) (by omega) (by omega) (by omega), ff (h + 4) (by omega) (by omega) (by omega) (by omega)]
            exact d3 k hk
          · intro k hk
            rw [ff (h + 5) (by omega) (by omega) (by omega) (by omega), ff (h + 6) (by omega) (by omega) (by omega) (by omega)]
            exact d4 k hk
          · intro i hi
            rw [hbl] at hi
            rw [b1, gDins, y1, y2, y3]
            by_cases h1 : i < A.length
            · rw [if_pos h1]
              simp only [upd, if_neg (show ¬ i = A.length by omega)]
              exact e2 i h1
            · rw [if_neg h1]
              by_cases h2 : i = A.length
              · subst h2
                simp [upd]
              · rw [if_neg h2]
                simp only [upd, if_neg h2]
                exact e3 i (by omega) (by omega)
        · exact ⟨J, fun _ _ => rfl, Or.inr ⟨fun z => c4 z.2.2.2, by rw [if_neg c4, if_neg i10]⟩⟩
      · exact ⟨J, fun _ _ => rfl, Or.inr ⟨fun z => c3 z.2.2.1, by rw [if_neg c3, if_neg i10]⟩⟩
    · exact ⟨J, fun _ _ => rfl, Or.inr ⟨fun z => c2 z.2.1, by rw [if_neg c2, if_neg i10]⟩⟩
  · exact ⟨J, fun _ _ => rfl, Or.inr ⟨fun z => c1 z.1, by rw [if_pos (show (10 : Int32) ≤ nI (bkt CO).length by rw [z10, hlen]; exact nI_le (by omega) (by omega))]⟩⟩
end TAKE
