/-- what the reference has read so far -/
def RD (J : Nat → Nat → Int32) (q : Nat) (hs : HS) : Prop := (J q 18 = nI hs.1.length ∧ J q 20 = nI hs.2.1.length ∧ J q 22 = nI hs.2.2.1.length) ∧ (∀ k, k < hs.1.length → J (q + 11) (4 * k) = (hs.1.getD k f4).1 ∧ J (q + 11) (4 * k + 1) = (hs.1.getD k f4).2.1 ∧ J (q + 11) (4 * k + 2) = (hs.1.getD k f4).2.2.1 ∧ J (q + 11) (4 * k + 3) = (hs.1.getD k f4).2.2.2) ∧ (∀ i, i < hs.2.1.length → J (q + 12) (2 * i) = (hs.2.1.getD i p2).1 ∧ J (q + 12) (2 * i + 1) = (hs.2.1.getD i p2).2) ∧ (∀ c, c < hs.2.2.1.length → J (q + 13) (3 * c) = nI (hs.2.2.1.getD c c3).1 ∧ J (q + 13) (3 * c + 1) = (hs.2.2.1.getD c c3).2.1 ∧ J (q + 13) (3 * c + 2) = (hs.2.2.1.getD c c3).2.2) ∧ StAt (J (q + 14)) hs.2.2.2
theorem RD.of {J J' : Nat → Nat → Int32} {q : Nat} {hs : HS} (h : RD J q hs) (e18 : J' q 18 = J q 18) (e20 : J' q 20 = J q 20) (e22 : J' q 22 = J q 22) (e : ∀ p, q + 11 ≤ p → p ≤ q + 14 → J' p = J p) : RD J' q hs := by
  unfold RD
  rw [e18, e20, e22, e (q + 11) (by omega) (by omega), e (q + 12) (by omega) (by omega), e (q + 13) (by omega) (by omega), e (q + 14) (by omega) (by omega)]
  exact h
theorem FN.rd {J J' : Nat → Nat → Int32} {q : Nat} {hs : HS} (h : FN J J' q) (d : RD J q hs) : RD J' q hs := d.of (h.2 _ (by omega)) (h.2 _ (by omega)) (h.2 _ (by omega)) (fun p a b => h.1 p (by omega) (by omega))
def RdO (tx : List Int32) (J : Nat → Nat → Int32) (R : Nat → Nat → Option Nat) (S : Nat → Nat × Nat) (N q : Nat) (c : Int32) (k : Nat) (hs : HS) (out : Option (Int32 × Wd)) : Prop := ∃ J', FT J J' q ∧ ((∃ r hs', rds tx (wnt c) k = some r ∧ stp hs c (r.1.getD 0 0) (r.1.getD 1 0) (r.1.getD 2 0) = some hs' ∧ out = some (1, (J', R, S, N)) ∧ RD J' q hs' ∧ J' q 16 = nI r.2) ∨ ((∀ r, rds tx (wnt c) k = some r → stp hs c (r.1.getD 0 0) (r.1.getD 1 0) (r.1.getD 2 0) = none) ∧ out = some (0, (J', R, S, N))))
section MITEM
variable {R : Nat → Nat → Option Nat} {S : Nat → Nat × Nat} {N q : Nat} {tx : List Int32} {J : Nat → Nat → Int32} {hs : HS}
theorem M_putL {dst src nd ns b n : Nat} (hd : isA S N dst nd) (hs' : isA S N src ns) (hne : src ≠ dst) (hnd : nd ≤ 1000) (hns : ns ≤ 1000) (hb : b + n ≤ nd) (hn : n ≤ ns) (K : Wd → Option (Unit × Wd)) : ∀ (m i f : Nat) (J : Nat → Nat → Int32), i + m = n → m < f → ∃ J', fX12_put_3 dst (nI b) src (nI n) K f (nI i) (J, R, S, N) = K (J', R, S, N) ∧ (∀ j, i ≤ j → j < n → J' dst (b + j) = J src j) ∧ (∀ j, (j < b + i ∨ b + n ≤ j) → J' dst j = J dst j) ∧ ∀ p, p ≠ dst → J' p = J p := by
  intro m
  induction m with
  | zero =>
    intro i f J hi hf
    obtain ⟨f, rfl⟩ : ∃ n', f = n' + 1 := ⟨f - 1, by omega⟩
    refine ⟨J, ?_, fun j a b => by omega, fun _ _ => rfl, fun _ _ => rfl⟩
    rw [fX12_put_3, if_pos (nI_le (by omega) (by omega))]
  | succ m ih =>
    intro i f J hi hf
    obtain ⟨f, rfl⟩ : ∃ n', f = n' + 1 := ⟨f - 1, by omega⟩
    obtain ⟨J', e1, e2, e3, e4⟩ := ih (i + 1) f (up1 J dst (upd (J dst) (b + i) (J src i))) (by omega) (by omega)
    have r1 : rdI src (nI i) (J, R, S, N) = some (J src i) := rd hs'.1 hs'.2 (show i < ns by omega) (by omega)
    have w1 : wrI dst (nI (b + i)) (J src i) (J, R, S, N) = some (up1 J dst (upd (J dst) (b + i) (J src i)), R, S, N) := wr hd.1 hd.2 (show b + i < nd by omega) (by omega)
    refine ⟨J', ?_, fun j a c => ?_, fun j a => ?_, fun p hp => by rw [e4 p hp, up1_n _ _ hp]⟩
    · rw [fX12_put_3, if_neg (nI_ge (by omega) (by omega)), r1, bS, nI_add, w1, bS, nI_i1]
      exact e1
    · by_cases e : j = i
      · subst e
        rw [e3 (b + j) (by omega), up1_s]
        simp [upd]
      · rw [e2 j (by omega) c, up1_n _ _ hne]
    · rw [e3 j (by omega), up1_s]
      simp only [upd, if_neg (show ¬ j = b + i by omega)]
theorem M_put {dst src nd ns b n : Nat} (hd : isA S N dst nd) (hs' : isA S N src ns) (hne : src ≠ dst) (hnd : nd ≤ 1000) (hns : ns ≤ 1000) (hb : b + n ≤ nd) (hn : n ≤ ns) {bI nI' : Int32} (hbI : bI = nI b) (hnI : nI' = nI n) (J : Nat → Nat → Int32) : ∃ J', fX12_put dst bI src nI' (J, R, S, N) = some ((), (J', R, S, N)) ∧ (∀ j, j < n → J' dst (b + j) = J src j) ∧ (∀ j, (j < b ∨ b + n ≤ j) → J' dst j = J dst j) ∧ ∀ p, p ≠ dst → J' p = J p := by
  subst hbI hnI
  obtain ⟨J', e1, e2, e3, e4⟩ := M_putL (R := R) hd hs' hne hnd hns hb hn (fun w => some ((), w)) n 0 FV J (by omega) (FV_lt (by omega))
  rw [← z0] at e1
  exact ⟨J', e1, fun j hj => e2 j (by omega) hj, fun j hj => e3 j (by omega), e4⟩
theorem M_lays {dst nd a : Nat} (hd : isA S N dst nd) (hnd : nd ≤ 1000) (ha : a + 2 < nd) (x y z : Int32) (J : Nat → Nat → Int32) : fX12_lays dst (nI a) x y z (J, R, S, N) = some ((), (up1 J dst (upd (upd (upd (J dst) a x) (a + 1) y) (a + 2) z), R, S, N)) := by
  have w1 : wrI dst (nI a) x (J, R, S, N) = some (up1 J dst (upd (J dst) a x), R, S, N) := wr hd.1 hd.2 (show a < nd by omega) (by omega)
  have w2 : wrI dst (nI (a + 1)) y (up1 J dst (upd (J dst) a x), R, S, N) = some (up1 J dst (upd (upd (J dst) a x) (a + 1) y), R, S, N) := by rw [wr hd.1 hd.2 (show a + 1 < nd by omega) (by omega), up1_s, up1_u]
  have w3 : wrI dst (nI (a + 2)) z (up1 J dst (upd (upd (J dst) a x) (a + 1) y), R, S, N) = some (up1 J dst (upd (upd (upd (J dst) a x) (a + 1) y) (a + 2) z), R, S, N) := by rw [wr hd.1 hd.2 (show a + 2 < nd by omega) (by omega), up1_s, up1_u]
  rw [fX12_lays, w1, bS, nI_i1, w2, bS, nI_i2, w3, bS]
theorem z23 : (23 : Int32) = nI 23 := by decide
theorem cI {m : Int32} {n : Nat} (h : m = nI n) : m = nI (n + 1) - 1 := by rw [h, nI_sub1 (by omega), Nat.add_sub_cancel]
theorem Mo_A10 (hm : isMo R S N q) : isA S N (q + 10) 4 := ⟨by have := hm.1; omega, hm.2.2.2.2.2.2.2.2.2.2.2.1.1⟩
theorem Mo_A11 (hm : isMo R S N q) : isA S N (q + 11) 28 := ⟨by have := hm.1; omega, hm.2.2.2.2.2.2.2.2.2.2.2.2.1.1⟩
theorem Mo_A12 (hm : isMo R S N q) : isA S N (q + 12) 10 := ⟨by have := hm.1; omega, hm.2.2.2.2.2.2.2.2.2.2.2.2.2.1.1⟩
theorem Mo_A13 (hm : isMo R S N q) : isA S N (q + 13) 30 := ⟨by have := hm.1; omega, hm.2.2.2.2.2.2.2.2.2.2.2.2.2.2.1.1⟩
theorem Mo_A14 (hm : isMo R S N q) : isA S N (q + 14) 25 := ⟨by have := hm.1; omega, hm.2.2.2.2.2.2.2.2.2.2.2.2.2.2.2.1.1⟩
theorem Mo_A1 (hm : isMo R S N q) : isA S N (q + 1) 28 := ⟨by have := hm.1; omega, hm.2.2.1.1⟩
theorem Mo_A2 (hm : isMo R S N q) : isA S N (q + 2) 10 := ⟨by have := hm.1; omega, hm.2.2.2.1.1⟩
theorem Mo_A3 (hm : isMo R S N q) : isA S N (q + 3) 30 := ⟨by have := hm.1; omega, hm.2.2.2.2.1.1⟩
theorem Mo_A5 (hm : isMo R S N q) : isA S N (q + 5) 25 := ⟨by have := hm.1; omega, hm.2.2.2.2.2.2.1.1⟩
theorem i01 : (if (0 : Nat) = 1 then (1 : Int32) else 0) = 0 := rfl
theorem rdT (hm : isMo R S N q) (J : Nat → Nat → Int32) : rdI (q + 10) 0 (J, R, S, N) = some (J (q + 10) 0) ∧ rdI (q + 10) 1 (J, R, S, N) = some (J (q + 10) 1) ∧ rdI (q + 10) 2 (J, R, S, N) = some (J (q + 10) 2) := by
  refine ⟨?_, ?_, ?_⟩
  · rw [show (0 : Int32) = nI 0 from z0]; exact Mo_r17 hm J (by omega)
  · rw [show (1 : Int32) = nI 1 from z1]; exact Mo_r17 hm J (by omega)
  · rw [show (2 : Int32) = nI 2 from z2]; exact Mo_r17 hm J (by omega)
theorem M_readFrameOf (hm : isMo R S N q) (ok : okHS hs) (d : MT J q tx) (dR : RD J q hs) {k : Nat} (hk : k < 2 ^ 19) (hJ : J q 16 = nI k) : RdO tx J R S N q 102 k hs (fX12_readFrameOf q (J, R, S, N)) := by
  have okl := ok.1
  have hst : ∀ x y z, stp hs 102 x y z = if hs.1.length < 7 ∧ x < 4 ∧ y < 41 then some (hs.1 ++ [(nI x, nI y - 20, 0, 0)], hs.2) else none := fun x y z => by unfold stp; rw [if_neg (by decide), if_pos rfl]
  have hw : wnt 102 = 2 := by decide
  unfold RdO
  rw [hw, fX12_readFrameOf, Mo_g hm, bS, dR.1.1]
  by_cases c1 : hs.1.length < 7
  · rw [if_neg (show ¬ nI hs.1.length = (7 : Int32) from fun z => by rw [z7] at z; have := (nI_eq (by omega) (by omega)).mp z; omega), Mo_o hm, bS]
    obtain ⟨J1, n1, ⟨e1, e2⟩ | ⟨r, e1, e2, e3, e4⟩⟩ := M_readNumbers (R := R) (S := S) (N := N) hm (show 2 ≤ 3 by omega) z2 d hk hJ
    · refine ⟨J1, n1.ft, Or.inr ⟨fun r hr => (by rw [e1] at hr; cases hr), ?_⟩⟩
      rw [e2, bS]
      exact if_pos rfl
    · obtain ⟨-, -, hb⟩ := rds_le tx _ _ _ e1
      have b0 := hb 0 (by omega)
      have b1 := hb 1 (by omega)
      have t0 := e4 0 (by omega)
      have t1 := e4 1 (by omega)
      have dR1 := n1.rd dR
      obtain ⟨q0, q1, -⟩ := rdT (R := R) (S := S) hm J1
      rw [e2, bS, if_neg i10, Mo_o hm, bS, M_isTold hm (show 0 < 4 by omega) z0 (cI z3) (by omega) (by omega) t0, bS]
      by_cases c2 : r.1.getD 0 0 < 4
      · rw [if_pos c2, if_neg i10, Mo_o hm, bS, M_isTold hm (show 1 < 4 by omega) z1 (cI z40) (by omega) (by omega) t1, bS]
        by_cases c3 : r.1.getD 1 0 < 41
        · obtain ⟨J2, hJ2⟩ : ∃ J2, J2 = up1 J1 (q + 11) (upd (upd (upd (J1 (q + 11)) (4 * hs.1.length) (nI (r.1.getD 0 0))) (4 * hs.1.length + 1) (nI (r.1.getD 1 0) - 20)) (4 * hs.1.length + 2) 0) := ⟨_, rfl⟩
          obtain ⟨J3, hJ3⟩ : ∃ J3, J3 = up1 J2 (q + 11) (upd (J2 (q + 11)) (4 * hs.1.length + 3) 0) := ⟨_, rfl⟩
          obtain ⟨J4, hJ4⟩ : ∃ J4, J4 = up1 J3 q (upd (J3 q) 18 (nI (hs.1.length + 1))) := ⟨_, rfl⟩
          have w2 : fX12_lays (q + 11) (nI (4 * hs.1.length)) (nI (r.1.getD 0 0)) (nI (r.1.getD 1 0) - 20) 0 (J1, R, S, N) = some ((), (J2, R, S, N)) := by rw [hJ2]; exact M_lays (Mo_A11 hm) (by omega) (by omega) _ _ _ _
          have w3 : wrI (q + 11) (nI (4 * hs.1.length + 3)) 0 (J2, R, S, N) = some (J3, R, S, N) := by rw [hJ3]; exact Mo_w19 hm J2 _ (by omega)
          have w4 : pfI 11 18 q (nI (hs.1.length + 1)) (J3, R, S, N) = some (J4, R, S, N) := by rw [hJ4]; exact Mo_p hm J3 _ _
          have x1 : J1 q 18 = nI hs.1.length := dR1.1.1
          have x3 : J3 q 18 = nI hs.1.length := by rw [hJ3, up1_n _ _ (by omega), hJ2, up1_n _ _ (by omega)]; exact x1
          have f4' : ∀ p, p ≠ q → p ≠ q + 11 → J4 p = J1 p := fun p a b => by rw [hJ4, up1_n _ _ a, hJ3, up1_n _ _ b, hJ2, up1_n _ _ b]
          have g4 : ∀ j, j ≠ 18 → J4 q j = J1 q j := fun j hj => by rw [hJ4, up1_s]; simp only [upd, if_neg hj]; rw [hJ3, up1_n _ _ (by omega), hJ2, up1_n _ _ (by omega)]
          have y4 : J4 (q + 11) = upd (upd (upd (upd (J1 (q + 11)) (4 * hs.1.length) (nI (r.1.getD 0 0))) (4 * hs.1.length + 1) (nI (r.1.getD 1 0) - 20)) (4 * hs.1.length + 2) 0) (4 * hs.1.length + 3) 0 := by rw [hJ4, up1_n _ _ (by omega), hJ3, up1_s, hJ2, up1_s]
          refine ⟨J4, n1.ft.tr ⟨fun p a b => f4' p a (by omega), fun j a b c e => g4 j b⟩, Or.inl ⟨r, _, e1, by rw [hst, if_pos ⟨c1, c2, c3⟩], ?_, ⟨⟨?_, ?_, ?_⟩, ?_, ?_, ?_, ?_⟩, by rw [g4 16 (by omega)]; exact e3⟩⟩
          · rw [if_pos c3, if_neg i10]
            simp only [Mo_g hm, Mo_19 hm, Mo_17 hm, bS, x1, q0, q1, t0, t1, ix4, w2, nI_i3, w3, x3, nI_i1, w4]
          · rw [hJ4, up1_s, List.length_append]; simp [upd]
          · rw [g4 20 (by omega)]; exact dR1.1.2.1
          · rw [g4 22 (by omega)]; exact dR1.1.2.2
          · intro j hj
            rw [List.length_append, List.length_singleton] at hj
            rw [y4]
            by_cases e : j = hs.1.length
            · subst e
              rw [gDlast]
              simp [upd]
            · rw [gDapp (by omega)]
              have := dR1.2.1 j (by omega)
              simp only [upd, if_neg (show ¬ 4 * j = 4 * hs.1.length by omega), if_neg (show ¬ 4 * j = 4 * hs.1.length + 1 by omega), if_neg (show ¬ 4 * j = 4 * hs.1.length + 2 by omega), if_neg (show ¬ 4 * j = 4 * hs.1.length + 3 by omega), if_neg (show ¬ 4 * j + 1 = 4 * hs.1.length by omega), if_neg (show ¬ 4 * j + 1 = 4 * hs.1.length + 1 by omega), if_neg (show ¬ 4 * j + 1 = 4 * hs.1.length + 2 by omega), if_neg (show ¬ 4 * j + 1 = 4 * hs.1.length + 3 by omega), if_neg (show ¬ 4 * j + 2 = 4 * hs.1.length by omega), if_neg (show ¬ 4 * j + 2 = 4 * hs.1.length + 1 by omega), if_neg (show ¬ 4 * j + 2 = 4 * hs.1.length + 2 by omega), if_neg (show ¬ 4 * j + 2 = 4 * hs.1.length + 3 by omega), if_neg (show ¬ 4 * j + 3 = 4 * hs.1.length by omega), if_neg (show ¬ 4 * j + 3 = 4 * hs.1.length + 1 by omega), if_neg (show ¬ 4 * j + 3 = 4 * hs.1.length + 2 by omega), if_neg (show ¬ 4 * j + 3 = 4 * hs.1.length + 3 by omega)]
              exact this
          · rw [f4' (q + 12) (by omega) (by omega)]; exact dR1.2.2.1
          · rw [f4' (q + 13) (by omega) (by omega)]; exact dR1.2.2.2.1
          · rw [f4' (q + 14) (by omega) (by omega)]; exact dR1.2.2.2.2
        · refine ⟨J1, n1.ft, Or.inr ⟨fun r' hr => ?_, by rw [if_neg c3, if_pos rfl]⟩⟩
          rw [e1] at hr
          cases hr
          rw [hst, if_neg (fun z => c3 z.2.2)]
      · refine ⟨J1, n1.ft, Or.inr ⟨fun r' hr => ?_, by rw [if_neg c2, if_pos rfl]⟩⟩
        rw [e1] at hr
        cases hr
        rw [hst, if_neg (fun z => c2 z.2.1)]
  · refine ⟨J, FT.rf, Or.inr ⟨fun r hr => by rw [hst, if_neg (fun z => c1 z.1)], ?_⟩⟩
    exact if_pos (by rw [show hs.1.length = 7 by omega]; exact z7.symm)
theorem M_readPersonOf (hm : isMo R S N q) (ok : okHS hs) (d : MT J q tx) (dR : RD J q hs) {k : Nat} (hk : k < 2 ^ 19) (hJ : J q 16 = nI k) : RdO tx J R S N q 112 k hs (fX12_readPersonOf q (J, R, S, N)) := by
  have okl := ok.1
  have hst : ∀ x y z, stp hs 112 x y z = if hs.2.1.length < 5 ∧ x < 4 ∧ y < 21 then some (hs.1, hs.2.1 ++ [(nI x, nI y)], hs.2.2) else none := fun x y z => by unfold stp; rw [if_neg (by decide), if_neg (by decide), if_neg (by decide), if_pos rfl]
  have hw : wnt 112 = 2 := by decide
  unfold RdO
  rw [hw, fX12_readPersonOf, Mo_g hm, bS, dR.1.2.1]
  by_cases c1 : hs.2.1.length < 5
  · rw [if_neg (show ¬ nI hs.2.1.length = (5 : Int32) from fun z => by rw [z5] at z; have := (nI_eq (by omega) (by omega)).mp z; omega), Mo_o hm, bS]
    obtain ⟨J1, n1, ⟨e1, e2⟩ | ⟨r, e1, e2, e3, e4⟩⟩ := M_readNumbers (R := R) (S := S) (N := N) hm (show 2 ≤ 3 by omega) z2 d hk hJ
    · refine ⟨J1, n1.ft, Or.inr ⟨fun r hr => (by rw [e1] at hr; cases hr), ?_⟩⟩
      rw [e2, bS]
      exact if_pos rfl
    · obtain ⟨-, -, hb⟩ := rds_le tx _ _ _ e1
      have b0 := hb 0 (by omega)
      have b1 := hb 1 (by omega)
      have t0 := e4 0 (by omega)
      have t1 := e4 1 (by omega)
      have dR1 := n1.rd dR
      rw [e2, bS, if_neg i10, Mo_o hm, bS, M_isTold hm (show 0 < 4 by omega) z0 (cI z3) (by omega) (by omega) t0, bS]
      by_cases c2 : r.1.getD 0 0 < 4
      · rw [if_pos c2, if_neg i10, Mo_o hm, bS, M_isTold hm (show 1 < 4 by omega) z1 (cI z20) (by omega) (by omega) t1, bS]
        by_cases c3 : r.1.getD 1 0 < 21
        · obtain ⟨J2, w2, p1, p2', p3⟩ := M_put (R := R) (Mo_A12 hm) (Mo_A10 hm) (by omega) (by omega) (by omega) (show 2 * hs.2.1.length + 2 ≤ 10 by omega) (show 2 ≤ 4 by omega) rfl z2 J1
          obtain ⟨J4, hJ4⟩ : ∃ J4, J4 = up1 J2 q (upd (J2 q) 20 (nI (hs.2.1.length + 1))) := ⟨_, rfl⟩
          have w4 : pfI 11 20 q (nI (hs.2.1.length + 1)) (J2, R, S, N) = some (J4, R, S, N) := by rw [hJ4]; exact Mo_p hm J2 _ _
          have x1 : J1 q 20 = nI hs.2.1.length := dR1.1.2.1
          have x2 : J2 q 20 = nI hs.2.1.length := by rw [p3 q (by omega)]; exact x1
          have f4' : ∀ p, p ≠ q → p ≠ q + 12 → J4 p = J1 p := fun p a b => by rw [hJ4, up1_n _ _ a, p3 p b]
          have g4 : ∀ j, j ≠ 20 → J4 q j = J1 q j := fun j hj => by rw [hJ4, up1_s]; simp only [upd, if_neg hj]; rw [p3 q (by omega)]
          have y4 : J4 (q + 12) = J2 (q + 12) := by rw [hJ4, up1_n _ _ (by omega)]
          refine ⟨J4, n1.ft.tr ⟨fun p a b => f4' p a (by omega), fun j a b c e => g4 j c⟩, Or.inl ⟨r, _, e1, by rw [hst, if_pos ⟨c1, c2, c3⟩], ?_, ⟨⟨?_, ?_, ?_⟩, ?_, ?_, ?_, ?_⟩, by rw [g4 16 (by omega)]; exact e3⟩⟩
          · rw [if_pos c3, if_neg i10]
            simp only [Mo_g hm, Mo_21 hm, Mo_17 hm, bS, x1, ix2, w2, x2, nI_i1, w4]
          · rw [g4 18 (by omega)]; exact dR1.1.1
          · rw [hJ4, up1_s, List.length_append]; simp [upd]
          · rw [g4 22 (by omega)]; exact dR1.1.2.2
          · rw [f4' (q + 11) (by omega) (by omega)]; exact dR1.2.1
          · intro j hj
            rw [List.length_append, List.length_singleton] at hj
            rw [y4]
            by_cases e : j = hs.2.1.length
            · subst e
              rw [gDlast]
              exact ⟨by rw [← t0]; exact p1 0 (by omega), by rw [← t1]; exact p1 1 (by omega)⟩
            · rw [gDapp (by omega), p2' (2 * j) (by omega), p2' (2 * j + 1) (by omega)]
              exact dR1.2.2.1 j (by omega)
          · rw [f4' (q + 13) (by omega) (by omega)]; exact dR1.2.2.2.1
          · rw [f4' (q + 14) (by omega) (by omega)]; exact dR1.2.2.2.2
        · refine ⟨J1, n1.ft, Or.inr ⟨fun r' hr => ?_, by rw [if_neg c3, if_pos rfl]⟩⟩
          rw [e1] at hr
          cases hr
          rw [hst, if_neg (fun z => c3 z.2.2)]
      · refine ⟨J1, n1.ft, Or.inr ⟨fun r' hr => ?_, by rw [if_neg c2, if_pos rfl]⟩⟩
        rw [e1] at hr
        cases hr
        rw [hst, if_neg (fun z => c2 z.2.1)]
  · refine ⟨J, FT.rf, Or.inr ⟨fun r hr => by rw [hst, if_neg (fun z => c1 z.1)], ?_⟩⟩
    exact if_pos (by rw [show hs.2.1.length = 5 by omega]; exact z5.symm)
theorem M_readComingOf (hm : isMo R S N q) (ok : okHS hs) (d : MT J q tx) (dR : RD J q hs) {k : Nat} (hk : k < 2 ^ 19) (hJ : J q 16 = nI k) : RdO tx J R S N q 119 k hs (fX12_readComingOf q (J, R, S, N)) := by
  have okl := ok.1
  have hst : ∀ x y z, stp hs 119 x y z = if hs.2.2.1.length < 10 ∧ x < hs.2.1.length ∧ y < 24 ∧ z < 4 then some (hs.1, hs.2.1, hs.2.2.1 ++ [(x, nI y, nI z)], hs.2.2.2) else none := fun x y z => by unfold stp; rw [if_neg (by decide), if_neg (by decide), if_neg (by decide), if_neg (by decide), if_neg (by decide), if_pos rfl]
  have hw : wnt 119 = 3 := by decide
  unfold RdO
  rw [hw, fX12_readComingOf, Mo_g hm, bS, dR.1.2.2]
  by_cases c1 : hs.2.2.1.length < 10
  · rw [if_neg (show ¬ nI hs.2.2.1.length = (10 : Int32) from fun z => by rw [z10] at z; have := (nI_eq (by omega) (by omega)).mp z; omega), Mo_o hm, bS]
    obtain ⟨J1, n1, ⟨e1, e2⟩ | ⟨r, e1, e2, e3, e4⟩⟩ := M_readNumbers (R := R) (S := S) (N := N) hm (show 3 ≤ 3 by omega) z3 d hk hJ
    · refine ⟨J1, n1.ft, Or.inr ⟨fun r hr => (by rw [e1] at hr; cases hr), ?_⟩⟩
      rw [e2, bS]
      exact if_pos rfl
    · obtain ⟨-, -, hb⟩ := rds_le tx _ _ _ e1
      have b0 := hb 0 (by omega)
      have b1 := hb 1 (by omega)
      have b2 := hb 2 (by omega)
      have t0 := e4 0 (by omega)
      have t1 := e4 1 (by omega)
      have t2 := e4 2 (by omega)
      have dR1 := n1.rd dR
      rw [e2, bS, if_neg i10, Mo_g hm, bS, dR1.1.2.1, Mo_o hm, bS, M_isTold hm (show 0 < 4 by omega) z0 rfl (by omega) (show hs.2.1.length < 2 ^ 30 by omega) t0, bS]
      by_cases c2 : r.1.getD 0 0 < hs.2.1.length
      · rw [if_pos c2, if_neg i10, Mo_o hm, bS, M_isTold hm (show 1 < 4 by omega) z1 (cI z23) (by omega) (by omega) t1, bS]
        by_cases c3 : r.1.getD 1 0 < 24
        · rw [if_pos c3, if_neg i10, Mo_o hm, bS, M_isTold hm (show 2 < 4 by omega) z2 (cI z3) (by omega) (by omega) t2, bS]
          by_cases c4 : r.1.getD 2 0 < 4
          · obtain ⟨J2, w2, p1, p2', p3⟩ := M_put (R := R) (Mo_A13 hm) (Mo_A10 hm) (by omega) (by omega) (by omega) (show 3 * hs.2.2.1.length + 3 ≤ 30 by omega) (show 3 ≤ 4 by omega) rfl z3 J1
            obtain ⟨J4, hJ4⟩ : ∃ J4, J4 = up1 J2 q (upd (J2 q) 22 (nI (hs.2.2.1.length + 1))) := ⟨_, rfl⟩
            have w4 : pfI 11 22 q (nI (hs.2.2.1.length + 1)) (J2, R, S, N) = some (J4, R, S, N) := by rw [hJ4]; exact Mo_p hm J2 _ _
            have x1 : J1 q 22 = nI hs.2.2.1.length := dR1.1.2.2
            have x2 : J2 q 22 = nI hs.2.2.1.length := by rw [p3 q (by omega)]; exact x1
            have f4' : ∀ p, p ≠ q → p ≠ q + 13 → J4 p = J1 p := fun p a b => by rw [hJ4, up1_n _ _ a, p3 p b]
            have g4 : ∀ j, j ≠ 22 → J4 q j = J1 q j := fun j hj => by rw [hJ4, up1_s]; simp only [upd, if_neg hj]; rw [p3 q (by omega)]
            have y4 : J4 (q + 13) = J2 (q + 13) := by rw [hJ4, up1_n _ _ (by omega)]
            refine ⟨J4, n1.ft.tr ⟨fun p a b => f4' p a (by omega), fun j a b c e => g4 j e⟩, Or.inl ⟨r, _, e1, by rw [hst, if_pos ⟨c1, c2, c3, c4⟩], ?_, ⟨⟨?_, ?_, ?_⟩, ?_, ?_, ?_, ?_⟩, by rw [g4 16 (by omega)]; exact e3⟩⟩
            · rw [if_pos c4, if_neg i10]
              simp only [Mo_g hm, Mo_23 hm, Mo_17 hm, bS, x1, ix3, w2, x2, nI_i1, w4]
            · rw [g4 18 (by omega)]; exact dR1.1.1
            · rw [g4 20 (by omega)]; exact dR1.1.2.1
            · rw [hJ4, up1_s, List.length_append]; simp [upd]
            · rw [f4' (q + 11) (by omega) (by omega)]; exact dR1.2.1
            · rw [f4' (q + 12) (by omega) (by omega)]; exact dR1.2.2.1
            · intro j hj
              rw [List.length_append, List.length_singleton] at hj
              rw [y4]
              by_cases e : j = hs.2.2.1.length
              · subst e
                rw [gDlast]
                exact ⟨by rw [← t0]; exact p1 0 (by omega), by rw [← t1]; exact p1 1 (by omega), by rw [← t2]; exact p1 2 (by omega)⟩
              · rw [gDapp (by omega), p2' (3 * j) (by omega), p2' (3 * j + 1) (by omega), p2' (3 * j + 2) (by omega)]
                exact dR1.2.2.2.1 j (by omega)
            · rw [f4' (q + 14) (by omega) (by omega)]; exact dR1.2.2.2.2
          · refine ⟨J1, n1.ft, Or.inr ⟨fun r' hr => ?_, by rw [if_neg c4, if_pos rfl]⟩⟩
            rw [e1] at hr
            cases hr
            rw [hst, if_neg (fun z => c4 z.2.2.2)]
        · refine ⟨J1, n1.ft, Or.inr ⟨fun r' hr => ?_, by rw [if_neg c3, if_pos rfl]⟩⟩
          rw [e1] at hr
          cases hr
          rw [hst, if_neg (fun z => c3 z.2.2.1)]
      · refine ⟨J1, n1.ft, Or.inr ⟨fun r' hr => ?_, by rw [if_neg c2, if_pos rfl]⟩⟩
        rw [e1] at hr
        cases hr
        rw [hst, if_neg (fun z => c2 z.2.1)]
  · refine ⟨J, FT.rf, Or.inr ⟨fun r hr => by rw [hst, if_neg (fun z => c1 z.1)], ?_⟩⟩
    exact if_pos (by rw [show hs.2.2.1.length = 10 by omega]; exact z10.symm)
theorem M_readTurn (hm : isMo R S N q) (ok : okHS hs) (d : MT J q tx) (dR : RD J q hs) {k : Nat} (hk : k < 2 ^ 19) (hJ : J q 16 = nI k) : RdO tx J R S N q 110 k hs (fX12_readTurn q (J, R, S, N)) := by
  have okl := ok.1
  have hst : ∀ x y z, stp hs 110 x y z = if hs.2.2.2.length < 8 ∧ x < 31 ∧ y < hs.1.length ∧ z < 41 then some (hs.1, hs.2.1, hs.2.2.1, hs.2.2.2 ++ [(nI x, y, nI z - 20)]) else none := fun x y z => by unfold stp; rw [if_neg (by decide), if_neg (by decide), if_pos rfl]
  have hw : wnt 110 = 3 := by decide
  have rz : ∀ J : Nat → Nat → Int32, rdI (q + 14) 0 (J, R, S, N) = some (J (q + 14) 0) := fun J => by rw [show (0 : Int32) = nI 0 from z0]; exact Mo_r24 hm J (by omega)
  have wz : ∀ (J : Nat → Nat → Int32) (v : Int32), wrI (q + 14) 0 v (J, R, S, N) = some (up1 J (q + 14) (upd (J (q + 14)) 0 v), R, S, N) := fun J v => by rw [show (0 : Int32) = nI 0 from z0]; exact Mo_w24 hm J v (by omega)
  unfold RdO
  rw [hw, fX12_readTurn, Mo_24 hm, bS, rz, bS, dR.2.2.2.2.2.1]
  by_cases c1 : hs.2.2.2.length < 8
  · rw [if_neg (show ¬ nI hs.2.2.2.length = (8 : Int32) from fun z => by rw [z8] at z; have := (nI_eq (by omega) (by omega)).mp z; omega), Mo_o hm, bS]
    obtain ⟨J1, n1, ⟨e1, e2⟩ | ⟨r, e1, e2, e3, e4⟩⟩ := M_readNumbers (R := R) (S := S) (N := N) hm (show 3 ≤ 3 by omega) z3 d hk hJ
    · refine ⟨J1, n1.ft, Or.inr ⟨fun r hr => (by rw [e1] at hr; cases hr), ?_⟩⟩
      rw [e2, bS]
      exact if_pos rfl
    · obtain ⟨-, -, hb⟩ := rds_le tx _ _ _ e1
      have b0 := hb 0 (by omega)
      have b1 := hb 1 (by omega)
      have b2 := hb 2 (by omega)
      have t0 := e4 0 (by omega)
      have t1 := e4 1 (by omega)
      have t2 := e4 2 (by omega)
      have dR1 := n1.rd dR
      obtain ⟨q0, q1, q2⟩ := rdT (R := R) (S := S) hm J1
      rw [e2, bS, if_neg i10, Mo_o hm, bS, M_isTold hm (show 0 < 4 by omega) z0 (cI z30) (by omega) (by omega) t0, bS]
      by_cases c2 : r.1.getD 0 0 < 31
      · rw [if_pos c2, if_neg i10, Mo_g hm, bS, dR1.1.1, Mo_o hm, bS, M_isTold hm (show 1 < 4 by omega) z1 rfl (by omega) (show hs.1.length < 2 ^ 30 by omega) t1, bS]
        by_cases c3 : r.1.getD 1 0 < hs.1.length
        · rw [if_pos c3, if_neg i10, Mo_o hm, bS, M_isTold hm (show 2 < 4 by omega) z2 (cI z40) (by omega) (by omega) t2, bS]
          by_cases c4 : r.1.getD 2 0 < 41
          · obtain ⟨s1, s2, s3⟩ := dR1.2.2.2.2
            obtain ⟨J2, hJ2⟩ : ∃ J2, J2 = up1 J1 (q + 14) (upd (upd (upd (J1 (q + 14)) (1 + 3 * hs.2.2.2.length) (nI (r.1.getD 0 0))) (1 + 3 * hs.2.2.2.length + 1) (nI (r.1.getD 1 0))) (1 + 3 * hs.2.2.2.length + 2) (nI (r.1.getD 2 0) - 20)) := ⟨_, rfl⟩
            obtain ⟨J4, hJ4⟩ : ∃ J4, J4 = up1 J2 (q + 14) (upd (J2 (q + 14)) 0 (nI (hs.2.2.2.length + 1))) := ⟨_, rfl⟩
            have w2 : fX12_lays (q + 14) (nI (1 + 3 * hs.2.2.2.length)) (nI (r.1.getD 0 0)) (nI (r.1.getD 1 0)) (nI (r.1.getD 2 0) - 20) (J1, R, S, N) = some ((), (J2, R, S, N)) := by rw [hJ2]; exact M_lays (Mo_A14 hm) (by omega) (by omega) _ _ _ _
            have w4 : wrI (q + 14) 0 (nI (hs.2.2.2.length + 1)) (J2, R, S, N) = some (J4, R, S, N) := by rw [hJ4]; exact wz _ _
            have x2 : J2 (q + 14) 0 = nI hs.2.2.2.length := by
              rw [hJ2, up1_s]
              simp only [upd, if_neg (show ¬ 0 = 1 + 3 * hs.2.2.2.length by omega), if_neg (show ¬ 0 = 1 + 3 * hs.2.2.2.length + 1 by omega), if_neg (show ¬ 0 = 1 + 3 * hs.2.2.2.length + 2 by omega)]
              exact s2
            have f4' : ∀ p, p ≠ q + 14 → J4 p = J1 p := fun p b => by rw [hJ4, up1_n _ _ b, hJ2, up1_n _ _ b]
            have y4 : J4 (q + 14) = upd (upd (upd (upd (J1 (q + 14)) (1 + 3 * hs.2.2.2.length) (nI (r.1.getD 0 0))) (1 + 3 * hs.2.2.2.length + 1) (nI (r.1.getD 1 0))) (1 + 3 * hs.2.2.2.length + 2) (nI (r.1.getD 2 0) - 20)) 0 (nI (hs.2.2.2.length + 1)) := by rw [hJ4, up1_s, hJ2, up1_s]
            refine ⟨J4, n1.ft.tr ⟨fun p a b => f4' p (by omega), fun j a b c e => by rw [f4' q (by omega)]⟩, Or.inl ⟨r, _, e1, by rw [hst, if_pos ⟨c1, c2, c3, c4⟩], ?_, ⟨⟨?_, ?_, ?_⟩, ?_, ?_, ?_, ?_, ?_, ?_⟩, by rw [f4' q (by omega)]; exact e3⟩⟩
            · rw [if_pos c4, if_neg i10]
              simp only [Mo_24 hm, Mo_17 hm, bS, rz, s2, q0, q1, q2, t0, t1, t2, ix3, nI_1i, w2, x2, nI_i1, w4]
            · rw [f4' q (by omega)]; exact dR1.1.1
            · rw [f4' q (by omega)]; exact dR1.1.2.1
            · rw [f4' q (by omega)]; exact dR1.1.2.2
            · rw [f4' (q + 11) (by omega)]; exact dR1.2.1
            · rw [f4' (q + 12) (by omega)]; exact dR1.2.2.1
            · rw [f4' (q + 13) (by omega)]; exact dR1.2.2.2.1
            · rw [List.length_append, List.length_singleton]; omega
            · rw [y4, List.length_append]; simp [upd]
            · intro j hj
              rw [List.length_append, List.length_singleton] at hj
              rw [y4]
              by_cases e : j = hs.2.2.2.length
              · subst e
                rw [gDlast]
                simp [upd]
              · rw [gDapp (by omega)]
                have := s3 j (by omega)
                simp only [upd, if_neg (show ¬ 1 + 3 * j = 0 by omega), if_neg (show ¬ 1 + 3 * j = 1 + 3 * hs.2.2.2.length by omega), if_neg (show ¬ 1 + 3 * j = 1 + 3 * hs.2.2.2.length + 1 by omega), if_neg (show ¬ 1 + 3 * j = 1 + 3 * hs.2.2.2.length + 2 by omega), if_neg (show ¬ 1 + 3 * j + 1 = 0 by omega), if_neg (show ¬ 1 + 3 * j + 1 = 1 + 3 * hs.2.2.2.length by omega), if_neg (show ¬ 1 + 3 * j + 1 = 1 + 3 * hs.2.2.2.length + 1 by omega), if_neg (show ¬ 1 + 3 * j + 1 = 1 + 3 * hs.2.2.2.length + 2 by omega), if_neg (show ¬ 1 + 3 * j + 2 = 0 by omega), if_neg (show ¬ 1 + 3 * j + 2 = 1 + 3 * hs.2.2.2.length by omega), if_neg (show ¬ 1 + 3 * j + 2 = 1 + 3 * hs.2.2.2.length + 1 by omega), if_neg (show ¬ 1 + 3 * j + 2 = 1 + 3 * hs.2.2.2.length + 2 by omega)]
                exact this
          · refine ⟨J1, n1.ft, Or.inr ⟨fun r' hr => ?_, by rw [if_neg c4, if_pos rfl]⟩⟩
            rw [e1] at hr
            cases hr
            rw [hst, if_neg (fun z => c4 z.2.2.2)]
        · refine ⟨J1, n1.ft, Or.inr ⟨fun r' hr => ?_, by rw [if_neg c3, if_pos rfl]⟩⟩
          rw [e1] at hr
          cases hr
          rw [hst, if_neg (fun z => c3 z.2.2.1)]
      · refine ⟨J1, n1.ft, Or.inr ⟨fun r' hr => ?_, by rw [if_neg c2, if_pos rfl]⟩⟩
        rw [e1] at hr
        cases hr
        rw [hst, if_neg (fun z => c2 z.2.1)]
  · refine ⟨J, FT.rf, Or.inr ⟨fun r hr => by rw [hst, if_neg (fun z => c1 z.1)], ?_⟩⟩
    exact if_pos (by rw [show hs.2.2.2.length = 8 by omega]; exact z8.symm)
end MITEM
