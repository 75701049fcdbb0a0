/-! the reference's reading: wires, patches, one item, all items -/
section MITEM2
variable {R : Nat → Nat → Option Nat} {S : Nat → Nat × Nat} {N q : Nat} {tx : List Int32} {J : Nat → Nat → Int32} {hs : HS}
theorem M_readTwist (hm : isMo R S N q) (ok : okHS hs) (d : MT J q tx) (dR : RD J q hs) {k : Nat} (hk : k < 2 ^ 19) (hJ : J q 16 = nI k) : RdO tx J R S N q 116 k hs (fX12_readTwist q (J, R, S, N)) := by
  have okl := ok.1
  have hst : ∀ x y z, stp hs 116 x y z = if x < hs.1.length ∧ y < 11 then some (hs.1.set x ((hs.1.getD x f4).1, (hs.1.getD x f4).2.1, nI y - 5, (hs.1.getD x f4).2.2.2), hs.2) else none := fun x y z => by unfold stp; rw [if_neg (by decide), if_neg (by decide), if_neg (by decide), if_neg (by decide), if_pos rfl]
  have hw : wnt 116 = 2 := by decide
  unfold RdO
  rw [hw, fX12_readTwist, Mo_o hm, bS]
  obtain ⟨J1, n1, ⟨e1, e2⟩ | ⟨r, e1, e2, e3, e4⟩⟩ := M_readNumbers (R := R) (S := S) (N := N) hm (show 2 ≤ 3 by omega) z2 d hk hJ
  · refine ⟨J1, n1.ft, Or.inr ⟨fun r hr => (by rw [e1] at hr; cases hr), ?_⟩⟩
    rw [e2, bS, if_pos rfl, if_pos rfl]
  · obtain ⟨-, -, hb⟩ := rds_le tx _ _ _ e1
    have b0 := hb 0 (by omega)
    have b1 := hb 1 (by omega)
    have t0 := e4 0 (by omega)
    have t1 := e4 1 (by omega)
    have dR1 := n1.rd dR
    obtain ⟨q0, q1, -⟩ := rdT (R := R) (S := S) hm J1
    rw [e2, bS, if_neg i10, Mo_g hm, bS, dR1.1.1, Mo_o hm, bS, M_isTold hm (show 0 < 4 by omega) z0 rfl (by omega) (show hs.1.length < 2 ^ 30 by omega) t0, bS]
    by_cases c2 : r.1.getD 0 0 < hs.1.length
    · rw [if_pos c2, if_neg i10, Mo_o hm, bS, M_isTold hm (show 1 < 4 by omega) z1 (cI z10) (by omega) (by omega) t1, bS]
      by_cases c3 : r.1.getD 1 0 < 11
      · obtain ⟨J4, hJ4⟩ : ∃ J4, J4 = up1 J1 (q + 11) (upd (J1 (q + 11)) (4 * r.1.getD 0 0 + 2) (nI (r.1.getD 1 0) - 5)) := ⟨_, rfl⟩
        have w4 : wrI (q + 11) (nI (4 * r.1.getD 0 0 + 2)) (nI (r.1.getD 1 0) - 5) (J1, R, S, N) = some (J4, R, S, N) := by rw [hJ4]; exact Mo_w19 hm J1 _ (by omega)
        have f4' : ∀ p, p ≠ q + 11 → J4 p = J1 p := fun p b => by rw [hJ4, up1_n _ _ b]
        have y4 : J4 (q + 11) = upd (J1 (q + 11)) (4 * r.1.getD 0 0 + 2) (nI (r.1.getD 1 0) - 5) := by rw [hJ4, up1_s]
        refine ⟨J4, n1.ft.tr ⟨fun p a b => f4' p (by omega), fun j a b c e => by rw [f4' q (by omega)]⟩, Or.inl ⟨r, _, e1, by rw [hst, if_pos ⟨c2, c3⟩], ?_, ⟨⟨?_, ?_, ?_⟩, ?_, ?_, ?_, ?_⟩, by rw [f4' q (by omega)]; exact e3⟩⟩
        · rw [if_pos c3, if_neg i10, if_neg i10]
          simp only [Mo_19 hm, Mo_17 hm, bS, q0, q1, t0, t1, ix4, nI_i2, w4]
        · rw [f4' q (by omega), List.length_set]; exact dR1.1.1
        · rw [f4' q (by omega)]; exact dR1.1.2.1
        · rw [f4' q (by omega)]; exact dR1.1.2.2
        · intro j hj
          rw [List.length_set] at hj
          have := dR1.2.1 j hj
          rw [y4, gDset4 c2]
          by_cases e : j = r.1.getD 0 0
          · rw [if_pos e]
            rw [e] at this
            rw [e]
            simp only [upd, if_neg (show ¬ 4 * r.1.getD 0 0 = 4 * r.1.getD 0 0 + 2 by omega), if_neg (show ¬ 4 * r.1.getD 0 0 + 1 = 4 * r.1.getD 0 0 + 2 by omega), if_neg (show ¬ 4 * r.1.getD 0 0 + 3 = 4 * r.1.getD 0 0 + 2 by omega), if_true]
            exact ⟨this.1, this.2.1, True.intro, this.2.2.2⟩
          · rw [if_neg e]
            simp only [upd, if_neg (show ¬ 4 * j = 4 * r.1.getD 0 0 + 2 by omega), if_neg (show ¬ 4 * j + 1 = 4 * r.1.getD 0 0 + 2 by omega), if_neg (show ¬ 4 * j + 2 = 4 * r.1.getD 0 0 + 2 by omega), if_neg (show ¬ 4 * j + 3 = 4 * r.1.getD 0 0 + 2 by omega)]
            exact this
        · rw [f4' (q + 12) (by omega)]; exact dR1.2.2.1
        · rw [f4' (q + 13) (by omega)]; exact dR1.2.2.2.1
        · rw [f4' (q + 14) (by omega)]; exact dR1.2.2.2.2
      · refine ⟨J1, n1.ft, Or.inr ⟨fun r' hr => ?_, by rw [if_neg c3, if_pos rfl, if_pos rfl]⟩⟩
        rw [e1] at hr
        cases hr
        rw [hst, if_neg (fun z => c3 z.2)]
    · refine ⟨J1, n1.ft, Or.inr ⟨fun r' hr => ?_, by rw [if_neg c2, if_pos rfl, if_pos rfl]⟩⟩
      rw [e1] at hr
      cases hr
      rw [hst, if_neg (fun z => c2 z.1)]
theorem M_readPatch (hm : isMo R S N q) (ok : okHS hs) (d : MT J q tx) (dR : RD J q hs) {k : Nat} (hk : k < 2 ^ 19) (hJ : J q 16 = nI k) : RdO tx J R S N q 99 k hs (fX12_readPatch q (J, R, S, N)) := by
  have okl := ok.1
  have hst : ∀ x y z, stp hs 99 x y z = if x < hs.1.length ∧ y < 41 then some (hs.1.set x ((hs.1.getD x f4).1, (hs.1.getD x f4).2.1, (hs.1.getD x f4).2.2.1, nI y - 20), hs.2) else none := fun x y z => by unfold stp; rw [if_pos rfl]
  have hw : wnt 99 = 2 := by decide
  unfold RdO
  rw [hw, fX12_readPatch, Mo_o hm, bS]
  obtain ⟨J1, n1, ⟨e1, e2⟩ | ⟨r, e1, e2, e3, e4⟩⟩ := M_readNumbers (R := R) (S := S) (N := N) hm (show 2 ≤ 3 by omega) z2 d hk hJ
  · refine ⟨J1, n1.ft, Or.inr ⟨fun r hr => (by rw [e1] at hr; cases hr), ?_⟩⟩
    rw [e2, bS, if_pos rfl, if_pos rfl]
  · obtain ⟨-, -, hb⟩ := rds_le tx _ _ _ e1
    have b0 := hb 0 (by omega)
    have b1 := hb 1 (by omega)
    have t0 := e4 0 (by omega)
    have t1 := e4 1 (by omega)
    have dR1 := n1.rd dR
    obtain ⟨q0, q1, -⟩ := rdT (R := R) (S := S) hm J1
    rw [e2, bS, if_neg i10, Mo_g hm, bS, dR1.1.1, Mo_o hm, bS, M_isTold hm (show 0 < 4 by omega) z0 rfl (by omega) (show hs.1.length < 2 ^ 30 by omega) t0, bS]
    by_cases c2 : r.1.getD 0 0 < hs.1.length
    · rw [if_pos c2, if_neg i10, Mo_o hm, bS, M_isTold hm (show 1 < 4 by omega) z1 (cI z40) (by omega) (by omega) t1, bS]
      by_cases c3 : r.1.getD 1 0 < 41
      · obtain ⟨J4, hJ4⟩ : ∃ J4, J4 = up1 J1 (q + 11) (upd (J1 (q + 11)) (4 * r.1.getD 0 0 + 3) (nI (r.1.getD 1 0) - 20)) := ⟨_, rfl⟩
        have w4 : wrI (q + 11) (nI (4 * r.1.getD 0 0 + 3)) (nI (r.1.getD 1 0) - 20) (J1, R, S, N) = some (J4, R, S, N) := by rw [hJ4]; exact Mo_w19 hm J1 _ (by omega)
        have f4' : ∀ p, p ≠ q + 11 → J4 p = J1 p := fun p b => by rw [hJ4, up1_n _ _ b]
        have y4 : J4 (q + 11) = upd (J1 (q + 11)) (4 * r.1.getD 0 0 + 3) (nI (r.1.getD 1 0) - 20) := by rw [hJ4, up1_s]
        refine ⟨J4, n1.ft.tr ⟨fun p a b => f4' p (by omega), fun j a b c e => by rw [f4' q (by omega)]⟩, Or.inl ⟨r, _, e1, by rw [hst, if_pos ⟨c2, c3⟩], ?_, ⟨⟨?_, ?_, ?_⟩, ?_, ?_, ?_, ?_⟩, by rw [f4' q (by omega)]; exact e3⟩⟩
        · rw [if_pos c3, if_neg i10, if_neg i10]
          simp only [Mo_19 hm, Mo_17 hm, bS, q0, q1, t0, t1, ix4, nI_i3, w4]
        · rw [f4' q (by omega), List.length_set]; exact dR1.1.1
        · rw [f4' q (by omega)]; exact dR1.1.2.1
        · rw [f4' q (by omega)]; exact dR1.1.2.2
        · intro j hj
          rw [List.length_set] at hj
          have := dR1.2.1 j hj
          rw [y4, gDset4 c2]
          by_cases e : j = r.1.getD 0 0
          · rw [if_pos e]
            rw [e] at this
            rw [e]
            simp only [upd, if_neg (show ¬ 4 * r.1.getD 0 0 = 4 * r.1.getD 0 0 + 3 by omega), if_neg (show ¬ 4 * r.1.getD 0 0 + 1 = 4 * r.1.getD 0 0 + 3 by omega), if_neg (show ¬ 4 * r.1.getD 0 0 + 2 = 4 * r.1.getD 0 0 + 3 by omega), if_true]
            exact ⟨this.1, this.2.1, this.2.2.1, True.intro⟩
          · rw [if_neg e]
            simp only [upd, if_neg (show ¬ 4 * j = 4 * r.1.getD 0 0 + 3 by omega), if_neg (show ¬ 4 * j + 1 = 4 * r.1.getD 0 0 + 3 by omega), if_neg (show ¬ 4 * j + 2 = 4 * r.1.getD 0 0 + 3 by omega), if_neg (show ¬ 4 * j + 3 = 4 * r.1.getD 0 0 + 3 by omega)]
            exact this
        · rw [f4' (q + 12) (by omega)]; exact dR1.2.2.1
        · rw [f4' (q + 13) (by omega)]; exact dR1.2.2.2.1
        · rw [f4' (q + 14) (by omega)]; exact dR1.2.2.2.2
      · refine ⟨J1, n1.ft, Or.inr ⟨fun r' hr => ?_, by rw [if_neg c3, if_pos rfl, if_pos rfl]⟩⟩
        rw [e1] at hr
        cases hr
        rw [hst, if_neg (fun z => c3 z.2)]
    · refine ⟨J1, n1.ft, Or.inr ⟨fun r' hr => ?_, by rw [if_neg c2, if_pos rfl, if_pos rfl]⟩⟩
      rw [e1] at hr
      cases hr
      rw [hst, if_neg (fun z => c2 z.1)]
theorem itm_le {k : Nat} {r : HS × Nat} (h : itm tx k hs = some r) : r.2 ≤ tx.length := by
  unfold itm at h
  split at h
  · cases h
  · rename_i hw
    cases h1 : rds tx (wnt (tx.getD k 0)) (k + 1) with
    | none => rw [h1] at h; cases h
    | some u =>
      have hl := (rds_le tx _ _ _ h1).2.1 (by omega)
      rw [h1] at h
      simp only at h
      cases h3 : stp hs (tx.getD k 0) (u.1.getD 0 0) (u.1.getD 1 0) (u.1.getD 2 0) with
      | none => rw [h3] at h; cases h
      | some s =>
        rw [h3] at h
        cases h
        exact hl
def ItO (tx : List Int32) (J : Nat → Nat → Int32) (R : Nat → Nat → Option Nat) (S : Nat → Nat × Nat) (N q k : Nat) (hs : HS) (out : Option (Int32 × Wd)) : Prop := ∃ J', FT J J' q ∧ ((∃ r, itm tx k hs = some r ∧ out = some (1, (J', R, S, N)) ∧ RD J' q r.1 ∧ J' q 16 = nI r.2) ∨ (itm tx k hs = none ∧ out = some (0, (J', R, S, N))))
theorem RdO.it {J1 : Nat → Nat → Int32} {c : Int32} {k : Nat} {out : Option (Int32 × Wd)} (hc : tx.getD k 0 = c) (hw : ¬ wnt c = 0) (n1 : FT J J1 q) (h : RdO tx J1 R S N q c (k + 1) hs out) : ItO tx J R S N q k hs (out.bind fun q => (bz q.1).bind fun x => some (x, q.2)) := by
  obtain ⟨J', e1, ⟨r, hs', e2, e3, e4, e5, e6⟩ | ⟨e2, e3⟩⟩ := h
  · refine ⟨J', n1.tr e1, Or.inl ⟨(hs', r.2), ?_, ?_, e5, e6⟩⟩
    · unfold itm
      rw [hc, if_neg hw, e2]
      simp only
      rw [e3]
      rfl
    · rw [e4, bS, bz1, bS]
  · refine ⟨J', n1.tr e1, Or.inr ⟨?_, ?_⟩⟩
    · unfold itm
      rw [hc, if_neg hw]
      cases h1 : rds tx (wnt c) (k + 1) with
      | none => rfl
      | some r =>
        simp only
        rw [e2 r h1]
        rfl
    · rw [e3, bS, bz0, bS]
theorem M_readItem (hm : isMo R S N q) (ok : okHS hs) (d : MT J q tx) (dR : RD J q hs) {k : Nat} (hk : k < tx.length) (hJ : J q 16 = nI k) : ItO tx J R S N q k hs (fX12_readItem q (J, R, S, N)) := by
  have d0 := d.1
  have l1 := M_letterAt (R := R) (S := S) (N := N) hm d (show k < 2 ^ 30 by omega)
  rw [if_pos hk] at l1
  obtain ⟨J1, hJ1⟩ : ∃ J1, J1 = up1 J q (upd (J q) 16 (nI (k + 1))) := ⟨_, rfl⟩
  have w1 : pfI 11 16 q (nI (k + 1)) (J, R, S, N) = some (J1, R, S, N) := by rw [hJ1]; exact Mo_p hm J _ _
  have n1 : FN J J1 q := FN.at hJ1
  have x1 : J1 q 16 = nI (k + 1) := by rw [hJ1, up1_s]; simp [upd]
  have d1 := n1.ft.mt d
  have dR1 := n1.rd dR
  have hk1 : k + 1 < 2 ^ 19 := by omega
  rw [fX12_readItem, Mo_g hm, bS, hJ, Mo_o hm, bS, l1, bS, Mo_g hm, bS, hJ, nI_i1, w1, bS]
  by_cases c1 : tx.getD k 0 = 99
  · rw [if_pos c1, Mo_o hm, bS]
    exact (M_readPatch hm ok d1 dR1 hk1 x1).it c1 (by decide) n1.ft
  rw [if_neg c1]
  by_cases c2 : tx.getD k 0 = 102
  · rw [if_pos c2, Mo_o hm, bS]
    exact (M_readFrameOf hm ok d1 dR1 hk1 x1).it c2 (by decide) n1.ft
  rw [if_neg c2]
  by_cases c3 : tx.getD k 0 = 110
  · rw [if_pos c3, Mo_o hm, bS]
    exact (M_readTurn hm ok d1 dR1 hk1 x1).it c3 (by decide) n1.ft
  rw [if_neg c3]
  by_cases c4 : tx.getD k 0 = 112
  · rw [if_pos c4, Mo_o hm, bS]
    exact (M_readPersonOf hm ok d1 dR1 hk1 x1).it c4 (by decide) n1.ft
  rw [if_neg c4]
  by_cases c5 : tx.getD k 0 = 116
  · rw [if_pos c5, Mo_o hm, bS]
    exact (M_readTwist hm ok d1 dR1 hk1 x1).it c5 (by decide) n1.ft
  rw [if_neg c5]
  by_cases c6 : tx.getD k 0 = 119
  · rw [if_pos c6, Mo_o hm, bS]
    exact (M_readComingOf hm ok d1 dR1 hk1 x1).it c6 (by decide) n1.ft
  rw [if_neg c6]
  refine ⟨J1, n1.ft, Or.inr ⟨?_, rfl⟩⟩
  unfold itm
  rw [if_pos (by unfold wnt; rw [if_neg c1, if_neg c2, if_neg c3, if_neg c4, if_neg c5, if_neg c6])]
theorem M_flL (hm : isMo R S N q) (K1 : Int32 → Wd → Option (Int32 × Wd)) (K0 : Wd → Option (Int32 × Wd)) : ∀ (n f k : Nat) (J : Nat → Nat → Int32) (hs : HS), tx.length < k + n → n < f → k ≤ tx.length → okHS hs → MT J q tx → J q 16 = nI k → RD J q hs →
    ∃ J', FT J J' q ∧ ((∃ e, prs tx n k hs = Sum.inl e ∧ fX12_fault_41 q K1 K0 f (J, R, S, N) = K1 (nI e) (J', R, S, N)) ∨ (∃ hs', prs tx n k hs = Sum.inr hs' ∧ fX12_fault_41 q K1 K0 f (J, R, S, N) = K0 (J', R, S, N) ∧ RD J' q hs')) := by
  intro n
  induction n with
  | zero => intro f k J hs h1 h2 h3; omega
  | succ n ih =>
    intro f k J hs h1 h2 h3 ok d hJ dR
    obtain ⟨f, rfl⟩ : ∃ n', f = n' + 1 := ⟨f - 1, by omega⟩
    have d0 := d.1
    unfold prs
    rw [fX12_fault_41, Mo_g hm, bS, hJ, Mo_g hm, bS, d.2.1]
    by_cases c1 : k < tx.length
    · rw [if_pos c1, if_neg (nI_ge c1 (by omega)), bS, Mo_o hm, bS]
      obtain ⟨J1, n1, ⟨r, e1, e2, e3, e4⟩ | ⟨e1, e2⟩⟩ := M_readItem (R := R) (S := S) (N := N) hm ok d dR c1 hJ
      · have hl := itm_le e1
        have hg := itm_gt e1
        obtain ⟨J', m1, m2⟩ := ih f r.2 J1 r.1 (by omega) (by omega) hl (itm_ok ok e1) (n1.mt d) e4 e3
        refine ⟨J', n1.tr m1, ?_⟩
        rw [e1, e2, bS, if_neg i10]
        exact m2
      · refine ⟨J1, n1, Or.inl ⟨k, by rw [e1], ?_⟩⟩
        rw [e2, bS]
        exact if_pos rfl
    · rw [if_neg c1, if_pos (nI_le (by omega) (by omega))]
      exact ⟨J, FT.rf, Or.inr ⟨hs, rfl, rfl, dR⟩⟩
theorem M_fzL (hm : isMo R S N q) (K : Wd → Option (Int32 × Wd)) : ∀ (m i f : Nat) (J : Nat → Nat → Int32), i + m = 25 → m < f → ∃ J', fX12_fault_22 q K f (nI i) (J, R, S, N) = K (J', R, S, N) ∧ (∀ j, i ≤ j → j < 25 → J' (q + 14) j = 0) ∧ (∀ j, j < i → J' (q + 14) j = J (q + 14) j) ∧ ∀ p, p ≠ q + 14 → J' p = J p := by
  intro m
  induction m with
  | zero =>
    intro i f J hi hf
    obtain ⟨f, rfl⟩ : ∃ n', f = n' + 1 := ⟨f - 1, by omega⟩
    refine ⟨J, ?_, fun j a b => by omega, fun _ _ => rfl, fun _ _ => rfl⟩
    rw [fX12_fault_22, if_pos (by rw [z25]; exact nI_le (by omega) (by omega))]
  | succ m ih =>
    intro i f J hi hf
    obtain ⟨f, rfl⟩ : ∃ n', f = n' + 1 := ⟨f - 1, by omega⟩
    obtain ⟨J', e1, e2, e3, e4⟩ := ih (i + 1) f (up1 J (q + 14) (upd (J (q + 14)) i 0)) (by omega) (by omega)
    refine ⟨J', ?_, fun j a b => ?_, fun j a => ?_, fun p hp => by rw [e4 p hp, up1_n _ _ hp]⟩
    · rw [fX12_fault_22, if_neg (by rw [z25]; exact nI_ge (by omega) (by omega)), Mo_24 hm, bS, Mo_w24 hm J 0 (show i < 25 by omega), bS, nI_i1]
      exact e1
    · by_cases e : j = i
      · subst e
        rw [e3 j (by omega), up1_s]
        simp [upd]
      · exact e2 j (by omega) b
    · rw [e3 j (by omega), up1_s]
      simp only [upd, if_neg (show ¬ j = i by omega)]
theorem MM_faultF (hm : isMo R S N q) (d : MT J q tx) : ∃ J', fX12_fault q (J, R, S, N) = some (aFault tx, (J', R, S, N)) ∧ FT J J' q ∧ ∀ hs, prsA tx = Sum.inr hs → RD J' q hs := by
  have d0 := d.1
  obtain ⟨J1, hJ1⟩ : ∃ J1, J1 = up1 J q (upd (J q) 16 0) := ⟨_, rfl⟩
  obtain ⟨J2, hJ2⟩ : ∃ J2, J2 = up1 J1 q (upd (J1 q) 18 0) := ⟨_, rfl⟩
  obtain ⟨J3, hJ3⟩ : ∃ J3, J3 = up1 J2 q (upd (J2 q) 20 0) := ⟨_, rfl⟩
  obtain ⟨J4, hJ4⟩ : ∃ J4, J4 = up1 J3 q (upd (J3 q) 22 0) := ⟨_, rfl⟩
  have w1 : pfI 11 16 q 0 (J, R, S, N) = some (J1, R, S, N) := by rw [hJ1]; exact Mo_p hm J _ _
  have w2 : pfI 11 18 q 0 (J1, R, S, N) = some (J2, R, S, N) := by rw [hJ2]; exact Mo_p hm J1 _ _
  have w3 : pfI 11 20 q 0 (J2, R, S, N) = some (J3, R, S, N) := by rw [hJ3]; exact Mo_p hm J2 _ _
  have w4 : pfI 11 22 q 0 (J3, R, S, N) = some (J4, R, S, N) := by rw [hJ4]; exact Mo_p hm J3 _ _
  have y4 : J4 q = upd (upd (upd (upd (J q) 16 0) 18 0) 20 0) 22 0 := by rw [hJ4, up1_s, hJ3, up1_s, hJ2, up1_s, hJ1, up1_s]
  have f4' : ∀ p, p ≠ q → J4 p = J p := fun p a => by rw [hJ4, up1_n _ _ a, hJ3, up1_n _ _ a, hJ2, up1_n _ _ a, hJ1, up1_n _ _ a]
  obtain ⟨J5, e1, e2, -, e4⟩ := M_fzL (R := R) (S := S) (N := N) hm (fun (w_8 : Wd) => fX12_fault_41 q (fun (v1_17 : Int32) (w_16 : Wd) => some (v1_17, w_16)) (fun (w_18 : Wd) => some ((-4 : Int32), w_18)) FV w_8) 25 0 FV J4 (by omega) (FV_lt (by omega))
  rw [← z0] at e1
  have y5 : J5 q = upd (upd (upd (upd (J q) 16 0) 18 0) 20 0) 22 0 := by rw [e4 q (by omega)]; exact y4
  have n5 : FT J J5 q := ⟨fun p a b => by rw [e4 p (by omega), f4' p a], fun j a b c e => by rw [y5]; simp only [upd, if_neg a, if_neg b, if_neg c, if_neg e]⟩
  have dR5 : RD J5 q ([], [], [], []) := by
    refine ⟨⟨?_, ?_, ?_⟩, fun k hk => by simp at hk, fun k hk => by simp at hk, fun k hk => by simp at hk, by simp, ?_, fun k hk => by simp at hk⟩
    · rw [y5]; simp [upd]; decide
    · rw [y5]; simp [upd]; decide
    · rw [y5]; simp [upd]; decide
    · rw [e2 0 (by omega) (by omega)]; decide
  obtain ⟨J', g1, g2⟩ := M_flL (R := R) (S := S) (N := N) hm (fun (v1_17 : Int32) (w_16 : Wd) => some (v1_17, w_16)) (fun (w_18 : Wd) => some ((-4 : Int32), w_18)) (tx.length + 1) FV 0 J5 ([], [], [], []) (by omega) (FV_lt (by omega)) (by omega) okHS_0 (n5.mt d) (by rw [y5]; simp [upd]; decide) dR5
  refine ⟨J', ?_, n5.tr g1, ?_⟩
  · rw [fX12_fault, w1, bS, w2, bS, w3, bS, w4, bS, e1]
    unfold aFault
    rcases g2 with ⟨e, e3, e5⟩ | ⟨hs', e3, e5, e6⟩
    · rw [show prsA tx = Sum.inl e from e3]
      exact e5
    · rw [show prsA tx = Sum.inr hs' from e3]
      exact e5
  · intro hs hp
    rcases g2 with ⟨e, e3, e5⟩ | ⟨hs', e3, e5, e6⟩
    · rw [show prsA tx = Sum.inl e from e3] at hp
      cases hp
    · rw [show prsA tx = Sum.inr hs' from e3] at hp
      cases hp
      exact e6
end MITEM2
