/-! the reference's reading -/
def MT (J : Nat → Nat → Int32) (q : Nat) (tx : List Int32) : Prop := tx.length ≤ 200 ∧ J q 15 = nI tx.length ∧ arr (J (q + 9)) tx
def FT (J J' : Nat → Nat → Int32) (q : Nat) : Prop := (∀ p, p ≠ q → (p < q + 10 ∨ q + 14 < p) → J' p = J p) ∧ ∀ j, j ≠ 16 → j ≠ 18 → j ≠ 20 → j ≠ 22 → J' q j = J q j
theorem FT.rf {J : Nat → Nat → Int32} {q : Nat} : FT J J q := ⟨fun _ _ _ => rfl, fun _ _ _ _ _ => rfl⟩
theorem FT.tr {J J1 J2 : Nat → Nat → Int32} {q : Nat} (h : FT J J1 q) (h2 : FT J1 J2 q) : FT J J2 q := ⟨fun p a b => (h2.1 p a b).trans (h.1 p a b), fun j a b c d => (h2.2 j a b c d).trans (h.2 j a b c d)⟩
theorem FT.mt {J J' : Nat → Nat → Int32} {q : Nat} {tx : List Int32} (h : FT J J' q) (d : MT J q tx) : MT J' q tx := by
  unfold MT
  rw [h.2 15 (by omega) (by omega) (by omega) (by omega), h.1 (q + 9) (by omega) (by omega)]
  exact d
/-- only the numbers and the place -/
def FN (J J' : Nat → Nat → Int32) (q : Nat) : Prop := (∀ p, p ≠ q → p ≠ q + 10 → J' p = J p) ∧ ∀ j, j ≠ 16 → J' q j = J q j
theorem FN.rf {J : Nat → Nat → Int32} {q : Nat} : FN J J q := ⟨fun _ _ _ => rfl, fun _ _ => rfl⟩
theorem FN.tr {J J1 J2 : Nat → Nat → Int32} {q : Nat} (h : FN J J1 q) (h2 : FN J1 J2 q) : FN J J2 q := ⟨fun p a b => (h2.1 p a b).trans (h.1 p a b), fun j a => (h2.2 j a).trans (h.2 j a)⟩
theorem FN.ft {J J' : Nat → Nat → Int32} {q : Nat} (h : FN J J' q) : FT J J' q := ⟨fun p a b => h.1 p a (by omega), fun j a _ _ _ => h.2 j a⟩
theorem FN.at {J J' : Nat → Nat → Int32} {q : Nat} {v : Int32} (h : J' = up1 J q (upd (J q) 16 v)) : FN J J' q := ⟨fun p a _ => by rw [h, up1_n _ _ a], fun j a => by rw [h, up1_s]; simp only [upd, if_neg a]⟩
theorem FN.nm {J J' : Nat → Nat → Int32} {q i : Nat} {v : Int32} (h : J' = up1 J (q + 10) (upd (J (q + 10)) i v)) : FN J J' q := ⟨fun p _ a => by rw [h, up1_n _ _ a], fun j _ => by rw [h, up1_n _ _ (by omega)]⟩
theorem fig_l {tx : List Int32} {k f : Nat} (h : figO tx k = some f) : k < tx.length ∧ tx.getD k 0 = nI (48 + f) ∧ ¬ tx.getD k 0 < 48 ∧ ¬ 57 < tx.getD k 0 := by
  unfold figO at h
  split at h
  · rename_i hk
    by_cases c1 : tx.getD k 0 < 48
    · unfold fgO at h; rw [if_pos c1] at h; cases h
    · by_cases c2 : 57 < tx.getD k 0
      · unfold fgO at h; rw [if_neg c1, if_pos c2] at h; cases h
      · obtain ⟨v, hv, e0, -, e⟩ := fg_s c1 c2
        rw [e] at h
        cases h
        exact ⟨hk, e0, c1, c2⟩
  · cases h
theorem M_fig (tx : List Int32) (k : Nat) (w : Wd) : fX12_isFigure (if k < tx.length then tx.getD k 0 else -1) w = some (if (figO tx k).isSome = true then 1 else 0, w) := by
  rw [fX12_isFigure]
  cases h : figO tx k with
  | some f =>
    obtain ⟨h1, h2, h3, h4⟩ := fig_l h
    rw [if_pos h1, M_in1 h3 h4, bS, bz1, bS]
    rfl
  | none =>
    have : (if k < tx.length then tx.getD k 0 else -1) < 48 ∨ 57 < (if k < tx.length then tx.getD k 0 else (-1 : Int32)) := by
      unfold figO at h
      split at h
      · rename_i hk
        rw [if_pos hk]
        unfold fgO at h
        split at h
        · exact Or.inl (by assumption)
        · split at h
          · exact Or.inr (by assumption)
          · cases h
      · rename_i hk
        rw [if_neg hk]
        exact Or.inl (by decide)
    rw [M_in0 this, bS, bz0, bS]
    rfl
section MREAD
variable {R : Nat → Nat → Option Nat} {S : Nat → Nat × Nat} {N q : Nat} {tx : List Int32} {J : Nat → Nat → Int32}
theorem M_letterAt (hm : isMo R S N q) (d : MT J q tx) {k : Nat} (hk : k < 2 ^ 30) : fX12_letterAt q (nI k) (J, R, S, N) = some (if k < tx.length then tx.getD k 0 else -1, (J, R, S, N)) := by
  obtain ⟨d1, d2, d3⟩ := d
  rw [fX12_letterAt, Mo_g hm, bS, d2]
  by_cases c : k < tx.length
  · rw [if_neg (nI_ge c (by omega)), if_pos c, Mo_14 hm, bS, Mo_r14 hm J (show k < 200 by omega), bS, d3 k c]
  · rw [if_pos (nI_le (by omega) (by omega)), if_neg c]
theorem M_rnL (hm : isMo R S N q) {w : Nat} (hw : w ≤ 3) (K0 K1 : Wd → Option (Int32 × Wd)) : ∀ (m i n k : Nat) (J : Nat → Nat → Int32), i + m = w → m < n → k < 2 ^ 19 + 10 * i → MT J q tx → J q 16 = nI k →
    ∃ J', FN J J' q ∧ (∀ j, j < i → J' (q + 10) j = J (q + 10) j) ∧ ((rds tx m k = none ∧ fX12_readNumbers_2 q (nI w) K0 K0 K1 n (nI i) (J, R, S, N) = K0 (J', R, S, N)) ∨ ∃ r, rds tx m k = some r ∧ fX12_readNumbers_2 q (nI w) K0 K0 K1 n (nI i) (J, R, S, N) = K1 (J', R, S, N) ∧ J' q 16 = nI r.2 ∧ ∀ j, j < m → J' (q + 10) (i + j) = nI (r.1.getD j 0)) := by
  intro m
  induction m with
  | zero =>
    intro i n k J hi hn hk d hJ
    obtain ⟨n, rfl⟩ : ∃ n', n = n' + 1 := ⟨n - 1, by omega⟩
    refine ⟨J, FN.rf, fun _ _ => rfl, Or.inr ⟨([], k), rfl, ?_, hJ, fun j hj => by omega⟩⟩
    rw [fX12_readNumbers_2, if_pos (nI_le (by omega) (by omega))]
  | succ m ih =>
    intro i n k J hi hn hk d hJ
    obtain ⟨n, rfl⟩ : ∃ n', n = n' + 1 := ⟨n - 1, by omega⟩
    have hlast : (nI w - 1 ≤ nI i) ↔ m = 0 := by
      rw [nI_sub1 (by omega)]
      by_cases c : m = 0
      · exact ⟨fun _ => c, fun _ => nI_le (by omega) (by omega)⟩
      · exact ⟨fun z => absurd z (nI_ge (by omega) (by omega)), fun z => absurd z c⟩
    have l1 := M_letterAt (R := R) (S := S) (N := N) hm d (show k < 2 ^ 30 by omega)
    unfold rds
    cases h1 : figO tx k with
    | none =>
      have hr : rnm tx k = none := by unfold rnm; rw [h1]
      refine ⟨J, FN.rf, fun _ _ => rfl, Or.inl ⟨by rw [hr], ?_⟩⟩
      have m1 := M_fig tx k (J, R, S, N)
      rw [h1] at m1
      rw [fX12_readNumbers_2, if_neg (nI_ge (by omega) (by omega)), Mo_g hm, bS, hJ, Mo_o hm, bS, l1, bS, m1, bS]
      exact if_pos rfl
    | some f =>
      have hf := figO_lt h1
      obtain ⟨lt1, ll1, -, -⟩ := fig_l h1
      have m1 := M_fig tx k (J, R, S, N)
      rw [h1, if_pos lt1, show (if (some f).isSome = true then (1 : Int32) else 0) = 1 from rfl] at m1
      rw [if_pos lt1] at l1
      have lv : tx.getD k 0 - 48 = nI f := by rw [ll1, show (48 : Int32) = nI 48 by decide, pk_sub (by omega), show 48 + f - 48 = f by omega]
      obtain ⟨J1, hJ1⟩ : ∃ J1, J1 = up1 J (q + 10) (upd (J (q + 10)) i (nI f)) := ⟨_, rfl⟩
      obtain ⟨J2, hJ2⟩ : ∃ J2, J2 = up1 J1 q (upd (J1 q) 16 (nI (k + 1))) := ⟨_, rfl⟩
      have w1 : wrI (q + 10) (nI i) (nI f) (J, R, S, N) = some (J1, R, S, N) := by rw [hJ1]; exact Mo_w17 hm J _ (by omega)
      have w2 : pfI 11 16 q (nI (k + 1)) (J1, R, S, N) = some (J2, R, S, N) := by rw [hJ2]; exact Mo_p hm J1 _ _
      have n12 : FN J J2 q := (FN.nm hJ1).tr (FN.at hJ2)
      have x1 : J1 q 16 = nI k := by rw [hJ1, up1_n _ _ (by omega)]; exact hJ
      have x2 : J2 q 16 = nI (k + 1) := by rw [hJ2, up1_s]; simp [upd]
      have t2 : J2 (q + 10) = upd (J (q + 10)) i (nI f) := by rw [hJ2, up1_n _ _ (by omega), hJ1, up1_s]
      have d2 : MT J2 q tx := n12.ft.mt d
      have l2 := M_letterAt (R := R) (S := S) (N := N) hm d2 (show k + 1 < 2 ^ 30 by omega)
      -- behind the number
      have key : ∃ (JN : Nat → Nat → Int32) (r : Nat × Nat), rnm tx k = some r ∧ FN J JN q ∧ JN q 16 = nI r.2 ∧ JN (q + 10) i = nI r.1 ∧ (∀ j, j < i → JN (q + 10) j = J (q + 10) j) ∧ fX12_readNumbers_2 q (nI w) K0 K0 K1 (n + 1) (nI i) (J, R, S, N) = ((gfI 11 16 q (JN, R, S, N)).bind fun x_19 => (isO 11 q (JN, R, S, N)).bind fun u_20 => (fX12_letterAt q x_19 (JN, R, S, N)).bind fun q_21 => if (nI w - (1 : Int32)) ≤ nI i then if q_21.1 = (59 : Int32) then (gfI 11 16 q q_21.2).bind fun x_24 => (pfI 11 16 q (x_24 + (1 : Int32)) q_21.2).bind fun w_25 => fX12_readNumbers_2 q (nI w) K0 K0 K1 n (nI i + (1 : Int32)) w_25 else K0 q_21.2 else if q_21.1 = (44 : Int32) then (gfI 11 16 q q_21.2).bind fun x_27 => (pfI 11 16 q (x_27 + (1 : Int32)) q_21.2).bind fun w_28 => fX12_readNumbers_2 q (nI w) K0 K0 K1 n (nI i + (1 : Int32)) w_28 else K0 q_21.2) := by
        cases h2 : figO tx (k + 1) with
        | none =>
          have m2 := M_fig tx (k + 1) (J2, R, S, N)
          rw [h2, show (if (none : Option Nat).isSome = true then (1 : Int32) else 0) = 0 from rfl] at m2
          refine ⟨J2, (f, k + 1), by unfold rnm; rw [h1, h2], n12, x2, by rw [t2]; simp [upd], fun j hj => by rw [t2]; simp only [upd, if_neg (show ¬ j = i by omega)], ?_⟩
          rw [fX12_readNumbers_2, if_neg (nI_ge (by omega) (by omega)), Mo_g hm, bS, hJ, Mo_o hm, bS, l1, bS, m1, bS, if_neg i10, Mo_17 hm, bS, Mo_g hm, bS, hJ, Mo_o hm, bS, l1, bS, lv, w1, bS, Mo_g hm, bS, x1, nI_i1, w2, bS, Mo_g hm, bS, x2, Mo_o hm, bS, l2, bS, m2, bS, if_pos rfl, Mo_g hm, x2, Mo_o hm]
        | some g =>
          have hg := figO_lt h2
          obtain ⟨lt2, ll2, -, -⟩ := fig_l h2
          have m2 := M_fig tx (k + 1) (J2, R, S, N)
          rw [h2, if_pos lt2, show (if (some g).isSome = true then (1 : Int32) else 0) = 1 from rfl] at m2
          rw [if_pos lt2] at l2
          obtain ⟨J3, hJ3⟩ : ∃ J3, J3 = up1 J2 (q + 10) (upd (J2 (q + 10)) i (nI (10 * f + g))) := ⟨_, rfl⟩
          obtain ⟨J4, hJ4⟩ : ∃ J4, J4 = up1 J3 q (upd (J3 q) 16 (nI (k + 1 + 1))) := ⟨_, rfl⟩
          have w3 : wrI (q + 10) (nI i) (nI (10 * f + g)) (J2, R, S, N) = some (J3, R, S, N) := by rw [hJ3]; exact Mo_w17 hm J2 _ (by omega)
          have w4 : pfI 11 16 q (nI (k + 1 + 1)) (J3, R, S, N) = some (J4, R, S, N) := by rw [hJ4]; exact Mo_p hm J3 _ _
          have n34 : FN J2 J4 q := (FN.nm hJ3).tr (FN.at hJ4)
          have x3 : J3 q 16 = nI (k + 1) := by rw [hJ3, up1_n _ _ (by omega)]; exact x2
          have t4 : J4 (q + 10) = upd (J2 (q + 10)) i (nI (10 * f + g)) := by rw [hJ4, up1_n _ _ (by omega), hJ3, up1_s]
          have r2 : rdI (q + 10) (nI i) (J2, R, S, N) = some (nI f) := by rw [Mo_r17 hm J2 (show i < 4 by omega), t2]; simp [upd]
          have lv2 : (10 : Int32) * nI f + tx.getD (k + 1) 0 - 48 = nI (10 * f + g) := by rw [ll2, z10, pk_mul, nI_add, show (48 : Int32) = nI 48 by decide, pk_sub (by omega), show 10 * f + (48 + g) - 48 = 10 * f + g by omega]
          refine ⟨J4, (10 * f + g, k + 1 + 1), by unfold rnm; rw [h1, h2], n12.tr n34, by rw [hJ4, up1_s]; simp [upd], by rw [t4]; simp [upd], fun j hj => by rw [t4, t2]; simp only [upd, if_neg (show ¬ j = i by omega)], ?_⟩
          rw [fX12_readNumbers_2, if_neg (nI_ge (by omega) (by omega)), Mo_g hm, bS, hJ, Mo_o hm, bS, l1, bS, m1, bS, if_neg i10, Mo_17 hm, bS, Mo_g hm, bS, hJ, Mo_o hm, bS, l1, bS, lv, w1, bS, Mo_g hm, bS, x1, nI_i1, w2, bS, Mo_g hm, bS, x2, Mo_o hm, bS, l2, bS, m2, bS, if_neg i10, Mo_17 hm, bS, bS, r2, bS, Mo_g hm, bS, x2, Mo_o hm, bS, l2, bS, lv2, w3, bS, Mo_g hm, bS, x3, nI_i1, w4, bS]
      obtain ⟨JN, s, hr, nN, xN, tN, oN, eN⟩ := key
      have hl := rnm_lt hr
      have dN : MT JN q tx := nN.ft.mt d
      have lN := M_letterAt (R := R) (S := S) (N := N) hm dN (show s.2 < 2 ^ 30 by omega)
      have e2 : fX12_readNumbers_2 q (nI w) K0 K0 K1 (n + 1) (nI i) (J, R, S, N) = if sgB tx s.2 (if m = 0 then 59 else 44) = true then ((pfI 11 16 q (nI (s.2 + 1)) (JN, R, S, N)).bind fun w_25 => fX12_readNumbers_2 q (nI w) K0 K0 K1 n (nI (i + 1)) w_25) else K0 (JN, R, S, N) := by
        rw [eN, Mo_g hm, bS, xN, Mo_o hm, bS, lN, bS, nI_i1]
        by_cases c : m = 0
        · rw [if_pos (hlast.mpr c), if_pos c]
          by_cases c2 : sgB tx s.2 59 = true
          · rw [if_pos c2, if_pos ((sgC tx s.2 (by decide)).mpr c2), Mo_g hm, bS, xN, nI_i1]
          · rw [if_neg c2, if_neg (fun z => c2 ((sgC tx s.2 (by decide)).mp z))]
        · rw [if_neg (fun z => c (hlast.mp z)), if_neg c]
          by_cases c2 : sgB tx s.2 44 = true
          · rw [if_pos c2, if_pos ((sgC tx s.2 (by decide)).mpr c2), Mo_g hm, bS, xN, nI_i1]
          · rw [if_neg c2, if_neg (fun z => c2 ((sgC tx s.2 (by decide)).mp z))]
      rw [e2, hr]
      simp only
      by_cases c : sgB tx s.2 (if m = 0 then 59 else 44) = true
      · obtain ⟨J5, hJ5⟩ : ∃ J5, J5 = up1 JN q (upd (JN q) 16 (nI (s.2 + 1))) := ⟨_, rfl⟩
        have w5 : pfI 11 16 q (nI (s.2 + 1)) (JN, R, S, N) = some (J5, R, S, N) := by rw [hJ5]; exact Mo_p hm JN _ _
        have n5 : FN JN J5 q := FN.at hJ5
        have t5 : J5 (q + 10) = JN (q + 10) := by rw [hJ5, up1_n _ _ (by omega)]
        obtain ⟨J', e3, e4, e5⟩ := ih (i + 1) n (s.2 + 1) J5 (by omega) (by omega) (by omega) (n5.ft.mt dN) (by rw [hJ5, up1_s]; simp [upd])
        refine ⟨J', (nN.tr n5).tr e3, fun j hj => by rw [e4 j (by omega), t5, oN j hj], ?_⟩
        rw [if_pos c, if_pos c, w5, bS]
        rcases e5 with ⟨e5, e6⟩ | ⟨r, e5, e6, e7, e8⟩
        · left
          rw [e5]
          exact ⟨rfl, e6⟩
        · right
          refine ⟨(s.1 :: r.1, r.2), by rw [e5]; rfl, e6, e7, fun j hj => ?_⟩
          cases j with
          | zero =>
            show J' (q + 10) i = nI s.1
            rw [e4 i (by omega), t5, tN]
          | succ j =>
            show J' (q + 10) (i + (j + 1)) = nI (r.1.getD j 0)
            rw [← e8 j (by omega), show i + (j + 1) = i + 1 + j by omega]
      · refine ⟨JN, nN, oN, Or.inl ⟨?_, ?_⟩⟩
        · rw [if_neg c]
        · rw [if_neg c]
theorem M_readNumbers (hm : isMo R S N q) {w : Nat} (hw : w ≤ 3) {wI : Int32} (hwI : wI = nI w) (d : MT J q tx) {k : Nat} (hk : k < 2 ^ 19) (hJ : J q 16 = nI k) : ∃ J', FN J J' q ∧ ((rds tx w k = none ∧ fX12_readNumbers q wI (J, R, S, N) = some (0, (J', R, S, N))) ∨ ∃ r, rds tx w k = some r ∧ fX12_readNumbers q wI (J, R, S, N) = some (1, (J', R, S, N)) ∧ J' q 16 = nI r.2 ∧ ∀ j, j < w → J' (q + 10) j = nI (r.1.getD j 0)) := by
  subst hwI
  obtain ⟨J', e1, -, e3⟩ := M_rnL hm hw (fun (w_48 : Wd) => some ((0 : Int32), w_48)) (fun (w_50 : Wd) => some ((1 : Int32), w_50)) w 0 FV k J (by omega) (FV_lt (by omega)) (by omega) d hJ
  rw [← z0] at e3
  refine ⟨J', e1, ?_⟩
  rcases e3 with ⟨e3, e4⟩ | ⟨r, e3, e4, e5, e6⟩
  · exact Or.inl ⟨e3, e4⟩
  · exact Or.inr ⟨r, e3, e4, e5, fun j hj => by rw [← e6 j hj, Nat.zero_add]⟩
theorem M_inX {x n : Nat} (hx : x < 2 ^ 30) (hn : n < 2 ^ 30) (w : Wd) : fX12_in (nI x) 0 (nI n - 1) w = some (if x < n then 1 else 0, w) := by
  rw [M_inN hn]
  by_cases c : x < n
  · rw [ix_s c (by omega), if_pos c]; rfl
  · rw [ix_n (Or.inr (nI_le (by omega) (by omega))), if_neg c]; rfl
theorem M_isTold (hm : isMo R S N q) {i x n : Nat} {iI mI : Int32} (hi : i < 4) (hiI : iI = nI i) (hmI : mI = nI n - 1) (hx : x < 2 ^ 30) (hn : n < 2 ^ 30) (hJ : J (q + 10) i = nI x) : fX12_isTold q iI 0 mI (J, R, S, N) = some (if x < n then 1 else 0, (J, R, S, N)) := by
  rw [fX12_isTold, Mo_17 hm, bS, hiI, Mo_r17 hm J hi, bS, hJ, hmI, M_inX hx hn, bS]
  by_cases c : x < n
  · rw [if_pos c, bz1, bS]
  · rw [if_neg c, bz0, bS]
end MREAD
