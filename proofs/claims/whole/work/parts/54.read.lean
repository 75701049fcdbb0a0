theorem i48 : (48 : Int32).toInt = 48 := by decide
theorem i57 : (57 : Int32).toInt = 57 := by decide
theorem fg_s {c : Int32} (h1 : ¬ c < 48) (h2 : ¬ 57 < c) : ∃ v, v < 10 ∧ c = nI (48 + v) ∧ c - 48 = nI v ∧ fgO c = some v := by
  rw [ltT, i48] at h1
  rw [ltT, i57] at h2
  have e : c = nI (48 + (c.toInt - 48).toNat) := by
    rw [eqT, nI_toInt (by omega)]
    omega
  have e2 : c - 48 = nI (c.toInt - 48).toNat := by
    rw [e, show (48 : Int32) = nI 48 by decide, pk_sub (by omega), show 48 + (c.toInt - 48).toNat - 48 = (c.toInt - 48).toNat by omega, ← e]
  refine ⟨(c.toInt - 48).toNat, by omega, e, e2, ?_⟩
  unfold fgO
  rw [if_neg (by rw [ltT, i48]; exact h1), if_neg (by rw [ltT, i57]; exact h2), e2, nI_clamp (by omega)]
theorem figO_lt {tx : List Int32} {k f : Nat} (h : figO tx k = some f) : f < 10 := by
  unfold figO at h
  split at h
  · by_cases c1 : tx.getD k 0 < 48
    · unfold fgO at h; rw [if_pos c1] at h; cases h
    · by_cases c2 : 57 < tx.getD k 0
      · unfold fgO at h; rw [if_neg c1, if_pos c2] at h; cases h
      · obtain ⟨v, hv, -, -, e⟩ := fg_s c1 c2
        rw [e] at h
        cases h
        exact hv
  · cases h
theorem rnm_lt {tx : List Int32} {k : Nat} {r : Nat × Nat} (h : rnm tx k = some r) : r.1 < 100 ∧ k < r.2 ∧ r.2 ≤ k + 2 := by
  unfold rnm at h
  cases h1 : figO tx k with
  | none => rw [h1] at h; cases h
  | some f =>
    have := figO_lt h1
    rw [h1] at h
    simp only at h
    cases h2 : figO tx (k + 1) with
    | none => rw [h2] at h; cases h; show f < 100 ∧ k < k + 1 ∧ k + 1 ≤ k + 2; omega
    | some g =>
      have := figO_lt h2
      rw [h2] at h; cases h; show 10 * f + g < 100 ∧ k < k + 2 ∧ k + 2 ≤ k + 2; omega
theorem rds_le (tx : List Int32) : ∀ (m k : Nat) (r : List Nat × Nat), rds tx m k = some r → r.1.length = m ∧ (0 < m → r.2 ≤ tx.length) ∧ ∀ i, i < m → r.1.getD i 0 < 100 := by
  intro m
  induction m with
  | zero => intro k r h; cases h; exact ⟨rfl, fun z => by omega, fun i hi => by omega⟩
  | succ m ih =>
    intro k r h
    unfold rds at h
    cases hr : rnm tx k with
    | none => rw [hr] at h; cases h
    | some s =>
      have hl := rnm_lt hr
      rw [hr] at h
      simp only at h
      by_cases c : sgB tx s.2 (if m = 0 then 59 else 44) = true
      · rw [if_pos c] at h
        have c' := of_decide_eq_true c
        cases h3 : rds tx m (s.2 + 1) with
        | none => rw [h3] at h; cases h
        | some u =>
          rw [h3] at h
          obtain ⟨i1, i2, i3⟩ := ih _ _ h3
          have i4 := rds_gt _ _ _ _ h3
          cases h
          refine ⟨by simp [i1], fun _ => ?_, fun i hi => ?_⟩
          · show u.2 ≤ _
            by_cases e : m = 0
            · subst e
              cases h3
              exact c'.1
            · exact i2 (by omega)
          · cases i with
            | zero => exact hl.1
            | succ i => exact i3 i (by omega)
      · rw [if_neg c] at h
        cases h
theorem sgC (tx : List Int32) (k : Nat) {c d : Int32} (hd : d ≠ c) : ((if k < tx.length then tx.getD k 0 else d) = c) ↔ sgB tx k c = true := by
  unfold sgB
  rw [decide_eq_true_eq]
  split
  · rename_i h
    exact ⟨fun z => ⟨h, z⟩, fun z => z.2⟩
  · rename_i h
    exact ⟨fun z => absurd z hd, fun z => absurd z.1 h⟩
section READ
variable {R : Nat → Nat → Option Nat} {S : Nat → Nat × Nat} {N T G h : Nat} {tx : List Int32}
theorem C_fig (hT : isTx R S N T) {J : Nat → Nat → Int32} (d : TxAt J T tx) {k : Nat} (hk : k < 2 ^ 30) : fX6_figureAt T (nI k) (J, R, S, N) = some ((figO tx k).elim (-4) nI, (J, R, S, N)) := by
  rw [fX6_figureAt, Tx_o hT, bS, X_letterAt hT d k hk, bS]
  unfold figO
  by_cases c : k < tx.length
  · rw [if_pos c, if_pos c]
    by_cases c1 : tx.getD k 0 < 48
    · rw [if_pos c1, fgO, if_pos c1]; rfl
    · by_cases c2 : 57 < tx.getD k 0
      · rw [if_neg c1, if_pos c2, fgO, if_neg c1, if_pos c2]; rfl
      · obtain ⟨v, hv, -, e1, e2⟩ := fg_s c1 c2
        rw [if_neg c1, if_neg c2, e2, e1]; rfl
  · rw [if_neg c, if_neg c, if_pos (show (-4 : Int32) < 48 by decide)]; rfl
theorem C_rn (hG : isRd R S N G) (hT : isTx R S N T) (o : T + 1 < G) {J : Nat → Nat → Int32} (d : TxAt J T tx) {k : Nat} (hk : k < 2 ^ 20) (hJ : J G 1 = nI k) : ∃ J', fX6_readNumber G T (J, R, S, N) = some ((rnm tx k).elim (-4) (fun r => nI r.1), (J', R, S, N)) ∧ J' G 1 = nI ((rnm tx k).elim k (fun r => r.2)) ∧ ∀ p, p ≠ G → J' p = J p := by
  cases h1 : figO tx k with
  | none =>
    have hr : rnm tx k = none := by unfold rnm; rw [h1]
    have c1 := C_fig (R := R) (S := S) (N := N) hT d (show k < 2 ^ 30 by omega)
    rw [h1] at c1
    rw [hr]
    refine ⟨J, ?_, hJ, fun _ _ => rfl⟩
    rw [fX6_readNumber, Rd_g hG, bS, hJ, c1, bS]
    exact if_pos rfl
  | some f =>
    have hf := figO_lt h1
    have c1 := C_fig (R := R) (S := S) (N := N) hT d (show k < 2 ^ 30 by omega)
    rw [h1, show (some f).elim (-4 : Int32) nI = nI f from rfl] at c1
    obtain ⟨J1, hJ1⟩ : ∃ J1, J1 = up1 J G (upd (J G) 1 (nI (k + 1))) := ⟨_, rfl⟩
    have f1 : ∀ p, p ≠ G → J1 p = J p := fun p hp => by rw [hJ1, up1_n _ _ hp]
    have x1 : J1 G 1 = nI (k + 1) := by rw [hJ1, up1_s]; simp [upd]
    have w1 : pfI 5 1 G (nI (k + 1)) (J, R, S, N) = some (J1, R, S, N) := by rw [hJ1]; exact Rd_p hG J 1 _
    have d1 : TxAt J1 T tx := d.of (f1 _ (by omega)) (f1 _ (by omega))
    have c2 := C_fig (R := R) (S := S) (N := N) hT d1 (show k + 1 < 2 ^ 30 by omega)
    rw [fX6_readNumber, Rd_g hG, bS, hJ, c1, bS, if_neg (n4 (show f < 2 ^ 31 by omega)), Rd_g hG, bS, hJ, nI_i1, w1, bS, Rd_g hG, bS, x1, c2, bS]
    cases h2 : figO tx (k + 1) with
    | none =>
      have hr : rnm tx k = some (f, k + 1) := by unfold rnm; rw [h1, h2]
      rw [hr]
      exact ⟨J1, if_pos rfl, x1, f1⟩
    | some g =>
      have hg := figO_lt h2
      have hr : rnm tx k = some (10 * f + g, k + 2) := by unfold rnm; rw [h1, h2]
      rw [hr]
      obtain ⟨J2, hJ2⟩ : ∃ J2, J2 = up1 J1 G (upd (J1 G) 1 (nI (k + 1 + 1))) := ⟨_, rfl⟩
      have w2 : pfI 5 1 G (nI (k + 1 + 1)) (J1, R, S, N) = some (J2, R, S, N) := by rw [hJ2]; exact Rd_p hG J1 1 _
      refine ⟨J2, ?_, by rw [hJ2, up1_s]; simp [upd], fun p hp => by rw [hJ2, up1_n _ _ hp, f1 p hp]⟩
      show (if nI g = -4 then _ else _) = some (nI (10 * f + g), (J2, R, S, N))
      rw [if_neg (n4 (show g < 2 ^ 31 by omega)), Rd_g hG, bS, x1, nI_i1, w2, bS]
      show some ((10 : Int32) * nI f + nI g, (J2, R, S, N)) = _
      rw [z10, pk_mul, nI_add]
theorem C_riL (hG : isRd R S N G) (hT : isTx R S N T) (o : T + 1 < G) {w : Nat} (hw : w ≤ 3) (K0 K1 : Wd → Option (Int32 × Wd)) : ∀ (m i n k : Nat) (J : Nat → Nat → Int32), i + m = w → m < n → k < 2 ^ 19 + 10 * i → TxAt J T tx → J G 1 = nI k →
    ∃ J', (∀ p, p ≠ G → p ≠ G + 1 → J' p = J p) ∧ (∀ j, j < i → J' (G + 1) j = J (G + 1) j) ∧ ((rds tx m k = none ∧ fX6_readItem_24 G T (nI w) K0 K1 n (nI i) (J, R, S, N) = K0 (J', R, S, N)) ∨ ∃ r, rds tx m k = some r ∧ fX6_readItem_24 G T (nI w) K0 K1 n (nI i) (J, R, S, N) = K1 (J', R, S, N) ∧ J' G 1 = nI r.2 ∧ ∀ j, j < m → J' (G + 1) (i + j) = nI (r.1.getD j 0)) := by
  intro m
  induction m with
  | zero =>
    intro i n k J hi hn hk d hJ
    obtain ⟨n, rfl⟩ : ∃ n', n = n' + 1 := ⟨n - 1, by omega⟩
    refine ⟨J, fun _ _ _ => rfl, fun _ _ => rfl, Or.inr ⟨([], k), rfl, ?_, hJ, fun j hj => by omega⟩⟩
    rw [fX6_readItem_24, if_pos (nI_le (by omega) (by omega))]
  | succ m ih =>
    intro i n k J hi hn hk d hJ
    obtain ⟨n, rfl⟩ : ∃ n', n = n' + 1 := ⟨n - 1, by omega⟩
    obtain ⟨J1, g1, g2, f1⟩ := C_rn hG hT o d (show k < 2 ^ 20 by omega) hJ
    have d1 : TxAt J1 T tx := d.of (f1 _ (by omega)) (f1 _ (by omega))
    obtain ⟨v, hv⟩ : ∃ v, v = (rnm tx k).elim (-4 : Int32) (fun r => nI r.1) := ⟨_, rfl⟩
    rw [← hv] at g1
    obtain ⟨J2, hJ2⟩ : ∃ J2, J2 = up1 J1 (G + 1) (upd (J1 (G + 1)) i v) := ⟨_, rfl⟩
    have w2 : wrI (G + 1) (nI i) v (J1, R, S, N) = some (J2, R, S, N) := by rw [hJ2]; exact Rd_w0 hG J1 v (by omega)
    have f2 : ∀ p, p ≠ G → p ≠ G + 1 → J2 p = J p := fun p h1 h2 => by rw [hJ2, up1_n _ _ h2, f1 p h1]
    have x2 : J2 (G + 1) i = v := by rw [hJ2, up1_s]; simp [upd]
    have y2 : ∀ j, j ≠ i → J2 (G + 1) j = J (G + 1) j := fun j hj => by rw [hJ2, up1_s]; simp only [upd, if_neg hj]; rw [f1 _ (by omega)]
    have p2 : J2 G 1 = J1 G 1 := by rw [hJ2, up1_n _ _ (by omega)]
    have d2 : TxAt J2 T tx := d1.of (by rw [hJ2, up1_n _ _ (by omega)]) (by rw [hJ2, up1_n _ _ (by omega)])
    have r2 : rdI (G + 1) (nI i) (J2, R, S, N) = some v := by rw [← x2]; exact Rd_r0 hG J2 (by omega)
    have hlast : (nI w - 1 ≤ nI i) ↔ m = 0 := by
      rw [nI_sub1 (by omega)]
      by_cases c : m = 0
      · exact ⟨fun _ => c, fun _ => nI_le (by omega) (by omega)⟩
      · exact ⟨fun z => absurd z (nI_ge (by omega) (by omega)), fun z => absurd z c⟩
    have hx : ∀ sg : Int32, sg = (if m = 0 then 59 else 44) → (fX6_readItem_24 G T (nI w) K0 K1 (n + 1) (nI i) (J, R, S, N) = (if v < 0 then K0 (J2, R, S, N) else (gfI 5 1 G (J2, R, S, N)).bind fun x_16 => (isO 8 T (J2, R, S, N)).bind fun u_17 => (fX9_letterAt T x_16 (J2, R, S, N)).bind fun q_18 => if q_18.1 = sg then (gfI 5 1 G q_18.2).bind fun x_20 => (pfI 5 1 G (x_20 + (1 : Int32)) q_18.2).bind fun w_21 => fX6_readItem_24 G T (nI w) K0 K1 n (nI i + (1 : Int32)) w_21 else K0 q_18.2)) := by
      intro sg hsg
      rw [fX6_readItem_24, if_neg (nI_ge (by omega) (by omega))]
      by_cases c : m = 0
      · rw [if_pos (hlast.mpr c), hsg, if_pos c]
        simp only [Rd_0 hG, Rd_o hG, bS, g1, w2, r2]
      · rw [if_neg (fun z => c (hlast.mp z)), hsg, if_neg c]
        simp only [Rd_0 hG, Rd_o hG, bS, g1, w2, r2]
    rw [hx _ rfl]
    unfold rds
    cases hr : rnm tx k with
    | none =>
      rw [hr] at hv
      refine ⟨J2, f2, fun j hj => y2 j (by omega), Or.inl ⟨rfl, ?_⟩⟩
      rw [hv]
      exact if_pos (by decide)
    | some s =>
      have hl := rnm_lt hr
      rw [hr] at hv g2
      have hv' : v = nI s.1 := hv
      have g2' : J2 G 1 = nI s.2 := p2.trans g2
      have hne : ∀ c : Bool, ((-4 : Int32) ≠ if m = 0 then 59 else 44) := fun _ => by split <;> decide
      rw [hv', if_neg (nI_pos (by omega)), Rd_g hG, bS, g2', Tx_o hT, bS, X_letterAt hT d2 s.2 (by omega), bS]
      by_cases c : sgB tx s.2 (if m = 0 then 59 else 44) = true
      · obtain ⟨J3, hJ3⟩ : ∃ J3, J3 = up1 J2 G (upd (J2 G) 1 (nI (s.2 + 1))) := ⟨_, rfl⟩
        have w3 : pfI 5 1 G (nI (s.2 + 1)) (J2, R, S, N) = some (J3, R, S, N) := by rw [hJ3]; exact Rd_p hG J2 1 _
        have f3 : ∀ p, p ≠ G → J3 p = J2 p := fun p hp => by rw [hJ3, up1_n _ _ hp]
        obtain ⟨J', e1, e2, e3⟩ := ih (i + 1) n (s.2 + 1) J3 (by omega) (by omega) (by omega) (d2.of (f3 _ (by omega)) (f3 _ (by omega))) (by rw [hJ3, up1_s]; simp [upd])
        refine ⟨J', fun p h1 h2 => by rw [e1 p h1 h2, f3 p h1, f2 p h1 h2], fun j hj => by rw [e2 j (by omega), f3 _ (by omega), y2 j (by omega)], ?_⟩
        rw [if_pos ((sgC tx s.2 (hne true)).mpr c), Rd_g hG, bS, g2', nI_i1, w3, bS, nI_i1]
        simp only
        rw [if_pos c]
        rcases e3 with ⟨e3, e4⟩ | ⟨r, e3, e4, e5, e6⟩
        · left
          rw [e3]
          exact ⟨rfl, e4⟩
        · right
          refine ⟨(s.1 :: r.1, r.2), by rw [e3]; rfl, e4, e5, fun j hj => ?_⟩
          cases j with
          | zero =>
            show J' (G + 1) i = nI s.1
            rw [e2 i (by omega), f3 _ (by omega), x2, hv']
          | succ j =>
            show J' (G + 1) (i + (j + 1)) = nI (r.1.getD j 0)
            rw [← e6 j (by omega), show i + (j + 1) = i + 1 + j by omega]
      · refine ⟨J2, f2, fun j hj => y2 j (by omega), Or.inl ⟨?_, ?_⟩⟩
        · simp only
          rw [if_neg c]
        · rw [if_neg (fun z => c ((sgC tx s.2 (hne true)).mp z))]
theorem C_nb (c : Int32) (w : Wd) : fX6_numbersBehind c w = some (nI (wnt c), w) := by
  unfold fX6_numbersBehind wnt
  repeat (first | rfl | (split; rfl))
theorem wnt_le (c : Int32) : wnt c ≤ 3 := by
  unfold wnt
  repeat (first | omega | (split; omega))
theorem C_readItem (hG : isRd R S N G) (hT : isTx R S N T) (o : T + 1 < G) {J : Nat → Nat → Int32} (d : TxAt J T tx) {k : Nat} (hk : k < tx.length) (hJ : J G 1 = nI k) : ∃ J', (∀ p, p ≠ G → p ≠ G + 1 → J' p = J p) ∧ (((wnt (tx.getD k 0) = 0 ∨ rds tx (wnt (tx.getD k 0)) (k + 1) = none) ∧ fX6_readItem G T (J, R, S, N) = some (0, (J', R, S, N))) ∨ (¬ wnt (tx.getD k 0) = 0 ∧ ∃ r, rds tx (wnt (tx.getD k 0)) (k + 1) = some r ∧ fX6_readItem G T (J, R, S, N) = some (1, (J', R, S, N)) ∧ J' G 1 = nI r.2 ∧ ∀ j, j < wnt (tx.getD k 0) → J' (G + 1) j = nI (r.1.getD j 0))) := by
  have d0 := d.1
  have hw := wnt_le (tx.getD k 0)
  obtain ⟨J1, hJ1⟩ : ∃ J1, J1 = up1 J G (upd (J G) 1 (nI (k + 1))) := ⟨_, rfl⟩
  have w1 : pfI 5 1 G (nI (k + 1)) (J, R, S, N) = some (J1, R, S, N) := by rw [hJ1]; exact Rd_p hG J 1 _
  have f1 : ∀ p, p ≠ G → J1 p = J p := fun p hp => by rw [hJ1, up1_n _ _ hp]
  obtain ⟨J', e1, -, e3⟩ := C_riL hG hT o hw (fun (w_35 : Wd) => some ((0 : Int32), w_35)) (fun (w_36 : Wd) => if nI (wnt (tx.getD k 0)) ≤ 0 then some ((0 : Int32), w_36) else some ((1 : Int32), w_36)) (wnt (tx.getD k 0)) 0 FV (k + 1) J1 (by omega) (FV_lt (by omega)) (by omega) (d.of (f1 _ (by omega)) (f1 _ (by omega))) (by rw [hJ1, up1_s]; simp [upd])
  rw [← z0] at e3
  refine ⟨J', fun p h1 h2 => by rw [e1 p h1 h2, f1 p h1], ?_⟩
  rw [fX6_readItem, Rd_g hG, bS, hJ, Tx_o hT, bS, X_letterAt hT d k (by omega), bS, if_pos hk, C_nb, bS, Rd_g hG, bS, hJ, nI_i1, w1, bS]
  rcases e3 with ⟨e3, e4⟩ | ⟨r, e3, e4, e5, e6⟩
  · exact Or.inl ⟨Or.inr e3, e4⟩
  · by_cases c : wnt (tx.getD k 0) = 0
    · refine Or.inl ⟨Or.inl c, e4.trans ?_⟩
      show (if nI (wnt (tx.getD k 0)) ≤ 0 then _ else _) = _
      rw [c]
      exact if_pos (by decide)
    · refine Or.inr ⟨c, r, e3, e4.trans ?_, e5, fun j hj => by rw [← e6 j hj, Nat.zero_add]⟩
      show (if nI (wnt (tx.getD k 0)) ≤ 0 then _ else _) = _
      exact if_neg (nI_nle (by omega) (by omega))
end READ
