/-! single turns in one night -/
def byI (F t : Nat) : Int32 := if t % 2 = 0 then nI (1 + t / (2 * F)) else -(nI (1 + t / (2 * F)))
/-- the angles of a dawn with the turn t more -/
def ttL (F t : Nat) (a : List Int32) : List Int32 := tnL (t / 2 % F) (byI F t) a
def fstB (P : Nat → Bool) : Nat → Nat → Option Nat
  | 0, _ => none
  | m + 1, t => if P t = true then some t else fstB P m (t + 1)
theorem fstB_add (P : Nat → Bool) : ∀ (m n t : Nat), fstB P (m + n) t = (fstB P m t).elim (fstB P n (t + m)) some := by
  intro m
  induction m with
  | zero => intro n t; rw [Nat.zero_add]; rfl
  | succ m ih =>
    intro n t
    rw [show m + 1 + n = (m + n) + 1 by omega]
    show (if P t = true then some t else fstB P (m + n) (t + 1)) = (if P t = true then some t else fstB P m (t + 1)).elim _ _
    by_cases c : P t = true
    · rw [if_pos c, if_pos c]; rfl
    · rw [if_neg c, if_neg c, ih, show t + 1 + m = t + (m + 1) by omega]
theorem tt_ar {F s k : Nat} (h1 : 0 < F) (h7 : F ≤ 7) (hk : k < F) : (2 * F * s + 2 * k) / 2 % F = k ∧ (2 * F * s + 2 * k + 1) / 2 % F = k ∧ (2 * F * s + 2 * k) / (2 * F) = s ∧ (2 * F * s + 2 * k + 1) / (2 * F) = s ∧ (2 * F * s + 2 * k) % 2 = 0 ∧ (2 * F * s + 2 * k + 1) % 2 = 1 := by
  rcases (show F = 1 ∨ F = 2 ∨ F = 3 ∨ F = 4 ∨ F = 5 ∨ F = 6 ∨ F = 7 by omega) with rfl | rfl | rfl | rfl | rfl | rfl | rfl <;> omega
def temP (FR : List F4) (PE : List P2) (SC : List C3) (a : List Int32) (i t : Nat) : Bool := decide (¬ (mnL FR PE SC (ttL FR.length t a)).2.getD i 0 = -4)
def aTempt (FR : List F4) (PE : List P2) (SC : List C3) (TL : List T3) (v1 v2 : Int32) : Int32 := match ix v1 PE.length, ix v2 31 with
  | some i, some d => (fstB (temP FR PE SC (dwL FR PE SC TL d) i) (40 * FR.length) 0).elim (-4) (fun t => 100 * nI (t / 2 % FR.length) + byI FR.length t + 20)
  | _, _ => -1
section TEMPT
variable {R : Nat → Nat → Option Nat} {S : Nat → Nat × Nat} {N T G U V Kp Y L X W C h h2 q row : Nat} {I : Nat → Nat → Int32} {tx : List Int32} {FR : List F4} {PE : List P2} {CO SC : List C3} {TL TT : List T3} {UL KL : List (List T3)} {SN : List P2} {a : List Int32}
theorem C_wonWith (hL : isLu R S N L) (hH : isHo R S N h) (o1 : L + 12 < h) (ok : okS FR PE SC TL UL KL) {J : Nat → Nat → Int32} (dH : HAt J h FR PE SC TT) (hr : isA S N row 7) (ha : arr (J row) a) (hl : a.length = FR.length) {k : Nat} (hk : k < FR.length) (v : Int32) : ∃ J', fX5_wonWith L h row (nI k) v (J, R, S, N) = some (mask (mnL FR PE SC (a.set k v)).2, (J', R, S, N)) ∧ ∀ p, p ≠ L + 1 → p ≠ L + 2 → J' p = J p := by
  have okl := ok.1
  have hN := hL.1
  have A1 : isA S N (L + 1) 7 := ⟨by omega, hL.2.2.1.1⟩
  have A2 : isA S N (L + 2) 5 := ⟨by omega, hL.2.2.2.1.1⟩
  obtain ⟨J1, hJ1⟩ : ∃ J1, J1 = up1 J (L + 1) (fun k => if k < 7 then J row k else J (L + 1) k) := ⟨_, rfl⟩
  have c1 : cpI row 0 (L + 1) 0 7 (J, R, S, N) = some (J1, R, S, N) := by rw [hJ1]; exact cp7 hr.1 A1.1 hr.2 A1.2
  have a1 : arr (J1 (L + 1)) a := by rw [hJ1, up1_s]; exact arr_cp ha (by omega)
  obtain ⟨J2, hJ2⟩ : ∃ J2, J2 = up1 J1 (L + 1) (upd (J1 (L + 1)) k v) := ⟨_, rfl⟩
  have c2 : wrI (L + 1) (nI k) v (J1, R, S, N) = some (J2, R, S, N) := by rw [hJ2]; exact Lu_w0 hL J1 v (by omega)
  have a2 : arr (J2 (L + 1)) (a.set k v) := by rw [hJ2, up1_s]; exact a1.set _ _ (by omega)
  have f2 : ∀ p, p ≠ L + 1 → J2 p = J p := fun p hp => by rw [hJ2, up1_n _ _ hp, hJ1, up1_n _ _ hp]
  obtain ⟨J3, g3, a3, s3, f3⟩ := S_letCome hH A1 A2 (by omega) (by omega) (by omega) ok.2.1 ok.2.2.1 (dH.of (fun p h1 h2 => f2 p (by omega))) a2 (by rw [List.length_set]; exact hl)
  refine ⟨J3, ?_, fun p h1 h2 => by rw [f3 p h1 h2, f2 p h1]⟩
  rw [fX5_wonWith]
  simp only [Lu_0 hL, Lu_1 hL, bS, c1, c2, Ho_o hH, g3]
theorem C_isWon (hL : isLu R S N L) (hH : isHo R S N h) (o1 : L + 12 < h) (ok : okS FR PE SC TL UL KL) {J : Nat → Nat → Int32} (dH : HAt J h FR PE SC TT) (hr : isA S N row 7) (ha : arr (J row) a) (hl : a.length = FR.length) {k i : Nat} (hk : k < FR.length) (hi : i < PE.length) (v : Int32) : ∃ J', fX5_isWon L h row (nI k) v (nI i) (J, R, S, N) = some (if (mnL FR PE SC (tnL k v a)).2.getD i 0 = -4 then 0 else 1, (J', R, S, N)) ∧ ∀ p, p ≠ L + 1 → p ≠ L + 2 → J' p = J p := by
  have okl := ok.1
  obtain ⟨J', e1, e2⟩ := C_wonWith hL hH o1 ok dH hr ha hl hk (wth (a.getD k 0 + v))
  refine ⟨J', ?_, e2⟩
  have r1 : rdI row (nI k) (J, R, S, N) = some (J row k) := rd hr.1 hr.2 (show k < 7 by omega) (by omega)
  rw [fX5_isWon, r1, bS, S_kept, bS, Lu_o hL, bS, ha k (by omega), e1, bS, mask_has _ (mn_len FR PE SC _).2 i (by omega)]
  show (if (if (mnL FR PE SC (tnL k v a)).2.getD i 0 = -4 then (0 : Int32) else 1) = 1 then _ else _) = _
  by_cases c : (mnL FR PE SC (tnL k v a)).2.getD i 0 = -4
  · rw [if_pos c, if_neg (by decide)]
  · rw [if_neg c, if_pos rfl]
theorem fst2 (P : Nat → Bool) (m t : Nat) : fstB P (m + 1 + 1) t = if P t = true then some t else if P (t + 1) = true then some (t + 1) else fstB P m (t + 1 + 1) := rfl
theorem C_ltK (hL : isLu R S N L) (hH : isHo R S N h) (o1 : L + 12 < h) (o2 : row < L) (ok : okS FR PE SC TL UL KL) (hr : isA S N row 7) (hl : a.length = FR.length) {i s : Nat} (hi : i < PE.length) (K1 K2 : Int32 → Wd → Option (Int32 × Wd)) (K3 : Wd → Option (Int32 × Wd)) : ∀ (m k n : Nat) (J : Nat → Nat → Int32), k + m = FR.length → m < n → HAt J h FR PE SC TT → arr (J row) a →
    ∃ J', fX5_leastTurn_13 L h row (nI i) (nI (1 + s)) K1 K2 K3 n (nI k) (J, R, S, N) = (fstB (temP FR PE SC a i) (2 * m) (2 * FR.length * s + 2 * k)).elim (K3 (J', R, S, N)) (fun t => if t % 2 = 0 then K1 (nI (t / 2 % FR.length)) (J', R, S, N) else K2 (nI (t / 2 % FR.length)) (J', R, S, N)) ∧ ∀ p, p ≠ L + 1 → p ≠ L + 2 → J' p = J p := by
  have okl := ok.1
  intro m
  induction m with
  | zero =>
    intro k n J hk hn dH ha
    obtain ⟨n, rfl⟩ : ∃ n', n = n' + 1 := ⟨n - 1, by omega⟩
    refine ⟨J, ?_, fun _ _ _ => rfl⟩
    rw [fX5_leastTurn_13, Ho_g hH, bS, dH.2.1.1, if_pos (nI_le (by omega) (by omega))]
    rfl
  | succ m ih =>
    intro k n J hk hn dH ha
    obtain ⟨n, rfl⟩ : ∃ n', n = n' + 1 := ⟨n - 1, by omega⟩
    obtain ⟨t1, t2, t3, t4, t5, t6⟩ := tt_ar (s := s) okl.1 okl.2.1 (show k < FR.length by omega)
    have b1 : ttL FR.length (2 * FR.length * s + 2 * k) a = tnL k (nI (1 + s)) a := by unfold ttL byI; rw [t1, t3, if_pos t5]
    have b2 : ttL FR.length (2 * FR.length * s + 2 * k + 1) a = tnL k (-(nI (1 + s))) a := by unfold ttL byI; rw [t2, t4, if_neg (by omega)]
    obtain ⟨J1, g1, f1⟩ := C_isWon hL hH o1 ok dH hr ha hl (show k < FR.length by omega) hi (nI (1 + s))
    have dH1 : HAt J1 h FR PE SC TT := dH.of (fun p h1 h2 => f1 p (by omega) (by omega))
    have ha1 : arr (J1 row) a := by rw [f1 row (by omega) (by omega)]; exact ha
    rw [fX5_leastTurn_13, Ho_g hH, bS, dH.2.1.1, if_neg (nI_ge (by omega) (by omega)), Lu_o hL, bS, g1, bS, show 2 * (m + 1) = 2 * m + 1 + 1 by omega, fst2]
    by_cases c1 : (mnL FR PE SC (tnL k (nI (1 + s)) a)).2.getD i 0 = -4
    · have p1 : ¬ temP FR PE SC a i (2 * FR.length * s + 2 * k) = true := by unfold temP; rw [b1]; simp only [c1, not_true_eq_false, decide_false]; decide
      obtain ⟨J2, g2, f2⟩ := C_isWon hL hH o1 ok dH1 hr ha1 hl (show k < FR.length by omega) hi (-(nI (1 + s)))
      rw [if_neg p1, if_pos c1, if_pos rfl, Lu_o hL, bS, g2, bS]
      by_cases c2 : (mnL FR PE SC (tnL k (-(nI (1 + s))) a)).2.getD i 0 = -4
      · have p2 : ¬ temP FR PE SC a i (2 * FR.length * s + 2 * k + 1) = true := by unfold temP; rw [b2]; simp only [c2, not_true_eq_false, decide_false]; decide
        obtain ⟨J', e1, e2⟩ := ih (k + 1) n J2 (by omega) (by omega) (dH1.of (fun p h1 h2 => f2 p (by omega) (by omega))) (by rw [f2 row (by omega) (by omega)]; exact ha1)
        refine ⟨J', ?_, fun p h1 h2 => by rw [e2 p h1 h2, f2 p h1 h2, f1 p h1 h2]⟩
        rw [if_neg p2, if_pos c2, if_pos rfl, nI_i1, e1, show 2 * FR.length * s + 2 * (k + 1) = 2 * FR.length * s + 2 * k + 1 + 1 by omega]
      · have p2 : temP FR PE SC a i (2 * FR.length * s + 2 * k + 1) = true := by unfold temP; rw [b2]; simp only [c2, not_false_eq_true, decide_true]
        refine ⟨J2, ?_, fun p h1 h2 => by rw [f2 p h1 h2, f1 p h1 h2]⟩
        rw [if_pos p2, if_neg c2, if_neg i10]
        show _ = if (2 * FR.length * s + 2 * k + 1) % 2 = 0 then _ else _
        rw [if_neg (by omega), t2]
    · have p1 : temP FR PE SC a i (2 * FR.length * s + 2 * k) = true := by unfold temP; rw [b1]; simp only [c1, not_false_eq_true, decide_true]
      refine ⟨J1, ?_, f1⟩
      rw [if_pos p1, if_neg c1, if_neg i10]
      show _ = if (2 * FR.length * s + 2 * k) % 2 = 0 then _ else _
      rw [if_pos t5, t1]
theorem C_ltS (hL : isLu R S N L) (hH : isHo R S N h) (o1 : L + 12 < h) (o2 : row < L) (ok : okS FR PE SC TL UL KL) (hr : isA S N row 7) (hl : a.length = FR.length) {i : Nat} (hi : i < PE.length) (K1 K2 : Int32 → Int32 → Wd → Option (Int32 × Wd)) (K3 : Wd → Option (Int32 × Wd)) : ∀ (m s n : Nat) (J : Nat → Nat → Int32), s + m = 20 → m < n → HAt J h FR PE SC TT → arr (J row) a →
    ∃ J', fX5_leastTurn_3 L h row (nI i) K1 K2 K3 n (nI (1 + s)) (J, R, S, N) = (fstB (temP FR PE SC a i) (2 * FR.length * m) (2 * FR.length * s)).elim (K3 (J', R, S, N)) (fun t => if t % 2 = 0 then K1 (nI (1 + t / (2 * FR.length))) (nI (t / 2 % FR.length)) (J', R, S, N) else K2 (nI (1 + t / (2 * FR.length))) (nI (t / 2 % FR.length)) (J', R, S, N)) ∧ ∀ p, p ≠ L + 1 → p ≠ L + 2 → J' p = J p := by
  have okl := ok.1
  intro m
  induction m with
  | zero =>
    intro s n J hk hn dH ha
    obtain ⟨n, rfl⟩ : ∃ n', n = n' + 1 := ⟨n - 1, by omega⟩
    refine ⟨J, ?_, fun _ _ _ => rfl⟩
    rw [fX5_leastTurn_3, if_pos (show (20 : Int32) < nI (1 + s) by rw [z20]; exact nI_lt (by omega) (by omega))]
    rfl
  | succ m ih =>
    intro s n J hk hn dH ha
    obtain ⟨n, rfl⟩ : ∃ n', n = n' + 1 := ⟨n - 1, by omega⟩
    obtain ⟨J1, g1, f1⟩ := C_ltK hL hH o1 o2 ok hr hl hi (s := s) (fun (v5_11 : Int32) (w_10 : Wd) => K1 (nI (1 + s)) v5_11 w_10) (fun (v5_13 : Int32) (w_12 : Wd) => K2 (nI (1 + s)) v5_13 w_12) (fun (w_14 : Wd) => fX5_leastTurn_3 L h row (nI i) K1 K2 K3 n (nI (1 + s) + (1 : Int32)) w_14) FR.length 0 FV J (by omega) (FV_lt (by omega)) dH ha
    rw [fX5_leastTurn_3, if_neg (show ¬ (20 : Int32) < nI (1 + s) by rw [z20]; exact nI_nlt (by omega) (by omega)), show 2 * FR.length * (m + 1) = 2 * FR.length + 2 * FR.length * m by rw [Nat.mul_succ]; omega, fstB_add]
    rw [← z0, Nat.mul_zero, Nat.add_zero] at g1
    cases hf : fstB (temP FR PE SC a i) (2 * FR.length) (2 * FR.length * s) with
    | none =>
      obtain ⟨J', e1, e2⟩ := ih (s + 1) n J1 (by omega) (by omega) (dH.of (fun p h1 h2 => f1 p (by omega) (by omega))) (by rw [f1 row (by omega) (by omega)]; exact ha)
      refine ⟨J', ?_, fun p h1 h2 => by rw [e2 p h1 h2, f1 p h1 h2]⟩
      rw [g1, hf]
      show fX5_leastTurn_3 L h row (nI i) K1 K2 K3 n (nI (1 + s) + (1 : Int32)) (J1, R, S, N) = (fstB (temP FR PE SC a i) (2 * FR.length * m) (2 * FR.length * s + 2 * FR.length)).elim _ _
      rw [nI_i1, show 1 + s + 1 = 1 + (s + 1) by omega, show 2 * FR.length * s + 2 * FR.length = 2 * FR.length * (s + 1) by rw [Nat.mul_succ]]
      exact e1
    | some t =>
      refine ⟨J1, ?_, f1⟩
      have hb : ∀ (m t0 t : Nat), fstB (temP FR PE SC a i) m t0 = some t → t0 ≤ t ∧ t < t0 + m := by
        intro m
        induction m with
        | zero => intro t0 t h; cases h
        | succ m ih2 =>
          intro t0 t h
          have h' : (if temP FR PE SC a i t0 = true then some t0 else fstB (temP FR PE SC a i) m (t0 + 1)) = some t := h
          split at h'
          · cases h'; omega
          · have := ih2 (t0 + 1) t h'; omega
      have hbt := hb _ _ _ hf
      have hdv : t / (2 * FR.length) = s := by
        have e : t = 2 * FR.length * s + (t - 2 * FR.length * s) := by omega
        rw [e, Nat.mul_add_div (by omega), Nat.div_eq_of_lt (by omega), Nat.add_zero]
      rw [g1, hf]
      show (if t % 2 = 0 then K1 (nI (1 + s)) _ _ else K2 (nI (1 + s)) _ _) = if t % 2 = 0 then K1 (nI (1 + t / (2 * FR.length))) _ _ else K2 (nI (1 + t / (2 * FR.length))) _ _
      rw [hdv]
theorem C_tempt (cf : CF R S N T G U V Kp Y L X W C h h2) (cd : CD I R T U V Kp Y X h tx FR PE SC TL UL KL SN) (ok : okS FR PE SC TL UL KL) (v1 v2 : Int32) : ∃ J, fX11_tempt 0 v1 v2 (I, R, S, N) = some (aTempt FR PE SC TL v1 v2, (J, R, S, N)) ∧ CD J R T U V Kp Y X h tx FR PE SC TL UL KL SN ∧ ∀ p, 201 < p → J p = I p := by
  have cf0 := cf
  obtain ⟨pl, cf1, hT, hG, hU, hV, hK, hY, hL, hX, hW, hC, hH, hH2⟩ := cf
  obtain ⟨p1, p2, p3, p4, p5, p6, p7, p8, p9, p10, p11⟩ := pl
  obtain ⟨TT, c5⟩ := cd.2.2.2.2.1
  have d1 := c5.1
  have hNY := hY.1
  unfold aTempt fX11_tempt
  simp only [f_10 cf1, Ho_g hH, bS, c5.2.1.2.1, z31]
  rcases ixc v1 (n := PE.length) (by omega) with b1 | ⟨i, b1, rfl⟩
  · rw [ix_n b1, C_out1 b1]
    exact ⟨I, by simp only [bS]; rw [if_neg (by decide)], cd, fun _ _ => rfl⟩
  · rw [ix_s b1 (by omega), C_out0 b1 (by omega)]
    simp only [bS, if_true]
    rcases ixc v2 (n := 31) (by omega) with b2 | ⟨d, b2, rfl⟩
    · rw [ix_n b2, C_out1 b2]
      exact ⟨I, by simp only [bS]; rw [if_neg (by decide)], cd, fun _ _ => rfl⟩
    · rw [ix_s b2 (by omega), C_out0 b2 (by omega)]
      obtain ⟨J, e1, e2, e3, e4, e5⟩ := C_days cf0 cd ok
      obtain ⟨TT', c5'⟩ := e2.2.2.2.2.1
      have A1 : isA S N (Y + 2 + d) 7 := ⟨by omega, Dy_s0 hY b2⟩
      obtain ⟨J2, g1, g2⟩ := C_ltS hL hH (by omega) (by omega) ok A1 (dw_len' FR PE SC TL d) b1 (fun (v4_16 : Int32) (v5_17 : Int32) (w_15 : Wd) => some ((((100 : Int32) * v5_17) + (20 : Int32)) + v4_16, w_15)) (fun (v4_19 : Int32) (v5_20 : Int32) (w_18 : Wd) => some ((((100 : Int32) * v5_20) + (20 : Int32)) - v4_19, w_18)) (fun (w_21 : Wd) => some ((-4 : Int32), w_21)) 20 0 FV J (by omega) (FV_lt (by omega)) c5' (e3 d b2).1
      refine ⟨J2, ?_, CD_scr cf0 e2 (fun p hp => g2 p (by omega) (by omega)), fun p hp => by rw [g2 p (by omega) (by omega), e5 p (by omega)]⟩
      rw [show nI (1 + 0) = 1 from z1.symm] at g1
      have g3 := (show fX5_leastTurn L h (Y + 2 + d) (nI i) (J, R, S, N) = _ from rfl).trans g1
      rw [bS, if_pos rfl]
      simp (disch := omega) only [bS, f_o cf1, f_6 cf1, f_10 cf1, e1, Dy_0 hY, Dy_t0 hY, Lu_o hL, g3]
      rw [show 2 * FR.length * 20 = 40 * FR.length by omega, Nat.mul_zero]
      cases hf : fstB (temP FR PE SC (dwL FR PE SC TL d) i) (40 * FR.length) 0 with
      | none => rfl
      | some t =>
        show ((if t % 2 = 0 then some ((((100 : Int32) * nI (t / 2 % FR.length)) + (20 : Int32)) + nI (1 + t / (2 * FR.length)), (J2, R, S, N)) else some ((((100 : Int32) * nI (t / 2 % FR.length)) + (20 : Int32)) - nI (1 + t / (2 * FR.length)), (J2, R, S, N))).bind fun q_14 => some (q_14.1, q_14.2)) = some (100 * nI (t / 2 % FR.length) + byI FR.length t + 20, (J2, R, S, N))
        unfold byI
        by_cases c : t % 2 = 0
        · rw [if_pos c, if_pos c, bS, Int32.add_assoc, Int32.add_assoc, Int32.add_comm (20 : Int32)]
        · rw [if_neg c, if_neg c, bS, Int32.sub_eq_add_neg, Int32.add_assoc, Int32.add_assoc, Int32.add_comm (20 : Int32)]
end TEMPT
