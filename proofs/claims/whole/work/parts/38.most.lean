/-! who meets her most -/
def wn (FR : List F4) (PE : List P2) (SC : List C3) (TL : List T3) (i : Nat) : Nat → Nat
  | 0 => 0
  | d + 1 => wn FR PE SC TL i d + (if (stL FR PE SC TL d).getD i 0 = -4 then 0 else 1)
theorem wn_le (FR : List F4) (PE : List P2) (SC : List C3) (TL : List T3) (i : Nat) : ∀ d, wn FR PE SC TL i d ≤ d
  | 0 => Nat.le_refl 0
  | d + 1 => by
    have := wn_le FR PE SC TL i d
    unfold wn
    split <;> omega
def bsF (f : Nat → Nat) : Nat → Nat → Nat → Nat
  | b, _, 0 => b
  | b, i, m + 1 => bsF f (if f i ≤ f b then b else i) (i + 1) m
theorem bsF_lt (f : Nat → Nat) : ∀ (m b i n : Nat), b < n → i + m ≤ n → bsF f b i m < n
  | 0, b, i, n, hb, _ => hb
  | m + 1, b, i, n, hb, hi => by
    unfold bsF
    exact bsF_lt f m _ _ n (by split <;> omega) (by omega)
def aMost (FR : List F4) (PE : List P2) (SC : List C3) (TL : List T3) (v : Int32) : Int32 := match ix v 2 with
  | some w => if PE.length = 0 then -4 else if w = 0 then nI (bsF (fun i => wn FR PE SC TL i 31) 0 1 (PE.length - 1)) else nI (wn FR PE SC TL (bsF (fun i => wn FR PE SC TL i 31) 0 1 (PE.length - 1)) 31)
  | none => -1
section MOST
variable {R : Nat → Nat → Option Nat} {S : Nat → Nat × Nat} {N T G U V Kp Y L X W C h h2 q : Nat} {I : Nat → Nat → Int32} {tx : List Int32} {FR : List F4} {PE : List P2} {CO SC : List C3} {TL TT : List T3} {UL KL : List (List T3)} {SN : List P2}
theorem C_dwL (hY : isDy R S N Y) {i : Nat} (hi : i < 5) (dy : ∀ e, e < 31 → DyAt I Y FR PE SC TL e) (K : Int32 → Wd → Option (Int32 × Wd)) : ∀ (m d n : Nat), d + m = 31 → m < n → fX1_daysWon_4 Y (nI i) K n (nI (wn FR PE SC TL i d)) (nI d) (I, R, S, N) = K (nI (wn FR PE SC TL i 31)) (I, R, S, N) := by
  intro m
  induction m with
  | zero =>
    intro d n hd hn
    obtain ⟨n, rfl⟩ : ∃ n', n = n' + 1 := ⟨n - 1, by omega⟩
    have hd31 : d = 31 := by omega
    subst hd31
    rw [fX1_daysWon_4, z31, if_pos (nI_le (Nat.le_refl _) (by omega))]
  | succ m ih =>
    intro d n hd hn
    obtain ⟨n, rfl⟩ : ∃ n', n = n' + 1 := ⟨n - 1, by omega⟩
    have hw := (dy d (by omega)).2.2.2
    have hmh := mask_has (stL FR PE SC TL d) (st_len FR PE SC TL d) i hi
    have hs : nI (wn FR PE SC TL i d) + ((mask (stL FR PE SC TL d) >>> (nI i &&& 31)) &&& 1) = nI (wn FR PE SC TL i (d + 1)) := by
      rw [hmh, wn]
      split
      · rw [Int32.add_zero, Nat.add_zero]
      · rw [nI_i1]
    rw [fX1_daysWon_4, if_neg (show ¬ (31 : Int32) ≤ nI d from by rw [z31]; exact nI_ge (by omega) (by omega))]
    simp (disch := omega) only [Dy_3 hY, Dy_r3 hY, Option.bind_some, hw]
    rw [hs, nI_i1]
    exact ih (d + 1) n (by omega) (by omega)
theorem C_dw (hY : isDy R S N Y) {i : Nat} (hi : i < 5) (dy : ∀ e, e < 31 → DyAt I Y FR PE SC TL e) : fX1_daysWon Y (nI i) (I, R, S, N) = some (nI (wn FR PE SC TL i 31), (I, R, S, N)) := by
  rw [fX1_daysWon, z0]
  exact C_dwL hY hi dy _ 31 0 FV (by omega) (FV_lt (by omega))
theorem C_msL (cf : CF R S N T G U V Kp Y L X W C h h2) (ok : okS FR PE SC TL UL KL) (v1 : Int32) (K : Int32 → Wd → Option (Int32 × Wd)) : ∀ (m i b n : Nat) (J : Nat → Nat → Int32), i + m = PE.length → m < n → b < PE.length → CD J R T U V Kp Y X h tx FR PE SC TL UL KL SN → (∀ e, e < 31 → DyAt J Y FR PE SC TL e) → J Y 4 = 0 →
    fX11_most_27 0 v1 K n (nI b) (nI i) (J, R, S, N) = K (nI (bsF (fun i => wn FR PE SC TL i 31) b i m)) (J, R, S, N) := by
  have cf0 := cf
  obtain ⟨pl, cf1, hT, hG, hU, hV, hK, hY, hL, hX, hW, hC, hH, hH2⟩ := cf
  have okl := ok.1
  intro m
  induction m with
  | zero =>
    intro i b n J hi hn hb cd dy j4
    obtain ⟨n, rfl⟩ : ∃ n', n = n' + 1 := ⟨n - 1, by omega⟩
    obtain ⟨TT, c5⟩ := cd.2.2.2.2.1
    simp (disch := omega) only [fX11_most_27, f_10 cf1, Ho_g hH, Option.bind_some, c5.2.1.2.1, nle, bsF]
    rw [if_pos (by omega)]
  | succ m ih =>
    intro i b n J hi hn hb cd dy j4
    obtain ⟨n, rfl⟩ : ∃ n', n = n' + 1 := ⟨n - 1, by omega⟩
    obtain ⟨TT, c5⟩ := cd.2.2.2.2.1
    have dn : fX11_daysNow 0 (J, R, S, N) = some (Y, (J, R, S, N)) := by simp only [fX11_daysNow, f_5 cf1, Dy_g hY, Option.bind_some, j4, if_true]
    have w1 := wn_le FR PE SC TL i 31
    have w2 := wn_le FR PE SC TL b 31
    rw [fX11_most_27, bsF]
    simp (disch := omega) only [f_10 cf1, f_o cf1, Ho_g hH, Dy_o hY, Option.bind_some, c5.2.1.2.1, nle, dn, C_dw hY (show i < 5 by omega) dy, C_dw hY (show b < 5 by omega) dy, nI_i1]
    rw [if_neg (by omega)]
    by_cases c : wn FR PE SC TL i 31 ≤ wn FR PE SC TL b 31
    · rw [if_pos c, if_pos c]
      exact ih (i + 1) b n J (by omega) (by omega) hb cd dy j4
    · rw [if_neg c, if_neg c]
      exact ih (i + 1) i n J (by omega) (by omega) (by omega) cd dy j4
theorem C_most (cf : CF R S N T G U V Kp Y L X W C h h2) (cd : CD I R T U V Kp Y X h tx FR PE SC TL UL KL SN) (ok : okS FR PE SC TL UL KL) (v : Int32) : ∃ J, fX11_most 0 v (I, R, S, N) = some (aMost FR PE SC TL v, (J, R, S, N)) ∧ CD J R T U V Kp Y X h tx FR PE SC TL UL KL SN ∧ ∀ p, 201 < p → J p = I p := by
  have cf0 := cf
  obtain ⟨pl, cf1, hT, hG, hU, hV, hK, hY, hL, hX, hW, hC, hH, hH2⟩ := cf
  have pY : Y = 53 := pl.2.2.2.2.2.1
  have okl := ok.1
  obtain ⟨TT, c5⟩ := cd.2.2.2.2.1
  unfold aMost fX11_most
  simp only [z2]
  rcases ixc v (n := 2) (by omega) with b1 | ⟨w, b1, rfl⟩
  · rw [ix_n b1, C_out1 b1]
    exact ⟨I, by simp only [Option.bind_some]; rw [if_neg (by decide)], cd, fun _ _ => rfl⟩
  · rw [ix_s b1 (by omega), C_out0 b1 (by omega)]
    simp only [Option.bind_some, if_true, f_10 cf1, Ho_g hH, c5.2.1.2.1]
    by_cases hp : PE.length = 0
    · rw [if_pos hp]
      refine ⟨I, ?_, cd, fun _ _ => rfl⟩
      rw [hp, if_pos z0.symm]
    · rw [if_neg hp, if_neg (nI_ne0 (by omega) (by omega))]
      -- the first step plays the days, if there is one; else the last does
      obtain ⟨J, e1, e2, e3, e4, e5⟩ := C_days cf0 cd ok
      have hw : nI w = 0 ↔ w = 0 := by rw [z0]; exact nI_eq (by omega) (by omega)
      have dnJ : fX11_daysNow 0 (J, R, S, N) = some (Y, (J, R, S, N)) := by simp only [fX11_daysNow, f_5 cf1, Dy_g hY, Option.bind_some, e4, if_true]
      have bl := bsF_lt (fun i => wn FR PE SC TL i 31) (PE.length - 1) 0 1 PE.length (by omega) (by omega)
      obtain ⟨TTJ, c5J⟩ := e2.2.2.2.2.1
      by_cases h1 : PE.length = 1
      · by_cases c : w = 0
        · refine ⟨I, ?_, cd, fun _ _ => rfl⟩
          obtain ⟨fu, hfu⟩ : ∃ f, FV = f + 1 := ⟨FV - 1, by have := FV_ge; omega⟩
          rw [hfu, fX11_most_27]
          simp (disch := omega) only [f_10 cf1, Ho_g hH, Option.bind_some, c5.2.1.2.1, z1, nle]
          rw [if_pos (by omega), if_pos (hw.mpr c), if_pos c, h1]
          rfl
        · refine ⟨J, ?_, e2, fun p hp => e5 p (by omega)⟩
          obtain ⟨fu, hfu⟩ : ∃ f, FV = f + 1 := ⟨FV - 1, by have := FV_ge; omega⟩
          rw [hfu, fX11_most_27]
          simp (disch := omega) only [f_10 cf1, Ho_g hH, Option.bind_some, c5.2.1.2.1, z1, nle]
          rw [if_pos (by omega), if_neg (fun z => c (hw.mp z)), if_neg c, h1]
          simp only [f_o cf1, e1, Dy_o hY, Option.bind_some]
          rw [show (0 : Int32) = nI 0 from z0, C_dw hY (by omega) e3]
          rfl
      · refine ⟨J, ?_, e2, fun p hp => e5 p (by omega)⟩
        obtain ⟨fu, hfu⟩ : ∃ f, FV = f + 1 := ⟨FV - 1, by have := FV_ge; omega⟩
        have hfl : PE.length - 1 - 1 < fu := by have := FV_ge; omega
        have w1 := wn_le FR PE SC TL 1 31
        have w2 := wn_le FR PE SC TL 0 31
        have step : ∀ b, b < PE.length → b < 2 → fX11_most_27 0 (nI w) (fun v2_19 w_18 => if nI w = nI 0 then some (v2_19, w_18) else (isO 10 0 w_18).bind fun u_21 => (fX11_daysNow 0 w_18).bind fun q_22 => (isO 1 q_22.1 q_22.2).bind fun u_23 => (fX1_daysWon q_22.1 v2_19 q_22.2).bind fun q_24 => some (q_24.1, q_24.2)) fu (nI b) (nI 2) (J, R, S, N) = some (if w = 0 then nI (bsF (fun i => wn FR PE SC TL i 31) b 2 (PE.length - 1 - 1)) else nI (wn FR PE SC TL (bsF (fun i => wn FR PE SC TL i 31) b 2 (PE.length - 1 - 1)) 31), (J, R, S, N)) := by
          intro b hb hb2
          have bl2 := bsF_lt (fun i => wn FR PE SC TL i 31) (PE.length - 1 - 1) b 2 PE.length hb (by omega)
          rw [C_msL cf0 ok (nI w) _ (PE.length - 1 - 1) 2 b fu J (by omega) hfl hb e2 e3 e4]
          have hw' : nI w = nI 0 ↔ w = 0 := nI_eq (by omega) (by omega)
          by_cases c : w = 0
          · rw [if_pos (hw'.mpr c), if_pos c]
          · rw [if_neg (fun z => c (hw'.mp z)), if_neg c]
            simp only [f_o cf1, dnJ, Dy_o hY, Option.bind_some, C_dw hY (show bsF (fun i => wn FR PE SC TL i 31) b 2 (PE.length - 1 - 1) < 5 by omega) e3]
        rw [hfu, show (0 : Int32) = nI 0 from z0, show (1 : Int32) = nI 1 from z1, fX11_most_27]
        simp (disch := omega) only [f_10 cf1, f_o cf1, Ho_g hH, Dy_o hY, Option.bind_some, c5.2.1.2.1, nle, e1, dnJ, C_dw hY (show 1 < 5 by omega) e3, C_dw hY (show 0 < 5 by omega) e3]
        rw [if_neg (by omega), nI_i1]
        have eb : bsF (fun i => wn FR PE SC TL i 31) 0 1 (PE.length - 1) = bsF (fun i => wn FR PE SC TL i 31) (if wn FR PE SC TL 1 31 ≤ wn FR PE SC TL 0 31 then 0 else 1) 2 (PE.length - 1 - 1) := by
          rw [show PE.length - 1 = (PE.length - 1 - 1) + 1 by omega, bsF]
          rfl
        rw [eb]
        by_cases c : wn FR PE SC TL 1 31 ≤ wn FR PE SC TL 0 31
        · rw [if_pos c, if_pos c]
          exact step 0 (by omega) (by omega)
        · rw [if_neg c, if_neg c]
          exact step 1 (by omega) (by omega)
theorem M_msA (hm : isMo R S N q) (v1 : Int32) (K : Wd → Option (Int32 × Wd)) : ∀ (m i n : Nat) (J : Nat → Nat → Int32), i + m = 5 → m < n → ∃ J', fX12_most_23 q v1 K n (nI i) (J, R, S, N) = K (J', R, S, N) ∧ (∀ k, i ≤ k → k < 5 → J' (q + 20) k = 0) ∧ (∀ k, k < i → J' (q + 20) k = J (q + 20) k) ∧ ∀ p, p ≠ q + 20 → J' p = J p := by
  intro m
  induction m with
  | zero =>
    intro i n J hi hn
    obtain ⟨n, rfl⟩ : ∃ n', n = n' + 1 := ⟨n - 1, by omega⟩
    refine ⟨J, ?_, fun k h1 h2 => by omega, fun _ _ => rfl, fun _ _ => rfl⟩
    simp (disch := omega) only [fX12_most_23, z5, nle]
    rw [if_pos (by omega)]
  | succ m ih =>
    intro i n J hi hn
    obtain ⟨n, rfl⟩ : ∃ n', n = n' + 1 := ⟨n - 1, by omega⟩
    obtain ⟨J', e1, e2, e3, e4⟩ := ih (i + 1) n (up1 J (q + 20) (upd (J (q + 20)) i 0)) (by omega) (by omega)
    refine ⟨J', ?_, ?_, ?_, fun p hp => by rw [e4 p hp, up1_n _ _ hp]⟩
    · simp (disch := omega) only [fX12_most_23, z5, nle, Mo_31 hm, Mo_w31 hm, nI_i1, Option.bind_some, e1]
      rw [if_neg (by omega)]
    · intro k h1 h2
      by_cases e : k = i
      · subst e
        rw [e3 k (by omega), up1_s]
        simp [upd]
      · exact e2 k (by omega) h2
    · intro k hk
      rw [e3 k (by omega), up1_s]
      simp only [upd, if_neg (show ¬ k = i by omega)]
theorem M_msB (hm : isMo R S N q) (v1 v2 : Int32) {d : Nat} (hP : PE.length ≤ 5) (K : Wd → Option (Int32 × Wd)) : ∀ (m i n : Nat) (J : Nat → Nat → Int32), i + m = PE.length → m < n → MH J q FR PE CO SC TL → J q 28 = mask (stL FR PE SC TL d) → ∃ J', fX12_most_64 q v1 v2 K n (nI i) (J, R, S, N) = K (J', R, S, N) ∧ (∀ k, i ≤ k → k < PE.length → J' (q + 20) k = J (q + 20) k + (if (stL FR PE SC TL d).getD k 0 = -4 then 0 else 1)) ∧ (∀ k, k < i → J' (q + 20) k = J (q + 20) k) ∧ ∀ p, p ≠ q + 20 → J' p = J p := by
  intro m
  induction m with
  | zero =>
    intro i n J hi hn dM hm28
    obtain ⟨n, rfl⟩ : ∃ n', n = n' + 1 := ⟨n - 1, by omega⟩
    refine ⟨J, ?_, fun k h1 h2 => by omega, fun _ _ => rfl, fun _ _ => rfl⟩
    simp (disch := omega) only [fX12_most_64, Mo_g hm, Option.bind_some, dM.2.1.2.1, nle]
    rw [if_pos (by omega)]
  | succ m ih =>
    intro i n J hi hn dM hm28
    obtain ⟨n, rfl⟩ : ∃ n', n = n' + 1 := ⟨n - 1, by omega⟩
    obtain ⟨J1, hJ1⟩ : ∃ J1, J1 = up1 J (q + 20) (upd (J (q + 20)) i (J (q + 20) i + (if (stL FR PE SC TL d).getD i 0 = -4 then 0 else 1))) := ⟨_, rfl⟩
    have f1 : ∀ p, p ≠ q + 20 → J1 p = J p := fun p hp => by rw [hJ1, up1_n _ _ hp]
    have hw : wrI (q + 20) (nI i) (J (q + 20) i + (if (stL FR PE SC TL d).getD i 0 = -4 then 0 else 1)) (J, R, S, N) = some (J1, R, S, N) := by rw [hJ1]; exact Mo_w31 hm J _ (by omega)
    obtain ⟨J', e1, e2, e3, e4⟩ := ih (i + 1) n J1 (by omega) (by omega) (dM.of (by rw [f1 _ (by omega)]) (by rw [f1 _ (by omega)]) (by rw [f1 _ (by omega)]) (fun p h1 h2 => f1 p (by omega))) (by rw [f1 _ (by omega)]; exact hm28)
    refine ⟨J', ?_, ?_, ?_, fun p hp => by rw [e4 p hp, f1 p hp]⟩
    · rw [fX12_most_64]
      simp (disch := omega) only [Mo_g hm, Option.bind_some, dM.2.1.2.1, nle, Mo_31 hm, Mo_r31 hm, hm28, M_has (stL FR PE SC TL d) (st_len FR PE SC TL d) i (show i < 5 by omega)]
      rw [if_neg (by omega)]
      by_cases c : (stL FR PE SC TL d).getD i 0 = -4
      · simp only [c, if_true] at hw ⊢
        simp only [hw, Option.bind_some, nI_i1, e1]
      · simp only [c, if_false] at hw ⊢
        rw [if_neg i10]
        simp only [hw, Option.bind_some, nI_i1, e1]
    · intro k h1 h2
      by_cases e : k = i
      · subst e
        rw [e3 k (by omega), hJ1, up1_s]
        simp [upd]
      · rw [e2 k (by omega) h2, hJ1, up1_s]
        simp only [upd, if_neg e]
    · intro k hk
      rw [e3 k (by omega), hJ1, up1_s]
      simp only [upd, if_neg (show ¬ k = i by omega)]
theorem M_msC (hm : isMo R S N q) (ok : okS FR PE SC TL UL KL) (v1 : Int32) (K : Wd → Option (Int32 × Wd)) : ∀ (m d n : Nat) (J : Nat → Nat → Int32), d + m = 31 → m < n → MH J q FR PE CO SC TL → arr (J (q + 15)) (pvL FR PE SC TL d) → (∀ i, i < PE.length → J (q + 20) i = nI (wn FR PE SC TL i d)) → ∃ J', fX12_most_47 q v1 K n (nI d) (J, R, S, N) = K (J', R, S, N) ∧ (∀ i, i < PE.length → J' (q + 20) i = nI (wn FR PE SC TL i 31)) ∧ MX J J' q := by
  have okl := ok.1
  intro m
  induction m with
  | zero =>
    intro d n J hd hn dM ha ho
    obtain ⟨n, rfl⟩ : ∃ n', n = n' + 1 := ⟨n - 1, by omega⟩
    have hd31 : d = 31 := by omega
    subst hd31
    refine ⟨J, ?_, ho, MX.rf⟩
    simp (disch := omega) only [fX12_most_47, z30, nlt]
    rw [if_pos (by omega)]
  | succ m ih =>
    intro d n J hd hn dM ha ho
    obtain ⟨n, rfl⟩ : ∃ n', n = n' + 1 := ⟨n - 1, by omega⟩
    obtain ⟨J2, g2, a2, f2⟩ := M_nightOf hm ok.2.2.2.1 (nI d) dM ha (pv_len FR PE SC TL d)
    have m2 : MX J J2 q := (MG.o15 f2).mx
    obtain ⟨J3, g3, s3, f3⟩ := M_morning hm ok.2.1 ok.2.2.1 (m2.mh dM) a2 (dw_len' FR PE SC TL d) (allA_dw FR PE SC TL d)
    have m3 : MX J J3 q := m2.tr f3.mx
    obtain ⟨J4, k1, k2, -, k4⟩ := M_msB (R := R) (S := S) (d := d) hm v1 (nI d) okl.2.2.1 (fun w_25 => fX12_most_47 q v1 K n (nI (d + 1)) w_25) PE.length 0 FV J3 (by omega) (FV_lt (by omega)) (m3.mh dM) s3.2.2
    have m4 : MX J J4 q := m3.tr (MX.one ⟨by omega, by omega⟩ k4)
    have ho4 : ∀ i, i < PE.length → J4 (q + 20) i = nI (wn FR PE SC TL i (d + 1)) := by
      intro i hi
      rw [k2 i (by omega) hi, f3.1 _ (by omega) (by omega) (by omega), f2 _ (by omega), ho i hi, wn]
      split
      · rw [Int32.add_zero, Nat.add_zero]
      · rw [nI_i1]
    obtain ⟨J', e1, e2, e3⟩ := ih (d + 1) n J4 (by omega) (by omega) (m4.mh dM) (by rw [k4 _ (by omega)]; exact s3.1) ho4
    refine ⟨J', ?_, e2, m4.tr e3⟩
    rw [fX12_most_47]
    simp (disch := omega) only [z30, nlt, Mo_o hm, g2, g3, Option.bind_some, nI_i1]
    rw [if_neg (by omega), z0, k1]
    exact e1
theorem M_msD (hm : isMo R S N q) (d : MH I q FR PE CO SC TL) (ho : ∀ i, i < PE.length → I (q + 20) i = nI (wn FR PE SC TL i 31)) (v1 : Int32) (K : Int32 → Wd → Option (Int32 × Wd)) : ∀ (m i b n : Nat), i + m = PE.length → m < n → b < PE.length → fX12_most_113 q v1 K n (nI b) (nI i) (I, R, S, N) = K (nI (bsF (fun i => wn FR PE SC TL i 31) b i m)) (I, R, S, N) := by
  have d0 := d.1
  intro m
  induction m with
  | zero =>
    intro i b n hi hn hb
    obtain ⟨n, rfl⟩ : ∃ n', n = n' + 1 := ⟨n - 1, by omega⟩
    simp (disch := omega) only [fX12_most_113, Mo_g hm, Option.bind_some, d.2.1.2.1, nle, bsF]
    rw [if_pos (by omega)]
  | succ m ih =>
    intro i b n hi hn hb
    obtain ⟨n, rfl⟩ : ∃ n', n = n' + 1 := ⟨n - 1, by omega⟩
    have w1 := wn_le FR PE SC TL i 31
    have w2 := wn_le FR PE SC TL b 31
    rw [fX12_most_113, bsF]
    simp (disch := omega) only [Mo_g hm, Option.bind_some, d.2.1.2.1, nle, Mo_31 hm, Mo_r31 hm, ho i (show i < PE.length by omega), ho b hb, nI_i1]
    rw [if_neg (by omega)]
    by_cases c : wn FR PE SC TL i 31 ≤ wn FR PE SC TL b 31
    · rw [if_pos c, if_pos c]
      exact ih (i + 1) b n (by omega) (by omega) hb
    · rw [if_neg c, if_neg c]
      exact ih (i + 1) i n (by omega) (by omega) (by omega)
theorem MM_most (hm : isMo R S N q) (d : MD I q tx FR PE CO SC TL UL KL SN) (ok : okS FR PE SC TL UL KL) (v : Int32) : ∃ J, fX12_most q v (I, R, S, N) = some (aMost FR PE SC TL v, (J, R, S, N)) ∧ MD J q tx FR PE CO SC TL UL KL SN ∧ ∀ p, (p < q ∨ q + 20 < p) → J p = I p := by
  have d1 := d.1
  have d0 := d1.1
  have okl := ok.1
  unfold aMost fX12_most
  simp only [M_inK (show 1 + 1 < 2 ^ 30 by decide) z1, Option.bind_some]
  rcases ixc v (n := 2) (by omega) with b1 | ⟨w, b1, rfl⟩
  · rw [ix_n b1]
    exact ⟨I, rfl, d, fun _ _ => rfl⟩
  · rw [ix_s b1 (by omega)]
    simp only [Option.isSome_some, if_true, i10, if_false, Mo_g hm, Option.bind_some, d1.2.1.2.1]
    by_cases hp : PE.length = 0
    · rw [if_pos hp]
      refine ⟨I, ?_, d, fun _ _ => rfl⟩
      rw [hp, if_pos z0.symm]
    · rw [if_neg hp, if_neg (nI_ne0 (by omega) (by omega))]
      have hw : nI w = 0 ↔ w = 0 := by rw [z0]; exact nI_eq (by omega) (by omega)
      have bl := bsF_lt (fun i => wn FR PE SC TL i 31) (PE.length - 1) 0 1 PE.length (by omega) (by omega)
      obtain ⟨J1, g1, b1', -, f1⟩ := M_msA (R := R) (S := S) hm (nI w) (fun w_8 => (isO 11 q w_8).bind fun u_9 => (fX12_begins q w_8).bind fun q_10 => fX12_most_47 q (nI w) (fun w_26 => fX12_most_113 q (nI w) (fun v2_35 w_34 => if nI w = 0 then some (v2_35, w_34) else (gfR 11 31 q w_34).bind fun r_37 => (rdI r_37 v2_35 w_34).bind fun x_38 => some (x_38, w_34)) FV (nI 0) (nI 1) w_26) FV (nI 0) q_10.2) 5 0 FV I (by omega) (FV_lt (by omega))
      have m1 : MX I J1 q := MX.one ⟨by omega, by omega⟩ f1
      obtain ⟨J2, g2, a2, f2⟩ := M_begins (TL := TL) hm (m1.mh d1)
      have m2 : MX I J2 q := m1.tr (MG.o15 f2).mx
      obtain ⟨J, e1, e2, e3⟩ := M_msC hm ok (nI w) (fun w_26 => fX12_most_113 q (nI w) (fun v2_35 w_34 => if nI w = 0 then some (v2_35, w_34) else (gfR 11 31 q w_34).bind fun r_37 => (rdI r_37 v2_35 w_34).bind fun x_38 => some (x_38, w_34)) FV (nI 0) (nI 1) w_26) 31 0 FV J2 (by omega) (FV_lt (by omega)) (m2.mh d1) a2 (fun i hi => by rw [f2 _ (by omega), b1' i (by omega) (by omega)]; rfl)
      have m3 := m2.tr e3
      refine ⟨J, ?_, m3.md d, fun p hp => m3.1 p (by omega) (by omega)⟩
      simp only [show (0 : Int32) = nI 0 from z0, show (1 : Int32) = nI 1 from z1] at g1 e1 ⊢
      rw [g1]
      simp only [Mo_o hm, g2, Option.bind_some, e1]
      rw [M_msD hm (m3.mh d1) e2 (nI w) _ (PE.length - 1) 1 0 FV (by omega) (FV_lt (by omega)) (by omega)]
      by_cases c : w = 0
      · subst c
        rw [if_pos rfl, if_pos rfl]
      · have c' : ¬ nI w = nI 0 := fun z => c ((nI_eq (by omega) (by omega)).mp z)
        rw [if_neg c', if_neg c]
        simp (disch := omega) only [Mo_31 hm, Mo_r31 hm, Option.bind_some, e2 _ bl]
end MOST
