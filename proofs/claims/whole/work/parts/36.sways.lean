/-! bits -/
def pcB (v : Nat) : Nat := (List.range 7).countP (fun i => v.testBit i)
theorem pcB_s : ∀ v, v < 128 → 0 < v → pcB v = 1 + pcB (v &&& (v - 1)) ∧ v &&& (v - 1) < v ∧ nI v &&& (nI v - 1) = nI (v &&& (v - 1)) := by decide +kernel
theorem M_bitsL (K : Int32 → Wd → Option (Int32 × Wd)) (w : Wd) : ∀ (v c n : Nat), v < 128 → v < n → fX12_bits_4 K n (nI c) (nI v) w = K (nI (c + pcB v)) w := by
  intro v
  induction v using Nat.strongRecOn with
  | ind v ih =>
    intro c n hv hn
    obtain ⟨n, rfl⟩ : ∃ n', n = n' + 1 := ⟨n - 1, by omega⟩
    rw [fX12_bits_4]
    by_cases h0 : v = 0
    · subst h0
      rw [if_pos (by decide)]
      rfl
    · obtain ⟨h1, h2, h3⟩ := pcB_s v hv (by omega)
      rw [if_neg (nI_nle (by omega) (by omega)), h3, nI_i1, ih _ h2 (c + 1) n (by omega) (by omega), h1]
      congr 2
      omega
theorem M_bits {v : Nat} (hv : v < 128) (w : Wd) : fX12_bits (nI v) w = some (nI (pcB v), w) := by
  rw [fX12_bits, z0, M_bitsL _ w v 0 FV hv (FV_lt (by omega)), Nat.zero_add]
def mkB (b0 b1 b2 b3 b4 b5 b6 : Bool) : Int32 := (if b0 then 1 else 0) ||| (if b1 then 2 else 0) ||| (if b2 then 4 else 0) ||| (if b3 then 8 else 0) ||| (if b4 then 16 else 0) ||| (if b5 then 32 else 0) ||| (if b6 then 64 else 0)
def mkN (b0 b1 b2 b3 b4 b5 b6 : Bool) : Nat := b0.toNat + 2 * b1.toNat + 4 * b2.toNat + 8 * b3.toNat + 16 * b4.toNat + 32 * b5.toNat + 64 * b6.toNat
theorem mkB_N : ∀ b0 b1 b2 b3 b4 b5 b6 : Bool, mkB b0 b1 b2 b3 b4 b5 b6 = nI (mkN b0 b1 b2 b3 b4 b5 b6) ∧ mkN b0 b1 b2 b3 b4 b5 b6 < 128 ∧ pcB (mkN b0 b1 b2 b3 b4 b5 b6) = b0.toNat + b1.toNat + b2.toNat + b3.toNat + b4.toNat + b5.toNat + b6.toNat := by decide +kernel
def mk7 (f : Nat → Bool) : Int32 := mkB (f 0) (f 1) (f 2) (f 3) (f 4) (f 5) (f 6)
theorem mk7_or0 : ∀ b0 b1 b2 b3 b4 b5 b6 : Bool, ∀ k, k < 7 → mkB b0 b1 b2 b3 b4 b5 b6 ||| ((1 : Int32) <<< (nI k &&& 31)) = mkB (b0 || decide (0 = k)) (b1 || decide (1 = k)) (b2 || decide (2 = k)) (b3 || decide (3 = k)) (b4 || decide (4 = k)) (b5 || decide (5 = k)) (b6 || decide (6 = k)) := by decide +kernel
theorem mk7_or (f : Nat → Bool) {k : Nat} (hk : k < 7) : mk7 f ||| ((1 : Int32) <<< (nI k &&& 31)) = mk7 (fun j => f j || decide (j = k)) := mk7_or0 _ _ _ _ _ _ _ k hk
def cntB (f : Nat → Bool) : Nat → Nat → Nat
  | _, 0 => 0
  | i, m + 1 => (f i).toNat + cntB f (i + 1) m
theorem M_bits7 (f : Nat → Bool) (w : Wd) : fX12_bits (mk7 f) w = some (nI (cntB f 0 7), w) := by
  obtain ⟨h1, h2, h3⟩ := mkB_N (f 0) (f 1) (f 2) (f 3) (f 4) (f 5) (f 6)
  have e : cntB f 0 7 = (f 0).toNat + ((f 1).toNat + ((f 2).toNat + ((f 3).toNat + ((f 4).toNat + ((f 5).toNat + ((f 6).toNat + 0)))))) := rfl
  rw [mk7, h1, M_bits h2, h3, e]
  congr 3
  omega
theorem cntB_cut (f : Nat → Bool) {n : Nat} (hn : n ≤ 7) : cntB (fun j => decide (j < n) && f j) 0 7 = cntB f 0 n := by
  rcases (show n = 0 ∨ n = 1 ∨ n = 2 ∨ n = 3 ∨ n = 4 ∨ n = 5 ∨ n = 6 ∨ n = 7 by omega) with rfl | rfl | rfl | rfl | rfl | rfl | rfl | rfl <;> simp [cntB]
theorem cntB_congr {f g : Nat → Bool} : ∀ (m i : Nat), (∀ j, i ≤ j → j < i + m → f j = g j) → cntB f i m = cntB g i m
  | 0, _, _ => rfl
  | m + 1, i, hh => by
    rw [cntB, cntB, hh i (by omega) (by omega), cntB_congr m (i + 1) (fun j h1 h2 => hh j (by omega) (by omega))]
theorem mk7_congr {f g : Nat → Bool} (hh : ∀ j, j < 7 → f j = g j) : mk7 f = mk7 g := by
  unfold mk7
  rw [hh 0 (by omega), hh 1 (by omega), hh 2 (by omega), hh 3 (by omega), hh 4 (by omega), hh 5 (by omega), hh 6 (by omega)]
/-! who sways -/
def swK (E : Nat → Int32) : Nat → Nat → Bool
  | _, 0 => false
  | d, m + 1 => decide (¬ E d = E 0) || swK E (d + 1) m
def swN (E : Nat → Int32) : Nat → Bool
  | 0 => false
  | d + 1 => swN E d || decide (¬ E d = E 0)
theorem swK_iff (E : Nat → Int32) : ∀ (m d : Nat), swK E d m = true ↔ ∃ e, d ≤ e ∧ e < d + m ∧ ¬ E e = E 0 := by
  intro m
  induction m with
  | zero => intro d; simp only [swK]; constructor <;> intro hh; cases hh; obtain ⟨e, h1, h2, -⟩ := hh; omega
  | succ m ih =>
    intro d
    simp only [swK, Bool.or_eq_true, decide_eq_true_eq, ih]
    constructor
    · rintro (hh | ⟨e, h1, h2, h3⟩)
      · exact ⟨d, Nat.le_refl d, by omega, hh⟩
      · exact ⟨e, by omega, by omega, h3⟩
    · rintro ⟨e, h1, h2, h3⟩
      by_cases c : e = d
      · subst c; exact Or.inl h3
      · exact Or.inr ⟨e, by omega, by omega, h3⟩
theorem swN_iff (E : Nat → Int32) : ∀ d, swN E d = true ↔ ∃ e, e < d ∧ ¬ E e = E 0 := by
  intro d
  induction d with
  | zero => simp only [swN]; constructor <;> intro hh; cases hh; obtain ⟨e, h1, -⟩ := hh; omega
  | succ d ih =>
    simp only [swN, Bool.or_eq_true, decide_eq_true_eq, ih]
    constructor
    · rintro (⟨e, h1, h2⟩ | hh)
      · exact ⟨e, by omega, h2⟩
      · exact ⟨d, by omega, hh⟩
    · rintro ⟨e, h1, h2⟩
      by_cases c : e = d
      · subst c; exact Or.inr h2
      · exact Or.inl ⟨e, by omega, h2⟩
theorem swKN (E : Nat → Int32) : swK E 1 30 = swN E 31 := by
  rw [Bool.eq_iff_iff, swK_iff, swN_iff]
  constructor
  · rintro ⟨e, h1, h2, h3⟩; exact ⟨e, by omega, h3⟩
  · rintro ⟨e, h1, h2⟩
    refine ⟨e, ?_, by omega, h2⟩
    rcases Nat.eq_zero_or_pos e with rfl | hh
    · exact absurd rfl h2
    · exact hh
def evE (FR : List F4) (PE : List P2) (SC : List C3) (TL : List T3) (k d : Nat) : Int32 := (pvL FR PE SC TL (d + 1)).getD k 0
def aSways (FR : List F4) (PE : List P2) (SC : List C3) (TL : List T3) : Int32 := nI (cntB (fun k => swN (evE FR PE SC TL k) 31) 0 FR.length)
section SWAYS
variable {R : Nat → Nat → Option Nat} {S : Nat → Nat × Nat} {N T G U V Kp Y L X W C h h2 q : Nat} {I : Nat → Nat → Int32} {tx : List Int32} {FR : List F4} {PE : List P2} {CO SC : List C3} {TL TT : List T3} {UL KL : List (List T3)} {SN : List P2}
theorem C_swL (hY : isDy R S N Y) (hF : FR.length ≤ 7) {k : Nat} (hk : k < FR.length) (dy : ∀ e, e < 31 → DyAt I Y FR PE SC TL e) (K1 K2 : Wd → Option (Int32 × Wd)) : ∀ (m d n : Nat), d + m = 31 → m < n → fX1_swaysOne_2 Y (nI k) K1 K2 n (nI d) (I, R, S, N) = if swK (evE FR PE SC TL k) d m = true then K1 (I, R, S, N) else K2 (I, R, S, N) := by
  intro m
  induction m with
  | zero =>
    intro d n hd hn
    obtain ⟨n, rfl⟩ : ∃ n', n = n' + 1 := ⟨n - 1, by omega⟩
    rw [fX1_swaysOne_2, z31, if_pos (nI_le (by omega) (by omega)), if_neg (show ¬ swK (evE FR PE SC TL k) d 0 = true by simp [swK])]
  | succ m ih =>
    intro d n hd hn
    obtain ⟨n, rfl⟩ : ∃ n', n = n' + 1 := ⟨n - 1, by omega⟩
    have e1 := (dy d (by omega)).2.1 k (by rw [pv_len]; exact hk)
    have e0 := (dy 0 (by omega)).2.1 k (by rw [pv_len]; exact hk)
    have t0 : rdR 14 (Y + 33) 0 (I, R, S, N) = some (Y + 34 + 0) := by rw [z0]; exact Dy_t1 hY I (by omega)
    have r0 : rdI (Y + 34 + 0) (nI k) (I, R, S, N) = some (I (Y + 34 + 0) k) := Dy_r1 hY I (by omega) (by omega)
    rw [fX1_swaysOne_2]
    by_cases c : evE FR PE SC TL k d = evE FR PE SC TL k 0
    · have c' : I (Y + 34 + d) k = I (Y + 34 + 0) k := by rw [e1, e0]; exact c
      have es : swK (evE FR PE SC TL k) d (m + 1) = swK (evE FR PE SC TL k) (d + 1) m := by simp [swK, c]
      rw [es]
      simp (disch := omega) only [z31, nle, Dy_1 hY, Dy_t1 hY, Dy_r1 hY, t0, r0, Option.bind_some, c', if_true, nI_i1, ih (d + 1) n (by omega) (by omega)]
      rw [if_neg (by omega)]
    · have c' : ¬ I (Y + 34 + d) k = I (Y + 34 + 0) k := by rw [e1, e0]; exact c
      have es : swK (evE FR PE SC TL k) d (m + 1) = true := by simp [swK, c]
      rw [if_pos es]
      simp (disch := omega) only [z31, nle, Dy_1 hY, Dy_t1 hY, Dy_r1 hY, t0, r0, Option.bind_some, c', if_false]
      rw [if_neg (by omega)]
theorem C_swC (hY : isDy R S N Y) (hF : FR.length ≤ 7) (dy : ∀ e, e < 31 → DyAt I Y FR PE SC TL e) (K : Int32 → Wd → Option (Int32 × Wd)) : ∀ (m i c n : Nat), i + m = FR.length → m < n → fX1_swaying_4 Y (nI FR.length) K n (nI c) (nI i) (I, R, S, N) = K (nI (c + cntB (fun k => swN (evE FR PE SC TL k) 31) i m)) (I, R, S, N) := by
  intro m
  induction m with
  | zero =>
    intro i c n hi hn
    obtain ⟨n, rfl⟩ : ∃ n', n = n' + 1 := ⟨n - 1, by omega⟩
    simp (disch := omega) only [fX1_swaying_4, nle, cntB, Nat.add_zero]
    rw [if_pos (by omega)]
  | succ m ih =>
    intro i c n hi hn
    obtain ⟨n, rfl⟩ : ∃ n', n = n' + 1 := ⟨n - 1, by omega⟩
    have hs : fX1_swaysOne Y (nI i) (I, R, S, N) = some (if swN (evE FR PE SC TL i) 31 = true then 1 else 0, (I, R, S, N)) := by
      rw [fX1_swaysOne, z1, C_swL hY hF (show i < FR.length by omega) dy _ _ 30 1 FV (by omega) (FV_lt (by omega)), swKN]
      split <;> rfl
    rw [fX1_swaying_4, cntB]
    simp (disch := omega) only [nle, Dy_o hY, hs, Option.bind_some]
    rw [if_neg (by omega)]
    cases hb : swN (evE FR PE SC TL i) 31 with
    | true =>
      rw [show (if true = true then (1 : Int32) else 0) = 1 from rfl, if_neg i10, nI_i1, nI_i1, ih (i + 1) (c + 1) n (by omega) (by omega)]
      congr 2
      simp only [Bool.toNat_true]
      omega
    | false =>
      rw [show (if false = true then (1 : Int32) else 0) = 0 from rfl, if_pos rfl, nI_i1, ih (i + 1) c n (by omega) (by omega)]
      congr 2
      simp only [Bool.toNat_false]
      omega
theorem C_sways (cf : CF R S N T G U V Kp Y L X W C h h2) (cd : CD I R T U V Kp Y X h tx FR PE SC TL UL KL SN) (ok : okS FR PE SC TL UL KL) : ∃ J, fX11_sways 0 (I, R, S, N) = some (aSways FR PE SC TL, (J, R, S, N)) ∧ CD J R T U V Kp Y X h tx FR PE SC TL UL KL SN ∧ ∀ p, 201 < p → J p = I p := by
  have cf0 := cf
  obtain ⟨pl, cf1, hT, hG, hU, hV, hK, hY, hL, hX, hW, hC, hH, hH2⟩ := cf
  have pY : Y = 53 := pl.2.2.2.2.2.1
  have okl := ok.1
  obtain ⟨J, e1, e2, e3, e4, e5⟩ := C_days cf0 cd ok
  obtain ⟨TT, c5⟩ := e2.2.2.2.2.1
  refine ⟨J, ?_, e2, fun p hp => e5 p (by omega)⟩
  simp only [fX11_sways, fX1_swaying, f_o cf1, e1, f_10 cf1, Ho_g hH, c5.2.1.1, Dy_o hY, Option.bind_some]
  rw [z0, C_swC hY (by omega) e3 _ FR.length 0 0 FV (by omega) (FV_lt (by omega)), Nat.zero_add]
  rfl
theorem M_sw0 (hm : isMo R S N q) {a : List Int32} (hla : a.length = FR.length) (K : Int32 → Wd → Option (Int32 × Wd)) (v1 : Int32) : ∀ (m i n : Nat) (J : Nat → Nat → Int32), i + m = FR.length → m < n → MH J q FR PE CO SC TL → arr (J (q + 15)) a → ∃ J', fX12_sways_25 q 0 K n v1 (nI i) (J, R, S, N) = K v1 (J', R, S, N) ∧ (∀ k, i ≤ k → k < FR.length → J' (q + 18) k = a.getD k 0) ∧ (∀ k, k < i → J' (q + 18) k = J (q + 18) k) ∧ ∀ p, p ≠ q + 18 → J' p = J p := by
  intro m
  induction m with
  | zero =>
    intro i n J hi hn d ha
    obtain ⟨n, rfl⟩ : ∃ n', n = n' + 1 := ⟨n - 1, by omega⟩
    have d0 := d.1
    refine ⟨J, ?_, fun k h1 h2 => by omega, fun _ _ => rfl, fun _ _ => rfl⟩
    simp (disch := omega) only [fX12_sways_25, Mo_g hm, Option.bind_some, d.2.1.1, nle]
    rw [if_pos (by omega)]
  | succ m ih =>
    intro i n J hi hn d ha
    obtain ⟨n, rfl⟩ : ∃ n', n = n' + 1 := ⟨n - 1, by omega⟩
    have d0 := d.1
    obtain ⟨J1, hJ1⟩ : ∃ J1, J1 = up1 J (q + 18) (upd (J (q + 18)) i (a.getD i 0)) := ⟨_, rfl⟩
    have f1 : ∀ p, p ≠ q + 18 → J1 p = J p := fun p hp => by rw [hJ1, up1_n _ _ hp]
    have hw : wrI (q + 18) (nI i) (a.getD i 0) (J, R, S, N) = some (J1, R, S, N) := by rw [hJ1]; exact Mo_w29 hm J _ (by omega)
    have r1 : J1 (q + 18) i = a.getD i 0 := by rw [hJ1, up1_s]; simp [upd]
    have r2 : J1 (q + 15) i = a.getD i 0 := by rw [f1 _ (by omega)]; exact ha i (by omega)
    obtain ⟨J', e1, e2, e3, e4⟩ := ih (i + 1) n J1 (by omega) (by omega) (d.of (by rw [f1 _ (by omega)]) (by rw [f1 _ (by omega)]) (by rw [f1 _ (by omega)]) (fun p h1 h2 => f1 p (by omega))) (by rw [f1 _ (by omega)]; exact ha)
    refine ⟨J', ?_, ?_, ?_, fun p hp => by rw [e4 p hp, f1 p hp]⟩
    · rw [fX12_sways_25]
      simp (disch := omega) only [Mo_g hm, Option.bind_some, d.2.1.1, nle, Mo_29 hm, Mo_25 hm, Mo_r25 hm, ha i (by omega), hw, Mo_r29 hm, r1, r2, if_true, Int32.or_zero, nI_i1, e1]
      rw [if_neg (by omega)]
    · intro k h1 h2
      by_cases e : k = i
      · subst e
        rw [e3 k (by omega)]
        exact r1
      · exact e2 k (by omega) h2
    · intro k hk
      rw [e3 k (by omega), hJ1, up1_s]
      simp only [upd, if_neg (show ¬ k = i by omega)]
theorem M_sw1 (hm : isMo R S N q) {a b : List Int32} (hla : a.length = FR.length) (hlb : b.length = FR.length) {d : Nat} (hd : 0 < d) (hd2 : d < 31) (K : Int32 → Wd → Option (Int32 × Wd)) : ∀ (m i n : Nat) (f : Nat → Bool) (J : Nat → Nat → Int32), i + m = FR.length → m < n → MH J q FR PE CO SC TL → arr (J (q + 15)) a → arr (J (q + 18)) b → ∃ J', fX12_sways_25 q (nI d) K n (mk7 f) (nI i) (J, R, S, N) = K (mk7 (fun j => f j || (decide (i ≤ j) && decide (j < FR.length) && decide (¬ a.getD j 0 = b.getD j 0)))) (J', R, S, N) ∧ arr (J' (q + 18)) b ∧ ∀ p, p ≠ q + 18 → J' p = J p := by
  have hd0 : ¬ nI d = 0 := nI_ne0 hd (by omega)
  intro m
  induction m with
  | zero =>
    intro i n f J hi hn dM ha hb
    obtain ⟨n, rfl⟩ : ∃ n', n = n' + 1 := ⟨n - 1, by omega⟩
    have d0 := dM.1
    refine ⟨J, ?_, hb, fun _ _ => rfl⟩
    simp (disch := omega) only [fX12_sways_25, Mo_g hm, Option.bind_some, dM.2.1.1, nle]
    rw [if_pos (by omega), mk7_congr (f := f)]
    intro j hj
    by_cases c : i ≤ j
    · simp [show ¬ j < FR.length by omega]
    · simp [c]
  | succ m ih =>
    intro i n f J hi hn dM ha hb
    obtain ⟨n, rfl⟩ : ∃ n', n = n' + 1 := ⟨n - 1, by omega⟩
    have d0 := dM.1
    obtain ⟨J1, hJ1⟩ : ∃ J1, J1 = up1 J (q + 18) (upd (J (q + 18)) i (b.getD i 0)) := ⟨_, rfl⟩
    have f1 : ∀ p, p ≠ q + 18 → J1 p = J p := fun p hp => by rw [hJ1, up1_n _ _ hp]
    have hw : wrI (q + 18) (nI i) (b.getD i 0) (J, R, S, N) = some (J1, R, S, N) := by rw [hJ1]; exact Mo_w29 hm J _ (by omega)
    have hb1 : arr (J1 (q + 18)) b := by
      intro k hk
      rw [hJ1, up1_s]
      simp only [upd]
      split
      · rename_i e; rw [e]
      · exact hb k hk
    have ha1 : arr (J1 (q + 15)) a := by rw [f1 _ (by omega)]; exact ha
    have dM1 : MH J1 q FR PE CO SC TL := dM.of (by rw [f1 _ (by omega)]) (by rw [f1 _ (by omega)]) (by rw [f1 _ (by omega)]) (fun p h1 h2 => f1 p (by omega))
    rw [fX12_sways_25]
    by_cases c : a.getD i 0 = b.getD i 0
    · obtain ⟨J', e1, e2, e3⟩ := ih (i + 1) n f J1 (by omega) (by omega) dM1 ha1 hb1
      refine ⟨J', ?_, e2, fun p hp => by rw [e3 p hp, f1 p hp]⟩
      simp (disch := omega) only [Mo_g hm, Option.bind_some, dM.2.1.1, nle, Mo_29 hm, Mo_25 hm, Mo_r25 hm, Mo_r29 hm, hd0, if_false, hb i (by omega), hw, ha1 i (by omega), hb1 i (by omega), c, if_true, Int32.or_zero, nI_i1, e1]
      rw [if_neg (by omega)]
      congr 1
      apply mk7_congr
      intro j hj
      by_cases ej : j = i
      · subst ej
        have k1 : ¬ j + 1 ≤ j := by omega
        simp only [c, not_true_eq_false, decide_false, Bool.and_false, Bool.or_false, k1, Bool.false_and]
      · by_cases cj : i ≤ j
        · simp [cj, show i + 1 ≤ j by omega]
        · simp [cj, show ¬ i + 1 ≤ j by omega]
    · obtain ⟨J', e1, e2, e3⟩ := ih (i + 1) n (fun j => f j || decide (j = i)) J1 (by omega) (by omega) dM1 ha1 hb1
      refine ⟨J', ?_, e2, fun p hp => by rw [e3 p hp, f1 p hp]⟩
      simp (disch := omega) only [Mo_g hm, Option.bind_some, dM.2.1.1, nle, Mo_29 hm, Mo_25 hm, Mo_r25 hm, Mo_r29 hm, hd0, if_false, hb i (by omega), hw, ha1 i (by omega), hb1 i (by omega), c, nI_i1, mk7_or f (show i < 7 by omega), e1]
      rw [if_neg (by omega)]
      congr 1
      apply mk7_congr
      intro j hj
      by_cases ej : j = i
      · subst ej
        have k1 : ¬ j + 1 ≤ j := by omega
        have k2 : j < FR.length := by omega
        simp only [c, not_false_eq_true, decide_true, Bool.and_true, Nat.le_refl, k1, k2, decide_false, Bool.false_and, Bool.or_false, Bool.or_true]
      · by_cases cj : i ≤ j
        · simp [cj, show i + 1 ≤ j by omega, ej]
        · simp [cj, show ¬ i + 1 ≤ j by omega, ej]
theorem M_swC (hm : isMo R S N q) (ok : okS FR PE SC TL UL KL) (K : Int32 → Wd → Option (Int32 × Wd)) : ∀ (m d n : Nat) (J : Nat → Nat → Int32), d + m = 31 → m < n → MH J q FR PE CO SC TL → arr (J (q + 15)) (pvL FR PE SC TL d) → (0 < d → arr (J (q + 18)) (pvL FR PE SC TL 1)) → ∃ J', fX12_sways_8 q K n (mk7 (fun j => decide (j < FR.length) && swN (evE FR PE SC TL j) d)) (nI d) (J, R, S, N) = K (mk7 (fun j => decide (j < FR.length) && swN (evE FR PE SC TL j) 31)) (J', R, S, N) ∧ MX J J' q := by
  have okl := ok.1
  intro m
  induction m with
  | zero =>
    intro d n J hd hn dM ha hb
    obtain ⟨n, rfl⟩ : ∃ n', n = n' + 1 := ⟨n - 1, by omega⟩
    have hd31 : d = 31 := by omega
    subst hd31
    refine ⟨J, ?_, MX.rf⟩
    simp (disch := omega) only [fX12_sways_8, z30, nlt]
    rw [if_pos (by omega)]
  | succ m ih =>
    intro d n J hd hn dM ha hb
    obtain ⟨n, rfl⟩ : ∃ n', n = n' + 1 := ⟨n - 1, by omega⟩
    have l1 := pv_len FR PE SC TL (d + 1)
    obtain ⟨J2, g2, a2, f2⟩ := M_nightOf hm ok.2.2.2.1 (nI d) dM ha (pv_len FR PE SC TL d)
    have m2 : MX J J2 q := (MG.o15 f2).mx
    obtain ⟨J3, g3, s3, f3⟩ := M_morning hm ok.2.1 ok.2.2.1 (m2.mh dM) a2 (dw_len' FR PE SC TL d) (allA_dw FR PE SC TL d)
    have m3 : MX J J3 q := m2.tr f3.mx
    have a15 : arr (J3 (q + 15)) (pvL FR PE SC TL (d + 1)) := s3.1
    rw [fX12_sways_8]
    simp (disch := omega) only [z30, nlt, Mo_o hm, g2, g3, Option.bind_some, nI_i1]
    rw [if_neg (by omega)]
    by_cases c : d = 0
    · subst c
      obtain ⟨J4, k1, k2, -, k4⟩ := M_sw0 hm l1 (fun v1_29 w_28 => fX12_sways_8 q K n v1_29 (nI (0 + 1)) w_28) (mk7 (fun j => decide (j < FR.length) && swN (evE FR PE SC TL j) 0)) FR.length 0 FV J3 (by omega) (FV_lt (by omega)) (m3.mh dM) a15
      have m4 : MX J J4 q := m3.tr (MX.one ⟨by omega, by omega⟩ k4)
      obtain ⟨J', e1, e2⟩ := ih (0 + 1) n J4 (by omega) (by omega) (m4.mh dM) (by rw [k4 _ (by omega)]; exact a15) (fun _ k hk => k2 k (by omega) (by rw [pv_len] at hk; exact hk))
      refine ⟨J', ?_, m4.tr e2⟩
      rw [show (0 : Int32) = nI 0 from z0] at k1 ⊢
      rw [k1, ← e1]
      congr 1
      apply mk7_congr
      intro j hj
      simp [swN]
    · obtain ⟨J4, k1, k2, k3⟩ := M_sw1 hm l1 (pv_len FR PE SC TL 1) (show 0 < d by omega) (by omega) (fun v1_29 w_28 => fX12_sways_8 q K n v1_29 (nI (d + 1)) w_28) FR.length 0 FV (fun j => decide (j < FR.length) && swN (evE FR PE SC TL j) d) J3 (by omega) (FV_lt (by omega)) (m3.mh dM) a15 (by rw [f3.1 _ (by omega) (by omega) (by omega), f2 _ (by omega)]; exact hb (by omega))
      have m4 : MX J J4 q := m3.tr (MX.one ⟨by omega, by omega⟩ k3)
      obtain ⟨J', e1, e2⟩ := ih (d + 1) n J4 (by omega) (by omega) (m4.mh dM) (by rw [k3 _ (by omega)]; exact a15) (fun _ => k2)
      refine ⟨J', ?_, m4.tr e2⟩
      rw [z0, k1, ← e1]
      congr 1
      apply mk7_congr
      intro j hj
      by_cases cj : j < FR.length
      · simp [cj, swN, evE]
      · simp [cj]
theorem MM_sways (hm : isMo R S N q) (d : MD I q tx FR PE CO SC TL UL KL SN) (ok : okS FR PE SC TL UL KL) : ∃ J, fX12_sways q (I, R, S, N) = some (aSways FR PE SC TL, (J, R, S, N)) ∧ MD J q tx FR PE CO SC TL UL KL SN ∧ ∀ p, (p < q ∨ q + 20 < p) → J p = I p := by
  have d1 := d.1
  have okl := ok.1
  obtain ⟨J1, g1, a1, f1⟩ := M_begins (TL := TL) hm d1
  have m1 : MX I J1 q := (MG.o15 f1).mx
  obtain ⟨J, e1, e2⟩ := M_swC hm ok (fun v w => (fX12_bits v w).bind fun z => some (z.1, z.2)) 31 0 FV J1 (by omega) (FV_lt (by omega)) (m1.mh d1) a1 (fun h => by omega)
  have m2 := m1.tr e2
  refine ⟨J, ?_, m2.md d, fun p hp => m2.1 p (by omega) (by omega)⟩
  have e0 : mk7 (fun j => decide (j < FR.length) && swN (evE FR PE SC TL j) 0) = nI 0 := by
    rw [mk7_congr (g := fun _ => false) (fun j _ => by simp [swN])]
    decide
  rw [e0] at e1
  simp only [fX12_sways, Mo_o hm, Option.bind_some, g1]
  rw [z0, e1, M_bits7, cntB_cut _ (by omega)]
  rfl
end SWAYS
