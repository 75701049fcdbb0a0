/-! nights by draws -/
def dz (z d : Nat) : Nat := ((7919 * z + 6151 * d + 1) * (7919 * z + 6151 * d + 1)) % 65521
theorem dz_lt (z d : Nat) : dz z d < 65521 := Nat.mod_lt _ (by omega)
theorem draw_eq {z d : Nat} (hz : z < 10000) (hd : d < 31) : Int64.toInt32 ((((((7919 : Int64) * (Int32.toInt64 (nI z))) + ((6151 : Int64) * (Int32.toInt64 (nI d)))) + (1 : Int64)) * ((((7919 : Int64) * (Int32.toInt64 (nI z))) + ((6151 : Int64) * (Int32.toInt64 (nI d)))) + (1 : Int64))) - (((((7919 : Int64) * (Int32.toInt64 (nI z))) + ((6151 : Int64) * (Int32.toInt64 (nI d)))) + (1 : Int64)) * ((((7919 : Int64) * (Int32.toInt64 (nI z))) + ((6151 : Int64) * (Int32.toInt64 (nI d)))) + (1 : Int64))) / (65521 : Int64) * (65521 : Int64)) = nI (dz z d) := by
  have e1 : (7919 : Int64) = lN 7919 := by decide
  have e2 : (6151 : Int64) = lN 6151 := by decide
  have e3 : (1 : Int64) = lN 1 := by decide
  have e4 : (65521 : Int64) = lN 65521 := by decide
  rw [e1, e2, e3, e4, nI_l (by omega), nI_l (by omega), lN_mul, lN_mul, lN_add, lN_add, lN_mul]
  have hb : 7919 * z + 6151 * d + 1 ≤ 79368000 := by omega
  have hq : (7919 * z + 6151 * d + 1) * (7919 * z + 6151 * d + 1) ≤ 79368000 * 79368000 := Nat.mul_le_mul hb hb
  rw [pk_lRem (by omega) (by omega) (by omega), lN_i]
  rfl
/-- day by day by draws: angles, how often -/
def nvL (FR : List F4) (PE : List P2) (SC : List C3) (z : Nat) : Nat → List Int32
  | 0 => FR.map (fun f => f.2.1)
  | d + 1 => (mnL FR PE SC (tnL (dz z d % FR.length) (nI (dz z d / 8 % 41) - 20) (twL FR (nvL FR PE SC z d)))).1
def nwL (FR : List F4) (PE : List P2) (SC : List C3) (z d : Nat) : List Int32 := tnL (dz z d % FR.length) (nI (dz z d / 8 % 41) - 20) (twL FR (nvL FR PE SC z d))
theorem nw_len (FR : List F4) (PE : List P2) (SC : List C3) (z d : Nat) : (nwL FR PE SC z d).length = FR.length := by rw [nwL, tn_len, tw_len]
theorem nv_len (FR : List F4) (PE : List P2) (SC : List C3) (z d : Nat) : (nvL FR PE SC z d).length = FR.length := by
  cases d with
  | zero => simp [nvL]
  | succ d =>
    show ((mnL FR PE SC (nwL FR PE SC z d)).1).length = _
    rw [(mn_len FR PE SC _).1, nw_len]
/-- how many of five are set -/
def cn5 (s : List Int32) : Nat := (List.range 5).countP (fun i => decide (¬ s.getD i (-4) = -4))
theorem mask_B (s : List Int32) (hs : s.length = 5) : ∃ b0 b1 b2 b3 b4 : Bool, mask s = mkB b0 b1 b2 b3 b4 false false ∧ cn5 s = b0.toNat + b1.toNat + b2.toNat + b3.toNat + b4.toNat := by
  match s, hs with
  | [a, b, c, d, e], _ =>
    refine ⟨decide (¬ a = -4), decide (¬ b = -4), decide (¬ c = -4), decide (¬ d = -4), decide (¬ e = -4), ?_, ?_⟩
    · simp only [mask, List.range, List.range.loop, List.foldl, List.getD_cons_zero, List.getD_cons_succ]
      by_cases h1 : a = -4 <;> by_cases h2 : b = -4 <;> by_cases h3 : c = -4 <;> by_cases h4 : d = -4 <;> by_cases h5 : e = -4 <;> simp only [h1, h2, h3, h4, h5, if_true, if_false, not_true_eq_false, not_false_eq_true, decide_true, decide_false] <;> decide
    · simp only [cn5, List.range, List.range.loop, List.countP_cons, List.countP_nil, List.getD_cons_zero, List.getD_cons_succ]
      by_cases h1 : a = -4 <;> by_cases h2 : b = -4 <;> by_cases h3 : c = -4 <;> by_cases h4 : d = -4 <;> by_cases h5 : e = -4 <;> simp only [h1, h2, h3, h4, h5, if_true, if_false, not_true_eq_false, not_false_eq_true, decide_true, decide_false] <;> decide
theorem M_bitsm {s : List Int32} (hs : s.length = 5) (w : Wd) : fX12_bits (mask s) w = some (nI (cn5 s), w) := by
  obtain ⟨b0, b1, b2, b3, b4, h1, h2⟩ := mask_B s hs
  obtain ⟨k1, k2, k3⟩ := mkB_N b0 b1 b2 b3 b4 false false
  rw [h1, k1, M_bits k2, k3, h2]
  rfl
theorem bc_w (v : Int32) (w w' : Wd) : fJ6_bitCount_0f7a4 v w = (fJ6_bitCount_0f7a4 v w').map (fun r => (r.1, w)) := rfl
def w00 : Wd := (fun _ _ => 0, fun _ _ => none, fun _ => (0, 0), 0)
theorem bc_B : ∀ b0 b1 b2 b3 b4 : Bool, (fJ6_bitCount_0f7a4 (mkB b0 b1 b2 b3 b4 false false) w00).map (fun r => r.1) = some (nI (b0.toNat + b1.toNat + b2.toNat + b3.toNat + b4.toNat)) := by decide +kernel
theorem C_bitm {s : List Int32} (hs : s.length = 5) (w : Wd) : fJ6_bitCount_0f7a4 (mask s) w = some (nI (cn5 s), w) := by
  obtain ⟨b0, b1, b2, b3, b4, h1, h2⟩ := mask_B s hs
  have h3 := bc_B b0 b1 b2 b3 b4
  rw [h1, bc_w _ w w00, h2]
  cases hh : fJ6_bitCount_0f7a4 (mkB b0 b1 b2 b3 b4 false false) w00 with
  | none => rw [hh] at h3; cases h3
  | some r =>
    rw [hh] at h3
    have h4 : r.1 = nI (b0.toNat + b1.toNat + b2.toNat + b3.toNat + b4.toNat) := Option.some.inj h3
    show some (r.1, w) = _
    rw [h4]
def nsL (FR : List F4) (PE : List P2) (SC : List C3) (z : Nat) : Nat → Nat
  | 0 => 0
  | d + 1 => nsL FR PE SC z d + cn5 (mnL FR PE SC (nwL FR PE SC z d)).2
def aNight (FR : List F4) (PE : List P2) (SC : List C3) (v1 v2 : Int32) : Int32 := match ix v1 10000, ix v2 2 with
  | some z, some w => if w = 0 then nI (nsL FR PE SC z 31) else (nvL FR PE SC z 31).getD 0 0 + 40
  | _, _ => -1
theorem dvI8 {n : Nat} (h : n < 2 ^ 31) : dvI (nI n) 8 = some (nI (n / 8)) := by
  rw [dvI, if_neg (by decide), z8, pk_div h (by omega) (by omega)]
theorem rmI41 {n : Nat} (h : n < 2 ^ 31) : rmI (nI n) 41 = some (nI (n % 41)) := by
  rw [rmI, if_neg (by decide), z41, pk_rem h (by omega) (by omega)]
theorem rmIn {n m : Nat} (h : n < 2 ^ 31) (hm : 0 < m) (hm2 : m < 2 ^ 31) : rmI (nI n) (nI m) = some (nI (n % m)) := by
  rw [rmI, if_neg (nI_ne0 hm hm2), pk_rem h hm hm2]
theorem asA (a b c : Int32) : a + b - c = a + (b - c) := by rw [Int32.sub_eq_add_neg, Int32.sub_eq_add_neg, Int32.add_assoc]
theorem bS {α β : Type} (a : α) (f : α → Option β) : (some a).bind f = f a := Eq.trans rfl (Eq.refl (f a))
section NIGHT
variable {R : Nat → Nat → Option Nat} {S : Nat → Nat × Nat} {N T G U V Kp Y L X W C h h2 q : Nat} {I : Nat → Nat → Int32} {tx : List Int32} {FR : List F4} {PE : List P2} {CO SC : List C3} {TL TT : List T3} {UL KL : List (List T3)} {SN : List P2}
theorem C_turnOne (hw : isDr R S N W) (hF : 0 < FR.length ∧ FR.length ≤ 7) {a : List Int32} (hl : a.length = FR.length) {J : Nat → Nat → Int32} (ha : arr (J (W + 1)) a) {x : Nat} (hx : x < 65521) : ∃ J', fX2_turnOne W (nI FR.length) (nI x) (J, R, S, N) = some ((), (J', R, S, N)) ∧ arr (J' (W + 1)) (tnL (x % FR.length) (nI (x / 8 % 41) - 20) a) ∧ ∀ p, p ≠ W + 1 → J' p = J p := by
  obtain ⟨m, hm⟩ : ∃ m, m = x % FR.length := ⟨_, rfl⟩
  obtain ⟨y, hy⟩ : ∃ y, y = x / 8 % 41 := ⟨_, rfl⟩
  have hm2 : m < FR.length := by rw [hm]; exact Nat.mod_lt _ hF.1
  have x1 : x < 2 ^ 31 := by omega
  have r1 : rmI (nI x) (nI FR.length) = some (nI m) := by rw [hm]; exact rmIn x1 hF.1 (by omega)
  have r2 : dvI (nI x) 8 = some (nI (x / 8)) := dvI8 x1
  have r3 : rmI (nI (x / 8)) 41 = some (nI y) := by rw [hy]; exact rmI41 (by omega)
  rw [← hm, ← hy]
  clear hm hy
  refine ⟨up1 J (W + 1) (upd (J (W + 1)) m (wth (a.getD m 0 + (nI y - 20)))), ?_, by rw [up1_s]; exact ha.set _ _ (by omega), fun p hp => up1_n _ _ hp⟩
  have k7 : m < 7 := by omega
  have r4 : J (W + 1) m = a.getD m 0 := ha _ (by rw [hl]; exact hm2)
  rw [fX2_turnOne, if_neg (nI_nle hF.1 (by omega))]
  simp only [r1, r2, r3, bS, Dr_0 hw, Dr_r0 hw J k7, r4, S_kept, Dr_w0 hw J _ k7, asA]
theorem C_ngL (hw : isDr R S N W) (hH : isHo R S N h) (o1 : W + 2 < h) (ok : okS FR PE SC TL UL KL) {z : Nat} (hz : z < 10000) (K : Int32 → Wd → Option (Int32 × Wd)) : ∀ (m d n : Nat) (J : Nat → Nat → Int32), d + m = 31 → m < n → HAt J h FR PE SC TT → arr (J (W + 1)) (nvL FR PE SC z d) → ∃ J', fX2_play_20 W h (nI z) K n (nI (nsL FR PE SC z d)) (nI d) (J, R, S, N) = K (nI (nsL FR PE SC z 31)) (J', R, S, N) ∧ arr (J' (W + 1)) (nvL FR PE SC z 31) ∧ ∀ p, p ≠ W + 1 → p ≠ W + 2 → J' p = J p := by
  have okl := ok.1
  have hN := hw.1
  have A1 : isA S N (W + 1) 7 := ⟨by omega, hw.2.2.1.1⟩
  have A2 : isA S N (W + 2) 5 := ⟨by omega, hw.2.2.2.1⟩
  intro m
  induction m with
  | zero =>
    intro d n J hd hn dH ha
    obtain ⟨n, rfl⟩ : ∃ n', n = n' + 1 := ⟨n - 1, by omega⟩
    have hd31 : d = 31 := by omega
    subst hd31
    refine ⟨J, ?_, ha, fun _ _ _ => rfl⟩
    rw [fX2_play_20, z31, if_pos (nI_le (Nat.le_refl _) (by omega))]
  | succ m ih =>
    intro d n J hd hn dH ha
    obtain ⟨n, rfl⟩ : ∃ n', n = n' + 1 := ⟨n - 1, by omega⟩
    have l0 := nv_len FR PE SC z d
    obtain ⟨J1, g1, a1, f1⟩ := S_twist hH A1 (by omega) dH ha l0
    obtain ⟨J2, g2, a2, f2⟩ := C_turnOne hw ⟨okl.1, okl.2.1⟩ (tw_len _) a1 (dz_lt z d)
    have dH2 : HAt J2 h FR PE SC TT := dH.of (fun p h1 h2 => by rw [f2 p (by omega), f1 p (by omega)])
    obtain ⟨J3, g3, a3, s3, f3⟩ := S_letCome hH A1 A2 (by omega) (by omega) (by omega) ok.2.1 ok.2.2.1 dH2 a2 (nw_len FR PE SC z d)
    obtain ⟨J', e1, e2, e3⟩ := ih (d + 1) n J3 (by omega) (by omega) (dH2.of (fun p h1 h2 => f3 p (by omega) (by omega))) a3
    refine ⟨J', ?_, e2, fun p h1 h2 => by rw [e3 p h1 h2, f3 p h1 h2, f2 p h1, f1 p h1]⟩
    have hdr : fX2_draw (nI z) (nI d) (J1, R, S, N) = some (nI (dz z d), (J1, R, S, N)) := by rw [fX2_draw, draw_eq hz (by omega)]
    have x4 : J1 h 4 = nI FR.length := by rw [f1 h (by omega)]; exact dH.2.1.1
    rw [fX2_play_20, if_neg (show ¬ (31 : Int32) ≤ nI d from by rw [z31]; exact nI_ge (by omega) (by omega))]
    simp only [Dr_0 hw, Dr_1 hw, Dr_o hw, Ho_o hH, Ho_g hH, g1, x4, hdr, g2, g3, bS]
    rw [C_bitm (mn_len FR PE SC _).2]
    simp only [bS, nI_add, nI_i1]
    exact e1
theorem C_night (cf : CF R S N T G U V Kp Y L X W C h h2) (cd : CD I R T U V Kp Y X h tx FR PE SC TL UL KL SN) (ok : okS FR PE SC TL UL KL) (v1 v2 : Int32) : ∃ J, fX11_night 0 v1 v2 (I, R, S, N) = some (aNight FR PE SC v1 v2, (J, R, S, N)) ∧ CD J R T U V Kp Y X h tx FR PE SC TL UL KL SN ∧ ∀ p, 201 < p → J p = I p := by
  have cf0 := cf
  obtain ⟨pl, cf1, hT, hG, hU, hV, hK, hY, hL, hX, hW, hC, hH, hH2⟩ := cf
  obtain ⟨c1, c2, ⟨c3a, c3⟩, ⟨c4a, c4⟩, ⟨TT, c5⟩, c6, c7⟩ := id cd
  obtain ⟨p1, p2, p3, p4, p5, p6, p7, p8, p9, p10, p11⟩ := pl
  have okl := ok.1
  have hN := hW.1
  have hNh := hH.1
  have z10000 : (10000 : Int32) = nI 10000 := by decide
  unfold aNight fX11_night
  simp only [z10000]
  rcases ixc v1 (n := 10000) (by omega) with b1 | ⟨z, b1, rfl⟩
  · rw [ix_n b1, C_out1 b1]
    exact ⟨I, by simp only [bS]; rw [if_neg (by decide)], cd, fun _ _ => rfl⟩
  · rw [ix_s b1 (by omega), C_out0 b1 (by omega), show (2 : Int32) = nI 2 from z2]
    simp only [bS, if_true]
    rcases ixc v2 (n := 2) (by omega) with b2 | ⟨w, b2, rfl⟩
    · rw [ix_n b2, C_out1 b2]
      exact ⟨I, by simp only [bS]; rw [if_neg (by decide)], cd, fun _ _ => rfl⟩
    · rw [ix_s b2 (by omega), C_out0 b2 (by omega)]
      obtain ⟨J0, hJ0⟩ : ∃ J0, J0 = up1 I (W + 1) (fun k => if k < 7 then I (h + 2) k else I (W + 1) k) := ⟨_, rfl⟩
      have f0 : ∀ p, p ≠ W + 1 → J0 p = I p := fun p hp => by rw [hJ0, up1_n _ _ hp]
      have a0 : arr (J0 (W + 1)) (nvL FR PE SC z 0) := by
        rw [hJ0, up1_s]
        refine arr_cp (fun k hk => ?_) (by rw [nv_len]; omega)
        have hk2 : k < FR.length := by simpa [nvL] using hk
        rw [(c5.2.2.1 k hk2).2.1, gD hk, gD hk2]
        simp [nvL]
      obtain ⟨J, e1, e2, e3⟩ := C_ngL hW hH (by omega) ok b1 (fun v w => some (v, w)) 31 0 FV J0 (by omega) (FV_lt (by omega)) (c5.of (fun p h1 h2 => f0 p (by omega))) a0
      have fa : ∀ p, p ≠ W + 1 → p ≠ W + 2 → J p = I p := fun p h1 h2 => by rw [e3 p h1 h2, f0 p h1]
      have hp : fX2_play W h (nI z) (I, R, S, N) = some (nI (nsL FR PE SC z 31), (J, R, S, N)) := by
        have hcp : cpI (h + 2) 0 (W + 1) 0 7 (I, R, S, N) = some (J0, R, S, N) := by rw [hJ0]; exact cp7 (by omega) (by omega) hH.2.2.2.1.1 hW.2.2.1.1
        simp only [fX2_play, Ho_1 hH, Dr_0 hW, bS, hcp]
        rw [show (0 : Int32) = nI 0 from z0]
        exact e1
      have hw : nI w = 0 ↔ w = 0 := by rw [z0]; exact nI_eq (by omega) (by omega)
      refine ⟨J, ?_, ⟨c1.of (fa _ (by omega) (by omega)) (fa _ (by omega) (by omega)), c2.of (fun p a b => fa p (by omega) (by omega)), ⟨c3a, c3.of hV c3a (fun p a b => fa p (by omega) (by omega))⟩, ⟨c4a, c4.of hK c4a (fun p a b => fa p (by omega) (by omega))⟩, ⟨TT, c5.of (fun p a b => fa p (by omega) (by omega))⟩, ?_, c7.of (fun p a b => fa p (by omega) (by omega))⟩, fun p hp => fa p (by omega) (by omega)⟩
      · simp only [bS, if_true, f_8 cf1, f_10 cf1, Dr_o hW, hp]
        by_cases c : w = 0
        · rw [if_pos (hw.mpr c), if_pos c]
        · have r0 : rdI (W + 1) 0 (J, R, S, N) = some (J (W + 1) 0) := by rw [z0]; exact Dr_r0 hW J (by omega)
          rw [if_neg (fun y => c (hw.mp y)), if_neg c]
          simp only [Dr_0 hW, bS, r0, e2 0 (by rw [nv_len]; omega)]
      · rw [fa Y (by omega) (by omega)]
        rcases c6 with c6 | ⟨c6, c6d⟩
        · exact Or.inl c6
        · refine Or.inr ⟨c6, fun y hy => ?_⟩
          unfold DyAt
          rw [fa (Y + 2 + y) (by omega) (by omega), fa (Y + 34 + y) (by omega) (by omega), fa (Y + 66 + y) (by omega) (by omega), fa (Y + 97) (by omega) (by omega)]
          exact c6d y hy
theorem M_ngL (hm : isMo R S N q) (ok : okS FR PE SC TL UL KL) {z : Nat} (hz : z < 10000) (v2 : Int32) (K : Int32 → Wd → Option (Int32 × Wd)) : ∀ (m d n : Nat) (J : Nat → Nat → Int32), d + m = 31 → m < n → MH J q FR PE CO SC TL → arr (J (q + 15)) (nvL FR PE SC z d) → ∃ J', fX12_night_31 q (nI z) v2 K n (nI (nsL FR PE SC z d)) (nI d) (J, R, S, N) = K (nI (nsL FR PE SC z 31)) (J', R, S, N) ∧ arr (J' (q + 15)) (nvL FR PE SC z 31) ∧ MX J J' q := by
  have okl := ok.1
  intro m
  induction m with
  | zero =>
    intro d n J hd hn dM ha
    obtain ⟨n, rfl⟩ : ∃ n', n = n' + 1 := ⟨n - 1, by omega⟩
    have hd31 : d = 31 := by omega
    subst hd31
    refine ⟨J, ?_, ha, MX.rf⟩
    rw [fX12_night_31, z30, if_pos (nI_lt (by omega) (by omega))]
  | succ m ih =>
    intro d n J hd hn dM ha
    obtain ⟨n, rfl⟩ : ∃ n', n = n' + 1 := ⟨n - 1, by omega⟩
    have hdl := dz_lt z d
    have hmd : dz z d % FR.length < FR.length := Nat.mod_lt _ okl.1
    obtain ⟨J1, g1, a1, f1⟩ := M_twists hm dM ha (nv_len FR PE SC z d)
    have m1 : MX J J1 q := (MG.o15 f1).mx
    obtain ⟨J2, g2, a2, f2⟩ := M_turnsBy (R := R) (S := S) hm (k := dz z d % FR.length) (by rw [tw_len]; exact hmd) (by rw [tw_len]; omega) a1 (nI (dz z d / 8 % 41) - 20)
    have m2 : MX J J2 q := m1.tr (MG.o15 f2).mx
    obtain ⟨J3, g3, s3, f3⟩ := M_morning hm ok.2.1 ok.2.2.1 (m2.mh dM) a2 (nw_len FR PE SC z d) (allA_tn (allA_tw FR _) _ _)
    have m3 : MX J J3 q := m2.tr f3.mx
    obtain ⟨J', e1, e2, e3⟩ := ih (d + 1) n J3 (by omega) (by omega) (m3.mh dM) s3.1
    refine ⟨J', ?_, e2, m3.tr e3⟩
    have x0 : J1 q 0 = nI FR.length := by rw [f1 q (by omega)]; exact dM.2.1.1
    rw [fX12_night_31, if_neg (show ¬ (30 : Int32) < nI d from by rw [z30]; exact nI_nlt (by omega) (by omega))]
    have x1 : dz z d < 2 ^ 31 := Nat.lt_trans hdl (by decide)
    have r1 : rmI (nI (dz z d)) (nI FR.length) = some (nI (dz z d % FR.length)) := rmIn x1 okl.1 (by omega)
    have r2 : dvI (nI (dz z d)) 8 = some (nI (dz z d / 8)) := dvI8 x1
    have r3 : rmI (nI (dz z d / 8)) 41 = some (nI (dz z d / 8 % 41)) := rmI41 (Nat.lt_of_le_of_lt (Nat.div_le_self _ _) x1)
    simp only [Mo_o hm, Mo_g hm, g1, x0, bS, draw_eq hz (show d < 31 by omega), r1, r2, r3, g2, g3, s3.2.2]
    rw [M_bitsm (mn_len FR PE SC _).2]
    simp only [bS, nI_add, nI_i1]
    exact e1
theorem MM_night (hm : isMo R S N q) (d : MD I q tx FR PE CO SC TL UL KL SN) (ok : okS FR PE SC TL UL KL) (v1 v2 : Int32) : ∃ J, fX12_night q v1 v2 (I, R, S, N) = some (aNight FR PE SC v1 v2, (J, R, S, N)) ∧ MD J q tx FR PE CO SC TL UL KL SN ∧ ∀ p, (p < q ∨ q + 20 < p) → J p = I p := by
  have d1 := d.1
  have d0 := d1.1
  have okl := ok.1
  have z9999 : (9999 : Int32) = nI 9999 := by decide
  unfold aNight fX12_night
  simp only [M_inK (show 9999 + 1 < 2 ^ 30 by decide) z9999, bS]
  rcases ixc v1 (n := 10000) (by omega) with b1 | ⟨z, b1, rfl⟩
  · rw [ix_n b1]
    exact ⟨I, rfl, d, fun _ _ => rfl⟩
  · rw [ix_s b1 (by omega)]
    simp only [Option.isSome_some, if_true, i10, if_false, M_inK (show 1 + 1 < 2 ^ 30 by decide) z1, bS]
    rcases ixc v2 (n := 2) (by omega) with b2 | ⟨w, b2, rfl⟩
    · rw [ix_n b2]
      exact ⟨I, rfl, d, fun _ _ => rfl⟩
    · rw [ix_s b2 (by omega)]
      obtain ⟨J1, g1, a1, f1⟩ := M_begins (TL := TL) hm d1
      have m1 : MX I J1 q := (MG.o15 f1).mx
      obtain ⟨J, e1, e2, e3⟩ := M_ngL hm ok b1 (nI w) (fun v3_21 w_20 => if nI w = 0 then some (v3_21, w_20) else (gfR 11 25 q w_20).bind fun r_23 => (rdI r_23 (0 : Int32) w_20).bind fun x_24 => some (x_24 + (40 : Int32), w_20)) 31 0 FV J1 (by omega) (FV_lt (by omega)) (m1.mh d1) a1
      have m2 := m1.tr e3
      refine ⟨J, ?_, m2.md d, fun p hp => m2.1 p (by omega) (by omega)⟩
      simp only [Option.isSome_some, if_true, i10, if_false, Mo_o hm, g1, bS]
      rw [show nsL FR PE SC z 0 = 0 from rfl] at e1
      refine ((congrArg (fun y => fX12_night_31 q (nI z) (nI w) (fun v3_21 w_20 => if nI w = 0 then some (v3_21, w_20) else (gfR 11 25 q w_20).bind fun r_23 => (rdI r_23 (0 : Int32) w_20).bind fun x_24 => some (x_24 + (40 : Int32), w_20)) FV y y (J1, R, S, N)) z0).trans e1).trans ?_
      have hw : nI w = 0 ↔ w = 0 := by rw [z0]; exact nI_eq (by omega) (by omega)
      by_cases c : w = 0
      · rw [if_pos (hw.mpr c), if_pos c]
      · have r0 : rdI (q + 15) 0 (J, R, S, N) = some (J (q + 15) 0) := by rw [z0]; exact Mo_r25 hm J (by omega)
        rw [if_neg (fun y => c (hw.mp y)), if_neg c]
        simp only [Mo_25 hm, r0, bS, e2 0 (by rw [nv_len]; omega)]
end NIGHT
