section QUER
variable {R : Nat → Nat → Option Nat} {S : Nat → Nat × Nat} {N T G U V Kp Y L X W C h h2 q : Nat} {I : Nat → Nat → Int32} {tx : List Int32} {FR : List F4} {PE : List P2} {CO SC : List C3} {TL : List T3} {UL KL : List (List T3)} {SN : List P2}
def aAngle (FR : List F4) (PE : List P2) (SC : List C3) (TL : List T3) (v1 v2 : Int32) : Int32 := match ix v1 FR.length, ix v2 31 with
  | some k, some d => (pvL FR PE SC TL (d + 1)).getD k 0 + 40
  | _, _ => -1
theorem C_angle (cf : CF R S N T G U V Kp Y L X W C h h2) (cd : CD I R T U V Kp Y X h tx FR PE SC TL UL KL SN) (ok : okS FR PE SC TL UL KL) (v1 v2 : Int32) : ∃ J, fX11_angle 0 v1 v2 (I, R, S, N) = some (aAngle FR PE SC TL v1 v2, (J, R, S, N)) ∧ CD J R T U V Kp Y X h tx FR PE SC TL UL KL SN ∧ ∀ p, 201 < p → J p = I p := by
  have cf0 := cf
  obtain ⟨pl, cf1, hT, hG, hU, hV, hK, hY, hL, hX, hW, hC, hH, hH2⟩ := cf
  have pY : Y = 53 := pl.2.2.2.2.2.1
  obtain ⟨TT, c5⟩ := cd.2.2.2.2.1
  have d1 := c5.1
  unfold aAngle fX11_angle
  simp only [f_10 cf1, Ho_g hH, Option.bind_some, c5.2.1.1, z31]
  rcases ixc v1 (n := FR.length) (by omega) with b1 | ⟨k, b1, rfl⟩
  · rw [ix_n b1, C_out1 b1]
    exact ⟨I, by simp only [Option.bind_some]; rw [if_neg (by decide)], cd, fun _ _ => rfl⟩
  · rw [ix_s b1 (by omega), C_out0 b1 (by omega)]
    simp only [Option.bind_some, if_true]
    rcases ixc v2 (n := 31) (by omega) with b2 | ⟨d, b2, rfl⟩
    · rw [ix_n b2, C_out1 b2]
      exact ⟨I, by simp only [Option.bind_some]; rw [if_neg (by decide)], cd, fun _ _ => rfl⟩
    · rw [ix_s b2 (by omega), C_out0 b2 (by omega)]
      obtain ⟨J, e1, e2, e3, e4, e5⟩ := C_days cf0 cd ok
      refine ⟨J, ?_, e2, fun p hp => e5 p (by omega)⟩
      simp (disch := omega) only [Option.bind_some, if_true, f_o cf1, e1, Dy_1 hY, Dy_t1 hY, Dy_r1 hY, (e3 d b2).2.1 k (by rw [pv_len]; exact b1)]
theorem MM_angle (hm : isMo R S N q) (d : MD I q tx FR PE CO SC TL UL KL SN) (ok : okS FR PE SC TL UL KL) (v1 v2 : Int32) : ∃ J, fX12_angle q v1 v2 (I, R, S, N) = some (aAngle FR PE SC TL v1 v2, (J, R, S, N)) ∧ MD J q tx FR PE CO SC TL UL KL SN ∧ ∀ p, (p < q ∨ q + 20 < p) → J p = I p := by
  have d1 := d.1
  have d0 := d1.1
  unfold aAngle fX12_angle
  simp only [Mo_o hm, Option.bind_some, M_isFrame hm d1]
  rcases ixc v1 (n := FR.length) (by omega) with b1 | ⟨k, b1, rfl⟩
  · rw [ix_n b1]
    exact ⟨I, rfl, d, fun _ _ => rfl⟩
  · rw [ix_s b1 (by omega)]
    simp only [Option.isSome_some, if_true, i10, if_false, M_isDay, Option.bind_some]
    rcases ixc v2 (n := 31) (by omega) with b2 | ⟨e, b2, rfl⟩
    · rw [ix_n b2]
      exact ⟨I, rfl, d, fun _ _ => rfl⟩
    · rw [ix_s b2 (by omega)]
      obtain ⟨J, e1, e2, e3⟩ := M_goes hm ok.2.1 ok.2.2.1 ok.2.2.2.1 b2 d1
      refine ⟨J, ?_, e3.md d, fun p hp => e3.1 p (by omega) (by omega) (by omega) (by omega)⟩
      simp (disch := omega) only [Option.isSome_some, if_true, i10, if_false, Mo_o hm, e1, Mo_25 hm, Mo_r25 hm, Option.bind_some, e2.1 k (by rw [pv_len]; exact b1)]
def aHers (FR : List F4) (PE : List P2) (SC : List C3) (TL : List T3) (v : Int32) : Int32 := match ix v 31 with
  | some d => mask (stL FR PE SC TL d)
  | none => -1
theorem C_hers (cf : CF R S N T G U V Kp Y L X W C h h2) (cd : CD I R T U V Kp Y X h tx FR PE SC TL UL KL SN) (ok : okS FR PE SC TL UL KL) (v : Int32) : ∃ J, fX11_hers 0 v (I, R, S, N) = some (aHers FR PE SC TL v, (J, R, S, N)) ∧ CD J R T U V Kp Y X h tx FR PE SC TL UL KL SN ∧ ∀ p, 201 < p → J p = I p := by
  have cf0 := cf
  obtain ⟨pl, cf1, hT, hG, hU, hV, hK, hY, hL, hX, hW, hC, hH, hH2⟩ := cf
  have pY : Y = 53 := pl.2.2.2.2.2.1
  unfold aHers fX11_hers
  simp only [z31]
  rcases ixc v (n := 31) (by omega) with b2 | ⟨d, b2, rfl⟩
  · rw [ix_n b2, C_out1 b2]
    exact ⟨I, by simp only [Option.bind_some]; rw [if_neg (by decide)], cd, fun _ _ => rfl⟩
  · rw [ix_s b2 (by omega), C_out0 b2 (by omega)]
    obtain ⟨J, e1, e2, e3, e4, e5⟩ := C_days cf0 cd ok
    refine ⟨J, ?_, e2, fun p hp => e5 p (by omega)⟩
    simp (disch := omega) only [Option.bind_some, if_true, f_o cf1, e1, Dy_3 hY, Dy_r3 hY, (e3 d b2).2.2.2]
theorem MM_hers (hm : isMo R S N q) (d : MD I q tx FR PE CO SC TL UL KL SN) (ok : okS FR PE SC TL UL KL) (v : Int32) : ∃ J, fX12_hers q v (I, R, S, N) = some (aHers FR PE SC TL v, (J, R, S, N)) ∧ MD J q tx FR PE CO SC TL UL KL SN ∧ ∀ p, (p < q ∨ q + 20 < p) → J p = I p := by
  have d1 := d.1
  unfold aHers fX12_hers
  simp only [M_isDay, Option.bind_some]
  rcases ixc v (n := 31) (by omega) with b2 | ⟨e, b2, rfl⟩
  · rw [ix_n b2]
    exact ⟨I, rfl, d, fun _ _ => rfl⟩
  · rw [ix_s b2 (by omega)]
    obtain ⟨J, e1, e2, e3⟩ := M_goes hm ok.2.1 ok.2.2.1 ok.2.2.2.1 b2 d1
    refine ⟨J, ?_, e3.md d, fun p hp => e3.1 p (by omega) (by omega) (by omega) (by omega)⟩
    simp only [Option.isSome_some, if_true, i10, if_false, Mo_o hm, e1, Mo_g hm, Option.bind_some, e2.2.2.2]
def aSets (FR : List F4) (PE : List P2) (SC : List C3) (TL : List T3) (v1 v2 : Int32) : Int32 := match ix v1 PE.length, ix v2 31 with
  | some k, some d => (stL FR PE SC TL d).getD k 0
  | _, _ => -1
theorem C_sets (cf : CF R S N T G U V Kp Y L X W C h h2) (cd : CD I R T U V Kp Y X h tx FR PE SC TL UL KL SN) (ok : okS FR PE SC TL UL KL) (v1 v2 : Int32) : ∃ J, fX11_sets 0 v1 v2 (I, R, S, N) = some (aSets FR PE SC TL v1 v2, (J, R, S, N)) ∧ CD J R T U V Kp Y X h tx FR PE SC TL UL KL SN ∧ ∀ p, 201 < p → J p = I p := by
  have cf0 := cf
  obtain ⟨pl, cf1, hT, hG, hU, hV, hK, hY, hL, hX, hW, hC, hH, hH2⟩ := cf
  have pY : Y = 53 := pl.2.2.2.2.2.1
  obtain ⟨TT, c5⟩ := cd.2.2.2.2.1
  have d1 := c5.1
  unfold aSets fX11_sets
  simp only [f_10 cf1, Ho_g hH, Option.bind_some, c5.2.1.2.1, z31]
  rcases ixc v1 (n := PE.length) (by omega) with b1 | ⟨k, b1, rfl⟩
  · rw [ix_n b1, C_out1 b1]
    exact ⟨I, by simp only [Option.bind_some]; rw [if_neg (by decide)], cd, fun _ _ => rfl⟩
  · rw [ix_s b1 (by omega), C_out0 b1 (by omega)]
    simp only [Option.bind_some, if_true]
    rcases ixc v2 (n := 31) (by omega) with b2 | ⟨d, b2, rfl⟩
    · rw [ix_n b2, C_out1 b2]
      exact ⟨I, by simp only [Option.bind_some]; rw [if_neg (by decide)], cd, fun _ _ => rfl⟩
    · rw [ix_s b2 (by omega), C_out0 b2 (by omega)]
      obtain ⟨J, e1, e2, e3, e4, e5⟩ := C_days cf0 cd ok
      refine ⟨J, ?_, e2, fun p hp => e5 p (by omega)⟩
      simp (disch := omega) only [Option.bind_some, if_true, f_o cf1, e1, Dy_2 hY, Dy_t2 hY, Dy_r2 hY, (e3 d b2).2.2.1 k (by rw [st_len]; omega)]
theorem MM_sets (hm : isMo R S N q) (d : MD I q tx FR PE CO SC TL UL KL SN) (ok : okS FR PE SC TL UL KL) (v1 v2 : Int32) : ∃ J, fX12_sets q v1 v2 (I, R, S, N) = some (aSets FR PE SC TL v1 v2, (J, R, S, N)) ∧ MD J q tx FR PE CO SC TL UL KL SN ∧ ∀ p, (p < q ∨ q + 20 < p) → J p = I p := by
  have d1 := d.1
  have d0 := d1.1
  unfold aSets fX12_sets
  simp only [Mo_o hm, Option.bind_some, M_isPerson hm d1]
  rcases ixc v1 (n := PE.length) (by omega) with b1 | ⟨k, b1, rfl⟩
  · rw [ix_n b1]
    exact ⟨I, rfl, d, fun _ _ => rfl⟩
  · rw [ix_s b1 (by omega)]
    simp only [Option.isSome_some, if_true, i10, if_false, M_isDay, Option.bind_some]
    rcases ixc v2 (n := 31) (by omega) with b2 | ⟨e, b2, rfl⟩
    · rw [ix_n b2]
      exact ⟨I, rfl, d, fun _ _ => rfl⟩
    · rw [ix_s b2 (by omega)]
      obtain ⟨J, e1, e2, e3⟩ := M_goes hm ok.2.1 ok.2.2.1 ok.2.2.2.1 b2 d1
      refine ⟨J, ?_, e3.md d, fun p hp => e3.1 p (by omega) (by omega) (by omega) (by omega)⟩
      simp (disch := omega) only [Option.isSome_some, if_true, i10, if_false, Mo_o hm, e1, Mo_27 hm, Mo_r27 hm, Option.bind_some, e2.2.2.1 k (by rw [st_len]; omega)]
/-! patches -/
def pcF (FR : List F4) (a : List Int32) : Nat → Nat → Nat
  | _, 0 => 0
  | i, m + 1 => (if a.getD i 0 = (FR.getD i f4).2.2.2 then 1 else 0) + pcF FR a (i + 1) m
theorem C_pcL (cf : CF R S N T G U V Kp Y L X W C h h2) (ok : okS FR PE SC TL UL KL) {d : Nat} (hd : d < 31) (K : Int32 → Wd → Option (Int32 × Wd)) : ∀ (m i c n : Nat) (J : Nat → Nat → Int32), i + m = FR.length → m < n → CD J R T U V Kp Y X h tx FR PE SC TL UL KL SN →
    ∃ J', fX11_patches_15 0 (nI d) K n (nI c) (nI i) (J, R, S, N) = K (nI (c + pcF FR (pvL FR PE SC TL (d + 1)) i m)) (J', R, S, N) ∧ CD J' R T U V Kp Y X h tx FR PE SC TL UL KL SN ∧ ∀ p, 201 < p → J' p = J p := by
  have cf0 := cf
  obtain ⟨pl, cf1, hT, hG, hU, hV, hK, hY, hL, hX, hW, hC, hH, hH2⟩ := cf
  have pY : Y = 53 := pl.2.2.2.2.2.1
  have okl := ok.1
  intro m
  induction m with
  | zero =>
    intro i c n J hi hn cd
    obtain ⟨n, rfl⟩ : ∃ n', n = n' + 1 := ⟨n - 1, by omega⟩
    obtain ⟨TT, c5⟩ := cd.2.2.2.2.1
    refine ⟨J, ?_, cd, fun _ _ => rfl⟩
    simp (disch := omega) only [fX11_patches_15, f_10 cf1, Ho_g hH, Option.bind_some, c5.2.1.1, nle, pcF, Nat.add_zero]
    rw [if_pos (by omega)]
  | succ m ih =>
    intro i c n J hi hn cd
    obtain ⟨n, rfl⟩ : ∃ n', n = n' + 1 := ⟨n - 1, by omega⟩
    obtain ⟨TT, c5⟩ := cd.2.2.2.2.1
    obtain ⟨J1, e1, e2, e3, e4, e5⟩ := C_days cf0 cd ok
    obtain ⟨TT2, c52⟩ := e2.2.2.2.2.1
    have hk := c52.2.2.1 i (by omega)
    have hev := (e3 d hd).2.1 i (by rw [pv_len]; omega)
    by_cases cc : (pvL FR PE SC TL (d + 1)).getD i 0 = (FR.getD i f4).2.2.2
    · obtain ⟨J', g1, g2, g3⟩ := ih (i + 1) (c + 1) n J1 (by omega) (by omega) e2
      refine ⟨J', ?_, g2, fun p hp => by rw [g3 p hp, e5 p (by omega)]⟩
      simp (disch := omega) only [fX11_patches_15, f_10 cf1, f_o cf1, Ho_g hH, Ho_3 hH, Ho_r3 hH, Option.bind_some, c5.2.1.1, nle, e1, Dy_1 hY, Dy_t1 hY, Dy_r1 hY, hev, hk.2.2.2, cc, if_true, nI_i1, g1, pcF]
      rw [if_neg (by omega), show c + 1 + pcF FR (pvL FR PE SC TL (d + 1)) (i + 1) m = c + (1 + pcF FR (pvL FR PE SC TL (d + 1)) (i + 1) m) by omega]
    · obtain ⟨J', g1, g2, g3⟩ := ih (i + 1) c n J1 (by omega) (by omega) e2
      refine ⟨J', ?_, g2, fun p hp => by rw [g3 p hp, e5 p (by omega)]⟩
      simp (disch := omega) only [fX11_patches_15, f_10 cf1, f_o cf1, Ho_g hH, Ho_3 hH, Ho_r3 hH, Option.bind_some, c5.2.1.1, nle, e1, Dy_1 hY, Dy_t1 hY, Dy_r1 hY, hev, hk.2.2.2, cc, if_false, nI_i1, g1, pcF, Nat.zero_add]
      rw [if_neg (by omega)]
def aPatches (FR : List F4) (PE : List P2) (SC : List C3) (TL : List T3) (v : Int32) : Int32 := match ix v 31 with
  | some d => nI (pcF FR (pvL FR PE SC TL (d + 1)) 0 FR.length)
  | none => -1
theorem C_patches (cf : CF R S N T G U V Kp Y L X W C h h2) (cd : CD I R T U V Kp Y X h tx FR PE SC TL UL KL SN) (ok : okS FR PE SC TL UL KL) (v : Int32) : ∃ J, fX11_patches 0 v (I, R, S, N) = some (aPatches FR PE SC TL v, (J, R, S, N)) ∧ CD J R T U V Kp Y X h tx FR PE SC TL UL KL SN ∧ ∀ p, 201 < p → J p = I p := by
  have okl := ok.1
  unfold aPatches fX11_patches
  simp only [z31]
  rcases ixc v (n := 31) (by omega) with b2 | ⟨d, b2, rfl⟩
  · rw [ix_n b2, C_out1 b2]
    exact ⟨I, by simp only [Option.bind_some]; rw [if_neg (by decide)], cd, fun _ _ => rfl⟩
  · rw [ix_s b2 (by omega), C_out0 b2 (by omega)]
    simp only [Option.bind_some, if_true]
    obtain ⟨J, e1, e2, e3⟩ := C_pcL cf ok b2 (fun v w => some (v, w)) FR.length 0 0 FV I (by omega) (FV_lt (by omega)) cd
    refine ⟨J, ?_, e2, e3⟩
    rw [z0, e1, Nat.zero_add]
theorem M_pcL (hm : isMo R S N q) {a : List Int32} (hl : a.length = FR.length) (K : Int32 → Wd → Option (Int32 × Wd)) (d : MH I q FR PE CO SC TL) (ha : arr (I (q + 15)) a) : ∀ (m i c n : Nat), i + m = FR.length → m < n → fX12_patches_18 q K n (nI c) (nI i) (I, R, S, N) = K (nI (c + pcF FR a i m)) (I, R, S, N) := by
  have d0 := d.1
  intro m
  induction m with
  | zero =>
    intro i c n hi hn
    obtain ⟨n, rfl⟩ : ∃ n', n = n' + 1 := ⟨n - 1, by omega⟩
    simp (disch := omega) only [fX12_patches_18, Mo_g hm, Option.bind_some, d.2.1.1, nle, pcF, Nat.add_zero]
    rw [if_pos (by omega)]
  | succ m ih =>
    intro i c n hi hn
    obtain ⟨n, rfl⟩ : ∃ n', n = n' + 1 := ⟨n - 1, by omega⟩
    have hk := d.2.2.1 i (by omega)
    by_cases cc : a.getD i 0 = (FR.getD i f4).2.2.2
    · simp (disch := omega) only [fX12_patches_18, Mo_g hm, Mo_25 hm, Mo_r25 hm, Mo_1 hm, Mo_r1 hm, ix4, nI_i3, Option.bind_some, d.2.1.1, nle, ha i (by omega), hk.2.2.2, cc, if_true, nI_i1, ih (i + 1) (c + 1) n (by omega) (by omega), pcF]
      rw [if_neg (by omega), show c + 1 + pcF FR a (i + 1) m = c + (1 + pcF FR a (i + 1) m) by omega]
    · simp (disch := omega) only [fX12_patches_18, Mo_g hm, Mo_25 hm, Mo_r25 hm, Mo_1 hm, Mo_r1 hm, ix4, nI_i3, Option.bind_some, d.2.1.1, nle, ha i (by omega), hk.2.2.2, cc, if_false, nI_i1, Int32.add_zero, ih (i + 1) c n (by omega) (by omega), pcF, Nat.zero_add]
      rw [if_neg (by omega)]
theorem MM_patches (hm : isMo R S N q) (d : MD I q tx FR PE CO SC TL UL KL SN) (ok : okS FR PE SC TL UL KL) (v : Int32) : ∃ J, fX12_patches q v (I, R, S, N) = some (aPatches FR PE SC TL v, (J, R, S, N)) ∧ MD J q tx FR PE CO SC TL UL KL SN ∧ ∀ p, (p < q ∨ q + 20 < p) → J p = I p := by
  have d1 := d.1
  have d0 := d1.1
  unfold aPatches fX12_patches
  simp only [M_isDay, Option.bind_some]
  rcases ixc v (n := 31) (by omega) with b2 | ⟨e, b2, rfl⟩
  · rw [ix_n b2]
    exact ⟨I, rfl, d, fun _ _ => rfl⟩
  · rw [ix_s b2 (by omega)]
    obtain ⟨J, e1, e2, e3⟩ := M_goes hm ok.2.1 ok.2.2.1 ok.2.2.2.1 b2 d1
    refine ⟨J, ?_, e3.md d, fun p hp => e3.1 p (by omega) (by omega) (by omega) (by omega)⟩
    simp only [Option.isSome_some, if_true, i10, if_false, Mo_o hm, e1, Option.bind_some]
    rw [z0, M_pcL hm (pv_len FR PE SC TL (e + 1)) _ (e3.mh d1) e2.1 FR.length 0 0 FV (by omega) (FV_lt (by omega)), Nat.zero_add]
end QUER
