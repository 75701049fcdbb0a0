section M04
variable {p : Program} {l : Launch} {e : Env} {R : Room} {s : State} {m : MethodId} {args : Array Value} {below : List Frame} {meth : Method} {c : Code} {cells slots : Nat} {Q : State → Prop} {D : va_G} {cI cT cII : ClassId} {base : Nat}
noncomputable def fX11_keep (p0 : Nat) (w : Wd) : Option (Int32 × Wd) := (gfR 10 4 p0 w).bind fun r_1 => (gfI 6 1 r_1 w).bind fun x_2 => if x_2 < (2 : Int32) then (gfR 10 4 p0 w).bind fun r_4 => (gfR 10 2 p0 w).bind fun r_5 => (isO 6 r_4 w).bind fun u_6 => (fX7_put r_4 r_5 w).bind fun q_7 => (gfR 10 4 p0 q_7.2).bind fun r_8 => (gfI 6 1 r_8 q_7.2).bind fun x_9 => some (x_9, q_7.2) else some ((-3 : Int32), w)
set_option maxHeartbeats 4000000 in
set_option maxRecDepth 100000 in
theorem k_X11_keep (l : Launch) (D : va_G) (cI cT cII : ClassId) (base : Nat) (p0 : Nat) (w : Wd) (res : Int32 × Wd) (hF : fX11_keep p0 w = some res) : Ct l yX11_keep cX11_keep 1 (some .int) { frames := 3, cells := 0, slots := 0, locals := 68 } D cI cT cII base [.ref (base + p0)] w res.2 (some (.int res.1)) 0 0 := by
  unfold fX11_keep at hF
  refine m_enter (by decide) (Nat.le_of_ble_eq_true rfl) ?_
  intro p e s m below meth c ls X hr hlk hnm hH hS hl
  have hx := X.1
  have hb := X.2.1
  have hc : (0 : Nat) ≤ ({ frames := 3, cells := 0, slots := 0, locals := 68 } : Room).cells ∧ (0 : Nat) ≤ ({ frames := 3, cells := 0, slots := 0, locals := 68 } : Room).slots := ⟨Nat.zero_le _, Nat.zero_le _⟩
  obtain ⟨H, hHe⟩ : ∃ H : Heap, H = s.heap := ⟨_, rfl⟩
  obtain ⟨locs, hle⟩ : ∃ L : List Loc, L = [] := ⟨_, rfl⟩
  have hl : lv_has ls 1 [(0, .ref (base + p0))] := hl
  rw [← hHe] at hH
  have hS : va_S (fun q => base ≤ q) s.heap H locs := by rw [hHe, hle]; exact hS
  rw [← hle]
  show W p l e _ s m _ below meth c s.heap locs 0 0 _ _
  rw [← hHe]
  refine lv_aload_n hx hb dX11_keep_0 rfl (lv_at hl 0 rfl) ?_
  obtain ⟨r_1, e_1, hF⟩ := bnd hF
  refine m_gR X hH e_1 gg_X11_39 dX11_keep_1 ?_
  obtain ⟨x_2, e_2, hF⟩ := bnd hF
  refine m_hI X hH e_2 gg_X11_196 dX11_keep_4 ?_
  refine lv_iconst (v := (2 : Int32)) hx hb dX11_keep_7 (by decide) ?_
  refine lv_icmp_lt (tgt := 14) hx hb dX11_keep_8 (by decide) (fun c_3 => ?_) (fun c_3 => ?_)
  · replace hF := itt c_3 hF
    refine lv_aload_n hx hb dX11_keep_14 rfl (lv_at hl 0 rfl) ?_
    obtain ⟨r_4, e_4, hF⟩ := bnd hF
    refine m_gR X hH e_4 gg_X11_39 dX11_keep_15 ?_
    refine lv_aload_n hx hb dX11_keep_18 rfl (lv_at hl 0 rfl) ?_
    obtain ⟨r_5, e_5, hF⟩ := bnd hF
    refine m_gR X hH e_5 gg_X11_26 dX11_keep_19 ?_
    obtain ⟨u_6, ou_6, hF⟩ := bnd hF
    obtain ⟨q_7, e_7, hF⟩ := bnd hF
    refine m_callV (As := [.ref (base + r_5)]) (rest := []) X hH hS hl.1 ou_6 rfl (by decide) (k_X7_put l D cI cT cII base r_4 r_5 w q_7 e_7) q_X7_put kw_613 kw_614 kw_615 rfl rfl (Nat.le_of_ble_eq_true rfl) ⟨by decide, by decide⟩ hc dX11_keep_22 (fun H locs hH hS => W.eq (g2 := F0 m 25 ls []) rfl ?_)
    refine lv_aload_n hx hb dX11_keep_25 rfl (lv_at hl 0 rfl) ?_
    obtain ⟨r_8, e_8, hF⟩ := bnd hF
    refine m_gR X hH e_8 gg_X11_39 dX11_keep_26 ?_
    obtain ⟨x_9, e_9, hF⟩ := bnd hF
    refine m_hI X hH e_9 gg_X11_196 dX11_keep_29 ?_
    have hF := Option.some.inj hF
    subst hF
    exact m_iret X hr hlk hH hS dX11_keep_32
  · replace hF := itf c_3 hF
    refine lv_bipush (v := (-3 : Int32)) hx hb dX11_keep_11 (by decide) ?_
    have hF := Option.some.inj hF
    subst hF
    exact m_iret X hr hlk hH hS dX11_keep_13
noncomputable def fX11_lay (p0 : Nat) (w : Wd) : Option (Int32 × Wd) := (gfR 10 1 p0 w).bind fun r_1 => (gfR 10 0 p0 w).bind fun r_2 => (gfR 10 11 p0 w).bind fun r_3 => (isO 5 r_1 w).bind fun u_4 => (fX6_readAll r_1 r_2 r_3 w).bind fun q_5 => if q_5.1 = (-4 : Int32) then (gfR 10 11 p0 q_5.2).bind fun r_7 => (gfI 3 4 r_7 q_5.2).bind fun x_8 => if x_8 = 0 then some ((-2 : Int32), q_5.2) else (isO 10 p0 q_5.2).bind fun u_10 => (fX11_moveIn p0 q_5.2).bind fun q_11 => (gfR 10 10 p0 q_11.2).bind fun r_12 => (gfI 3 4 r_12 q_11.2).bind fun x_13 => some (x_13, q_11.2) else some ((-2 : Int32), q_5.2)
set_option maxHeartbeats 4000000 in
set_option maxRecDepth 100000 in
theorem k_X11_lay (l : Launch) (D : va_G) (cI cT cII : ClassId) (base : Nat) (p0 : Nat) (w : Wd) (res : Int32 × Wd) (hF : fX11_lay p0 w = some res) : Ct l yX11_lay cX11_lay 1 (some .int) { frames := 6, cells := 0, slots := 0, locals := 135 } D cI cT cII base [.ref (base + p0)] w res.2 (some (.int res.1)) 0 0 := by
  unfold fX11_lay at hF
  refine m_enter (by decide) (Nat.le_of_ble_eq_true rfl) ?_
  intro p e s m below meth c ls X hr hlk hnm hH hS hl
  have hx := X.1
  have hb := X.2.1
  have hc : (0 : Nat) ≤ ({ frames := 6, cells := 0, slots := 0, locals := 135 } : Room).cells ∧ (0 : Nat) ≤ ({ frames := 6, cells := 0, slots := 0, locals := 135 } : Room).slots := ⟨Nat.zero_le _, Nat.zero_le _⟩
  obtain ⟨H, hHe⟩ : ∃ H : Heap, H = s.heap := ⟨_, rfl⟩
  obtain ⟨locs, hle⟩ : ∃ L : List Loc, L = [] := ⟨_, rfl⟩
  have hl : lv_has ls 1 [(0, .ref (base + p0))] := hl
  rw [← hHe] at hH
  have hS : va_S (fun q => base ≤ q) s.heap H locs := by rw [hHe, hle]; exact hS
  rw [← hle]
  show W p l e _ s m _ below meth c s.heap locs 0 0 _ _
  rw [← hHe]
  refine lv_aload_n hx hb dX11_lay_0 rfl (lv_at hl 0 rfl) ?_
  obtain ⟨r_1, e_1, hF⟩ := bnd hF
  refine m_gR X hH e_1 gg_X11_19 dX11_lay_1 ?_
  refine lv_aload_n hx hb dX11_lay_4 rfl (lv_at hl 0 rfl) ?_
  obtain ⟨r_2, e_2, hF⟩ := bnd hF
  refine m_gR X hH e_2 gg_X11_10 dX11_lay_5 ?_
  refine lv_aload_n hx hb dX11_lay_8 rfl (lv_at hl 0 rfl) ?_
  obtain ⟨r_3, e_3, hF⟩ := bnd hF
  refine m_gR X hH e_3 gg_X11_84 dX11_lay_9 ?_
  obtain ⟨u_4, ou_4, hF⟩ := bnd hF
  obtain ⟨q_5, e_5, hF⟩ := bnd hF
  refine m_callV (As := [.ref (base + r_2), .ref (base + r_3)]) (rest := []) X hH hS hl.1 ou_4 rfl (by decide) (k_X6_readAll l D cI cT cII base r_1 r_2 r_3 w q_5 e_5) q_X6_readAll kw_374 kw_375 kw_376 rfl rfl (Nat.le_of_ble_eq_true rfl) ⟨by decide, by decide⟩ hc dX11_lay_12 (fun H locs hH hS => W.eq (g2 := F0 m 15 ls [.int q_5.1]) rfl ?_)
  refine lv_bipush (v := (-4 : Int32)) hx hb dX11_lay_15 (by decide) ?_
  refine lv_icmp_ne (tgt := 30) hx hb dX11_lay_17 (by decide) (fun c_6 => ?_) (fun c_6 => ?_)
  · replace hF := itf c_6 hF
    refine lv_bipush (v := (-2 : Int32)) hx hb dX11_lay_30 (by decide) ?_
    have hF := Option.some.inj hF
    subst hF
    exact m_iret X hr hlk hH hS dX11_lay_32
  · replace hF := itt c_6 hF
    refine lv_aload_n hx hb dX11_lay_20 rfl (lv_at hl 0 rfl) ?_
    obtain ⟨r_7, e_7, hF⟩ := bnd hF
    refine m_gR X hH e_7 gg_X11_84 dX11_lay_21 ?_
    obtain ⟨x_8, e_8, hF⟩ := bnd hF
    refine m_hI X hH e_8 gg_X11_116 dX11_lay_24 ?_
    refine lv_if_ne (tgt := 33) hx hb dX11_lay_27 (by decide) (fun c_9 => ?_) (fun c_9 => ?_)
    · replace hF := itf c_9 hF
      refine lv_aload_n hx hb dX11_lay_33 rfl (lv_at hl 0 rfl) ?_
      obtain ⟨u_10, ou_10, hF⟩ := bnd hF
      obtain ⟨q_11, e_11, hF⟩ := bnd hF
      refine m_callV (As := []) (rest := []) X hH hS hl.1 ou_10 rfl (by decide) (k_X11_moveIn l D cI cT cII base p0 q_5.2 q_11 e_11) q_X11_moveIn kw_436 kw_438 kw_8 rfl rfl (Nat.le_of_ble_eq_true rfl) ⟨by decide, by decide⟩ hc dX11_lay_34 (fun H locs hH hS => W.eq (g2 := F0 m 37 ls []) rfl ?_)
      refine lv_aload_n hx hb dX11_lay_37 rfl (lv_at hl 0 rfl) ?_
      obtain ⟨r_12, e_12, hF⟩ := bnd hF
      refine m_gR X hH e_12 gg_X11_80 dX11_lay_38 ?_
      obtain ⟨x_13, e_13, hF⟩ := bnd hF
      refine m_hI X hH e_13 gg_X11_116 dX11_lay_41 ?_
      have hF := Option.some.inj hF
      subst hF
      exact m_iret X hr hlk hH hS dX11_lay_44
    · replace hF := itt c_9 hF
      refine lv_bipush (v := (-2 : Int32)) hx hb dX11_lay_30 (by decide) ?_
      have hF := Option.some.inj hF
      subst hF
      exact m_iret X hr hlk hH hS dX11_lay_32
noncomputable def fX11_leave (p0 : Nat) (v1 : Int32) (w : Wd) : Option (Int32 × Wd) := (gfR 10 2 p0 w).bind fun r_1 => (gfI 9 3 r_1 w).bind fun x_2 => (fX11_outside v1 x_2 w).bind fun q_3 => if q_3.1 = 0 then (gfR 10 3 p0 q_3.2).bind fun r_5 => (gfR 10 2 p0 q_3.2).bind fun r_6 => (isO 6 r_5 q_3.2).bind fun u_7 => (fX7_put r_5 r_6 q_3.2).bind fun q_8 => (gfR 10 2 p0 q_8.2).bind fun r_9 => (isO 9 r_9 q_8.2).bind fun u_10 => (fX10_remove r_9 v1 q_8.2).bind fun q_11 => (gfR 10 5 p0 q_11.2).bind fun r_12 => (pfI 1 4 r_12 (1 : Int32) q_11.2).bind fun w_13 => (gfR 10 2 p0 w_13).bind fun r_14 => (gfI 9 3 r_14 w_13).bind fun x_15 => some (x_15, w_13) else some ((-1 : Int32), q_3.2)
set_option maxHeartbeats 4000000 in
set_option maxRecDepth 100000 in
theorem k_X11_leave (l : Launch) (D : va_G) (cI cT cII : ClassId) (base : Nat) (p0 : Nat) (v1 : Int32) (w : Wd) (res : Int32 × Wd) (hF : fX11_leave p0 v1 w = some res) : Ct l yX11_leave cX11_leave 2 (some .int) { frames := 3, cells := 0, slots := 0, locals := 68 } D cI cT cII base [.ref (base + p0), .int v1] w res.2 (some (.int res.1)) 0 0 := by
  unfold fX11_leave at hF
  refine m_enter (by decide) (Nat.le_of_ble_eq_true rfl) ?_
  intro p e s m below meth c ls X hr hlk hnm hH hS hl
  have hx := X.1
  have hb := X.2.1
  have hc : (0 : Nat) ≤ ({ frames := 3, cells := 0, slots := 0, locals := 68 } : Room).cells ∧ (0 : Nat) ≤ ({ frames := 3, cells := 0, slots := 0, locals := 68 } : Room).slots := ⟨Nat.zero_le _, Nat.zero_le _⟩
  obtain ⟨H, hHe⟩ : ∃ H : Heap, H = s.heap := ⟨_, rfl⟩
  obtain ⟨locs, hle⟩ : ∃ L : List Loc, L = [] := ⟨_, rfl⟩
  have hl : lv_has ls 2 [(0, .ref (base + p0)), (1, .int v1)] := hl
  rw [← hHe] at hH
  have hS : va_S (fun q => base ≤ q) s.heap H locs := by rw [hHe, hle]; exact hS
  rw [← hle]
  show W p l e _ s m _ below meth c s.heap locs 0 0 _ _
  rw [← hHe]
  refine lv_iload_n hx hb dX11_leave_0 rfl (lv_at hl 1 rfl) ?_
  refine lv_aload_n hx hb dX11_leave_1 rfl (lv_at hl 0 rfl) ?_
  obtain ⟨r_1, e_1, hF⟩ := bnd hF
  refine m_gR X hH e_1 gg_X11_26 dX11_leave_2 ?_
  obtain ⟨x_2, e_2, hF⟩ := bnd hF
  refine m_hI X hH e_2 gg_X11_167 dX11_leave_5 ?_
  obtain ⟨q_3, e_3, hF⟩ := bnd hF
  refine m_callS (As := [.int v1, .int x_2]) (rest := []) X hH hS hl.1 (k_X11_outside l D cI cT cII base v1 x_2 w q_3 e_3) q_X11_outside kw_511 kw_391 rfl rfl (Nat.le_of_ble_eq_true rfl) ⟨by decide, by decide⟩ hc dX11_leave_8 (fun H locs hH hS => W.eq (g2 := F0 m 11 ls [.int q_3.1]) rfl ?_)
  refine lv_if_eq (tgt := 16) hx hb dX11_leave_11 (by decide) (fun c_4 => ?_) (fun c_4 => ?_)
  · replace hF := itt c_4 hF
    refine lv_aload_n hx hb dX11_leave_16 rfl (lv_at hl 0 rfl) ?_
    obtain ⟨r_5, e_5, hF⟩ := bnd hF
    refine m_gR X hH e_5 gg_X11_35 dX11_leave_17 ?_
    refine lv_aload_n hx hb dX11_leave_20 rfl (lv_at hl 0 rfl) ?_
    obtain ⟨r_6, e_6, hF⟩ := bnd hF
    refine m_gR X hH e_6 gg_X11_26 dX11_leave_21 ?_
    obtain ⟨u_7, ou_7, hF⟩ := bnd hF
    obtain ⟨q_8, e_8, hF⟩ := bnd hF
    refine m_callV (As := [.ref (base + r_6)]) (rest := []) X hH hS hl.1 ou_7 rfl (by decide) (k_X7_put l D cI cT cII base r_5 r_6 q_3.2 q_8 e_8) q_X7_put kw_613 kw_614 kw_615 rfl rfl (Nat.le_of_ble_eq_true rfl) ⟨by decide, by decide⟩ hc dX11_leave_24 (fun H locs hH hS => W.eq (g2 := F0 m 27 ls []) rfl ?_)
    refine lv_aload_n hx hb dX11_leave_27 rfl (lv_at hl 0 rfl) ?_
    obtain ⟨r_9, e_9, hF⟩ := bnd hF
    refine m_gR X hH e_9 gg_X11_26 dX11_leave_28 ?_
    refine lv_iload_n hx hb dX11_leave_31 rfl (lv_at hl 1 rfl) ?_
    obtain ⟨u_10, ou_10, hF⟩ := bnd hF
    obtain ⟨q_11, e_11, hF⟩ := bnd hF
    refine m_callV (As := [.int v1]) (rest := []) X hH hS hl.1 ou_10 rfl (by decide) (k_X10_remove l D cI cT cII base r_9 v1 q_8.2 q_11 e_11) q_X10_remove kw_623 kw_624 kw_625 rfl rfl (Nat.le_of_ble_eq_true rfl) ⟨by decide, by decide⟩ hc dX11_leave_32 (fun H locs hH hS => W.eq (g2 := F0 m 35 ls []) rfl ?_)
    refine lv_aload_n hx hb dX11_leave_35 rfl (lv_at hl 0 rfl) ?_
    obtain ⟨r_12, e_12, hF⟩ := bnd hF
    refine m_gR X hH e_12 gg_X11_45 dX11_leave_36 ?_
    refine lv_iconst (v := (1 : Int32)) hx hb dX11_leave_39 (by decide) ?_
    obtain ⟨w_13, e_13, hF⟩ := bnd hF
    refine m_qI X hH hS e_13 gp_X11_185 rfl rfl dX11_leave_40 (fun H locs hH hS => ?_)
    refine lv_aload_n hx hb dX11_leave_43 rfl (lv_at hl 0 rfl) ?_
    obtain ⟨r_14, e_14, hF⟩ := bnd hF
    refine m_gR X hH e_14 gg_X11_26 dX11_leave_44 ?_
    obtain ⟨x_15, e_15, hF⟩ := bnd hF
    refine m_hI X hH e_15 gg_X11_167 dX11_leave_47 ?_
    have hF := Option.some.inj hF
    subst hF
    exact m_iret X hr hlk hH hS dX11_leave_50
  · replace hF := itf c_4 hF
    refine lv_iconst (v := (-1 : Int32)) hx hb dX11_leave_14 (by decide) ?_
    have hF := Option.some.inj hF
    subst hF
    exact m_iret X hr hlk hH hS dX11_leave_15
noncomputable def fX8_mostAlike_14 (p0 : Nat) (v1 : Int32) (v2 : Int32) (v3 : Int32) (K_77 : Int32 → Wd → Option (Int32 × Wd)) : Nat → Int32 → Int32 → Wd → Option (Int32 × Wd)
  | 0, _, _, _ => none
  | n + 1, v4, v5, w => if (20 : Int32) < v5 then K_77 v4 w else if ((v2 >>> (v5 &&& 31)) &&& (1 : Int32)) = (1 : Int32) then (fX3_settle v1 v5 v3 w).bind fun q_5 => (fX11_keptWithin q_5.1 q_5.2).bind fun q_6 => (gfR 7 3 p0 q_6.2).bind fun r_7 => (rdI r_7 (q_6.1 + (40 : Int32)) q_6.2).bind fun x_8 => (wrI r_7 (q_6.1 + (40 : Int32)) (x_8 + (1 : Int32)) q_6.2).bind fun w_9 => (gfR 7 3 p0 w_9).bind fun r_10 => (rdI r_10 (q_6.1 + (40 : Int32)) w_9).bind fun x_11 => fX8_mostAlike_14 p0 v1 v2 v3 K_77 n (imax v4 x_11) (v5 + (1 : Int32)) w_9 else fX8_mostAlike_14 p0 v1 v2 v3 K_77 n v4 (v5 + (1 : Int32)) w
noncomputable def fX8_mostAlike (p0 : Nat) (v1 : Int32) (v2 : Int32) (v3 : Int32) (w : Wd) : Option (Int32 × Wd) := (gfR 7 3 p0 w).bind fun r_1 => (fJ7_fill_53178 r_1 (0 : Int32) w).bind fun q_2 => fX8_mostAlike_14 p0 v1 v2 v3 (fun (v4_13 : Int32) (w_12 : Wd) => some (v4_13, w_12)) FV (0 : Int32) (0 : Int32) q_2.2
set_option maxHeartbeats 4000000 in
set_option maxRecDepth 100000 in
theorem l_X8_mostAlike_14 (X : Cx p R s m args c cX8_mostAlike 7 RX8 D cI cT cII 2 43) (hc : cells ≤ R.cells ∧ slots ≤ R.slots) (p0 : Nat) (v1 : Int32) (v2 : Int32) (v3 : Int32) (K_77 : Int32 → Wd → Option (Int32 × Wd)) (res : Int32 × Wd)
    (hK_77 : ∀ (z4 : Int32) (w : Wd), K_77 z4 w = some res → ∀ (H : Heap) (locs : List Loc) (ls : Array Slot), Hd D cI cT cII base w H → va_S (fun q => base ≤ q) s.heap H locs → lv_has ls 7 [(4, .int z4)] → W p l e R s m args below meth c H locs cells slots Q (F0 m 77 ls [])) :
    ∀ (n : Nat) (v4 : Int32) (v5 : Int32) (w : Wd), fX8_mostAlike_14 p0 v1 v2 v3 K_77 n v4 v5 w = some res → ∀ (H : Heap) (locs : List Loc) (ls : Array Slot), Hd D cI cT cII base w H → va_S (fun q => base ≤ q) s.heap H locs → lv_has ls 7 [(0, .ref (base + p0)), (1, .int v1), (2, .int v2), (3, .int v3), (4, .int v4), (5, .int v5)] → W p l e R s m args below meth c H locs cells slots Q (F0 m 14 ls []) := by
  have hx := X.1
  have hb := X.2.1
  intro n
  induction n with
  | zero =>
    intro v4 v5 w hF
    rw [fX8_mostAlike_14] at hF
    cases hF
  | succ n ih =>
    intro v4 v5 w hF H locs ls hH hS hl
    rw [fX8_mostAlike_14] at hF
    refine lv_iload hx hb dX8_mostAlike_14 (lv_at hl 5 rfl) ?_
    refine lv_bipush (v := (20 : Int32)) hx hb dX8_mostAlike_16 (by decide) ?_
    refine lv_icmp_gt (tgt := 77) hx hb dX8_mostAlike_18 (by decide) (fun c_3 => ?_) (fun c_3 => ?_)
    · replace hF := itt c_3 hF
      exact hK_77 v4 w hF H locs ls hH hS (lv_sub hl [4] rfl)
    · replace hF := itf c_3 hF
      refine lv_iload_n hx hb dX8_mostAlike_21 rfl (lv_at hl 2 rfl) ?_
      refine lv_iload hx hb dX8_mostAlike_22 (lv_at hl 5 rfl) ?_
      refine lv_ishr hx hb dX8_mostAlike_24 ?_
      refine lv_iconst (v := (1 : Int32)) hx hb dX8_mostAlike_25 (by decide) ?_
      refine lv_iand hx hb dX8_mostAlike_26 ?_
      refine lv_iconst (v := (1 : Int32)) hx hb dX8_mostAlike_27 (by decide) ?_
      refine lv_icmp_ne (tgt := 71) hx hb dX8_mostAlike_28 (by decide) (fun c_4 => ?_) (fun c_4 => ?_)
      · replace hF := itf c_4 hF
        refine lv_iinc (v := v5 + (1 : Int32)) (lv' := [(5, .int (v5 + (1 : Int32))), (0, .ref (base + p0)), (1, .int v1), (2, .int v2), (3, .int v3), (4, .int v4)]) hx hb dX8_mostAlike_71 hl (k := 5) rfl (congrArg (fun z => v5 + z) (by decide)) (by decide) rfl (fun ls hl => ?_)
        refine lv_goto (tgt := 14) hx hb dX8_mostAlike_74 (by decide) ?_
        exact ih v4 (v5 + (1 : Int32)) w hF H locs ls hH hS (lv_sub hl [1, 2, 3, 4, 5, 0] rfl)
      · replace hF := itt c_4 hF
        refine lv_iload_n hx hb dX8_mostAlike_31 rfl (lv_at hl 1 rfl) ?_
        refine lv_iload hx hb dX8_mostAlike_32 (lv_at hl 5 rfl) ?_
        refine lv_iload_n hx hb dX8_mostAlike_34 rfl (lv_at hl 3 rfl) ?_
        obtain ⟨q_5, e_5, hF⟩ := bnd hF
        refine m_callS (As := [.int v1, .int v5, .int v3]) (rest := []) X hH hS hl.1 (k_X3_settle l D cI cT cII base v1 v5 v3 w q_5 e_5) q_X3_settle kw_738 kw_569 rfl rfl (Nat.le_of_ble_eq_true rfl) ⟨by decide, by decide⟩ hc dX8_mostAlike_35 (fun H locs hH hS => W.eq (g2 := F0 m 38 ls [.int q_5.1]) rfl ?_)
        obtain ⟨q_6, e_6, hF⟩ := bnd hF
        refine m_callSN (As := [.int q_5.1]) (rest := []) X hH hS hl.1 (k_X11_keptWithin l D cI cT cII base q_5.1 q_5.2 q_6 e_6) q_X11_keptWithin kw_752 kw_536 rfl rfl (Nat.le_of_ble_eq_true rfl) ⟨by decide, by decide⟩ hc dX8_mostAlike_38 (fun H locs hH hS => W.eq (g2 := F0 m 41 ls [.int q_6.1]) rfl ?_)
        refine lv_bipush (v := (40 : Int32)) hx hb dX8_mostAlike_41 (by decide) ?_
        refine lv_iadd hx hb dX8_mostAlike_43 ?_
        refine lv_istore (lv' := [(6, .int (q_6.1 + (40 : Int32))), (0, .ref (base + p0)), (1, .int v1), (2, .int v2), (3, .int v3), (4, .int v4), (5, .int v5)]) hx hb dX8_mostAlike_44 hl (by decide) rfl (fun ls hl => ?_)
        refine lv_aload_n hx hb dX8_mostAlike_46 rfl (lv_at hl 1 rfl) ?_
        obtain ⟨r_7, e_7, hF⟩ := bnd hF
        refine m_gR X hH e_7 gg_X8_18 dX8_mostAlike_47 ?_
        refine lv_iload hx hb dX8_mostAlike_50 (lv_at hl 0 rfl) ?_
        refine lv_dup2_11 hx hb dX8_mostAlike_52 rfl rfl ?_
        obtain ⟨x_8, e_8, hF⟩ := bnd hF
        refine m_rdI X hH e_8 dX8_mostAlike_53 ?_
        refine lv_iconst (v := (1 : Int32)) hx hb dX8_mostAlike_54 (by decide) ?_
        refine lv_iadd hx hb dX8_mostAlike_55 ?_
        obtain ⟨w_9, e_9, hF⟩ := bnd hF
        refine m_wrI X hH hS e_9 dX8_mostAlike_56 (fun H locs hH hS => ?_)
        refine lv_iload hx hb dX8_mostAlike_57 (lv_at hl 5 rfl) ?_
        refine lv_aload_n hx hb dX8_mostAlike_59 rfl (lv_at hl 1 rfl) ?_
        obtain ⟨r_10, e_10, hF⟩ := bnd hF
        refine m_gR X hH e_10 gg_X8_18 dX8_mostAlike_60 ?_
        refine lv_iload hx hb dX8_mostAlike_63 (lv_at hl 0 rfl) ?_
        obtain ⟨x_11, e_11, hF⟩ := bnd hF
        refine m_rdI X hH e_11 dX8_mostAlike_65 ?_
        refine m_mmax X hl.1 kw_753 (by decide) (Nat.le_of_ble_eq_true rfl) hc dX8_mostAlike_66 ?_
        refine lv_istore (lv' := [(4, .int (imax v4 x_11)), (6, .int (q_6.1 + (40 : Int32))), (0, .ref (base + p0)), (1, .int v1), (2, .int v2), (3, .int v3), (5, .int v5)]) hx hb dX8_mostAlike_69 hl (by decide) rfl (fun ls hl => ?_)
        refine lv_iinc (v := v5 + (1 : Int32)) (lv' := [(5, .int (v5 + (1 : Int32))), (4, .int (imax v4 x_11)), (6, .int (q_6.1 + (40 : Int32))), (0, .ref (base + p0)), (1, .int v1), (2, .int v2), (3, .int v3)]) hx hb dX8_mostAlike_71 hl (k := 6) rfl (congrArg (fun z => v5 + z) (by decide)) (by decide) rfl (fun ls hl => ?_)
        refine lv_goto (tgt := 14) hx hb dX8_mostAlike_74 (by decide) ?_
        exact ih (imax v4 x_11) (v5 + (1 : Int32)) w_9 hF H locs ls hH hS (lv_sub hl [3, 4, 5, 6, 1, 0] rfl)
set_option maxHeartbeats 4000000 in
set_option maxRecDepth 100000 in
theorem k_X8_mostAlike (l : Launch) (D : va_G) (cI cT cII : ClassId) (base : Nat) (p0 : Nat) (v1 : Int32) (v2 : Int32) (v3 : Int32) (w : Wd) (res : Int32 × Wd) (hF : fX8_mostAlike p0 v1 v2 v3 w = some res) : Ct l yX8_mostAlike cX8_mostAlike 7 (some .int) { frames := 2, cells := 0, slots := 0, locals := 43 } D cI cT cII base [.ref (base + p0), .int v1, .int v2, .int v3] w res.2 (some (.int res.1)) 0 0 := by
  unfold fX8_mostAlike at hF
  refine m_enter (by decide) (Nat.le_of_ble_eq_true rfl) ?_
  intro p e s m below meth c ls X hr hlk hnm hH hS hl
  have hx := X.1
  have hb := X.2.1
  have hc : (0 : Nat) ≤ ({ frames := 2, cells := 0, slots := 0, locals := 43 } : Room).cells ∧ (0 : Nat) ≤ ({ frames := 2, cells := 0, slots := 0, locals := 43 } : Room).slots := ⟨Nat.zero_le _, Nat.zero_le _⟩
  obtain ⟨H, hHe⟩ : ∃ H : Heap, H = s.heap := ⟨_, rfl⟩
  obtain ⟨locs, hle⟩ : ∃ L : List Loc, L = [] := ⟨_, rfl⟩
  have hl : lv_has ls 7 [(0, .ref (base + p0)), (1, .int v1), (2, .int v2), (3, .int v3)] := hl
  rw [← hHe] at hH
  have hS : va_S (fun q => base ≤ q) s.heap H locs := by rw [hHe, hle]; exact hS
  rw [← hle]
  show W p l e _ s m _ below meth c s.heap locs 0 0 _ _
  rw [← hHe]
  refine lv_aload_n hx hb dX8_mostAlike_0 rfl (lv_at hl 0 rfl) ?_
  obtain ⟨r_1, e_1, hF⟩ := bnd hF
  refine m_gR X hH e_1 gg_X8_18 dX8_mostAlike_1 ?_
  refine lv_iconst (v := (0 : Int32)) hx hb dX8_mostAlike_4 (by decide) ?_
  obtain ⟨q_2, e_2, hF⟩ := bnd hF
  refine m_callS (As := [.ref (base + r_1), .int (0 : Int32)]) (rest := []) X hH hS hl.1 (k_J7_fill_53178 l D cI cT cII base r_1 (0 : Int32) w q_2 e_2) q_J7_fill_53178 kw_751 kw_552 rfl rfl (Nat.le_of_ble_eq_true rfl) ⟨by decide, by decide⟩ hc dX8_mostAlike_5 (fun H locs hH hS => W.eq (g2 := F0 m 8 ls []) rfl ?_)
  refine lv_iconst (v := (0 : Int32)) hx hb dX8_mostAlike_8 (by decide) ?_
  refine lv_istore (lv' := [(4, .int (0 : Int32)), (0, .ref (base + p0)), (1, .int v1), (2, .int v2), (3, .int v3)]) hx hb dX8_mostAlike_9 hl (by decide) rfl (fun ls hl => ?_)
  refine lv_iconst (v := (0 : Int32)) hx hb dX8_mostAlike_11 (by decide) ?_
  refine lv_istore (lv' := [(5, .int (0 : Int32)), (4, .int (0 : Int32)), (0, .ref (base + p0)), (1, .int v1), (2, .int v2), (3, .int v3)]) hx hb dX8_mostAlike_12 hl (by decide) rfl (fun ls hl => ?_)
  refine l_X8_mostAlike_14 X hc p0 v1 v2 v3 _ res ?_ FV (0 : Int32) (0 : Int32) q_2.2 hF H locs ls hH hS (lv_sub hl [2, 3, 4, 5, 1, 0] rfl)
  · intro v4_13 w_12 hF H locs ls hH hS hl
    refine lv_iload hx hb dX8_mostAlike_77 (lv_at hl 0 rfl) ?_
    have hF := Option.some.inj hF
    subst hF
    exact m_iret X hr hlk hH hS dX8_mostAlike_79
noncomputable def fX8_bestLook_14 (p0 : Nat) (v1 : Int32) (v2 : Int32) (K_51 : Int32 → Wd → Option (Int32 × Wd)) : Nat → Int32 → Int32 → Int32 → Wd → Option (Int32 × Wd)
  | 0, _, _, _, _ => none
  | n + 1, v3, v4, v5, w => if (20 : Int32) < v5 then K_51 v3 w else (isO 7 p0 w).bind fun u_4 => (fX8_mostAlike p0 v1 v2 v5 w).bind fun q_5 => if v4 ≤ q_5.1 then fX8_bestLook_14 p0 v1 v2 K_51 n v3 v4 (v5 + (1 : Int32)) q_5.2 else fX8_bestLook_14 p0 v1 v2 K_51 n v5 q_5.1 (v5 + (1 : Int32)) q_5.2
noncomputable def fX8_bestLook (p0 : Nat) (v1 : Int32) (v2 : Int32) (w : Wd) : Option (Int32 × Wd) := (isO 7 p0 w).bind fun u_1 => (fX8_mostAlike p0 v1 v2 (0 : Int32) w).bind fun q_2 => fX8_bestLook_14 p0 v1 v2 (fun (v3_8 : Int32) (w_7 : Wd) => some (v3_8, w_7)) FV (0 : Int32) q_2.1 (1 : Int32) q_2.2
set_option maxHeartbeats 4000000 in
set_option maxRecDepth 100000 in
theorem l_X8_bestLook_14 (X : Cx p R s m args c cX8_bestLook 7 RX8 D cI cT cII 3 69) (hc : cells ≤ R.cells ∧ slots ≤ R.slots) (p0 : Nat) (v1 : Int32) (v2 : Int32) (K_51 : Int32 → Wd → Option (Int32 × Wd)) (res : Int32 × Wd)
    (hK_51 : ∀ (z3 : Int32) (w : Wd), K_51 z3 w = some res → ∀ (H : Heap) (locs : List Loc) (ls : Array Slot), Hd D cI cT cII base w H → va_S (fun q => base ≤ q) s.heap H locs → lv_has ls 7 [(3, .int z3)] → W p l e R s m args below meth c H locs cells slots Q (F0 m 51 ls [])) :
    ∀ (n : Nat) (v3 : Int32) (v4 : Int32) (v5 : Int32) (w : Wd), fX8_bestLook_14 p0 v1 v2 K_51 n v3 v4 v5 w = some res → ∀ (H : Heap) (locs : List Loc) (ls : Array Slot), Hd D cI cT cII base w H → va_S (fun q => base ≤ q) s.heap H locs → lv_has ls 7 [(0, .ref (base + p0)), (1, .int v1), (2, .int v2), (3, .int v3), (4, .int v4), (5, .int v5)] → W p l e R s m args below meth c H locs cells slots Q (F0 m 14 ls []) := by
  have hx := X.1
  have hb := X.2.1
  intro n
  induction n with
  | zero =>
    intro v3 v4 v5 w hF
    rw [fX8_bestLook_14] at hF
    cases hF
  | succ n ih =>
    intro v3 v4 v5 w hF H locs ls hH hS hl
    rw [fX8_bestLook_14] at hF
    refine lv_iload hx hb dX8_bestLook_14 (lv_at hl 5 rfl) ?_
    refine lv_bipush (v := (20 : Int32)) hx hb dX8_bestLook_16 (by decide) ?_
    refine lv_icmp_gt (tgt := 51) hx hb dX8_bestLook_18 (by decide) (fun c_3 => ?_) (fun c_3 => ?_)
    · replace hF := itt c_3 hF
      exact hK_51 v3 w hF H locs ls hH hS (lv_sub hl [3] rfl)
    · replace hF := itf c_3 hF
      refine lv_aload_n hx hb dX8_bestLook_21 rfl (lv_at hl 0 rfl) ?_
      refine lv_iload_n hx hb dX8_bestLook_22 rfl (lv_at hl 1 rfl) ?_
      refine lv_iload_n hx hb dX8_bestLook_23 rfl (lv_at hl 2 rfl) ?_
      refine lv_iload hx hb dX8_bestLook_24 (lv_at hl 5 rfl) ?_
      obtain ⟨u_4, ou_4, hF⟩ := bnd hF
      obtain ⟨q_5, e_5, hF⟩ := bnd hF
      refine m_callV (As := [.int v1, .int v2, .int v5]) (rest := []) X hH hS hl.1 ou_4 rfl (by decide) (k_X8_mostAlike l D cI cT cII base p0 v1 v2 v5 w q_5 e_5) q_X8_mostAlike kw_747 kw_748 kw_749 rfl rfl (Nat.le_of_ble_eq_true rfl) ⟨by decide, by decide⟩ hc dX8_bestLook_26 (fun H locs hH hS => W.eq (g2 := F0 m 29 ls [.int q_5.1]) rfl ?_)
      refine lv_istore (lv' := [(6, .int q_5.1), (0, .ref (base + p0)), (1, .int v1), (2, .int v2), (3, .int v3), (4, .int v4), (5, .int v5)]) hx hb dX8_bestLook_29 hl (by decide) rfl (fun ls hl => ?_)
      refine lv_iload hx hb dX8_bestLook_31 (lv_at hl 0 rfl) ?_
      refine lv_iload hx hb dX8_bestLook_33 (lv_at hl 5 rfl) ?_
      refine lv_icmp_ge (tgt := 45) hx hb dX8_bestLook_35 (by decide) (fun c_6 => ?_) (fun c_6 => ?_)
      · replace hF := itt c_6 hF
        refine lv_iinc (v := v5 + (1 : Int32)) (lv' := [(5, .int (v5 + (1 : Int32))), (6, .int q_5.1), (0, .ref (base + p0)), (1, .int v1), (2, .int v2), (3, .int v3), (4, .int v4)]) hx hb dX8_bestLook_45 hl (k := 6) rfl (congrArg (fun z => v5 + z) (by decide)) (by decide) rfl (fun ls hl => ?_)
        refine lv_goto (tgt := 14) hx hb dX8_bestLook_48 (by decide) ?_
        exact ih v3 v4 (v5 + (1 : Int32)) q_5.2 hF H locs ls hH hS (lv_sub hl [2, 3, 4, 5, 6, 0] rfl)
      · replace hF := itf c_6 hF
        refine lv_iload hx hb dX8_bestLook_38 (lv_at hl 6 rfl) ?_
        refine lv_istore_n (lv' := [(3, .int v5), (6, .int q_5.1), (0, .ref (base + p0)), (1, .int v1), (2, .int v2), (4, .int v4), (5, .int v5)]) hx hb dX8_bestLook_40 rfl hl (by decide) rfl (fun ls hl => ?_)
        refine lv_iload hx hb dX8_bestLook_41 (lv_at hl 1 rfl) ?_
        refine lv_istore (lv' := [(4, .int q_5.1), (3, .int v5), (6, .int q_5.1), (0, .ref (base + p0)), (1, .int v1), (2, .int v2), (5, .int v5)]) hx hb dX8_bestLook_43 hl (by decide) rfl (fun ls hl => ?_)
        refine lv_iinc (v := v5 + (1 : Int32)) (lv' := [(5, .int (v5 + (1 : Int32))), (4, .int q_5.1), (3, .int v5), (6, .int q_5.1), (0, .ref (base + p0)), (1, .int v1), (2, .int v2)]) hx hb dX8_bestLook_45 hl (k := 6) rfl (congrArg (fun z => v5 + z) (by decide)) (by decide) rfl (fun ls hl => ?_)
        refine lv_goto (tgt := 14) hx hb dX8_bestLook_48 (by decide) ?_
        exact ih v5 q_5.1 (v5 + (1 : Int32)) q_5.2 hF H locs ls hH hS (lv_sub hl [4, 5, 6, 2, 1, 0] rfl)
set_option maxHeartbeats 4000000 in
set_option maxRecDepth 100000 in
theorem k_X8_bestLook (l : Launch) (D : va_G) (cI cT cII : ClassId) (base : Nat) (p0 : Nat) (v1 : Int32) (v2 : Int32) (w : Wd) (res : Int32 × Wd) (hF : fX8_bestLook p0 v1 v2 w = some res) : Ct l yX8_bestLook cX8_bestLook 7 (some .int) { frames := 3, cells := 0, slots := 0, locals := 69 } D cI cT cII base [.ref (base + p0), .int v1, .int v2] w res.2 (some (.int res.1)) 0 0 := by
  unfold fX8_bestLook at hF
  refine m_enter (by decide) (Nat.le_of_ble_eq_true rfl) ?_
  intro p e s m below meth c ls X hr hlk hnm hH hS hl
  have hx := X.1
  have hb := X.2.1
  have hc : (0 : Nat) ≤ ({ frames := 3, cells := 0, slots := 0, locals := 69 } : Room).cells ∧ (0 : Nat) ≤ ({ frames := 3, cells := 0, slots := 0, locals := 69 } : Room).slots := ⟨Nat.zero_le _, Nat.zero_le _⟩
  obtain ⟨H, hHe⟩ : ∃ H : Heap, H = s.heap := ⟨_, rfl⟩
  obtain ⟨locs, hle⟩ : ∃ L : List Loc, L = [] := ⟨_, rfl⟩
  have hl : lv_has ls 7 [(0, .ref (base + p0)), (1, .int v1), (2, .int v2)] := hl
  rw [← hHe] at hH
  have hS : va_S (fun q => base ≤ q) s.heap H locs := by rw [hHe, hle]; exact hS
  rw [← hle]
  show W p l e _ s m _ below meth c s.heap locs 0 0 _ _
  rw [← hHe]
  refine lv_iconst (v := (0 : Int32)) hx hb dX8_bestLook_0 (by decide) ?_
  refine lv_istore_n (lv' := [(3, .int (0 : Int32)), (0, .ref (base + p0)), (1, .int v1), (2, .int v2)]) hx hb dX8_bestLook_1 rfl hl (by decide) rfl (fun ls hl => ?_)
  refine lv_aload_n hx hb dX8_bestLook_2 rfl (lv_at hl 1 rfl) ?_
  refine lv_iload_n hx hb dX8_bestLook_3 rfl (lv_at hl 2 rfl) ?_
  refine lv_iload_n hx hb dX8_bestLook_4 rfl (lv_at hl 3 rfl) ?_
  refine lv_iconst (v := (0 : Int32)) hx hb dX8_bestLook_5 (by decide) ?_
  obtain ⟨u_1, ou_1, hF⟩ := bnd hF
  obtain ⟨q_2, e_2, hF⟩ := bnd hF
  refine m_callV (As := [.int v1, .int v2, .int (0 : Int32)]) (rest := []) X hH hS hl.1 ou_1 rfl (by decide) (k_X8_mostAlike l D cI cT cII base p0 v1 v2 (0 : Int32) w q_2 e_2) q_X8_mostAlike kw_747 kw_748 kw_749 rfl rfl (Nat.le_of_ble_eq_true rfl) ⟨by decide, by decide⟩ hc dX8_bestLook_6 (fun H locs hH hS => W.eq (g2 := F0 m 9 ls [.int q_2.1]) rfl ?_)
  refine lv_istore (lv' := [(4, .int q_2.1), (3, .int (0 : Int32)), (0, .ref (base + p0)), (1, .int v1), (2, .int v2)]) hx hb dX8_bestLook_9 hl (by decide) rfl (fun ls hl => ?_)
  refine lv_iconst (v := (1 : Int32)) hx hb dX8_bestLook_11 (by decide) ?_
  refine lv_istore (lv' := [(5, .int (1 : Int32)), (4, .int q_2.1), (3, .int (0 : Int32)), (0, .ref (base + p0)), (1, .int v1), (2, .int v2)]) hx hb dX8_bestLook_12 hl (by decide) rfl (fun ls hl => ?_)
  refine l_X8_bestLook_14 X hc p0 v1 v2 _ res ?_ FV (0 : Int32) q_2.1 (1 : Int32) q_2.2 hF H locs ls hH hS (lv_sub hl [3, 4, 5, 2, 1, 0] rfl)
  · intro v3_8 w_7 hF H locs ls hH hS hl
    refine lv_iload_n hx hb dX8_bestLook_51 rfl (lv_at hl 0 rfl) ?_
    have hF := Option.some.inj hF
    subst hF
    exact m_iret X hr hlk hH hS dX8_bestLook_52
noncomputable def fX11_look (p0 : Nat) (v1 : Int32) (v2 : Int32) (w : Wd) : Option (Int32 × Wd) := (fX11_outside v1 (4 : Int32) w).bind fun q_1 => if q_1.1 = 0 then (fX11_outside v2 (2 : Int32) q_1.2).bind fun q_3 => if q_3.1 = 0 then (gfR 10 7 p0 q_3.2).bind fun r_5 => (isO 7 r_5 q_3.2).bind fun u_6 => (fX8_fitting r_5 v1 q_3.2).bind fun q_7 => if q_7.1 = 0 then some ((-4 : Int32), q_7.2) else (gfR 10 7 p0 q_7.2).bind fun r_9 => (isO 7 r_9 q_7.2).bind fun u_10 => (fX8_bestLook r_9 v1 q_7.1 q_7.2).bind fun q_11 => if v2 = 0 then some (q_11.1, q_11.2) else (gfR 10 7 p0 q_11.2).bind fun r_13 => (isO 7 r_13 q_11.2).bind fun u_14 => (fX8_mostAlike r_13 v1 q_7.1 q_11.1 q_11.2).bind fun q_15 => some (q_15.1, q_15.2) else some ((-1 : Int32), q_3.2) else some ((-1 : Int32), q_1.2)
set_option maxHeartbeats 4000000 in
set_option maxRecDepth 100000 in
theorem k_X11_look (l : Launch) (D : va_G) (cI cT cII : ClassId) (base : Nat) (p0 : Nat) (v1 : Int32) (v2 : Int32) (w : Wd) (res : Int32 × Wd) (hF : fX11_look p0 v1 v2 w = some res) : Ct l yX11_look cX11_look 5 (some .int) { frames := 4, cells := 0, slots := 0, locals := 95 } D cI cT cII base [.ref (base + p0), .int v1, .int v2] w res.2 (some (.int res.1)) 0 0 := by
  unfold fX11_look at hF
  refine m_enter (by decide) (Nat.le_of_ble_eq_true rfl) ?_
  intro p e s m below meth c ls X hr hlk hnm hH hS hl
  have hx := X.1
  have hb := X.2.1
  have hc : (0 : Nat) ≤ ({ frames := 4, cells := 0, slots := 0, locals := 95 } : Room).cells ∧ (0 : Nat) ≤ ({ frames := 4, cells := 0, slots := 0, locals := 95 } : Room).slots := ⟨Nat.zero_le _, Nat.zero_le _⟩
  obtain ⟨H, hHe⟩ : ∃ H : Heap, H = s.heap := ⟨_, rfl⟩
  obtain ⟨locs, hle⟩ : ∃ L : List Loc, L = [] := ⟨_, rfl⟩
  have hl : lv_has ls 5 [(0, .ref (base + p0)), (1, .int v1), (2, .int v2)] := hl
  rw [← hHe] at hH
  have hS : va_S (fun q => base ≤ q) s.heap H locs := by rw [hHe, hle]; exact hS
  rw [← hle]
  show W p l e _ s m _ below meth c s.heap locs 0 0 _ _
  rw [← hHe]
  refine lv_iload_n hx hb dX11_look_0 rfl (lv_at hl 1 rfl) ?_
  refine lv_iconst (v := (4 : Int32)) hx hb dX11_look_1 (by decide) ?_
  obtain ⟨q_1, e_1, hF⟩ := bnd hF
  refine m_callS (As := [.int v1, .int (4 : Int32)]) (rest := []) X hH hS hl.1 (k_X11_outside l D cI cT cII base v1 (4 : Int32) w q_1 e_1) q_X11_outside kw_511 kw_391 rfl rfl (Nat.le_of_ble_eq_true rfl) ⟨by decide, by decide⟩ hc dX11_look_2 (fun H locs hH hS => W.eq (g2 := F0 m 5 ls [.int q_1.1]) rfl ?_)
  refine lv_if_ne (tgt := 16) hx hb dX11_look_5 (by decide) (fun c_2 => ?_) (fun c_2 => ?_)
  · replace hF := itf c_2 hF
    refine lv_iconst (v := (-1 : Int32)) hx hb dX11_look_16 (by decide) ?_
    have hF := Option.some.inj hF
    subst hF
    exact m_iret X hr hlk hH hS dX11_look_17
  · replace hF := itt c_2 hF
    refine lv_iload_n hx hb dX11_look_8 rfl (lv_at hl 2 rfl) ?_
    refine lv_iconst (v := (2 : Int32)) hx hb dX11_look_9 (by decide) ?_
    obtain ⟨q_3, e_3, hF⟩ := bnd hF
    refine m_callS (As := [.int v2, .int (2 : Int32)]) (rest := []) X hH hS hl.1 (k_X11_outside l D cI cT cII base v2 (2 : Int32) q_1.2 q_3 e_3) q_X11_outside kw_511 kw_391 rfl rfl (Nat.le_of_ble_eq_true rfl) ⟨by decide, by decide⟩ hc dX11_look_10 (fun H locs hH hS => W.eq (g2 := F0 m 13 ls [.int q_3.1]) rfl ?_)
    refine lv_if_eq (tgt := 18) hx hb dX11_look_13 (by decide) (fun c_4 => ?_) (fun c_4 => ?_)
    · replace hF := itt c_4 hF
      refine lv_aload_n hx hb dX11_look_18 rfl (lv_at hl 0 rfl) ?_
      obtain ⟨r_5, e_5, hF⟩ := bnd hF
      refine m_gR X hH e_5 gg_X11_59 dX11_look_19 ?_
      refine lv_iload_n hx hb dX11_look_22 rfl (lv_at hl 1 rfl) ?_
      obtain ⟨u_6, ou_6, hF⟩ := bnd hF
      obtain ⟨q_7, e_7, hF⟩ := bnd hF
      refine m_callV (As := [.int v1]) (rest := []) X hH hS hl.1 ou_6 rfl (by decide) (k_X8_fitting l D cI cT cII base r_5 v1 q_3.2 q_7 e_7) q_X8_fitting kw_730 kw_731 kw_732 rfl rfl (Nat.le_of_ble_eq_true rfl) ⟨by decide, by decide⟩ hc dX11_look_23 (fun H locs hH hS => W.eq (g2 := F0 m 26 ls [.int q_7.1]) rfl ?_)
      refine lv_istore_n (lv' := [(3, .int q_7.1), (0, .ref (base + p0)), (1, .int v1), (2, .int v2)]) hx hb dX11_look_26 rfl hl (by decide) rfl (fun ls hl => ?_)
      refine lv_iload_n hx hb dX11_look_27 rfl (lv_at hl 0 rfl) ?_
      refine lv_if_ne (tgt := 34) hx hb dX11_look_28 (by decide) (fun c_8 => ?_) (fun c_8 => ?_)
      · replace hF := itf c_8 hF
        refine lv_aload_n hx hb dX11_look_34 rfl (lv_at hl 1 rfl) ?_
        obtain ⟨r_9, e_9, hF⟩ := bnd hF
        refine m_gR X hH e_9 gg_X11_59 dX11_look_35 ?_
        refine lv_iload_n hx hb dX11_look_38 rfl (lv_at hl 2 rfl) ?_
        refine lv_iload_n hx hb dX11_look_39 rfl (lv_at hl 0 rfl) ?_
        obtain ⟨u_10, ou_10, hF⟩ := bnd hF
        obtain ⟨q_11, e_11, hF⟩ := bnd hF
        refine m_callV (As := [.int v1, .int q_7.1]) (rest := []) X hH hS hl.1 ou_10 rfl (by decide) (k_X8_bestLook l D cI cT cII base r_9 v1 q_7.1 q_7.2 q_11 e_11) q_X8_bestLook kw_743 kw_744 kw_745 rfl rfl (Nat.le_of_ble_eq_true rfl) ⟨by decide, by decide⟩ hc dX11_look_40 (fun H locs hH hS => W.eq (g2 := F0 m 43 ls [.int q_11.1]) rfl ?_)
        refine lv_istore (lv' := [(4, .int q_11.1), (3, .int q_7.1), (0, .ref (base + p0)), (1, .int v1), (2, .int v2)]) hx hb dX11_look_43 hl (by decide) rfl (fun ls hl => ?_)
        refine lv_iload_n hx hb dX11_look_45 rfl (lv_at hl 4 rfl) ?_
        refine lv_if_ne (tgt := 54) hx hb dX11_look_46 (by decide) (fun c_12 => ?_) (fun c_12 => ?_)
        · replace hF := itf c_12 hF
          refine lv_aload_n hx hb dX11_look_54 rfl (lv_at hl 2 rfl) ?_
          obtain ⟨r_13, e_13, hF⟩ := bnd hF
          refine m_gR X hH e_13 gg_X11_59 dX11_look_55 ?_
          refine lv_iload_n hx hb dX11_look_58 rfl (lv_at hl 3 rfl) ?_
          refine lv_iload_n hx hb dX11_look_59 rfl (lv_at hl 1 rfl) ?_
          refine lv_iload hx hb dX11_look_60 (lv_at hl 0 rfl) ?_
          obtain ⟨u_14, ou_14, hF⟩ := bnd hF
          obtain ⟨q_15, e_15, hF⟩ := bnd hF
          refine m_callV (As := [.int v1, .int q_7.1, .int q_11.1]) (rest := []) X hH hS hl.1 ou_14 rfl (by decide) (k_X8_mostAlike l D cI cT cII base r_13 v1 q_7.1 q_11.1 q_11.2 q_15 e_15) q_X8_mostAlike kw_754 kw_748 kw_749 rfl rfl (Nat.le_of_ble_eq_true rfl) ⟨by decide, by decide⟩ hc dX11_look_62 (fun H locs hH hS => W.eq (g2 := F0 m 65 ls [.int q_15.1]) rfl ?_)
          have hF := Option.some.inj hF
          subst hF
          exact m_iret X hr hlk hH hS dX11_look_65
        · replace hF := itt c_12 hF
          refine lv_iload hx hb dX11_look_49 (lv_at hl 0 rfl) ?_
          refine lv_goto (tgt := 65) hx hb dX11_look_51 (by decide) ?_
          have hF := Option.some.inj hF
          subst hF
          exact m_iret X hr hlk hH hS dX11_look_65
      · replace hF := itt c_8 hF
        refine lv_bipush (v := (-4 : Int32)) hx hb dX11_look_31 (by decide) ?_
        have hF := Option.some.inj hF
        subst hF
        exact m_iret X hr hlk hH hS dX11_look_33
    · replace hF := itf c_4 hF
      refine lv_iconst (v := (-1 : Int32)) hx hb dX11_look_16 (by decide) ?_
      have hF := Option.some.inj hF
      subst hF
      exact m_iret X hr hlk hH hS dX11_look_17
noncomputable def fX1_daysWon_4 (p0 : Nat) (v1 : Int32) (K_29 : Int32 → Wd → Option (Int32 × Wd)) : Nat → Int32 → Int32 → Wd → Option (Int32 × Wd)
  | 0, _, _, _ => none
  | n + 1, v2, v3, w => if (31 : Int32) ≤ v3 then K_29 v2 w else (gfR 1 3 p0 w).bind fun r_2 => (rdI r_2 v3 w).bind fun x_3 => fX1_daysWon_4 p0 v1 K_29 n (v2 + ((x_3 >>> (v1 &&& 31)) &&& (1 : Int32))) (v3 + (1 : Int32)) w
noncomputable def fX1_daysWon (p0 : Nat) (v1 : Int32) (w : Wd) : Option (Int32 × Wd) := fX1_daysWon_4 p0 v1 (fun (v2_5 : Int32) (w_4 : Wd) => some (v2_5, w_4)) FV (0 : Int32) (0 : Int32) w
set_option maxHeartbeats 4000000 in
set_option maxRecDepth 100000 in
theorem l_X1_daysWon_4 (X : Cx p R s m args c cX1_daysWon 4 RX1 D cI cT cII 0 0) (hc : cells ≤ R.cells ∧ slots ≤ R.slots) (p0 : Nat) (v1 : Int32) (K_29 : Int32 → Wd → Option (Int32 × Wd)) (res : Int32 × Wd)
    (hK_29 : ∀ (z2 : Int32) (w : Wd), K_29 z2 w = some res → ∀ (H : Heap) (locs : List Loc) (ls : Array Slot), Hd D cI cT cII base w H → va_S (fun q => base ≤ q) s.heap H locs → lv_has ls 4 [(2, .int z2)] → W p l e R s m args below meth c H locs cells slots Q (F0 m 29 ls [])) :
    ∀ (n : Nat) (v2 : Int32) (v3 : Int32) (w : Wd), fX1_daysWon_4 p0 v1 K_29 n v2 v3 w = some res → ∀ (H : Heap) (locs : List Loc) (ls : Array Slot), Hd D cI cT cII base w H → va_S (fun q => base ≤ q) s.heap H locs → lv_has ls 4 [(0, .ref (base + p0)), (1, .int v1), (2, .int v2), (3, .int v3)] → W p l e R s m args below meth c H locs cells slots Q (F0 m 4 ls []) := by
  have hx := X.1
  have hb := X.2.1
  intro n
  induction n with
  | zero =>
    intro v2 v3 w hF
    rw [fX1_daysWon_4] at hF
    cases hF
  | succ n ih =>
    intro v2 v3 w hF H locs ls hH hS hl
    rw [fX1_daysWon_4] at hF
    refine lv_iload_n hx hb dX1_daysWon_4 rfl (lv_at hl 3 rfl) ?_
    refine lv_bipush (v := (31 : Int32)) hx hb dX1_daysWon_5 (by decide) ?_
    refine lv_icmp_ge (tgt := 29) hx hb dX1_daysWon_7 (by decide) (fun c_1 => ?_) (fun c_1 => ?_)
    · replace hF := itt c_1 hF
      exact hK_29 v2 w hF H locs ls hH hS (lv_sub hl [2] rfl)
    · replace hF := itf c_1 hF
      refine lv_iload_n hx hb dX1_daysWon_10 rfl (lv_at hl 2 rfl) ?_
      refine lv_aload_n hx hb dX1_daysWon_11 rfl (lv_at hl 0 rfl) ?_
      obtain ⟨r_2, e_2, hF⟩ := bnd hF
      refine m_gR X hH e_2 gg_X1_22 dX1_daysWon_12 ?_
      refine lv_iload_n hx hb dX1_daysWon_15 rfl (lv_at hl 3 rfl) ?_
      obtain ⟨x_3, e_3, hF⟩ := bnd hF
      refine m_rdI X hH e_3 dX1_daysWon_16 ?_
      refine lv_iload_n hx hb dX1_daysWon_17 rfl (lv_at hl 1 rfl) ?_
      refine lv_ishr hx hb dX1_daysWon_18 ?_
      refine lv_iconst (v := (1 : Int32)) hx hb dX1_daysWon_19 (by decide) ?_
      refine lv_iand hx hb dX1_daysWon_20 ?_
      refine lv_iadd hx hb dX1_daysWon_21 ?_
      refine lv_istore_n (lv' := [(2, .int (v2 + ((x_3 >>> (v1 &&& 31)) &&& (1 : Int32)))), (0, .ref (base + p0)), (1, .int v1), (3, .int v3)]) hx hb dX1_daysWon_22 rfl hl (by decide) rfl (fun ls hl => ?_)
      refine lv_iinc (v := v3 + (1 : Int32)) (lv' := [(3, .int (v3 + (1 : Int32))), (2, .int (v2 + ((x_3 >>> (v1 &&& 31)) &&& (1 : Int32)))), (0, .ref (base + p0)), (1, .int v1)]) hx hb dX1_daysWon_23 hl (k := 3) rfl (congrArg (fun z => v3 + z) (by decide)) (by decide) rfl (fun ls hl => ?_)
      refine lv_goto (tgt := 4) hx hb dX1_daysWon_26 (by decide) ?_
      exact ih (v2 + ((x_3 >>> (v1 &&& 31)) &&& (1 : Int32))) (v3 + (1 : Int32)) w hF H locs ls hH hS (lv_sub hl [2, 3, 1, 0] rfl)
set_option maxHeartbeats 4000000 in
set_option maxRecDepth 100000 in
theorem k_X1_daysWon (l : Launch) (D : va_G) (cI cT cII : ClassId) (base : Nat) (p0 : Nat) (v1 : Int32) (w : Wd) (res : Int32 × Wd) (hF : fX1_daysWon p0 v1 w = some res) : Ct l yX1_daysWon cX1_daysWon 4 (some .int) { frames := 0, cells := 0, slots := 0, locals := 0 } D cI cT cII base [.ref (base + p0), .int v1] w res.2 (some (.int res.1)) 0 0 := by
  unfold fX1_daysWon at hF
  refine m_enter (by decide) (Nat.le_of_ble_eq_true rfl) ?_
  intro p e s m below meth c ls X hr hlk hnm hH hS hl
  have hx := X.1
  have hb := X.2.1
  have hc : (0 : Nat) ≤ ({ frames := 0, cells := 0, slots := 0, locals := 0 } : Room).cells ∧ (0 : Nat) ≤ ({ frames := 0, cells := 0, slots := 0, locals := 0 } : Room).slots := ⟨Nat.zero_le _, Nat.zero_le _⟩
  obtain ⟨H, hHe⟩ : ∃ H : Heap, H = s.heap := ⟨_, rfl⟩
  obtain ⟨locs, hle⟩ : ∃ L : List Loc, L = [] := ⟨_, rfl⟩
  have hl : lv_has ls 4 [(0, .ref (base + p0)), (1, .int v1)] := hl
  rw [← hHe] at hH
  have hS : va_S (fun q => base ≤ q) s.heap H locs := by rw [hHe, hle]; exact hS
  rw [← hle]
  show W p l e _ s m _ below meth c s.heap locs 0 0 _ _
  rw [← hHe]
  refine lv_iconst (v := (0 : Int32)) hx hb dX1_daysWon_0 (by decide) ?_
  refine lv_istore_n (lv' := [(2, .int (0 : Int32)), (0, .ref (base + p0)), (1, .int v1)]) hx hb dX1_daysWon_1 rfl hl (by decide) rfl (fun ls hl => ?_)
  refine lv_iconst (v := (0 : Int32)) hx hb dX1_daysWon_2 (by decide) ?_
  refine lv_istore_n (lv' := [(3, .int (0 : Int32)), (2, .int (0 : Int32)), (0, .ref (base + p0)), (1, .int v1)]) hx hb dX1_daysWon_3 rfl hl (by decide) rfl (fun ls hl => ?_)
  refine l_X1_daysWon_4 X hc p0 v1 _ res ?_ FV (0 : Int32) (0 : Int32) w hF H locs ls hH hS (lv_sub hl [2, 3, 1, 0] rfl)
  · intro v2_5 w_4 hF H locs ls hH hS hl
    refine lv_iload_n hx hb dX1_daysWon_29 rfl (lv_at hl 0 rfl) ?_
    have hF := Option.some.inj hF
    subst hF
    exact m_iret X hr hlk hH hS dX1_daysWon_30
noncomputable def fX11_most_27 (p0 : Nat) (v1 : Int32) (K_65 : Int32 → Wd → Option (Int32 × Wd)) : Nat → Int32 → Int32 → Wd → Option (Int32 × Wd)
  | 0, _, _, _ => none
  | n + 1, v2, v3, w => (gfR 10 10 p0 w).bind fun r_6 => (gfI 3 7 r_6 w).bind fun x_7 => if x_7 ≤ v3 then K_65 v2 w else (isO 10 p0 w).bind fun u_9 => (fX11_daysNow p0 w).bind fun q_10 => (isO 1 q_10.1 q_10.2).bind fun u_11 => (fX1_daysWon q_10.1 v3 q_10.2).bind fun q_12 => (isO 10 p0 q_12.2).bind fun u_13 => (fX11_daysNow p0 q_12.2).bind fun q_14 => (isO 1 q_14.1 q_14.2).bind fun u_15 => (fX1_daysWon q_14.1 v2 q_14.2).bind fun q_16 => if q_12.1 ≤ q_16.1 then fX11_most_27 p0 v1 K_65 n v2 (v3 + (1 : Int32)) q_16.2 else fX11_most_27 p0 v1 K_65 n v3 (v3 + (1 : Int32)) q_16.2
noncomputable def fX11_most (p0 : Nat) (v1 : Int32) (w : Wd) : Option (Int32 × Wd) := (fX11_outside v1 (2 : Int32) w).bind fun q_1 => if q_1.1 = 0 then (gfR 10 10 p0 q_1.2).bind fun r_3 => (gfI 3 7 r_3 q_1.2).bind fun x_4 => if x_4 = 0 then some ((-4 : Int32), q_1.2) else fX11_most_27 p0 v1 (fun (v2_19 : Int32) (w_18 : Wd) => if v1 = 0 then some (v2_19, w_18) else (isO 10 p0 w_18).bind fun u_21 => (fX11_daysNow p0 w_18).bind fun q_22 => (isO 1 q_22.1 q_22.2).bind fun u_23 => (fX1_daysWon q_22.1 v2_19 q_22.2).bind fun q_24 => some (q_24.1, q_24.2)) FV (0 : Int32) (1 : Int32) q_1.2 else some ((-1 : Int32), q_1.2)
set_option maxHeartbeats 4000000 in
set_option maxRecDepth 100000 in
theorem l_X11_most_27 (X : Cx p R s m args c cX11_most 4 RX11 D cI cT cII 6 137) (hc : cells ≤ R.cells ∧ slots ≤ R.slots) (p0 : Nat) (v1 : Int32) (K_65 : Int32 → Wd → Option (Int32 × Wd)) (res : Int32 × Wd)
    (hK_65 : ∀ (z2 : Int32) (w : Wd), K_65 z2 w = some res → ∀ (H : Heap) (locs : List Loc) (ls : Array Slot), Hd D cI cT cII base w H → va_S (fun q => base ≤ q) s.heap H locs → lv_has ls 4 [(0, .ref (base + p0)), (1, .int v1), (2, .int z2)] → W p l e R s m args below meth c H locs cells slots Q (F0 m 65 ls [])) :
    ∀ (n : Nat) (v2 : Int32) (v3 : Int32) (w : Wd), fX11_most_27 p0 v1 K_65 n v2 v3 w = some res → ∀ (H : Heap) (locs : List Loc) (ls : Array Slot), Hd D cI cT cII base w H → va_S (fun q => base ≤ q) s.heap H locs → lv_has ls 4 [(0, .ref (base + p0)), (1, .int v1), (2, .int v2), (3, .int v3)] → W p l e R s m args below meth c H locs cells slots Q (F0 m 27 ls []) := by
  have hx := X.1
  have hb := X.2.1
  intro n
  induction n with
  | zero =>
    intro v2 v3 w hF
    rw [fX11_most_27] at hF
    cases hF
  | succ n ih =>
    intro v2 v3 w hF H locs ls hH hS hl
    rw [fX11_most_27] at hF
    refine lv_iload_n hx hb dX11_most_27 rfl (lv_at hl 3 rfl) ?_
    refine lv_aload_n hx hb dX11_most_28 rfl (lv_at hl 0 rfl) ?_
    obtain ⟨r_6, e_6, hF⟩ := bnd hF
    refine m_gR X hH e_6 gg_X11_80 dX11_most_29 ?_
    obtain ⟨x_7, e_7, hF⟩ := bnd hF
    refine m_hI X hH e_7 gg_X11_136 dX11_most_32 ?_
    refine lv_icmp_ge (tgt := 65) hx hb dX11_most_35 (by decide) (fun c_8 => ?_) (fun c_8 => ?_)
    · replace hF := itt c_8 hF
      exact hK_65 v2 w hF H locs ls hH hS (lv_sub hl [0, 1, 2] rfl)
    · replace hF := itf c_8 hF
      refine lv_aload_n hx hb dX11_most_38 rfl (lv_at hl 0 rfl) ?_
      obtain ⟨u_9, ou_9, hF⟩ := bnd hF
      obtain ⟨q_10, e_10, hF⟩ := bnd hF
      refine m_callV (As := []) (rest := []) X hH hS hl.1 ou_9 rfl (by decide) (k_X11_daysNow l D cI cT cII base p0 w q_10 e_10) q_X11_daysNow kw_520 kw_522 kw_9 rfl rfl (Nat.le_of_ble_eq_true rfl) ⟨by decide, by decide⟩ hc dX11_most_39 (fun H locs hH hS => W.eq (g2 := F0 m 42 ls [.ref (base + q_10.1)]) rfl ?_)
      refine lv_iload_n hx hb dX11_most_42 rfl (lv_at hl 3 rfl) ?_
      obtain ⟨u_11, ou_11, hF⟩ := bnd hF
      obtain ⟨q_12, e_12, hF⟩ := bnd hF
      refine m_callV (As := [.int v3]) (rest := []) X hH hS hl.1 ou_11 rfl (by decide) (k_X1_daysWon l D cI cT cII base q_10.1 v3 q_10.2 q_12 e_12) q_X1_daysWon kw_789 kw_790 kw_791 rfl rfl (Nat.le_of_ble_eq_true rfl) ⟨by decide, by decide⟩ hc dX11_most_43 (fun H locs hH hS => W.eq (g2 := F0 m 46 ls [.int q_12.1]) rfl ?_)
      refine lv_aload_n hx hb dX11_most_46 rfl (lv_at hl 0 rfl) ?_
      obtain ⟨u_13, ou_13, hF⟩ := bnd hF
      obtain ⟨q_14, e_14, hF⟩ := bnd hF
      refine m_callV (As := []) (rest := [.int q_12.1]) X hH hS hl.1 ou_13 rfl (by decide) (k_X11_daysNow l D cI cT cII base p0 q_12.2 q_14 e_14) q_X11_daysNow kw_520 kw_522 kw_9 rfl rfl (Nat.le_of_ble_eq_true rfl) ⟨by decide, by decide⟩ hc dX11_most_47 (fun H locs hH hS => W.eq (g2 := F0 m 50 ls [.ref (base + q_14.1), .int q_12.1]) rfl ?_)
      refine lv_iload_n hx hb dX11_most_50 rfl (lv_at hl 2 rfl) ?_
      obtain ⟨u_15, ou_15, hF⟩ := bnd hF
      obtain ⟨q_16, e_16, hF⟩ := bnd hF
      refine m_callV (As := [.int v2]) (rest := [.int q_12.1]) X hH hS hl.1 ou_15 rfl (by decide) (k_X1_daysWon l D cI cT cII base q_14.1 v2 q_14.2 q_16 e_16) q_X1_daysWon kw_789 kw_790 kw_791 rfl rfl (Nat.le_of_ble_eq_true rfl) ⟨by decide, by decide⟩ hc dX11_most_51 (fun H locs hH hS => W.eq (g2 := F0 m 54 ls [.int q_16.1, .int q_12.1]) rfl ?_)
      refine lv_icmp_le (tgt := 59) hx hb dX11_most_54 (by decide) (fun c_17 => ?_) (fun c_17 => ?_)
      · replace hF := itt c_17 hF
        refine lv_iinc (v := v3 + (1 : Int32)) (lv' := [(3, .int (v3 + (1 : Int32))), (0, .ref (base + p0)), (1, .int v1), (2, .int v2)]) hx hb dX11_most_59 hl (k := 3) rfl (congrArg (fun z => v3 + z) (by decide)) (by decide) rfl (fun ls hl => ?_)
        refine lv_goto (tgt := 27) hx hb dX11_most_62 (by decide) ?_
        exact ih v2 (v3 + (1 : Int32)) q_16.2 hF H locs ls hH hS (lv_sub hl [1, 2, 3, 0] rfl)
      · replace hF := itf c_17 hF
        refine lv_iload_n hx hb dX11_most_57 rfl (lv_at hl 3 rfl) ?_
        refine lv_istore_n (lv' := [(2, .int v3), (0, .ref (base + p0)), (1, .int v1), (3, .int v3)]) hx hb dX11_most_58 rfl hl (by decide) rfl (fun ls hl => ?_)
        refine lv_iinc (v := v3 + (1 : Int32)) (lv' := [(3, .int (v3 + (1 : Int32))), (2, .int v3), (0, .ref (base + p0)), (1, .int v1)]) hx hb dX11_most_59 hl (k := 3) rfl (congrArg (fun z => v3 + z) (by decide)) (by decide) rfl (fun ls hl => ?_)
        refine lv_goto (tgt := 27) hx hb dX11_most_62 (by decide) ?_
        exact ih v3 (v3 + (1 : Int32)) q_16.2 hF H locs ls hH hS (lv_sub hl [2, 3, 1, 0] rfl)
set_option maxHeartbeats 4000000 in
set_option maxRecDepth 100000 in
theorem k_X11_most (l : Launch) (D : va_G) (cI cT cII : ClassId) (base : Nat) (p0 : Nat) (v1 : Int32) (w : Wd) (res : Int32 × Wd) (hF : fX11_most p0 v1 w = some res) : Ct l yX11_most cX11_most 4 (some .int) { frames := 6, cells := 0, slots := 0, locals := 137 } D cI cT cII base [.ref (base + p0), .int v1] w res.2 (some (.int res.1)) 0 0 := by
  unfold fX11_most at hF
  refine m_enter (by decide) (Nat.le_of_ble_eq_true rfl) ?_
  intro p e s m below meth c ls X hr hlk hnm hH hS hl
  have hx := X.1
  have hb := X.2.1
  have hc : (0 : Nat) ≤ ({ frames := 6, cells := 0, slots := 0, locals := 137 } : Room).cells ∧ (0 : Nat) ≤ ({ frames := 6, cells := 0, slots := 0, locals := 137 } : Room).slots := ⟨Nat.zero_le _, Nat.zero_le _⟩
  obtain ⟨H, hHe⟩ : ∃ H : Heap, H = s.heap := ⟨_, rfl⟩
  obtain ⟨locs, hle⟩ : ∃ L : List Loc, L = [] := ⟨_, rfl⟩
  have hl : lv_has ls 4 [(0, .ref (base + p0)), (1, .int v1)] := hl
  rw [← hHe] at hH
  have hS : va_S (fun q => base ≤ q) s.heap H locs := by rw [hHe, hle]; exact hS
  rw [← hle]
  show W p l e _ s m _ below meth c s.heap locs 0 0 _ _
  rw [← hHe]
  refine lv_iload_n hx hb dX11_most_0 rfl (lv_at hl 1 rfl) ?_
  refine lv_iconst (v := (2 : Int32)) hx hb dX11_most_1 (by decide) ?_
  obtain ⟨q_1, e_1, hF⟩ := bnd hF
  refine m_callS (As := [.int v1, .int (2 : Int32)]) (rest := []) X hH hS hl.1 (k_X11_outside l D cI cT cII base v1 (2 : Int32) w q_1 e_1) q_X11_outside kw_511 kw_391 rfl rfl (Nat.le_of_ble_eq_true rfl) ⟨by decide, by decide⟩ hc dX11_most_2 (fun H locs hH hS => W.eq (g2 := F0 m 5 ls [.int q_1.1]) rfl ?_)
  refine lv_if_eq (tgt := 10) hx hb dX11_most_5 (by decide) (fun c_2 => ?_) (fun c_2 => ?_)
  · replace hF := itt c_2 hF
    refine lv_aload_n hx hb dX11_most_10 rfl (lv_at hl 0 rfl) ?_
    obtain ⟨r_3, e_3, hF⟩ := bnd hF
    refine m_gR X hH e_3 gg_X11_80 dX11_most_11 ?_
    obtain ⟨x_4, e_4, hF⟩ := bnd hF
    refine m_hI X hH e_4 gg_X11_136 dX11_most_14 ?_
    refine lv_if_ne (tgt := 23) hx hb dX11_most_17 (by decide) (fun c_5 => ?_) (fun c_5 => ?_)
    · replace hF := itf c_5 hF
      refine lv_iconst (v := (0 : Int32)) hx hb dX11_most_23 (by decide) ?_
      refine lv_istore_n (lv' := [(2, .int (0 : Int32)), (0, .ref (base + p0)), (1, .int v1)]) hx hb dX11_most_24 rfl hl (by decide) rfl (fun ls hl => ?_)
      refine lv_iconst (v := (1 : Int32)) hx hb dX11_most_25 (by decide) ?_
      refine lv_istore_n (lv' := [(3, .int (1 : Int32)), (2, .int (0 : Int32)), (0, .ref (base + p0)), (1, .int v1)]) hx hb dX11_most_26 rfl hl (by decide) rfl (fun ls hl => ?_)
      refine l_X11_most_27 X hc p0 v1 _ res ?_ FV (0 : Int32) (1 : Int32) q_1.2 hF H locs ls hH hS (lv_sub hl [2, 3, 1, 0] rfl)
      · intro v2_19 w_18 hF H locs ls hH hS hl
        refine lv_iload_n hx hb dX11_most_65 rfl (lv_at hl 1 rfl) ?_
        refine lv_if_ne (tgt := 73) hx hb dX11_most_66 (by decide) (fun c_20 => ?_) (fun c_20 => ?_)
        · replace hF := itf c_20 hF
          refine lv_aload_n hx hb dX11_most_73 rfl (lv_at hl 0 rfl) ?_
          obtain ⟨u_21, ou_21, hF⟩ := bnd hF
          obtain ⟨q_22, e_22, hF⟩ := bnd hF
          refine m_callV (As := []) (rest := []) X hH hS hl.1 ou_21 rfl (by decide) (k_X11_daysNow l D cI cT cII base p0 w_18 q_22 e_22) q_X11_daysNow kw_520 kw_522 kw_9 rfl rfl (Nat.le_of_ble_eq_true rfl) ⟨by decide, by decide⟩ hc dX11_most_74 (fun H locs hH hS => W.eq (g2 := F0 m 77 ls [.ref (base + q_22.1)]) rfl ?_)
          refine lv_iload_n hx hb dX11_most_77 rfl (lv_at hl 2 rfl) ?_
          obtain ⟨u_23, ou_23, hF⟩ := bnd hF
          obtain ⟨q_24, e_24, hF⟩ := bnd hF
          refine m_callV (As := [.int v2_19]) (rest := []) X hH hS hl.1 ou_23 rfl (by decide) (k_X1_daysWon l D cI cT cII base q_22.1 v2_19 q_22.2 q_24 e_24) q_X1_daysWon kw_789 kw_790 kw_791 rfl rfl (Nat.le_of_ble_eq_true rfl) ⟨by decide, by decide⟩ hc dX11_most_78 (fun H locs hH hS => W.eq (g2 := F0 m 81 ls [.int q_24.1]) rfl ?_)
          have hF := Option.some.inj hF
          subst hF
          exact m_iret X hr hlk hH hS dX11_most_81
        · replace hF := itt c_20 hF
          refine lv_iload_n hx hb dX11_most_69 rfl (lv_at hl 2 rfl) ?_
          refine lv_goto (tgt := 81) hx hb dX11_most_70 (by decide) ?_
          have hF := Option.some.inj hF
          subst hF
          exact m_iret X hr hlk hH hS dX11_most_81
    · replace hF := itt c_5 hF
      refine lv_bipush (v := (-4 : Int32)) hx hb dX11_most_20 (by decide) ?_
      have hF := Option.some.inj hF
      subst hF
      exact m_iret X hr hlk hH hS dX11_most_22
  · replace hF := itf c_2 hF
    refine lv_iconst (v := (-1 : Int32)) hx hb dX11_most_8 (by decide) ?_
    have hF := Option.some.inj hF
    subst hF
    exact m_iret X hr hlk hH hS dX11_most_9
noncomputable def fX2_draw (v0 : Int32) (v1 : Int32) (w : Wd) : Option (Int32 × Wd) := some (Int64.toInt32 ((((((7919 : Int64) * (Int32.toInt64 v0)) + ((6151 : Int64) * (Int32.toInt64 v1))) + (1 : Int64)) * ((((7919 : Int64) * (Int32.toInt64 v0)) + ((6151 : Int64) * (Int32.toInt64 v1))) + (1 : Int64))) - (((((7919 : Int64) * (Int32.toInt64 v0)) + ((6151 : Int64) * (Int32.toInt64 v1))) + (1 : Int64)) * ((((7919 : Int64) * (Int32.toInt64 v0)) + ((6151 : Int64) * (Int32.toInt64 v1))) + (1 : Int64))) / (65521 : Int64) * (65521 : Int64)), w)
set_option maxHeartbeats 4000000 in
set_option maxRecDepth 100000 in
theorem k_X2_draw (l : Launch) (D : va_G) (cI cT cII : ClassId) (base : Nat) (v0 : Int32) (v1 : Int32) (w : Wd) (res : Int32 × Wd) (hF : fX2_draw v0 v1 w = some res) : Ct l yX2_draw cX2_draw 4 (some .int) { frames := 0, cells := 0, slots := 0, locals := 0 } D cI cT cII base [.int v0, .int v1] w res.2 (some (.int res.1)) 0 0 := by
  unfold fX2_draw at hF
  refine m_enter (by decide) (Nat.le_of_ble_eq_true rfl) ?_
  intro p e s m below meth c ls X hr hlk hnm hH hS hl
  have hx := X.1
  have hb := X.2.1
  have hc : (0 : Nat) ≤ ({ frames := 0, cells := 0, slots := 0, locals := 0 } : Room).cells ∧ (0 : Nat) ≤ ({ frames := 0, cells := 0, slots := 0, locals := 0 } : Room).slots := ⟨Nat.zero_le _, Nat.zero_le _⟩
  obtain ⟨H, hHe⟩ : ∃ H : Heap, H = s.heap := ⟨_, rfl⟩
  obtain ⟨locs, hle⟩ : ∃ L : List Loc, L = [] := ⟨_, rfl⟩
  have hl : lv_has ls 4 [(0, .int v0), (1, .int v1)] := hl
  rw [← hHe] at hH
  have hS : va_S (fun q => base ≤ q) s.heap H locs := by rw [hHe, hle]; exact hS
  rw [← hle]
  show W p l e _ s m _ below meth c s.heap locs 0 0 _ _
  rw [← hHe]
  refine lv_ldc2 (own := RX2) (v := 7919) hx hb X.2.2.2.1 (X.2.2.2.2.1 _ kw_810) dX2_draw_0 ?_
  refine lv_iload_n hx hb dX2_draw_3 rfl (lv_at hl 0 rfl) ?_
  refine lv_i2l hx hb dX2_draw_4 rfl ?_
  refine lv_lmul hx hb dX2_draw_5 ?_
  refine lv_ldc2 (own := RX2) (v := 6151) hx hb X.2.2.2.1 (X.2.2.2.2.1 _ kw_811) dX2_draw_6 ?_
  refine lv_iload_n hx hb dX2_draw_9 rfl (lv_at hl 1 rfl) ?_
  refine lv_i2l hx hb dX2_draw_10 rfl ?_
  refine lv_lmul hx hb dX2_draw_11 ?_
  refine lv_ladd hx hb dX2_draw_12 ?_
  refine lv_lconst (v := 1) hx hb dX2_draw_13 (by decide) ?_
  refine lv_ladd hx hb dX2_draw_14 ?_
  refine lv_lstore_n (lv' := [(2, .long ((((7919 : Int64) * (Int32.toInt64 v0)) + ((6151 : Int64) * (Int32.toInt64 v1))) + (1 : Int64))), (0, .int v0), (1, .int v1)]) hx hb dX2_draw_15 rfl hl (by decide) rfl (fun ls hl => ?_)
  refine lv_lload_n hx hb dX2_draw_16 rfl (lv_at hl 0 rfl) ?_
  refine lv_lload_n hx hb dX2_draw_17 rfl (lv_at hl 0 rfl) ?_
  refine lv_lmul hx hb dX2_draw_18 ?_
  refine lv_ldc2 (own := RX2) (v := 65521) hx hb X.2.2.2.1 (X.2.2.2.2.1 _ kw_812) dX2_draw_19 ?_
  refine lv_lrem hx hb dX2_draw_22 (by decide) ?_
  refine lv_l2i hx hb dX2_draw_23 rfl ?_
  have hF := Option.some.inj hF
  subst hF
  exact m_iret X hr hlk hH hS dX2_draw_24
noncomputable def fX2_turnOne (p0 : Nat) (v1 : Int32) (v2 : Int32) (w : Wd) : Option (Unit × Wd) := if v1 ≤ 0 then some ((), w) else (rmI v2 v1).bind fun x_2 => (gfR 2 0 p0 w).bind fun r_3 => (gfR 2 0 p0 w).bind fun r_4 => (rdI r_4 x_2 w).bind fun x_5 => (dvI v2 (8 : Int32)).bind fun x_6 => (rmI x_6 (41 : Int32)).bind fun x_7 => (fX11_keptWithin ((x_5 + x_7) - (20 : Int32)) w).bind fun q_8 => (wrI r_3 x_2 q_8.1 q_8.2).bind fun w_9 => some ((), w_9)
set_option maxHeartbeats 4000000 in
set_option maxRecDepth 100000 in
theorem k_X2_turnOne (l : Launch) (D : va_G) (cI cT cII : ClassId) (base : Nat) (p0 : Nat) (v1 : Int32) (v2 : Int32) (w : Wd) (res : Unit × Wd) (hF : fX2_turnOne p0 v1 v2 w = some res) : Ct l yX2_turnOne cX2_turnOne 4 none { frames := 2, cells := 0, slots := 0, locals := 41 } D cI cT cII base [.ref (base + p0), .int v1, .int v2] w res.2 none 0 0 := by
  unfold fX2_turnOne at hF
  refine m_enter (by decide) (Nat.le_of_ble_eq_true rfl) ?_
  intro p e s m below meth c ls X hr hlk hnm hH hS hl
  have hx := X.1
  have hb := X.2.1
  have hc : (0 : Nat) ≤ ({ frames := 2, cells := 0, slots := 0, locals := 41 } : Room).cells ∧ (0 : Nat) ≤ ({ frames := 2, cells := 0, slots := 0, locals := 41 } : Room).slots := ⟨Nat.zero_le _, Nat.zero_le _⟩
  obtain ⟨H, hHe⟩ : ∃ H : Heap, H = s.heap := ⟨_, rfl⟩
  obtain ⟨locs, hle⟩ : ∃ L : List Loc, L = [] := ⟨_, rfl⟩
  have hl : lv_has ls 4 [(0, .ref (base + p0)), (1, .int v1), (2, .int v2)] := hl
  rw [← hHe] at hH
  have hS : va_S (fun q => base ≤ q) s.heap H locs := by rw [hHe, hle]; exact hS
  rw [← hle]
  show W p l e _ s m _ below meth c s.heap locs 0 0 _ _
  rw [← hHe]
  refine lv_iload_n hx hb dX2_turnOne_0 rfl (lv_at hl 1 rfl) ?_
  refine lv_if_le (tgt := 34) hx hb dX2_turnOne_1 (by decide) (fun c_1 => ?_) (fun c_1 => ?_)
  · replace hF := itt c_1 hF
    have hF := Option.some.inj hF
    subst hF
    exact m_vret X hr hlk hH hS dX2_turnOne_34
  · replace hF := itf c_1 hF
    refine lv_iload_n hx hb dX2_turnOne_4 rfl (lv_at hl 2 rfl) ?_
    refine lv_iload_n hx hb dX2_turnOne_5 rfl (lv_at hl 1 rfl) ?_
    obtain ⟨x_2, e_2, hF⟩ := bnd hF
    refine m_irem X e_2 dX2_turnOne_6 ?_
    refine lv_istore_n (lv' := [(3, .int x_2), (0, .ref (base + p0)), (1, .int v1), (2, .int v2)]) hx hb dX2_turnOne_7 rfl hl (by decide) rfl (fun ls hl => ?_)
    refine lv_aload_n hx hb dX2_turnOne_8 rfl (lv_at hl 1 rfl) ?_
    obtain ⟨r_3, e_3, hF⟩ := bnd hF
    refine m_gR X hH e_3 gg_X2_9 dX2_turnOne_9 ?_
    refine lv_iload_n hx hb dX2_turnOne_12 rfl (lv_at hl 0 rfl) ?_
    refine lv_aload_n hx hb dX2_turnOne_13 rfl (lv_at hl 1 rfl) ?_
    obtain ⟨r_4, e_4, hF⟩ := bnd hF
    refine m_gR X hH e_4 gg_X2_9 dX2_turnOne_14 ?_
    refine lv_iload_n hx hb dX2_turnOne_17 rfl (lv_at hl 0 rfl) ?_
    obtain ⟨x_5, e_5, hF⟩ := bnd hF
    refine m_rdI X hH e_5 dX2_turnOne_18 ?_
    refine lv_iload_n hx hb dX2_turnOne_19 rfl (lv_at hl 3 rfl) ?_
    refine lv_bipush (v := (8 : Int32)) hx hb dX2_turnOne_20 (by decide) ?_
    obtain ⟨x_6, e_6, hF⟩ := bnd hF
    refine m_idiv X e_6 dX2_turnOne_22 ?_
    refine lv_bipush (v := (41 : Int32)) hx hb dX2_turnOne_23 (by decide) ?_
    obtain ⟨x_7, e_7, hF⟩ := bnd hF
    refine m_irem X e_7 dX2_turnOne_25 ?_
    refine lv_iadd hx hb dX2_turnOne_26 ?_
    refine lv_bipush (v := (20 : Int32)) hx hb dX2_turnOne_27 (by decide) ?_
    refine lv_isub hx hb dX2_turnOne_29 ?_
    obtain ⟨q_8, e_8, hF⟩ := bnd hF
    refine m_callSN (As := [.int ((x_5 + x_7) - (20 : Int32))]) (rest := [.int x_2, .ref (base + r_3)]) X hH hS hl.1 (k_X11_keptWithin l D cI cT cII base ((x_5 + x_7) - (20 : Int32)) w q_8 e_8) q_X11_keptWithin kw_817 kw_536 rfl rfl (Nat.le_of_ble_eq_true rfl) ⟨by decide, by decide⟩ hc dX2_turnOne_30 (fun H locs hH hS => W.eq (g2 := F0 m 33 ls [.int q_8.1, .int x_2, .ref (base + r_3)]) rfl ?_)
    obtain ⟨w_9, e_9, hF⟩ := bnd hF
    refine m_wrI X hH hS e_9 dX2_turnOne_33 (fun H locs hH hS => ?_)
    have hF := Option.some.inj hF
    subst hF
    exact m_vret X hr hlk hH hS dX2_turnOne_34
noncomputable def fX2_play_20 (p0 : Nat) (p1 : Nat) (v2 : Int32) (K_73 : Int32 → Wd → Option (Int32 × Wd)) : Nat → Int32 → Int32 → Wd → Option (Int32 × Wd)
  | 0, _, _, _ => none
  | n + 1, v3, v4, w => if (31 : Int32) ≤ v4 then K_73 v3 w else (gfR 2 0 p0 w).bind fun r_5 => (isO 3 p1 w).bind fun u_6 => (fX4_twist p1 r_5 w).bind fun q_7 => (gfI 3 4 p1 q_7.2).bind fun x_8 => (fX2_draw v2 v4 q_7.2).bind fun q_9 => (isO 2 p0 q_9.2).bind fun u_10 => (fX2_turnOne p0 x_8 q_9.1 q_9.2).bind fun q_11 => (gfR 2 0 p0 q_11.2).bind fun r_12 => (gfR 2 1 p0 q_11.2).bind fun r_13 => (isO 3 p1 q_11.2).bind fun u_14 => (fX4_letCome p1 r_12 r_13 q_11.2).bind fun q_15 => (fJ6_bitCount_0f7a4 q_15.1 q_15.2).bind fun q_16 => fX2_play_20 p0 p1 v2 K_73 n (v3 + q_16.1) (v4 + (1 : Int32)) q_16.2
noncomputable def fX2_play (p0 : Nat) (p1 : Nat) (v2 : Int32) (w : Wd) : Option (Int32 × Wd) := (gfR 3 1 p1 w).bind fun r_1 => (gfR 2 0 p0 w).bind fun r_2 => (cpI r_1 (0 : Int32) r_2 (0 : Int32) (7 : Int32) w).bind fun w_3 => fX2_play_20 p0 p1 v2 (fun (v3_18 : Int32) (w_17 : Wd) => some (v3_18, w_17)) FV (0 : Int32) (0 : Int32) w_3
set_option maxHeartbeats 4000000 in
set_option maxRecDepth 100000 in
theorem l_X2_play_20 (X : Cx p R s m args c cX2_play 5 RX2 D cI cT cII 4 91) (hc : cells ≤ R.cells ∧ slots ≤ R.slots) (p0 : Nat) (p1 : Nat) (v2 : Int32) (K_73 : Int32 → Wd → Option (Int32 × Wd)) (res : Int32 × Wd)
    (hK_73 : ∀ (z3 : Int32) (w : Wd), K_73 z3 w = some res → ∀ (H : Heap) (locs : List Loc) (ls : Array Slot), Hd D cI cT cII base w H → va_S (fun q => base ≤ q) s.heap H locs → lv_has ls 5 [(3, .int z3)] → W p l e R s m args below meth c H locs cells slots Q (F0 m 73 ls [])) :
    ∀ (n : Nat) (v3 : Int32) (v4 : Int32) (w : Wd), fX2_play_20 p0 p1 v2 K_73 n v3 v4 w = some res → ∀ (H : Heap) (locs : List Loc) (ls : Array Slot), Hd D cI cT cII base w H → va_S (fun q => base ≤ q) s.heap H locs → lv_has ls 5 [(0, .ref (base + p0)), (1, .ref (base + p1)), (2, .int v2), (3, .int v3), (4, .int v4)] → W p l e R s m args below meth c H locs cells slots Q (F0 m 20 ls []) := by
  have hx := X.1
  have hb := X.2.1
  intro n
  induction n with
  | zero =>
    intro v3 v4 w hF
    rw [fX2_play_20] at hF
    cases hF
  | succ n ih =>
    intro v3 v4 w hF H locs ls hH hS hl
    rw [fX2_play_20] at hF
    refine lv_iload hx hb dX2_play_20 (lv_at hl 4 rfl) ?_
    refine lv_bipush (v := (31 : Int32)) hx hb dX2_play_22 (by decide) ?_
    refine lv_icmp_ge (tgt := 73) hx hb dX2_play_24 (by decide) (fun c_4 => ?_) (fun c_4 => ?_)
    · replace hF := itt c_4 hF
      exact hK_73 v3 w hF H locs ls hH hS (lv_sub hl [3] rfl)
    · replace hF := itf c_4 hF
      refine lv_aload_n hx hb dX2_play_27 rfl (lv_at hl 1 rfl) ?_
      refine lv_aload_n hx hb dX2_play_28 rfl (lv_at hl 0 rfl) ?_
      obtain ⟨r_5, e_5, hF⟩ := bnd hF
      refine m_gR X hH e_5 gg_X2_9 dX2_play_29 ?_
      obtain ⟨u_6, ou_6, hF⟩ := bnd hF
      obtain ⟨q_7, e_7, hF⟩ := bnd hF
      refine m_callV (As := [.ref (base + r_5)]) (rest := []) X hH hS hl.1 ou_6 rfl (by decide) (k_X4_twist l D cI cT cII base p1 r_5 w q_7 e_7) q_X4_twist kw_806 kw_532 kw_533 rfl rfl (Nat.le_of_ble_eq_true rfl) ⟨by decide, by decide⟩ hc dX2_play_32 (fun H locs hH hS => W.eq (g2 := F0 m 35 ls []) rfl ?_)
      refine lv_aload_n hx hb dX2_play_35 rfl (lv_at hl 0 rfl) ?_
      refine lv_aload_n hx hb dX2_play_36 rfl (lv_at hl 1 rfl) ?_
      obtain ⟨x_8, e_8, hF⟩ := bnd hF
      refine m_hI X hH e_8 gg_X2_33 dX2_play_37 ?_
      refine lv_iload_n hx hb dX2_play_40 rfl (lv_at hl 2 rfl) ?_
      refine lv_iload hx hb dX2_play_41 (lv_at hl 4 rfl) ?_
      obtain ⟨q_9, e_9, hF⟩ := bnd hF
      refine m_callS (As := [.int v2, .int v4]) (rest := [.int x_8, .ref (base + p0)]) X hH hS hl.1 (k_X2_draw l D cI cT cII base v2 v4 q_7.2 q_9 e_9) q_X2_draw kw_807 kw_808 rfl rfl (Nat.le_of_ble_eq_true rfl) ⟨by decide, by decide⟩ hc dX2_play_43 (fun H locs hH hS => W.eq (g2 := F0 m 46 ls [.int q_9.1, .int x_8, .ref (base + p0)]) rfl ?_)
      obtain ⟨u_10, ou_10, hF⟩ := bnd hF
      obtain ⟨q_11, e_11, hF⟩ := bnd hF
      refine m_callV (As := [.int x_8, .int q_9.1]) (rest := []) X hH hS hl.1 ou_10 rfl (by decide) (k_X2_turnOne l D cI cT cII base p0 x_8 q_9.1 q_9.2 q_11 e_11) q_X2_turnOne kw_813 kw_815 kw_23 rfl rfl (Nat.le_of_ble_eq_true rfl) ⟨by decide, by decide⟩ hc dX2_play_46 (fun H locs hH hS => W.eq (g2 := F0 m 49 ls []) rfl ?_)
      refine lv_iload_n hx hb dX2_play_49 rfl (lv_at hl 3 rfl) ?_
      refine lv_aload_n hx hb dX2_play_50 rfl (lv_at hl 1 rfl) ?_
      refine lv_aload_n hx hb dX2_play_51 rfl (lv_at hl 0 rfl) ?_
      obtain ⟨r_12, e_12, hF⟩ := bnd hF
      refine m_gR X hH e_12 gg_X2_9 dX2_play_52 ?_
      refine lv_aload_n hx hb dX2_play_55 rfl (lv_at hl 0 rfl) ?_
      obtain ⟨r_13, e_13, hF⟩ := bnd hF
      refine m_gR X hH e_13 gg_X2_15 dX2_play_56 ?_
      obtain ⟨u_14, ou_14, hF⟩ := bnd hF
      obtain ⟨q_15, e_15, hF⟩ := bnd hF
      refine m_callV (As := [.ref (base + r_12), .ref (base + r_13)]) (rest := [.int v3]) X hH hS hl.1 ou_14 rfl (by decide) (k_X4_letCome l D cI cT cII base p1 r_12 r_13 q_11.2 q_15 e_15) q_X4_letCome kw_818 kw_548 kw_549 rfl rfl (Nat.le_of_ble_eq_true rfl) ⟨by decide, by decide⟩ hc dX2_play_59 (fun H locs hH hS => W.eq (g2 := F0 m 62 ls [.int q_15.1, .int v3]) rfl ?_)
      obtain ⟨q_16, e_16, hF⟩ := bnd hF
      refine m_callS (As := [.int q_15.1]) (rest := [.int v3]) X hH hS hl.1 (k_J6_bitCount_0f7a4 l D cI cT cII base q_15.1 q_15.2 q_16 e_16) q_J6_bitCount_0f7a4 kw_819 kw_820 rfl rfl (Nat.le_of_ble_eq_true rfl) ⟨by decide, by decide⟩ hc dX2_play_62 (fun H locs hH hS => W.eq (g2 := F0 m 65 ls [.int q_16.1, .int v3]) rfl ?_)
      refine lv_iadd hx hb dX2_play_65 ?_
      refine lv_istore_n (lv' := [(3, .int (v3 + q_16.1)), (0, .ref (base + p0)), (1, .ref (base + p1)), (2, .int v2), (4, .int v4)]) hx hb dX2_play_66 rfl hl (by decide) rfl (fun ls hl => ?_)
      refine lv_iinc (v := v4 + (1 : Int32)) (lv' := [(4, .int (v4 + (1 : Int32))), (3, .int (v3 + q_16.1)), (0, .ref (base + p0)), (1, .ref (base + p1)), (2, .int v2)]) hx hb dX2_play_67 hl (k := 4) rfl (congrArg (fun z => v4 + z) (by decide)) (by decide) rfl (fun ls hl => ?_)
      refine lv_goto (tgt := 20) hx hb dX2_play_70 (by decide) ?_
      exact ih (v3 + q_16.1) (v4 + (1 : Int32)) q_16.2 hF H locs ls hH hS (lv_sub hl [2, 3, 4, 1, 0] rfl)
set_option maxHeartbeats 4000000 in
set_option maxRecDepth 100000 in
theorem k_X2_play (l : Launch) (D : va_G) (cI cT cII : ClassId) (base : Nat) (p0 : Nat) (p1 : Nat) (v2 : Int32) (w : Wd) (res : Int32 × Wd) (hF : fX2_play p0 p1 v2 w = some res) : Ct l yX2_play cX2_play 5 (some .int) { frames := 4, cells := 0, slots := 0, locals := 91 } D cI cT cII base [.ref (base + p0), .ref (base + p1), .int v2] w res.2 (some (.int res.1)) 0 0 := by
  unfold fX2_play at hF
  refine m_enter (by decide) (Nat.le_of_ble_eq_true rfl) ?_
  intro p e s m below meth c ls X hr hlk hnm hH hS hl
  have hx := X.1
  have hb := X.2.1
  have hc : (0 : Nat) ≤ ({ frames := 4, cells := 0, slots := 0, locals := 91 } : Room).cells ∧ (0 : Nat) ≤ ({ frames := 4, cells := 0, slots := 0, locals := 91 } : Room).slots := ⟨Nat.zero_le _, Nat.zero_le _⟩
  obtain ⟨H, hHe⟩ : ∃ H : Heap, H = s.heap := ⟨_, rfl⟩
  obtain ⟨locs, hle⟩ : ∃ L : List Loc, L = [] := ⟨_, rfl⟩
  have hl : lv_has ls 5 [(0, .ref (base + p0)), (1, .ref (base + p1)), (2, .int v2)] := hl
  rw [← hHe] at hH
  have hS : va_S (fun q => base ≤ q) s.heap H locs := by rw [hHe, hle]; exact hS
  rw [← hle]
  show W p l e _ s m _ below meth c s.heap locs 0 0 _ _
  rw [← hHe]
  refine lv_aload_n hx hb dX2_play_0 rfl (lv_at hl 1 rfl) ?_
  obtain ⟨r_1, e_1, hF⟩ := bnd hF
  refine m_hR X hH e_1 gg_X2_18 dX2_play_1 ?_
  refine lv_iconst (v := (0 : Int32)) hx hb dX2_play_4 (by decide) ?_
  refine lv_aload_n hx hb dX2_play_5 rfl (lv_at hl 0 rfl) ?_
  obtain ⟨r_2, e_2, hF⟩ := bnd hF
  refine m_gR X hH e_2 gg_X2_9 dX2_play_6 ?_
  refine lv_iconst (v := (0 : Int32)) hx hb dX2_play_9 (by decide) ?_
  refine lv_bipush (v := (7 : Int32)) hx hb dX2_play_10 (by decide) ?_
  obtain ⟨w_3, e_3, hF⟩ := bnd hF
  refine m_cpI X hH hS ⟨hl.2.1, hl.1⟩ e_3 kw_805 kw_530 kw_529 kw_70 (by decide) (Nat.le_of_ble_eq_true rfl) dX2_play_12 (fun H locs hH hS => ?_)
  refine lv_iconst (v := (0 : Int32)) hx hb dX2_play_15 (by decide) ?_
  refine lv_istore_n (lv' := [(3, .int (0 : Int32)), (0, .ref (base + p0)), (1, .ref (base + p1)), (2, .int v2)]) hx hb dX2_play_16 rfl hl (by decide) rfl (fun ls hl => ?_)
  refine lv_iconst (v := (0 : Int32)) hx hb dX2_play_17 (by decide) ?_
  refine lv_istore (lv' := [(4, .int (0 : Int32)), (3, .int (0 : Int32)), (0, .ref (base + p0)), (1, .ref (base + p1)), (2, .int v2)]) hx hb dX2_play_18 hl (by decide) rfl (fun ls hl => ?_)
  refine l_X2_play_20 X hc p0 p1 v2 _ res ?_ FV (0 : Int32) (0 : Int32) w_3 hF H locs ls hH hS (lv_sub hl [2, 3, 4, 1, 0] rfl)
  · intro v3_18 w_17 hF H locs ls hH hS hl
    refine lv_iload_n hx hb dX2_play_73 rfl (lv_at hl 0 rfl) ?_
    have hF := Option.some.inj hF
    subst hF
    exact m_iret X hr hlk hH hS dX2_play_74
noncomputable def fX11_night (p0 : Nat) (v1 : Int32) (v2 : Int32) (w : Wd) : Option (Int32 × Wd) := (fX11_outside v1 (10000 : Int32) w).bind fun q_1 => if q_1.1 = 0 then (fX11_outside v2 (2 : Int32) q_1.2).bind fun q_3 => if q_3.1 = 0 then (gfR 10 8 p0 q_3.2).bind fun r_5 => (gfR 10 10 p0 q_3.2).bind fun r_6 => (isO 2 r_5 q_3.2).bind fun u_7 => (fX2_play r_5 r_6 v1 q_3.2).bind fun q_8 => if v2 = 0 then some (q_8.1, q_8.2) else (gfR 10 8 p0 q_8.2).bind fun r_10 => (gfR 2 0 r_10 q_8.2).bind fun r_11 => (rdI r_11 (0 : Int32) q_8.2).bind fun x_12 => some (x_12 + (40 : Int32), q_8.2) else some ((-1 : Int32), q_3.2) else some ((-1 : Int32), q_1.2)
set_option maxHeartbeats 4000000 in
set_option maxRecDepth 100000 in
theorem k_X11_night (l : Launch) (D : va_G) (cI cT cII : ClassId) (base : Nat) (p0 : Nat) (v1 : Int32) (v2 : Int32) (w : Wd) (res : Int32 × Wd) (hF : fX11_night p0 v1 v2 w = some res) : Ct l yX11_night cX11_night 4 (some .int) { frames := 5, cells := 0, slots := 0, locals := 115 } D cI cT cII base [.ref (base + p0), .int v1, .int v2] w res.2 (some (.int res.1)) 0 0 := by
  unfold fX11_night at hF
  refine m_enter (by decide) (Nat.le_of_ble_eq_true rfl) ?_
  intro p e s m below meth c ls X hr hlk hnm hH hS hl
  have hx := X.1
  have hb := X.2.1
  have hc : (0 : Nat) ≤ ({ frames := 5, cells := 0, slots := 0, locals := 115 } : Room).cells ∧ (0 : Nat) ≤ ({ frames := 5, cells := 0, slots := 0, locals := 115 } : Room).slots := ⟨Nat.zero_le _, Nat.zero_le _⟩
  obtain ⟨H, hHe⟩ : ∃ H : Heap, H = s.heap := ⟨_, rfl⟩
  obtain ⟨locs, hle⟩ : ∃ L : List Loc, L = [] := ⟨_, rfl⟩
  have hl : lv_has ls 4 [(0, .ref (base + p0)), (1, .int v1), (2, .int v2)] := hl
  rw [← hHe] at hH
  have hS : va_S (fun q => base ≤ q) s.heap H locs := by rw [hHe, hle]; exact hS
  rw [← hle]
  show W p l e _ s m _ below meth c s.heap locs 0 0 _ _
  rw [← hHe]
  refine lv_iload_n hx hb dX11_night_0 rfl (lv_at hl 1 rfl) ?_
  refine lv_sipush (v := (10000 : Int32)) hx hb dX11_night_1 (by decide) ?_
  obtain ⟨q_1, e_1, hF⟩ := bnd hF
  refine m_callS (As := [.int v1, .int (10000 : Int32)]) (rest := []) X hH hS hl.1 (k_X11_outside l D cI cT cII base v1 (10000 : Int32) w q_1 e_1) q_X11_outside kw_511 kw_391 rfl rfl (Nat.le_of_ble_eq_true rfl) ⟨by decide, by decide⟩ hc dX11_night_4 (fun H locs hH hS => W.eq (g2 := F0 m 7 ls [.int q_1.1]) rfl ?_)
  refine lv_if_ne (tgt := 18) hx hb dX11_night_7 (by decide) (fun c_2 => ?_) (fun c_2 => ?_)
  · replace hF := itf c_2 hF
    refine lv_iconst (v := (-1 : Int32)) hx hb dX11_night_18 (by decide) ?_
    have hF := Option.some.inj hF
    subst hF
    exact m_iret X hr hlk hH hS dX11_night_19
  · replace hF := itt c_2 hF
    refine lv_iload_n hx hb dX11_night_10 rfl (lv_at hl 2 rfl) ?_
    refine lv_iconst (v := (2 : Int32)) hx hb dX11_night_11 (by decide) ?_
    obtain ⟨q_3, e_3, hF⟩ := bnd hF
    refine m_callS (As := [.int v2, .int (2 : Int32)]) (rest := []) X hH hS hl.1 (k_X11_outside l D cI cT cII base v2 (2 : Int32) q_1.2 q_3 e_3) q_X11_outside kw_511 kw_391 rfl rfl (Nat.le_of_ble_eq_true rfl) ⟨by decide, by decide⟩ hc dX11_night_12 (fun H locs hH hS => W.eq (g2 := F0 m 15 ls [.int q_3.1]) rfl ?_)
    refine lv_if_eq (tgt := 20) hx hb dX11_night_15 (by decide) (fun c_4 => ?_) (fun c_4 => ?_)
    · replace hF := itt c_4 hF
      refine lv_aload_n hx hb dX11_night_20 rfl (lv_at hl 0 rfl) ?_
      obtain ⟨r_5, e_5, hF⟩ := bnd hF
      refine m_gR X hH e_5 gg_X11_66 dX11_night_21 ?_
      refine lv_aload_n hx hb dX11_night_24 rfl (lv_at hl 0 rfl) ?_
      obtain ⟨r_6, e_6, hF⟩ := bnd hF
      refine m_gR X hH e_6 gg_X11_80 dX11_night_25 ?_
      refine lv_iload_n hx hb dX11_night_28 rfl (lv_at hl 1 rfl) ?_
      obtain ⟨u_7, ou_7, hF⟩ := bnd hF
      obtain ⟨q_8, e_8, hF⟩ := bnd hF
      refine m_callV (As := [.ref (base + r_6), .int v1]) (rest := []) X hH hS hl.1 ou_7 rfl (by decide) (k_X2_play l D cI cT cII base r_5 r_6 v1 q_3.2 q_8 e_8) q_X2_play kw_801 kw_802 kw_803 rfl rfl (Nat.le_of_ble_eq_true rfl) ⟨by decide, by decide⟩ hc dX11_night_29 (fun H locs hH hS => W.eq (g2 := F0 m 32 ls [.int q_8.1]) rfl ?_)
      refine lv_istore_n (lv' := [(3, .int q_8.1), (0, .ref (base + p0)), (1, .int v1), (2, .int v2)]) hx hb dX11_night_32 rfl hl (by decide) rfl (fun ls hl => ?_)
      refine lv_iload_n hx hb dX11_night_33 rfl (lv_at hl 3 rfl) ?_
      refine lv_if_ne (tgt := 41) hx hb dX11_night_34 (by decide) (fun c_9 => ?_) (fun c_9 => ?_)
      · replace hF := itf c_9 hF
        refine lv_aload_n hx hb dX11_night_41 rfl (lv_at hl 1 rfl) ?_
        obtain ⟨r_10, e_10, hF⟩ := bnd hF
        refine m_gR X hH e_10 gg_X11_66 dX11_night_42 ?_
        obtain ⟨r_11, e_11, hF⟩ := bnd hF
        refine m_hR X hH e_11 gg_X11_256 dX11_night_45 ?_
        refine lv_iconst (v := (0 : Int32)) hx hb dX11_night_48 (by decide) ?_
        obtain ⟨x_12, e_12, hF⟩ := bnd hF
        refine m_rdI X hH e_12 dX11_night_49 ?_
        refine lv_bipush (v := (40 : Int32)) hx hb dX11_night_50 (by decide) ?_
        refine lv_iadd hx hb dX11_night_52 ?_
        have hF := Option.some.inj hF
        subst hF
        exact m_iret X hr hlk hH hS dX11_night_53
      · replace hF := itt c_9 hF
        refine lv_iload_n hx hb dX11_night_37 rfl (lv_at hl 0 rfl) ?_
        refine lv_goto (tgt := 53) hx hb dX11_night_38 (by decide) ?_
        have hF := Option.some.inj hF
        subst hF
        exact m_iret X hr hlk hH hS dX11_night_53
    · replace hF := itf c_4 hF
      refine lv_iconst (v := (-1 : Int32)) hx hb dX11_night_18 (by decide) ?_
      have hF := Option.some.inj hF
      subst hF
      exact m_iret X hr hlk hH hS dX11_night_19
noncomputable def fX11_patches_15 (p0 : Nat) (v1 : Int32) (K_58 : Int32 → Wd → Option (Int32 × Wd)) : Nat → Int32 → Int32 → Wd → Option (Int32 × Wd)
  | 0, _, _, _ => none
  | n + 1, v2, v3, w => (gfR 10 10 p0 w).bind fun r_3 => (gfI 3 4 r_3 w).bind fun x_4 => if x_4 ≤ v3 then K_58 v2 w else (isO 10 p0 w).bind fun u_6 => (fX11_daysNow p0 w).bind fun q_7 => (gfR 1 1 q_7.1 q_7.2).bind fun r_8 => (rdR 14 r_8 v1 q_7.2).bind fun r_9 => (rdI r_9 v3 q_7.2).bind fun x_10 => (gfR 10 10 p0 q_7.2).bind fun r_11 => (gfR 3 3 r_11 q_7.2).bind fun r_12 => (rdI r_12 v3 q_7.2).bind fun x_13 => if x_10 = x_13 then fX11_patches_15 p0 v1 K_58 n (v2 + (1 : Int32)) (v3 + (1 : Int32)) q_7.2 else fX11_patches_15 p0 v1 K_58 n v2 (v3 + (1 : Int32)) q_7.2
noncomputable def fX11_patches (p0 : Nat) (v1 : Int32) (w : Wd) : Option (Int32 × Wd) := (fX11_outside v1 (31 : Int32) w).bind fun q_1 => if q_1.1 = 0 then fX11_patches_15 p0 v1 (fun (v2_16 : Int32) (w_15 : Wd) => some (v2_16, w_15)) FV (0 : Int32) (0 : Int32) q_1.2 else some ((-1 : Int32), q_1.2)
set_option maxHeartbeats 4000000 in
set_option maxRecDepth 100000 in
theorem l_X11_patches_15 (X : Cx p R s m args c cX11_patches 4 RX11 D cI cT cII 6 137) (hc : cells ≤ R.cells ∧ slots ≤ R.slots) (p0 : Nat) (v1 : Int32) (K_58 : Int32 → Wd → Option (Int32 × Wd)) (res : Int32 × Wd)
    (hK_58 : ∀ (z2 : Int32) (w : Wd), K_58 z2 w = some res → ∀ (H : Heap) (locs : List Loc) (ls : Array Slot), Hd D cI cT cII base w H → va_S (fun q => base ≤ q) s.heap H locs → lv_has ls 4 [(2, .int z2)] → W p l e R s m args below meth c H locs cells slots Q (F0 m 58 ls [])) :
    ∀ (n : Nat) (v2 : Int32) (v3 : Int32) (w : Wd), fX11_patches_15 p0 v1 K_58 n v2 v3 w = some res → ∀ (H : Heap) (locs : List Loc) (ls : Array Slot), Hd D cI cT cII base w H → va_S (fun q => base ≤ q) s.heap H locs → lv_has ls 4 [(0, .ref (base + p0)), (1, .int v1), (2, .int v2), (3, .int v3)] → W p l e R s m args below meth c H locs cells slots Q (F0 m 15 ls []) := by
  have hx := X.1
  have hb := X.2.1
  intro n
  induction n with
  | zero =>
    intro v2 v3 w hF
    rw [fX11_patches_15] at hF
    cases hF
  | succ n ih =>
    intro v2 v3 w hF H locs ls hH hS hl
    rw [fX11_patches_15] at hF
    refine lv_iload_n hx hb dX11_patches_15 rfl (lv_at hl 3 rfl) ?_
    refine lv_aload_n hx hb dX11_patches_16 rfl (lv_at hl 0 rfl) ?_
    obtain ⟨r_3, e_3, hF⟩ := bnd hF
    refine m_gR X hH e_3 gg_X11_80 dX11_patches_17 ?_
    obtain ⟨x_4, e_4, hF⟩ := bnd hF
    refine m_hI X hH e_4 gg_X11_116 dX11_patches_20 ?_
    refine lv_icmp_ge (tgt := 58) hx hb dX11_patches_23 (by decide) (fun c_5 => ?_) (fun c_5 => ?_)
    · replace hF := itt c_5 hF
      exact hK_58 v2 w hF H locs ls hH hS (lv_sub hl [2] rfl)
    · replace hF := itf c_5 hF
      refine lv_aload_n hx hb dX11_patches_26 rfl (lv_at hl 0 rfl) ?_
      obtain ⟨u_6, ou_6, hF⟩ := bnd hF
      obtain ⟨q_7, e_7, hF⟩ := bnd hF
      refine m_callV (As := []) (rest := []) X hH hS hl.1 ou_6 rfl (by decide) (k_X11_daysNow l D cI cT cII base p0 w q_7 e_7) q_X11_daysNow kw_520 kw_522 kw_9 rfl rfl (Nat.le_of_ble_eq_true rfl) ⟨by decide, by decide⟩ hc dX11_patches_27 (fun H locs hH hS => W.eq (g2 := F0 m 30 ls [.ref (base + q_7.1)]) rfl ?_)
      obtain ⟨r_8, e_8, hF⟩ := bnd hF
      refine m_hR X hH e_8 gg_X11_149 dX11_patches_30 ?_
      refine lv_iload_n hx hb dX11_patches_33 rfl (lv_at hl 1 rfl) ?_
      obtain ⟨r_9, e_9, hF⟩ := bnd hF
      refine m_rdII X hH e_9 dX11_patches_34 ?_
      refine lv_iload_n hx hb dX11_patches_35 rfl (lv_at hl 3 rfl) ?_
      obtain ⟨x_10, e_10, hF⟩ := bnd hF
      refine m_rdI X hH e_10 dX11_patches_36 ?_
      refine lv_aload_n hx hb dX11_patches_37 rfl (lv_at hl 0 rfl) ?_
      obtain ⟨r_11, e_11, hF⟩ := bnd hF
      refine m_gR X hH e_11 gg_X11_80 dX11_patches_38 ?_
      obtain ⟨r_12, e_12, hF⟩ := bnd hF
      refine m_hR X hH e_12 gg_X11_133 dX11_patches_41 ?_
      refine lv_iload_n hx hb dX11_patches_44 rfl (lv_at hl 3 rfl) ?_
      obtain ⟨x_13, e_13, hF⟩ := bnd hF
      refine m_rdI X hH e_13 dX11_patches_45 ?_
      refine lv_icmp_ne (tgt := 52) hx hb dX11_patches_46 (by decide) (fun c_14 => ?_) (fun c_14 => ?_)
      · replace hF := itf c_14 hF
        refine lv_iinc (v := v3 + (1 : Int32)) (lv' := [(3, .int (v3 + (1 : Int32))), (0, .ref (base + p0)), (1, .int v1), (2, .int v2)]) hx hb dX11_patches_52 hl (k := 3) rfl (congrArg (fun z => v3 + z) (by decide)) (by decide) rfl (fun ls hl => ?_)
        refine lv_goto (tgt := 15) hx hb dX11_patches_55 (by decide) ?_
        exact ih v2 (v3 + (1 : Int32)) q_7.2 hF H locs ls hH hS (lv_sub hl [1, 2, 3, 0] rfl)
      · replace hF := itt c_14 hF
        refine lv_iinc (v := v2 + (1 : Int32)) (lv' := [(2, .int (v2 + (1 : Int32))), (0, .ref (base + p0)), (1, .int v1), (3, .int v3)]) hx hb dX11_patches_49 hl (k := 2) rfl (congrArg (fun z => v2 + z) (by decide)) (by decide) rfl (fun ls hl => ?_)
        refine lv_iinc (v := v3 + (1 : Int32)) (lv' := [(3, .int (v3 + (1 : Int32))), (2, .int (v2 + (1 : Int32))), (0, .ref (base + p0)), (1, .int v1)]) hx hb dX11_patches_52 hl (k := 3) rfl (congrArg (fun z => v3 + z) (by decide)) (by decide) rfl (fun ls hl => ?_)
        refine lv_goto (tgt := 15) hx hb dX11_patches_55 (by decide) ?_
        exact ih (v2 + (1 : Int32)) (v3 + (1 : Int32)) q_7.2 hF H locs ls hH hS (lv_sub hl [2, 3, 1, 0] rfl)
set_option maxHeartbeats 4000000 in
set_option maxRecDepth 100000 in
theorem k_X11_patches (l : Launch) (D : va_G) (cI cT cII : ClassId) (base : Nat) (p0 : Nat) (v1 : Int32) (w : Wd) (res : Int32 × Wd) (hF : fX11_patches p0 v1 w = some res) : Ct l yX11_patches cX11_patches 4 (some .int) { frames := 6, cells := 0, slots := 0, locals := 137 } D cI cT cII base [.ref (base + p0), .int v1] w res.2 (some (.int res.1)) 0 0 := by
  unfold fX11_patches at hF
  refine m_enter (by decide) (Nat.le_of_ble_eq_true rfl) ?_
  intro p e s m below meth c ls X hr hlk hnm hH hS hl
  have hx := X.1
  have hb := X.2.1
  have hc : (0 : Nat) ≤ ({ frames := 6, cells := 0, slots := 0, locals := 137 } : Room).cells ∧ (0 : Nat) ≤ ({ frames := 6, cells := 0, slots := 0, locals := 137 } : Room).slots := ⟨Nat.zero_le _, Nat.zero_le _⟩
  obtain ⟨H, hHe⟩ : ∃ H : Heap, H = s.heap := ⟨_, rfl⟩
  obtain ⟨locs, hle⟩ : ∃ L : List Loc, L = [] := ⟨_, rfl⟩
  have hl : lv_has ls 4 [(0, .ref (base + p0)), (1, .int v1)] := hl
  rw [← hHe] at hH
  have hS : va_S (fun q => base ≤ q) s.heap H locs := by rw [hHe, hle]; exact hS
  rw [← hle]
  show W p l e _ s m _ below meth c s.heap locs 0 0 _ _
  rw [← hHe]
  refine lv_iload_n hx hb dX11_patches_0 rfl (lv_at hl 1 rfl) ?_
  refine lv_bipush (v := (31 : Int32)) hx hb dX11_patches_1 (by decide) ?_
  obtain ⟨q_1, e_1, hF⟩ := bnd hF
  refine m_callS (As := [.int v1, .int (31 : Int32)]) (rest := []) X hH hS hl.1 (k_X11_outside l D cI cT cII base v1 (31 : Int32) w q_1 e_1) q_X11_outside kw_511 kw_391 rfl rfl (Nat.le_of_ble_eq_true rfl) ⟨by decide, by decide⟩ hc dX11_patches_3 (fun H locs hH hS => W.eq (g2 := F0 m 6 ls [.int q_1.1]) rfl ?_)
  refine lv_if_eq (tgt := 11) hx hb dX11_patches_6 (by decide) (fun c_2 => ?_) (fun c_2 => ?_)
  · replace hF := itt c_2 hF
    refine lv_iconst (v := (0 : Int32)) hx hb dX11_patches_11 (by decide) ?_
    refine lv_istore_n (lv' := [(2, .int (0 : Int32)), (0, .ref (base + p0)), (1, .int v1)]) hx hb dX11_patches_12 rfl hl (by decide) rfl (fun ls hl => ?_)
    refine lv_iconst (v := (0 : Int32)) hx hb dX11_patches_13 (by decide) ?_
    refine lv_istore_n (lv' := [(3, .int (0 : Int32)), (2, .int (0 : Int32)), (0, .ref (base + p0)), (1, .int v1)]) hx hb dX11_patches_14 rfl hl (by decide) rfl (fun ls hl => ?_)
    refine l_X11_patches_15 X hc p0 v1 _ res ?_ FV (0 : Int32) (0 : Int32) q_1.2 hF H locs ls hH hS (lv_sub hl [2, 3, 1, 0] rfl)
    · intro v2_16 w_15 hF H locs ls hH hS hl
      refine lv_iload_n hx hb dX11_patches_58 rfl (lv_at hl 0 rfl) ?_
      have hF := Option.some.inj hF
      subst hF
      exact m_iret X hr hlk hH hS dX11_patches_59
  · replace hF := itf c_2 hF
    refine lv_iconst (v := (-1 : Int32)) hx hb dX11_patches_9 (by decide) ?_
    have hF := Option.some.inj hF
    subst hF
    exact m_iret X hr hlk hH hS dX11_patches_10
noncomputable def fX11_person (p0 : Nat) (v1 : Int32) (v2 : Int32) (w : Wd) : Option (Int32 × Wd) := (gfR 10 10 p0 w).bind fun r_1 => (gfI 3 7 r_1 w).bind fun x_2 => (fX11_outside v1 x_2 w).bind fun q_3 => if q_3.1 = 0 then (fX11_outside v2 (2 : Int32) q_3.2).bind fun q_5 => if q_5.1 = 0 then if v2 = 0 then (gfR 10 10 p0 q_5.2).bind fun r_11 => (gfR 3 5 r_11 q_5.2).bind fun r_12 => (rdI r_12 v1 q_5.2).bind fun x_13 => some (x_13, q_5.2) else (gfR 10 10 p0 q_5.2).bind fun r_8 => (gfR 3 6 r_8 q_5.2).bind fun r_9 => (rdI r_9 v1 q_5.2).bind fun x_10 => some (x_10, q_5.2) else some ((-1 : Int32), q_5.2) else some ((-1 : Int32), q_3.2)
set_option maxHeartbeats 4000000 in
set_option maxRecDepth 100000 in
theorem k_X11_person (l : Launch) (D : va_G) (cI cT cII : ClassId) (base : Nat) (p0 : Nat) (v1 : Int32) (v2 : Int32) (w : Wd) (res : Int32 × Wd) (hF : fX11_person p0 v1 v2 w = some res) : Ct l yX11_person cX11_person 3 (some .int) { frames := 1, cells := 0, slots := 0, locals := 21 } D cI cT cII base [.ref (base + p0), .int v1, .int v2] w res.2 (some (.int res.1)) 0 0 := by
  unfold fX11_person at hF
  refine m_enter (by decide) (Nat.le_of_ble_eq_true rfl) ?_
  intro p e s m below meth c ls X hr hlk hnm hH hS hl
  have hx := X.1
  have hb := X.2.1
  have hc : (0 : Nat) ≤ ({ frames := 1, cells := 0, slots := 0, locals := 21 } : Room).cells ∧ (0 : Nat) ≤ ({ frames := 1, cells := 0, slots := 0, locals := 21 } : Room).slots := ⟨Nat.zero_le _, Nat.zero_le _⟩
  obtain ⟨H, hHe⟩ : ∃ H : Heap, H = s.heap := ⟨_, rfl⟩
  obtain ⟨locs, hle⟩ : ∃ L : List Loc, L = [] := ⟨_, rfl⟩
  have hl : lv_has ls 3 [(0, .ref (base + p0)), (1, .int v1), (2, .int v2)] := hl
  rw [← hHe] at hH
  have hS : va_S (fun q => base ≤ q) s.heap H locs := by rw [hHe, hle]; exact hS
  rw [← hle]
  show W p l e _ s m _ below meth c s.heap locs 0 0 _ _
  rw [← hHe]
  refine lv_iload_n hx hb dX11_person_0 rfl (lv_at hl 1 rfl) ?_
  refine lv_aload_n hx hb dX11_person_1 rfl (lv_at hl 0 rfl) ?_
  obtain ⟨r_1, e_1, hF⟩ := bnd hF
  refine m_gR X hH e_1 gg_X11_80 dX11_person_2 ?_
  obtain ⟨x_2, e_2, hF⟩ := bnd hF
  refine m_hI X hH e_2 gg_X11_136 dX11_person_5 ?_
  obtain ⟨q_3, e_3, hF⟩ := bnd hF
  refine m_callS (As := [.int v1, .int x_2]) (rest := []) X hH hS hl.1 (k_X11_outside l D cI cT cII base v1 x_2 w q_3 e_3) q_X11_outside kw_511 kw_391 rfl rfl (Nat.le_of_ble_eq_true rfl) ⟨by decide, by decide⟩ hc dX11_person_8 (fun H locs hH hS => W.eq (g2 := F0 m 11 ls [.int q_3.1]) rfl ?_)
  refine lv_if_ne (tgt := 22) hx hb dX11_person_11 (by decide) (fun c_4 => ?_) (fun c_4 => ?_)
  · replace hF := itf c_4 hF
    refine lv_iconst (v := (-1 : Int32)) hx hb dX11_person_22 (by decide) ?_
    have hF := Option.some.inj hF
    subst hF
    exact m_iret X hr hlk hH hS dX11_person_23
  · replace hF := itt c_4 hF
    refine lv_iload_n hx hb dX11_person_14 rfl (lv_at hl 2 rfl) ?_
    refine lv_iconst (v := (2 : Int32)) hx hb dX11_person_15 (by decide) ?_
    obtain ⟨q_5, e_5, hF⟩ := bnd hF
    refine m_callS (As := [.int v2, .int (2 : Int32)]) (rest := []) X hH hS hl.1 (k_X11_outside l D cI cT cII base v2 (2 : Int32) q_3.2 q_5 e_5) q_X11_outside kw_511 kw_391 rfl rfl (Nat.le_of_ble_eq_true rfl) ⟨by decide, by decide⟩ hc dX11_person_16 (fun H locs hH hS => W.eq (g2 := F0 m 19 ls [.int q_5.1]) rfl ?_)
    refine lv_if_eq (tgt := 24) hx hb dX11_person_19 (by decide) (fun c_6 => ?_) (fun c_6 => ?_)
    · replace hF := itt c_6 hF
      refine lv_iload_n hx hb dX11_person_24 rfl (lv_at hl 2 rfl) ?_
      refine lv_if_ne (tgt := 40) hx hb dX11_person_25 (by decide) (fun c_7 => ?_) (fun c_7 => ?_)
      · replace hF := itf c_7 hF
        refine lv_aload_n hx hb dX11_person_40 rfl (lv_at hl 0 rfl) ?_
        obtain ⟨r_8, e_8, hF⟩ := bnd hF
        refine m_gR X hH e_8 gg_X11_80 dX11_person_41 ?_
        obtain ⟨r_9, e_9, hF⟩ := bnd hF
        refine m_hR X hH e_9 gg_X11_142 dX11_person_44 ?_
        refine lv_iload_n hx hb dX11_person_47 rfl (lv_at hl 1 rfl) ?_
        obtain ⟨x_10, e_10, hF⟩ := bnd hF
        refine m_rdI X hH e_10 dX11_person_48 ?_
        have hF := Option.some.inj hF
        subst hF
        exact m_iret X hr hlk hH hS dX11_person_49
      · replace hF := itt c_7 hF
        refine lv_aload_n hx hb dX11_person_28 rfl (lv_at hl 0 rfl) ?_
        obtain ⟨r_11, e_11, hF⟩ := bnd hF
        refine m_gR X hH e_11 gg_X11_80 dX11_person_29 ?_
        obtain ⟨r_12, e_12, hF⟩ := bnd hF
        refine m_hR X hH e_12 gg_X11_139 dX11_person_32 ?_
        refine lv_iload_n hx hb dX11_person_35 rfl (lv_at hl 1 rfl) ?_
        obtain ⟨x_13, e_13, hF⟩ := bnd hF
        refine m_rdI X hH e_13 dX11_person_36 ?_
        refine lv_goto (tgt := 49) hx hb dX11_person_37 (by decide) ?_
        have hF := Option.some.inj hF
        subst hF
        exact m_iret X hr hlk hH hS dX11_person_49
    · replace hF := itf c_6 hF
      refine lv_iconst (v := (-1 : Int32)) hx hb dX11_person_22 (by decide) ?_
      have hF := Option.some.inj hF
      subst hF
      exact m_iret X hr hlk hH hS dX11_person_23
noncomputable def fX1_isAsAhead_23 (p0 : Nat) (p1 : Nat) (v2 : Int32) (p3 : Nat) (K_48 : Wd → Option (Int32 × Wd)) (K_56 : Wd → Option (Int32 × Wd)) : Nat → Int32 → Wd → Option (Int32 × Wd)
  | 0, _, _ => none
  | n + 1, v4, w => (gfI 3 4 p1 w).bind fun x_3 => if x_3 ≤ v4 then K_56  w else (gfR 1 1 p0 w).bind fun r_5 => (rdR 14 r_5 v2 w).bind fun r_6 => (rdI r_6 v4 w).bind fun x_7 => (rdI p3 v4 w).bind fun x_8 => if x_7 = x_8 then fX1_isAsAhead_23 p0 p1 v2 p3 K_48 K_56 n (v4 + (1 : Int32)) w else K_48  w
noncomputable def fX1_isAsAhead (p0 : Nat) (p1 : Nat) (v2 : Int32) (w : Wd) : Option (Int32 × Wd) := if v2 ≤ 0 then (gfR 3 1 p1 w).bind fun r_2 => fX1_isAsAhead_23 p0 p1 v2 r_2 (fun  (w_10 : Wd) => some ((0 : Int32), w_10)) (fun  (w_11 : Wd) => some ((1 : Int32), w_11)) FV (0 : Int32) w else (gfR 1 1 p0 w).bind fun r_12 => (rdR 14 r_12 (v2 - (1 : Int32)) w).bind fun r_13 => fX1_isAsAhead_23 p0 p1 v2 r_13 (fun  (w_14 : Wd) => some ((0 : Int32), w_14)) (fun  (w_15 : Wd) => some ((1 : Int32), w_15)) FV (0 : Int32) w
set_option maxHeartbeats 4000000 in
set_option maxRecDepth 100000 in
theorem l_X1_isAsAhead_23 (X : Cx p R s m args c cX1_isAsAhead 5 RX1 D cI cT cII 0 0) (hc : cells ≤ R.cells ∧ slots ≤ R.slots) (p0 : Nat) (p1 : Nat) (v2 : Int32) (p3 : Nat) (K_48 : Wd → Option (Int32 × Wd)) (K_56 : Wd → Option (Int32 × Wd)) (res : Int32 × Wd)
    (hK_48 : ∀  (w : Wd), K_48  w = some res → ∀ (H : Heap) (locs : List Loc) (ls : Array Slot), Hd D cI cT cII base w H → va_S (fun q => base ≤ q) s.heap H locs → lv_has ls 5 [] → W p l e R s m args below meth c H locs cells slots Q (F0 m 48 ls []))
    (hK_56 : ∀  (w : Wd), K_56  w = some res → ∀ (H : Heap) (locs : List Loc) (ls : Array Slot), Hd D cI cT cII base w H → va_S (fun q => base ≤ q) s.heap H locs → lv_has ls 5 [] → W p l e R s m args below meth c H locs cells slots Q (F0 m 56 ls [])) :
    ∀ (n : Nat) (v4 : Int32) (w : Wd), fX1_isAsAhead_23 p0 p1 v2 p3 K_48 K_56 n v4 w = some res → ∀ (H : Heap) (locs : List Loc) (ls : Array Slot), Hd D cI cT cII base w H → va_S (fun q => base ≤ q) s.heap H locs → lv_has ls 5 [(0, .ref (base + p0)), (1, .ref (base + p1)), (2, .int v2), (3, .ref (base + p3)), (4, .int v4)] → W p l e R s m args below meth c H locs cells slots Q (F0 m 23 ls []) := by
  have hx := X.1
  have hb := X.2.1
  intro n
  induction n with
  | zero =>
    intro v4 w hF
    rw [fX1_isAsAhead_23] at hF
    cases hF
  | succ n ih =>
    intro v4 w hF H locs ls hH hS hl
    rw [fX1_isAsAhead_23] at hF
    refine lv_iload hx hb dX1_isAsAhead_23 (lv_at hl 4 rfl) ?_
    refine lv_aload_n hx hb dX1_isAsAhead_25 rfl (lv_at hl 1 rfl) ?_
    obtain ⟨x_3, e_3, hF⟩ := bnd hF
    refine m_hI X hH e_3 gg_X1_59 dX1_isAsAhead_26 ?_
    refine lv_icmp_ge (tgt := 56) hx hb dX1_isAsAhead_29 (by decide) (fun c_4 => ?_) (fun c_4 => ?_)
    · replace hF := itt c_4 hF
      exact hK_56  w hF H locs ls hH hS (lv_sub hl [] rfl)
    · replace hF := itf c_4 hF
      refine lv_aload_n hx hb dX1_isAsAhead_32 rfl (lv_at hl 0 rfl) ?_
      obtain ⟨r_5, e_5, hF⟩ := bnd hF
      refine m_gR X hH e_5 gg_X1_16 dX1_isAsAhead_33 ?_
      refine lv_iload_n hx hb dX1_isAsAhead_36 rfl (lv_at hl 2 rfl) ?_
      obtain ⟨r_6, e_6, hF⟩ := bnd hF
      refine m_rdII X hH e_6 dX1_isAsAhead_37 ?_
      refine lv_iload hx hb dX1_isAsAhead_38 (lv_at hl 4 rfl) ?_
      obtain ⟨x_7, e_7, hF⟩ := bnd hF
      refine m_rdI X hH e_7 dX1_isAsAhead_40 ?_
      refine lv_aload_n hx hb dX1_isAsAhead_41 rfl (lv_at hl 3 rfl) ?_
      refine lv_iload hx hb dX1_isAsAhead_42 (lv_at hl 4 rfl) ?_
      obtain ⟨x_8, e_8, hF⟩ := bnd hF
      refine m_rdI X hH e_8 dX1_isAsAhead_44 ?_
      refine lv_icmp_eq (tgt := 50) hx hb dX1_isAsAhead_45 (by decide) (fun c_9 => ?_) (fun c_9 => ?_)
      · replace hF := itt c_9 hF
        refine lv_iinc (v := v4 + (1 : Int32)) (lv' := [(4, .int (v4 + (1 : Int32))), (0, .ref (base + p0)), (1, .ref (base + p1)), (2, .int v2), (3, .ref (base + p3))]) hx hb dX1_isAsAhead_50 hl (k := 4) rfl (congrArg (fun z => v4 + z) (by decide)) (by decide) rfl (fun ls hl => ?_)
        refine lv_goto (tgt := 23) hx hb dX1_isAsAhead_53 (by decide) ?_
        exact ih (v4 + (1 : Int32)) w hF H locs ls hH hS (lv_sub hl [1, 2, 3, 4, 0] rfl)
      · replace hF := itf c_9 hF
        exact hK_48  w hF H locs ls hH hS (lv_sub hl [] rfl)
set_option maxHeartbeats 4000000 in
set_option maxRecDepth 100000 in
theorem k_X1_isAsAhead (l : Launch) (D : va_G) (cI cT cII : ClassId) (base : Nat) (p0 : Nat) (p1 : Nat) (v2 : Int32) (w : Wd) (res : Int32 × Wd) (hF : fX1_isAsAhead p0 p1 v2 w = some res) : Ct l yX1_isAsAhead cX1_isAsAhead 5 (some .boolean) { frames := 0, cells := 0, slots := 0, locals := 0 } D cI cT cII base [.ref (base + p0), .ref (base + p1), .int v2] w res.2 (some (.int res.1)) 0 0 := by
  unfold fX1_isAsAhead at hF
  refine m_enter (by decide) (Nat.le_of_ble_eq_true rfl) ?_
  intro p e s m below meth c ls X hr hlk hnm hH hS hl
  have hx := X.1
  have hb := X.2.1
  have hc : (0 : Nat) ≤ ({ frames := 0, cells := 0, slots := 0, locals := 0 } : Room).cells ∧ (0 : Nat) ≤ ({ frames := 0, cells := 0, slots := 0, locals := 0 } : Room).slots := ⟨Nat.zero_le _, Nat.zero_le _⟩
  obtain ⟨H, hHe⟩ : ∃ H : Heap, H = s.heap := ⟨_, rfl⟩
  obtain ⟨locs, hle⟩ : ∃ L : List Loc, L = [] := ⟨_, rfl⟩
  have hl : lv_has ls 5 [(0, .ref (base + p0)), (1, .ref (base + p1)), (2, .int v2)] := hl
  rw [← hHe] at hH
  have hS : va_S (fun q => base ≤ q) s.heap H locs := by rw [hHe, hle]; exact hS
  rw [← hle]
  show W p l e _ s m _ below meth c s.heap locs 0 0 _ _
  rw [← hHe]
  refine lv_iload_n hx hb dX1_isAsAhead_0 rfl (lv_at hl 2 rfl) ?_
  refine lv_if_le (tgt := 15) hx hb dX1_isAsAhead_1 (by decide) (fun c_1 => ?_) (fun c_1 => ?_)
  · replace hF := itt c_1 hF
    refine lv_aload_n hx hb dX1_isAsAhead_15 rfl (lv_at hl 1 rfl) ?_
    obtain ⟨r_2, e_2, hF⟩ := bnd hF
    refine m_hR X hH e_2 gg_X1_30 dX1_isAsAhead_16 ?_
    refine lv_astore_n (lv' := [(3, .ref (base + r_2)), (0, .ref (base + p0)), (1, .ref (base + p1)), (2, .int v2)]) hx hb dX1_isAsAhead_19 rfl hl (by decide) rfl (fun ls hl => ?_)
    refine lv_iconst (v := (0 : Int32)) hx hb dX1_isAsAhead_20 (by decide) ?_
    refine lv_istore (lv' := [(4, .int (0 : Int32)), (3, .ref (base + r_2)), (0, .ref (base + p0)), (1, .ref (base + p1)), (2, .int v2)]) hx hb dX1_isAsAhead_21 hl (by decide) rfl (fun ls hl => ?_)
    refine l_X1_isAsAhead_23 X hc p0 p1 v2 r_2 _ _ res ?_ ?_ FV (0 : Int32) w hF H locs ls hH hS (lv_sub hl [2, 3, 4, 1, 0] rfl)
    · intro  w_10 hF H locs ls hH hS hl
      refine lv_iconst (v := (0 : Int32)) hx hb dX1_isAsAhead_48 (by decide) ?_
      have hF := Option.some.inj hF
      subst hF
      exact m_zret (r := (0 : Int32)) X hr hlk (by decide) hH hS dX1_isAsAhead_49
    · intro  w_11 hF H locs ls hH hS hl
      refine lv_iconst (v := (1 : Int32)) hx hb dX1_isAsAhead_56 (by decide) ?_
      have hF := Option.some.inj hF
      subst hF
      exact m_zret (r := (1 : Int32)) X hr hlk (by decide) hH hS dX1_isAsAhead_57
  · replace hF := itf c_1 hF
    refine lv_aload_n hx hb dX1_isAsAhead_4 rfl (lv_at hl 0 rfl) ?_
    obtain ⟨r_12, e_12, hF⟩ := bnd hF
    refine m_gR X hH e_12 gg_X1_16 dX1_isAsAhead_5 ?_
    refine lv_iload_n hx hb dX1_isAsAhead_8 rfl (lv_at hl 2 rfl) ?_
    refine lv_iconst (v := (1 : Int32)) hx hb dX1_isAsAhead_9 (by decide) ?_
    refine lv_isub hx hb dX1_isAsAhead_10 ?_
    obtain ⟨r_13, e_13, hF⟩ := bnd hF
    refine m_rdII X hH e_13 dX1_isAsAhead_11 ?_
    refine lv_goto (tgt := 19) hx hb dX1_isAsAhead_12 (by decide) ?_
    refine lv_astore_n (lv' := [(3, .ref (base + r_13)), (0, .ref (base + p0)), (1, .ref (base + p1)), (2, .int v2)]) hx hb dX1_isAsAhead_19 rfl hl (by decide) rfl (fun ls hl => ?_)
    refine lv_iconst (v := (0 : Int32)) hx hb dX1_isAsAhead_20 (by decide) ?_
    refine lv_istore (lv' := [(4, .int (0 : Int32)), (3, .ref (base + r_13)), (0, .ref (base + p0)), (1, .ref (base + p1)), (2, .int v2)]) hx hb dX1_isAsAhead_21 hl (by decide) rfl (fun ls hl => ?_)
    refine l_X1_isAsAhead_23 X hc p0 p1 v2 r_13 _ _ res ?_ ?_ FV (0 : Int32) w hF H locs ls hH hS (lv_sub hl [2, 3, 4, 1, 0] rfl)
    · intro  w_14 hF H locs ls hH hS hl
      refine lv_iconst (v := (0 : Int32)) hx hb dX1_isAsAhead_48 (by decide) ?_
      have hF := Option.some.inj hF
      subst hF
      exact m_zret (r := (0 : Int32)) X hr hlk (by decide) hH hS dX1_isAsAhead_49
    · intro  w_15 hF H locs ls hH hS hl
      refine lv_iconst (v := (1 : Int32)) hx hb dX1_isAsAhead_56 (by decide) ?_
      have hF := Option.some.inj hF
      subst hF
      exact m_zret (r := (1 : Int32)) X hr hlk (by decide) hH hS dX1_isAsAhead_57
noncomputable def fX1_firstOfRest_3 (p0 : Nat) (p1 : Nat) (K_24 : Int32 → Wd → Option (Int32 × Wd)) : Nat → Int32 → Wd → Option (Int32 × Wd)
  | 0, _, _ => none
  | n + 1, v2, w => if v2 ≤ 0 then K_24 v2 w else (isO 1 p0 w).bind fun u_2 => (fX1_isAsAhead p0 p1 (v2 - (1 : Int32)) w).bind fun q_3 => if q_3.1 = 0 then K_24 v2 q_3.2 else fX1_firstOfRest_3 p0 p1 K_24 n (v2 + (-1 : Int32)) q_3.2
noncomputable def fX1_firstOfRest (p0 : Nat) (p1 : Nat) (w : Wd) : Option (Int32 × Wd) := fX1_firstOfRest_3 p0 p1 (fun (v2_6 : Int32) (w_5 : Wd) => if (31 : Int32) ≤ v2_6 then some ((-4 : Int32), w_5) else some (v2_6, w_5)) FV (31 : Int32) w
set_option maxHeartbeats 4000000 in
set_option maxRecDepth 100000 in
theorem l_X1_firstOfRest_3 (X : Cx p R s m args c cX1_firstOfRest 3 RX1 D cI cT cII 1 24) (hc : cells ≤ R.cells ∧ slots ≤ R.slots) (p0 : Nat) (p1 : Nat) (K_24 : Int32 → Wd → Option (Int32 × Wd)) (res : Int32 × Wd)
    (hK_24 : ∀ (z2 : Int32) (w : Wd), K_24 z2 w = some res → ∀ (H : Heap) (locs : List Loc) (ls : Array Slot), Hd D cI cT cII base w H → va_S (fun q => base ≤ q) s.heap H locs → lv_has ls 3 [(2, .int z2)] → W p l e R s m args below meth c H locs cells slots Q (F0 m 24 ls [])) :
    ∀ (n : Nat) (v2 : Int32) (w : Wd), fX1_firstOfRest_3 p0 p1 K_24 n v2 w = some res → ∀ (H : Heap) (locs : List Loc) (ls : Array Slot), Hd D cI cT cII base w H → va_S (fun q => base ≤ q) s.heap H locs → lv_has ls 3 [(0, .ref (base + p0)), (1, .ref (base + p1)), (2, .int v2)] → W p l e R s m args below meth c H locs cells slots Q (F0 m 3 ls []) := by
  have hx := X.1
  have hb := X.2.1
  intro n
  induction n with
  | zero =>
    intro v2 w hF
    rw [fX1_firstOfRest_3] at hF
    cases hF
  | succ n ih =>
    intro v2 w hF H locs ls hH hS hl
    rw [fX1_firstOfRest_3] at hF
    refine lv_iload_n hx hb dX1_firstOfRest_3 rfl (lv_at hl 2 rfl) ?_
    refine lv_if_le (tgt := 24) hx hb dX1_firstOfRest_4 (by decide) (fun c_1 => ?_) (fun c_1 => ?_)
    · replace hF := itt c_1 hF
      exact hK_24 v2 w hF H locs ls hH hS (lv_sub hl [2] rfl)
    · replace hF := itf c_1 hF
      refine lv_aload_n hx hb dX1_firstOfRest_7 rfl (lv_at hl 0 rfl) ?_
      refine lv_aload_n hx hb dX1_firstOfRest_8 rfl (lv_at hl 1 rfl) ?_
      refine lv_iload_n hx hb dX1_firstOfRest_9 rfl (lv_at hl 2 rfl) ?_
      refine lv_iconst (v := (1 : Int32)) hx hb dX1_firstOfRest_10 (by decide) ?_
      refine lv_isub hx hb dX1_firstOfRest_11 ?_
      obtain ⟨u_2, ou_2, hF⟩ := bnd hF
      obtain ⟨q_3, e_3, hF⟩ := bnd hF
      refine m_callV (As := [.ref (base + p1), .int (v2 - (1 : Int32))]) (rest := []) X hH hS hl.1 ou_2 rfl (by decide) (k_X1_isAsAhead l D cI cT cII base p0 p1 (v2 - (1 : Int32)) w q_3 e_3) q_X1_isAsAhead kw_589 kw_591 kw_11 rfl rfl (Nat.le_of_ble_eq_true rfl) ⟨by decide, by decide⟩ hc dX1_firstOfRest_12 (fun H locs hH hS => W.eq (g2 := F0 m 15 ls [.int q_3.1]) rfl ?_)
      refine lv_if_eq (tgt := 24) hx hb dX1_firstOfRest_15 (by decide) (fun c_4 => ?_) (fun c_4 => ?_)
      · replace hF := itt c_4 hF
        exact hK_24 v2 q_3.2 hF H locs ls hH hS (lv_sub hl [2] rfl)
      · replace hF := itf c_4 hF
        refine lv_iinc (v := v2 + (-1 : Int32)) (lv' := [(2, .int (v2 + (-1 : Int32))), (0, .ref (base + p0)), (1, .ref (base + p1))]) hx hb dX1_firstOfRest_18 hl (k := 2) rfl (congrArg (fun z => v2 + z) (by decide)) (by decide) rfl (fun ls hl => ?_)
        refine lv_goto (tgt := 3) hx hb dX1_firstOfRest_21 (by decide) ?_
        exact ih (v2 + (-1 : Int32)) q_3.2 hF H locs ls hH hS (lv_sub hl [1, 2, 0] rfl)
set_option maxHeartbeats 4000000 in
set_option maxRecDepth 100000 in
theorem k_X1_firstOfRest (l : Launch) (D : va_G) (cI cT cII : ClassId) (base : Nat) (p0 : Nat) (p1 : Nat) (w : Wd) (res : Int32 × Wd) (hF : fX1_firstOfRest p0 p1 w = some res) : Ct l yX1_firstOfRest cX1_firstOfRest 3 (some .int) { frames := 1, cells := 0, slots := 0, locals := 24 } D cI cT cII base [.ref (base + p0), .ref (base + p1)] w res.2 (some (.int res.1)) 0 0 := by
  unfold fX1_firstOfRest at hF
  refine m_enter (by decide) (Nat.le_of_ble_eq_true rfl) ?_
  intro p e s m below meth c ls X hr hlk hnm hH hS hl
  have hx := X.1
  have hb := X.2.1
  have hc : (0 : Nat) ≤ ({ frames := 1, cells := 0, slots := 0, locals := 24 } : Room).cells ∧ (0 : Nat) ≤ ({ frames := 1, cells := 0, slots := 0, locals := 24 } : Room).slots := ⟨Nat.zero_le _, Nat.zero_le _⟩
  obtain ⟨H, hHe⟩ : ∃ H : Heap, H = s.heap := ⟨_, rfl⟩
  obtain ⟨locs, hle⟩ : ∃ L : List Loc, L = [] := ⟨_, rfl⟩
  have hl : lv_has ls 3 [(0, .ref (base + p0)), (1, .ref (base + p1))] := hl
  rw [← hHe] at hH
  have hS : va_S (fun q => base ≤ q) s.heap H locs := by rw [hHe, hle]; exact hS
  rw [← hle]
  show W p l e _ s m _ below meth c s.heap locs 0 0 _ _
  rw [← hHe]
  refine lv_bipush (v := (31 : Int32)) hx hb dX1_firstOfRest_0 (by decide) ?_
  refine lv_istore_n (lv' := [(2, .int (31 : Int32)), (0, .ref (base + p0)), (1, .ref (base + p1))]) hx hb dX1_firstOfRest_2 rfl hl (by decide) rfl (fun ls hl => ?_)
  refine l_X1_firstOfRest_3 X hc p0 p1 _ res ?_ FV (31 : Int32) w hF H locs ls hH hS (lv_sub hl [1, 2, 0] rfl)
  · intro v2_6 w_5 hF H locs ls hH hS hl
    refine lv_iload_n hx hb dX1_firstOfRest_24 rfl (lv_at hl 0 rfl) ?_
    refine lv_bipush (v := (31 : Int32)) hx hb dX1_firstOfRest_25 (by decide) ?_
    refine lv_icmp_ge (tgt := 34) hx hb dX1_firstOfRest_27 (by decide) (fun c_7 => ?_) (fun c_7 => ?_)
    · replace hF := itt c_7 hF
      refine lv_bipush (v := (-4 : Int32)) hx hb dX1_firstOfRest_34 (by decide) ?_
      have hF := Option.some.inj hF
      subst hF
      exact m_iret X hr hlk hH hS dX1_firstOfRest_36
    · replace hF := itf c_7 hF
      refine lv_iload_n hx hb dX1_firstOfRest_30 rfl (lv_at hl 0 rfl) ?_
      refine lv_goto (tgt := 36) hx hb dX1_firstOfRest_31 (by decide) ?_
      have hF := Option.some.inj hF
      subst hF
      exact m_iret X hr hlk hH hS dX1_firstOfRest_36
end M04
