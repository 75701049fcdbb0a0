section M01
variable {p : Program} {l : Launch} {e : Env} {R : Room} {s : State} {m : MethodId} {args : Array Value} {below : List Frame} {meth : Method} {c : Code} {cells slots : Nat} {Q : State → Prop} {D : va_G} {cI cT cII : ClassId} {base : Nat}
noncomputable def fX1_play_8 (p0 : Nat) (p1 : Nat) (p2 : Nat) (K_97 : Wd → Option (Unit × Wd)) : Nat → Nat → Int32 → Wd → Option (Unit × Wd)
  | 0, _, _, _ => none
  | n + 1, p3, v4, w => if (31 : Int32) ≤ v4 then K_97  w else (gfR 1 0 p0 w).bind fun r_3 => (rdR 14 r_3 v4 w).bind fun r_4 => (gfR 1 1 p0 w).bind fun r_5 => (rdR 14 r_5 v4 w).bind fun r_6 => (cpI p3 (0 : Int32) r_4 (0 : Int32) (7 : Int32) w).bind fun w_7 => (isO 3 p1 w_7).bind fun u_8 => (fX4_twist p1 r_4 w_7).bind fun q_9 => (isO 9 p2 q_9.2).bind fun u_10 => (fX10_turnAll p2 v4 r_4 q_9.2).bind fun q_11 => (cpI r_4 (0 : Int32) r_6 (0 : Int32) (7 : Int32) q_11.2).bind fun w_12 => (gfR 1 3 p0 w_12).bind fun r_13 => (gfR 1 2 p0 w_12).bind fun r_14 => (rdR 14 r_14 v4 w_12).bind fun r_15 => (isO 3 p1 w_12).bind fun u_16 => (fX4_letCome p1 r_6 r_15 w_12).bind fun q_17 => (wrI r_13 v4 q_17.1 q_17.2).bind fun w_18 => fX1_play_8 p0 p1 p2 K_97 n r_6 (v4 + (1 : Int32)) w_18
noncomputable def fX1_play (p0 : Nat) (p1 : Nat) (p2 : Nat) (w : Wd) : Option (Unit × Wd) := (gfR 3 1 p1 w).bind fun r_1 => fX1_play_8 p0 p1 p2 (fun  (w_19 : Wd) => (pfI 1 4 p0 (0 : Int32) w_19).bind fun w_20 => some ((), w_20)) FV r_1 (0 : Int32) w
set_option maxHeartbeats 4000000 in
set_option maxRecDepth 100000 in
theorem l_X1_play_8 (X : Cx p R s m args c cX1_play 7 RX1 D cI cT cII 4 91) (hc : cells ≤ R.cells ∧ slots ≤ R.slots) (p0 : Nat) (p1 : Nat) (p2 : Nat) (K_97 : Wd → Option (Unit × Wd)) (res : Unit × Wd)
    (hK_97 : ∀  (w : Wd), K_97  w = some res → ∀ (H : Heap) (locs : List Loc) (ls : Array Slot), Hd D cI cT cII base w H → va_S (fun q => base ≤ q) s.heap H locs → lv_has ls 7 [(0, .ref (base + p0))] → W p l e R s m args below meth c H locs cells slots Q (F0 m 97 ls [])) :
    ∀ (n : Nat) (p3 : Nat) (v4 : Int32) (w : Wd), fX1_play_8 p0 p1 p2 K_97 n p3 v4 w = some res → ∀ (H : Heap) (locs : List Loc) (ls : Array Slot), Hd D cI cT cII base w H → va_S (fun q => base ≤ q) s.heap H locs → lv_has ls 7 [(0, .ref (base + p0)), (1, .ref (base + p1)), (2, .ref (base + p2)), (3, .ref (base + p3)), (4, .int v4)] → W p l e R s m args below meth c H locs cells slots Q (F0 m 8 ls []) := by
  have hx := X.1
  have hb := X.2.1
  intro n
  induction n with
  | zero =>
    intro p3 v4 w hF
    rw [fX1_play_8] at hF
    cases hF
  | succ n ih =>
    intro p3 v4 w hF H locs ls hH hS hl
    rw [fX1_play_8] at hF
    refine lv_iload hx hb dX1_play_8 (lv_at hl 4 rfl) ?_
    refine lv_bipush (v := (31 : Int32)) hx hb dX1_play_10 (by decide) ?_
    refine lv_icmp_ge (tgt := 97) hx hb dX1_play_12 (by decide) (fun c_2 => ?_) (fun c_2 => ?_)
    · replace hF := itt c_2 hF
      exact hK_97  w hF H locs ls hH hS (lv_sub hl [0] rfl)
    · replace hF := itf c_2 hF
      refine lv_aload_n hx hb dX1_play_15 rfl (lv_at hl 0 rfl) ?_
      obtain ⟨r_3, e_3, hF⟩ := bnd hF
      refine m_gR X hH e_3 gg_X1_11 dX1_play_16 ?_
      refine lv_iload hx hb dX1_play_19 (lv_at hl 4 rfl) ?_
      obtain ⟨r_4, e_4, hF⟩ := bnd hF
      refine m_rdII X hH e_4 dX1_play_21 ?_
      refine lv_astore (lv' := [(5, .ref (base + r_4)), (0, .ref (base + p0)), (1, .ref (base + p1)), (2, .ref (base + p2)), (3, .ref (base + p3)), (4, .int v4)]) hx hb dX1_play_22 hl (by decide) rfl (fun ls hl => ?_)
      refine lv_aload_n hx hb dX1_play_24 rfl (lv_at hl 1 rfl) ?_
      obtain ⟨r_5, e_5, hF⟩ := bnd hF
      refine m_gR X hH e_5 gg_X1_16 dX1_play_25 ?_
      refine lv_iload hx hb dX1_play_28 (lv_at hl 5 rfl) ?_
      obtain ⟨r_6, e_6, hF⟩ := bnd hF
      refine m_rdII X hH e_6 dX1_play_30 ?_
      refine lv_astore (lv' := [(6, .ref (base + r_6)), (5, .ref (base + r_4)), (0, .ref (base + p0)), (1, .ref (base + p1)), (2, .ref (base + p2)), (3, .ref (base + p3)), (4, .int v4)]) hx hb dX1_play_31 hl (by decide) rfl (fun ls hl => ?_)
      refine lv_aload_n hx hb dX1_play_33 rfl (lv_at hl 5 rfl) ?_
      refine lv_iconst (v := (0 : Int32)) hx hb dX1_play_34 (by decide) ?_
      refine lv_aload hx hb dX1_play_35 (lv_at hl 1 rfl) ?_
      refine lv_iconst (v := (0 : Int32)) hx hb dX1_play_37 (by decide) ?_
      refine lv_bipush (v := (7 : Int32)) hx hb dX1_play_38 (by decide) ?_
      obtain ⟨w_7, e_7, hF⟩ := bnd hF
      refine m_cpI X hH hS ⟨hl.2.1, hl.1⟩ e_7 kw_528 kw_530 kw_529 kw_70 (by decide) (Nat.le_of_ble_eq_true rfl) dX1_play_40 (fun H locs hH hS => ?_)
      refine lv_aload_n hx hb dX1_play_43 rfl (lv_at hl 3 rfl) ?_
      refine lv_aload hx hb dX1_play_44 (lv_at hl 1 rfl) ?_
      obtain ⟨u_8, ou_8, hF⟩ := bnd hF
      obtain ⟨q_9, e_9, hF⟩ := bnd hF
      refine m_callV (As := [.ref (base + r_4)]) (rest := []) X hH hS hl.1 ou_8 rfl (by decide) (k_X4_twist l D cI cT cII base p1 r_4 w_7 q_9 e_9) q_X4_twist kw_531 kw_532 kw_533 rfl rfl (Nat.le_of_ble_eq_true rfl) ⟨by decide, by decide⟩ hc dX1_play_46 (fun H locs hH hS => W.eq (g2 := F0 m 49 ls []) rfl ?_)
      refine lv_aload_n hx hb dX1_play_49 rfl (lv_at hl 4 rfl) ?_
      refine lv_iload hx hb dX1_play_50 (lv_at hl 6 rfl) ?_
      refine lv_aload hx hb dX1_play_52 (lv_at hl 1 rfl) ?_
      obtain ⟨u_10, ou_10, hF⟩ := bnd hF
      obtain ⟨q_11, e_11, hF⟩ := bnd hF
      refine m_callV (As := [.int v4, .ref (base + r_4)]) (rest := []) X hH hS hl.1 ou_10 rfl (by decide) (k_X10_turnAll l D cI cT cII base p2 v4 r_4 q_9.2 q_11 e_11) q_X10_turnAll kw_542 kw_543 kw_544 rfl rfl (Nat.le_of_ble_eq_true rfl) ⟨by decide, by decide⟩ hc dX1_play_54 (fun H locs hH hS => W.eq (g2 := F0 m 57 ls []) rfl ?_)
      refine lv_aload hx hb dX1_play_57 (lv_at hl 1 rfl) ?_
      refine lv_iconst (v := (0 : Int32)) hx hb dX1_play_59 (by decide) ?_
      refine lv_aload hx hb dX1_play_60 (lv_at hl 0 rfl) ?_
      refine lv_iconst (v := (0 : Int32)) hx hb dX1_play_62 (by decide) ?_
      refine lv_bipush (v := (7 : Int32)) hx hb dX1_play_63 (by decide) ?_
      obtain ⟨w_12, e_12, hF⟩ := bnd hF
      refine m_cpI X hH hS ⟨hl.2.1, hl.1⟩ e_12 kw_528 kw_530 kw_529 kw_70 (by decide) (Nat.le_of_ble_eq_true rfl) dX1_play_65 (fun H locs hH hS => ?_)
      refine lv_aload_n hx hb dX1_play_68 rfl (lv_at hl 2 rfl) ?_
      obtain ⟨r_13, e_13, hF⟩ := bnd hF
      refine m_gR X hH e_13 gg_X1_22 dX1_play_69 ?_
      refine lv_iload hx hb dX1_play_72 (lv_at hl 6 rfl) ?_
      refine lv_aload_n hx hb dX1_play_74 rfl (lv_at hl 3 rfl) ?_
      refine lv_aload hx hb dX1_play_75 (lv_at hl 0 rfl) ?_
      refine lv_aload_n hx hb dX1_play_77 rfl (lv_at hl 2 rfl) ?_
      obtain ⟨r_14, e_14, hF⟩ := bnd hF
      refine m_gR X hH e_14 gg_X1_19 dX1_play_78 ?_
      refine lv_iload hx hb dX1_play_81 (lv_at hl 6 rfl) ?_
      obtain ⟨r_15, e_15, hF⟩ := bnd hF
      refine m_rdII X hH e_15 dX1_play_83 ?_
      obtain ⟨u_16, ou_16, hF⟩ := bnd hF
      obtain ⟨q_17, e_17, hF⟩ := bnd hF
      refine m_callV (As := [.ref (base + r_6), .ref (base + r_15)]) (rest := [.int v4, .ref (base + r_13)]) X hH hS hl.1 ou_16 rfl (by decide) (k_X4_letCome l D cI cT cII base p1 r_6 r_15 w_12 q_17 e_17) q_X4_letCome kw_547 kw_548 kw_549 rfl rfl (Nat.le_of_ble_eq_true rfl) ⟨by decide, by decide⟩ hc dX1_play_84 (fun H locs hH hS => W.eq (g2 := F0 m 87 ls [.int q_17.1, .int v4, .ref (base + r_13)]) rfl ?_)
      obtain ⟨w_18, e_18, hF⟩ := bnd hF
      refine m_wrI X hH hS e_18 dX1_play_87 (fun H locs hH hS => ?_)
      refine lv_aload hx hb dX1_play_88 (lv_at hl 0 rfl) ?_
      refine lv_astore_n (lv' := [(3, .ref (base + r_6)), (6, .ref (base + r_6)), (5, .ref (base + r_4)), (0, .ref (base + p0)), (1, .ref (base + p1)), (2, .ref (base + p2)), (4, .int v4)]) hx hb dX1_play_90 rfl hl (by decide) rfl (fun ls hl => ?_)
      refine lv_iinc (v := v4 + (1 : Int32)) (lv' := [(4, .int (v4 + (1 : Int32))), (3, .ref (base + r_6)), (6, .ref (base + r_6)), (5, .ref (base + r_4)), (0, .ref (base + p0)), (1, .ref (base + p1)), (2, .ref (base + p2))]) hx hb dX1_play_91 hl (k := 6) rfl (congrArg (fun z => v4 + z) (by decide)) (by decide) rfl (fun ls hl => ?_)
      refine lv_goto (tgt := 8) hx hb dX1_play_94 (by decide) ?_
      exact ih r_6 (v4 + (1 : Int32)) w_18 hF H locs ls hH hS (lv_sub hl [4, 5, 6, 1, 0] rfl)
set_option maxHeartbeats 4000000 in
set_option maxRecDepth 100000 in
theorem k_X1_play (l : Launch) (D : va_G) (cI cT cII : ClassId) (base : Nat) (p0 : Nat) (p1 : Nat) (p2 : Nat) (w : Wd) (res : Unit × Wd) (hF : fX1_play p0 p1 p2 w = some res) : Ct l yX1_play cX1_play 7 none { frames := 4, cells := 0, slots := 0, locals := 91 } D cI cT cII base [.ref (base + p0), .ref (base + p1), .ref (base + p2)] w res.2 none 0 0 := by
  unfold fX1_play at hF
  refine m_enter (by decide) (Nat.le_of_ble_eq_true rfl) ?_
  intro p e s m below meth c ls X hr hlk hnm hH hS hl
  have hx := X.1
  have hb := X.2.1
  have hc : (0 : Nat) ≤ ({ frames := 4, cells := 0, slots := 0, locals := 91 } : Room).cells ∧ (0 : Nat) ≤ ({ frames := 4, cells := 0, slots := 0, locals := 91 } : Room).slots := ⟨Nat.zero_le _, Nat.zero_le _⟩
  obtain ⟨H, hHe⟩ : ∃ H : Heap, H = s.heap := ⟨_, rfl⟩
  obtain ⟨locs, hle⟩ : ∃ L : List Loc, L = [] := ⟨_, rfl⟩
  have hl : lv_has ls 7 [(0, .ref (base + p0)), (1, .ref (base + p1)), (2, .ref (base + p2))] := hl
  rw [← hHe] at hH
  have hS : va_S (fun q => base ≤ q) s.heap H locs := by rw [hHe, hle]; exact hS
  rw [← hle]
  show W p l e _ s m _ below meth c s.heap locs 0 0 _ _
  rw [← hHe]
  refine lv_aload_n hx hb dX1_play_0 rfl (lv_at hl 1 rfl) ?_
  obtain ⟨r_1, e_1, hF⟩ := bnd hF
  refine m_hR X hH e_1 gg_X1_30 dX1_play_1 ?_
  refine lv_astore_n (lv' := [(3, .ref (base + r_1)), (0, .ref (base + p0)), (1, .ref (base + p1)), (2, .ref (base + p2))]) hx hb dX1_play_4 rfl hl (by decide) rfl (fun ls hl => ?_)
  refine lv_iconst (v := (0 : Int32)) hx hb dX1_play_5 (by decide) ?_
  refine lv_istore (lv' := [(4, .int (0 : Int32)), (3, .ref (base + r_1)), (0, .ref (base + p0)), (1, .ref (base + p1)), (2, .ref (base + p2))]) hx hb dX1_play_6 hl (by decide) rfl (fun ls hl => ?_)
  refine l_X1_play_8 X hc p0 p1 p2 _ res ?_ FV r_1 (0 : Int32) w hF H locs ls hH hS (lv_sub hl [2, 3, 4, 1, 0] rfl)
  · intro  w_19 hF H locs ls hH hS hl
    refine lv_aload_n hx hb dX1_play_97 rfl (lv_at hl 0 rfl) ?_
    refine lv_iconst (v := (0 : Int32)) hx hb dX1_play_98 (by decide) ?_
    obtain ⟨w_20, e_20, hF⟩ := bnd hF
    refine m_pI X hH hS e_20 gp_X1_26 rfl rfl dX1_play_99 (fun H locs hH hS => ?_)
    have hF := Option.some.inj hF
    subst hF
    exact m_vret X hr hlk hH hS dX1_play_102
noncomputable def fX11_daysNow (p0 : Nat) (w : Wd) : Option (Nat × Wd) := (gfR 10 5 p0 w).bind fun r_1 => (gfI 1 4 r_1 w).bind fun x_2 => if x_2 = 0 then (gfR 10 5 p0 w).bind fun r_4 => some (r_4, w) else (gfR 10 5 p0 w).bind fun r_5 => (gfR 10 10 p0 w).bind fun r_6 => (gfR 10 2 p0 w).bind fun r_7 => (isO 1 r_5 w).bind fun u_8 => (fX1_play r_5 r_6 r_7 w).bind fun q_9 => (gfR 10 5 p0 q_9.2).bind fun r_10 => some (r_10, q_9.2)
set_option maxHeartbeats 4000000 in
set_option maxRecDepth 100000 in
theorem k_X11_daysNow (l : Launch) (D : va_G) (cI cT cII : ClassId) (base : Nat) (p0 : Nat) (w : Wd) (res : Nat × Wd) (hF : fX11_daysNow p0 w = some res) : Ct l yX11_daysNow cX11_daysNow 1 (some (.object "CrookedFrames$Days")) { frames := 5, cells := 0, slots := 0, locals := 117 } D cI cT cII base [.ref (base + p0)] w res.2 (some (.ref (base + res.1))) 0 0 := by
  unfold fX11_daysNow at hF
  refine m_enter (by decide) (Nat.le_of_ble_eq_true rfl) ?_
  intro p e s m below meth c ls X hr hlk hnm hH hS hl
  have hx := X.1
  have hb := X.2.1
  have hc : (0 : Nat) ≤ ({ frames := 5, cells := 0, slots := 0, locals := 117 } : Room).cells ∧ (0 : Nat) ≤ ({ frames := 5, cells := 0, slots := 0, locals := 117 } : Room).slots := ⟨Nat.zero_le _, Nat.zero_le _⟩
  obtain ⟨H, hHe⟩ : ∃ H : Heap, H = s.heap := ⟨_, rfl⟩
  obtain ⟨locs, hle⟩ : ∃ L : List Loc, L = [] := ⟨_, rfl⟩
  have hl : lv_has ls 1 [(0, .ref (base + p0))] := hl
  rw [← hHe] at hH
  have hS : va_S (fun q => base ≤ q) s.heap H locs := by rw [hHe, hle]; exact hS
  rw [← hle]
  show W p l e _ s m _ below meth c s.heap locs 0 0 _ _
  rw [← hHe]
  refine lv_aload_n hx hb dX11_daysNow_0 rfl (lv_at hl 0 rfl) ?_
  obtain ⟨r_1, e_1, hF⟩ := bnd hF
  refine m_gR X hH e_1 gg_X11_45 dX11_daysNow_1 ?_
  obtain ⟨x_2, e_2, hF⟩ := bnd hF
  refine m_hI X hH e_2 gg_X11_185 dX11_daysNow_4 ?_
  refine lv_if_eq (tgt := 25) hx hb dX11_daysNow_7 (by decide) (fun c_3 => ?_) (fun c_3 => ?_)
  · replace hF := itt c_3 hF
    refine lv_aload_n hx hb dX11_daysNow_25 rfl (lv_at hl 0 rfl) ?_
    obtain ⟨r_4, e_4, hF⟩ := bnd hF
    refine m_gR X hH e_4 gg_X11_45 dX11_daysNow_26 ?_
    have hF := Option.some.inj hF
    subst hF
    exact m_aret X hr hlk hH hS dX11_daysNow_29
  · replace hF := itf c_3 hF
    refine lv_aload_n hx hb dX11_daysNow_10 rfl (lv_at hl 0 rfl) ?_
    obtain ⟨r_5, e_5, hF⟩ := bnd hF
    refine m_gR X hH e_5 gg_X11_45 dX11_daysNow_11 ?_
    refine lv_aload_n hx hb dX11_daysNow_14 rfl (lv_at hl 0 rfl) ?_
    obtain ⟨r_6, e_6, hF⟩ := bnd hF
    refine m_gR X hH e_6 gg_X11_80 dX11_daysNow_15 ?_
    refine lv_aload_n hx hb dX11_daysNow_18 rfl (lv_at hl 0 rfl) ?_
    obtain ⟨r_7, e_7, hF⟩ := bnd hF
    refine m_gR X hH e_7 gg_X11_26 dX11_daysNow_19 ?_
    obtain ⟨u_8, ou_8, hF⟩ := bnd hF
    obtain ⟨q_9, e_9, hF⟩ := bnd hF
    refine m_callV (As := [.ref (base + r_6), .ref (base + r_7)]) (rest := []) X hH hS hl.1 ou_8 rfl (by decide) (k_X1_play l D cI cT cII base r_5 r_6 r_7 w q_9 e_9) q_X1_play kw_524 kw_525 kw_526 rfl rfl (Nat.le_of_ble_eq_true rfl) ⟨by decide, by decide⟩ hc dX11_daysNow_22 (fun H locs hH hS => W.eq (g2 := F0 m 25 ls []) rfl ?_)
    refine lv_aload_n hx hb dX11_daysNow_25 rfl (lv_at hl 0 rfl) ?_
    obtain ⟨r_10, e_10, hF⟩ := bnd hF
    refine m_gR X hH e_10 gg_X11_45 dX11_daysNow_26 ?_
    have hF := Option.some.inj hF
    subst hF
    exact m_aret X hr hlk hH hS dX11_daysNow_29
noncomputable def fX11_angle (p0 : Nat) (v1 : Int32) (v2 : Int32) (w : Wd) : Option (Int32 × Wd) := (gfR 10 10 p0 w).bind fun r_1 => (gfI 3 4 r_1 w).bind fun x_2 => (fX11_outside v1 x_2 w).bind fun q_3 => if q_3.1 = 0 then (fX11_outside v2 (31 : Int32) q_3.2).bind fun q_5 => if q_5.1 = 0 then (isO 10 p0 q_5.2).bind fun u_7 => (fX11_daysNow p0 q_5.2).bind fun q_8 => (gfR 1 1 q_8.1 q_8.2).bind fun r_9 => (rdR 14 r_9 v2 q_8.2).bind fun r_10 => (rdI r_10 v1 q_8.2).bind fun x_11 => some (x_11 + (40 : Int32), q_8.2) else some ((-1 : Int32), q_5.2) else some ((-1 : Int32), q_3.2)
set_option maxHeartbeats 4000000 in
set_option maxRecDepth 100000 in
theorem k_X11_angle (l : Launch) (D : va_G) (cI cT cII : ClassId) (base : Nat) (p0 : Nat) (v1 : Int32) (v2 : Int32) (w : Wd) (res : Int32 × Wd) (hF : fX11_angle p0 v1 v2 w = some res) : Ct l yX11_angle cX11_angle 3 (some .int) { frames := 6, cells := 0, slots := 0, locals := 137 } D cI cT cII base [.ref (base + p0), .int v1, .int v2] w res.2 (some (.int res.1)) 0 0 := by
  unfold fX11_angle at hF
  refine m_enter (by decide) (Nat.le_of_ble_eq_true rfl) ?_
  intro p e s m below meth c ls X hr hlk hnm hH hS hl
  have hx := X.1
  have hb := X.2.1
  have hc : (0 : Nat) ≤ ({ frames := 6, cells := 0, slots := 0, locals := 137 } : Room).cells ∧ (0 : Nat) ≤ ({ frames := 6, cells := 0, slots := 0, locals := 137 } : Room).slots := ⟨Nat.zero_le _, Nat.zero_le _⟩
  obtain ⟨H, hHe⟩ : ∃ H : Heap, H = s.heap := ⟨_, rfl⟩
  obtain ⟨locs, hle⟩ : ∃ L : List Loc, L = [] := ⟨_, rfl⟩
  have hl : lv_has ls 3 [(0, .ref (base + p0)), (1, .int v1), (2, .int v2)] := hl
  rw [← hHe] at hH
  have hS : va_S (fun q => base ≤ q) s.heap H locs := by rw [hHe, hle]; exact hS
  rw [← hle]
  show W p l e _ s m _ below meth c s.heap locs 0 0 _ _
  rw [← hHe]
  refine lv_iload_n hx hb dX11_angle_0 rfl (lv_at hl 1 rfl) ?_
  refine lv_aload_n hx hb dX11_angle_1 rfl (lv_at hl 0 rfl) ?_
  obtain ⟨r_1, e_1, hF⟩ := bnd hF
  refine m_gR X hH e_1 gg_X11_80 dX11_angle_2 ?_
  obtain ⟨x_2, e_2, hF⟩ := bnd hF
  refine m_hI X hH e_2 gg_X11_116 dX11_angle_5 ?_
  obtain ⟨q_3, e_3, hF⟩ := bnd hF
  refine m_callS (As := [.int v1, .int x_2]) (rest := []) X hH hS hl.1 (k_X11_outside l D cI cT cII base v1 x_2 w q_3 e_3) q_X11_outside kw_511 kw_391 rfl rfl (Nat.le_of_ble_eq_true rfl) ⟨by decide, by decide⟩ hc dX11_angle_8 (fun H locs hH hS => W.eq (g2 := F0 m 11 ls [.int q_3.1]) rfl ?_)
  refine lv_if_ne (tgt := 23) hx hb dX11_angle_11 (by decide) (fun c_4 => ?_) (fun c_4 => ?_)
  · replace hF := itf c_4 hF
    refine lv_iconst (v := (-1 : Int32)) hx hb dX11_angle_23 (by decide) ?_
    have hF := Option.some.inj hF
    subst hF
    exact m_iret X hr hlk hH hS dX11_angle_24
  · replace hF := itt c_4 hF
    refine lv_iload_n hx hb dX11_angle_14 rfl (lv_at hl 2 rfl) ?_
    refine lv_bipush (v := (31 : Int32)) hx hb dX11_angle_15 (by decide) ?_
    obtain ⟨q_5, e_5, hF⟩ := bnd hF
    refine m_callS (As := [.int v2, .int (31 : Int32)]) (rest := []) X hH hS hl.1 (k_X11_outside l D cI cT cII base v2 (31 : Int32) q_3.2 q_5 e_5) q_X11_outside kw_511 kw_391 rfl rfl (Nat.le_of_ble_eq_true rfl) ⟨by decide, by decide⟩ hc dX11_angle_17 (fun H locs hH hS => W.eq (g2 := F0 m 20 ls [.int q_5.1]) rfl ?_)
    refine lv_if_eq (tgt := 25) hx hb dX11_angle_20 (by decide) (fun c_6 => ?_) (fun c_6 => ?_)
    · replace hF := itt c_6 hF
      refine lv_aload_n hx hb dX11_angle_25 rfl (lv_at hl 0 rfl) ?_
      obtain ⟨u_7, ou_7, hF⟩ := bnd hF
      obtain ⟨q_8, e_8, hF⟩ := bnd hF
      refine m_callV (As := []) (rest := []) X hH hS hl.1 ou_7 rfl (by decide) (k_X11_daysNow l D cI cT cII base p0 q_5.2 q_8 e_8) q_X11_daysNow kw_520 kw_522 kw_9 rfl rfl (Nat.le_of_ble_eq_true rfl) ⟨by decide, by decide⟩ hc dX11_angle_26 (fun H locs hH hS => W.eq (g2 := F0 m 29 ls [.ref (base + q_8.1)]) rfl ?_)
      obtain ⟨r_9, e_9, hF⟩ := bnd hF
      refine m_hR X hH e_9 gg_X11_149 dX11_angle_29 ?_
      refine lv_iload_n hx hb dX11_angle_32 rfl (lv_at hl 2 rfl) ?_
      obtain ⟨r_10, e_10, hF⟩ := bnd hF
      refine m_rdII X hH e_10 dX11_angle_33 ?_
      refine lv_iload_n hx hb dX11_angle_34 rfl (lv_at hl 1 rfl) ?_
      obtain ⟨x_11, e_11, hF⟩ := bnd hF
      refine m_rdI X hH e_11 dX11_angle_35 ?_
      refine lv_bipush (v := (40 : Int32)) hx hb dX11_angle_36 (by decide) ?_
      refine lv_iadd hx hb dX11_angle_38 ?_
      have hF := Option.some.inj hF
      subst hF
      exact m_iret X hr hlk hH hS dX11_angle_39
    · replace hF := itf c_6 hF
      refine lv_iconst (v := (-1 : Int32)) hx hb dX11_angle_23 (by decide) ?_
      have hF := Option.some.inj hF
      subst hF
      exact m_iret X hr hlk hH hS dX11_angle_24
noncomputable def fX7_takeLast (p0 : Nat) (p1 : Nat) (w : Wd) : Option (Int32 × Wd) := (gfI 6 1 p0 w).bind fun x_1 => if x_1 = 0 then some ((0 : Int32), w) else (gfI 6 1 p0 w).bind fun x_3 => (pfI 6 1 p0 (x_3 - (1 : Int32)) w).bind fun w_4 => (gfR 6 0 p0 w_4).bind fun r_5 => (gfI 6 1 p0 w_4).bind fun x_6 => (rdR 13 r_5 x_6 w_4).bind fun r_7 => (isO 9 p1 w_4).bind fun u_8 => (fX10_copy p1 r_7 w_4).bind fun q_9 => some ((1 : Int32), q_9.2)
set_option maxHeartbeats 4000000 in
set_option maxRecDepth 100000 in
theorem k_X7_takeLast (l : Launch) (D : va_G) (cI cT cII : ClassId) (base : Nat) (p0 : Nat) (p1 : Nat) (w : Wd) (res : Int32 × Wd) (hF : fX7_takeLast p0 p1 w = some res) : Ct l yX7_takeLast cX7_takeLast 2 (some .boolean) { frames := 2, cells := 0, slots := 0, locals := 45 } D cI cT cII base [.ref (base + p0), .ref (base + p1)] w res.2 (some (.int res.1)) 0 0 := by
  unfold fX7_takeLast at hF
  refine m_enter (by decide) (Nat.le_of_ble_eq_true rfl) ?_
  intro p e s m below meth c ls X hr hlk hnm hH hS hl
  have hx := X.1
  have hb := X.2.1
  have hc : (0 : Nat) ≤ ({ frames := 2, cells := 0, slots := 0, locals := 45 } : Room).cells ∧ (0 : Nat) ≤ ({ frames := 2, cells := 0, slots := 0, locals := 45 } : Room).slots := ⟨Nat.zero_le _, Nat.zero_le _⟩
  obtain ⟨H, hHe⟩ : ∃ H : Heap, H = s.heap := ⟨_, rfl⟩
  obtain ⟨locs, hle⟩ : ∃ L : List Loc, L = [] := ⟨_, rfl⟩
  have hl : lv_has ls 2 [(0, .ref (base + p0)), (1, .ref (base + p1))] := hl
  rw [← hHe] at hH
  have hS : va_S (fun q => base ≤ q) s.heap H locs := by rw [hHe, hle]; exact hS
  rw [← hle]
  show W p l e _ s m _ below meth c s.heap locs 0 0 _ _
  rw [← hHe]
  refine lv_aload_n hx hb dX7_takeLast_0 rfl (lv_at hl 0 rfl) ?_
  obtain ⟨x_1, e_1, hF⟩ := bnd hF
  refine m_gI X hH e_1 gg_X7_22 dX7_takeLast_1 ?_
  refine lv_if_ne (tgt := 9) hx hb dX7_takeLast_4 (by decide) (fun c_2 => ?_) (fun c_2 => ?_)
  · replace hF := itf c_2 hF
    refine lv_aload_n hx hb dX7_takeLast_9 rfl (lv_at hl 0 rfl) ?_
    refine lv_dup hx hb dX7_takeLast_10 rfl ?_
    obtain ⟨x_3, e_3, hF⟩ := bnd hF
    refine m_gI X hH e_3 gg_X7_22 dX7_takeLast_11 ?_
    refine lv_iconst (v := (1 : Int32)) hx hb dX7_takeLast_14 (by decide) ?_
    refine lv_isub hx hb dX7_takeLast_15 ?_
    obtain ⟨w_4, e_4, hF⟩ := bnd hF
    refine m_pI X hH hS e_4 gp_X7_22 rfl rfl dX7_takeLast_16 (fun H locs hH hS => ?_)
    refine lv_aload_n hx hb dX7_takeLast_19 rfl (lv_at hl 1 rfl) ?_
    refine lv_aload_n hx hb dX7_takeLast_20 rfl (lv_at hl 0 rfl) ?_
    obtain ⟨r_5, e_5, hF⟩ := bnd hF
    refine m_gR X hH e_5 gg_X7_15 dX7_takeLast_21 ?_
    refine lv_aload_n hx hb dX7_takeLast_24 rfl (lv_at hl 0 rfl) ?_
    obtain ⟨x_6, e_6, hF⟩ := bnd hF
    refine m_gI X hH e_6 gg_X7_22 dX7_takeLast_25 ?_
    obtain ⟨r_7, e_7, hF⟩ := bnd hF
    refine m_rdT X hH e_7 dX7_takeLast_28 ?_
    obtain ⟨u_8, ou_8, hF⟩ := bnd hF
    obtain ⟨q_9, e_9, hF⟩ := bnd hF
    refine m_callV (As := [.ref (base + r_7)]) (rest := []) X hH hS hl.1 ou_8 rfl (by decide) (k_X10_copy l D cI cT cII base p1 r_7 w_4 q_9 e_9) q_X10_copy kw_617 kw_441 kw_442 rfl rfl (Nat.le_of_ble_eq_true rfl) ⟨by decide, by decide⟩ hc dX7_takeLast_29 (fun H locs hH hS => W.eq (g2 := F0 m 32 ls []) rfl ?_)
    refine lv_iconst (v := (1 : Int32)) hx hb dX7_takeLast_32 (by decide) ?_
    have hF := Option.some.inj hF
    subst hF
    exact m_zret (r := (1 : Int32)) X hr hlk (by decide) hH hS dX7_takeLast_33
  · replace hF := itt c_2 hF
    refine lv_iconst (v := (0 : Int32)) hx hb dX7_takeLast_7 (by decide) ?_
    have hF := Option.some.inj hF
    subst hF
    exact m_zret (r := (0 : Int32)) X hr hlk (by decide) hH hS dX7_takeLast_8
noncomputable def fX11_back (p0 : Nat) (w : Wd) : Option (Int32 × Wd) := (gfR 10 4 p0 w).bind fun r_1 => (gfR 10 2 p0 w).bind fun r_2 => (isO 6 r_1 w).bind fun u_3 => (fX7_takeLast r_1 r_2 w).bind fun q_4 => if q_4.1 = 0 then some ((-2 : Int32), q_4.2) else (gfR 10 3 p0 q_4.2).bind fun r_6 => (pfI 6 1 r_6 (0 : Int32) q_4.2).bind fun w_7 => (gfR 10 5 p0 w_7).bind fun r_8 => (pfI 1 4 r_8 (1 : Int32) w_7).bind fun w_9 => (gfR 10 4 p0 w_9).bind fun r_10 => (gfI 6 1 r_10 w_9).bind fun x_11 => some (x_11, w_9)
set_option maxHeartbeats 4000000 in
set_option maxRecDepth 100000 in
theorem k_X11_back (l : Launch) (D : va_G) (cI cT cII : ClassId) (base : Nat) (p0 : Nat) (w : Wd) (res : Int32 × Wd) (hF : fX11_back p0 w = some res) : Ct l yX11_back cX11_back 1 (some .int) { frames := 3, cells := 0, slots := 0, locals := 66 } D cI cT cII base [.ref (base + p0)] w res.2 (some (.int res.1)) 0 0 := by
  unfold fX11_back at hF
  refine m_enter (by decide) (Nat.le_of_ble_eq_true rfl) ?_
  intro p e s m below meth c ls X hr hlk hnm hH hS hl
  have hx := X.1
  have hb := X.2.1
  have hc : (0 : Nat) ≤ ({ frames := 3, cells := 0, slots := 0, locals := 66 } : Room).cells ∧ (0 : Nat) ≤ ({ frames := 3, cells := 0, slots := 0, locals := 66 } : Room).slots := ⟨Nat.zero_le _, Nat.zero_le _⟩
  obtain ⟨H, hHe⟩ : ∃ H : Heap, H = s.heap := ⟨_, rfl⟩
  obtain ⟨locs, hle⟩ : ∃ L : List Loc, L = [] := ⟨_, rfl⟩
  have hl : lv_has ls 1 [(0, .ref (base + p0))] := hl
  rw [← hHe] at hH
  have hS : va_S (fun q => base ≤ q) s.heap H locs := by rw [hHe, hle]; exact hS
  rw [← hle]
  show W p l e _ s m _ below meth c s.heap locs 0 0 _ _
  rw [← hHe]
  refine lv_aload_n hx hb dX11_back_0 rfl (lv_at hl 0 rfl) ?_
  obtain ⟨r_1, e_1, hF⟩ := bnd hF
  refine m_gR X hH e_1 gg_X11_39 dX11_back_1 ?_
  refine lv_aload_n hx hb dX11_back_4 rfl (lv_at hl 0 rfl) ?_
  obtain ⟨r_2, e_2, hF⟩ := bnd hF
  refine m_gR X hH e_2 gg_X11_26 dX11_back_5 ?_
  obtain ⟨u_3, ou_3, hF⟩ := bnd hF
  obtain ⟨q_4, e_4, hF⟩ := bnd hF
  refine m_callV (As := [.ref (base + r_2)]) (rest := []) X hH hS hl.1 ou_3 rfl (by decide) (k_X7_takeLast l D cI cT cII base r_1 r_2 w q_4 e_4) q_X7_takeLast kw_632 kw_633 kw_634 rfl rfl (Nat.le_of_ble_eq_true rfl) ⟨by decide, by decide⟩ hc dX11_back_8 (fun H locs hH hS => W.eq (g2 := F0 m 11 ls [.int q_4.1]) rfl ?_)
  refine lv_if_ne (tgt := 17) hx hb dX11_back_11 (by decide) (fun c_5 => ?_) (fun c_5 => ?_)
  · replace hF := itf c_5 hF
    refine lv_aload_n hx hb dX11_back_17 rfl (lv_at hl 0 rfl) ?_
    obtain ⟨r_6, e_6, hF⟩ := bnd hF
    refine m_gR X hH e_6 gg_X11_35 dX11_back_18 ?_
    refine lv_iconst (v := (0 : Int32)) hx hb dX11_back_21 (by decide) ?_
    obtain ⟨w_7, e_7, hF⟩ := bnd hF
    refine m_qI X hH hS e_7 gp_X11_196 rfl rfl dX11_back_22 (fun H locs hH hS => ?_)
    refine lv_aload_n hx hb dX11_back_25 rfl (lv_at hl 0 rfl) ?_
    obtain ⟨r_8, e_8, hF⟩ := bnd hF
    refine m_gR X hH e_8 gg_X11_45 dX11_back_26 ?_
    refine lv_iconst (v := (1 : Int32)) hx hb dX11_back_29 (by decide) ?_
    obtain ⟨w_9, e_9, hF⟩ := bnd hF
    refine m_qI X hH hS e_9 gp_X11_185 rfl rfl dX11_back_30 (fun H locs hH hS => ?_)
    refine lv_aload_n hx hb dX11_back_33 rfl (lv_at hl 0 rfl) ?_
    obtain ⟨r_10, e_10, hF⟩ := bnd hF
    refine m_gR X hH e_10 gg_X11_39 dX11_back_34 ?_
    obtain ⟨x_11, e_11, hF⟩ := bnd hF
    refine m_hI X hH e_11 gg_X11_196 dX11_back_37 ?_
    have hF := Option.some.inj hF
    subst hF
    exact m_iret X hr hlk hH hS dX11_back_40
  · replace hF := itt c_5 hF
    refine lv_bipush (v := (-2 : Int32)) hx hb dX11_back_14 (by decide) ?_
    have hF := Option.some.inj hF
    subst hF
    exact m_iret X hr hlk hH hS dX11_back_16
noncomputable def fX8_fits_2 (p0 : Nat) (v1 : Int32) (v2 : Int32) (K_30 : Wd → Option (Int32 × Wd)) (K_38 : Wd → Option (Int32 × Wd)) : Nat → Int32 → Wd → Option (Int32 × Wd)
  | 0, _, _ => none
  | n + 1, v3, w => (gfI 7 2 p0 w).bind fun x_1 => if x_1 ≤ v3 then K_38  w else (gfR 7 0 p0 w).bind fun r_3 => (rdI r_3 v3 w).bind fun x_4 => (fX3_settle v1 v2 x_4 w).bind fun q_5 => (gfR 7 1 p0 q_5.2).bind fun r_6 => (rdI r_6 v3 q_5.2).bind fun x_7 => if q_5.1 = x_7 then fX8_fits_2 p0 v1 v2 K_30 K_38 n (v3 + (1 : Int32)) q_5.2 else K_30  q_5.2
noncomputable def fX8_fits (p0 : Nat) (v1 : Int32) (v2 : Int32) (w : Wd) : Option (Int32 × Wd) := fX8_fits_2 p0 v1 v2 (fun  (w_9 : Wd) => some ((0 : Int32), w_9)) (fun  (w_10 : Wd) => some ((1 : Int32), w_10)) FV (0 : Int32) w
set_option maxHeartbeats 4000000 in
set_option maxRecDepth 100000 in
theorem l_X8_fits_2 (X : Cx p R s m args c cX8_fits 4 RX8 D cI cT cII 2 43) (hc : cells ≤ R.cells ∧ slots ≤ R.slots) (p0 : Nat) (v1 : Int32) (v2 : Int32) (K_30 : Wd → Option (Int32 × Wd)) (K_38 : Wd → Option (Int32 × Wd)) (res : Int32 × Wd)
    (hK_30 : ∀  (w : Wd), K_30  w = some res → ∀ (H : Heap) (locs : List Loc) (ls : Array Slot), Hd D cI cT cII base w H → va_S (fun q => base ≤ q) s.heap H locs → lv_has ls 4 [] → W p l e R s m args below meth c H locs cells slots Q (F0 m 30 ls []))
    (hK_38 : ∀  (w : Wd), K_38  w = some res → ∀ (H : Heap) (locs : List Loc) (ls : Array Slot), Hd D cI cT cII base w H → va_S (fun q => base ≤ q) s.heap H locs → lv_has ls 4 [] → W p l e R s m args below meth c H locs cells slots Q (F0 m 38 ls [])) :
    ∀ (n : Nat) (v3 : Int32) (w : Wd), fX8_fits_2 p0 v1 v2 K_30 K_38 n v3 w = some res → ∀ (H : Heap) (locs : List Loc) (ls : Array Slot), Hd D cI cT cII base w H → va_S (fun q => base ≤ q) s.heap H locs → lv_has ls 4 [(0, .ref (base + p0)), (1, .int v1), (2, .int v2), (3, .int v3)] → W p l e R s m args below meth c H locs cells slots Q (F0 m 2 ls []) := by
  have hx := X.1
  have hb := X.2.1
  intro n
  induction n with
  | zero =>
    intro v3 w hF
    rw [fX8_fits_2] at hF
    cases hF
  | succ n ih =>
    intro v3 w hF H locs ls hH hS hl
    rw [fX8_fits_2] at hF
    refine lv_iload_n hx hb dX8_fits_2 rfl (lv_at hl 3 rfl) ?_
    refine lv_aload_n hx hb dX8_fits_3 rfl (lv_at hl 0 rfl) ?_
    obtain ⟨x_1, e_1, hF⟩ := bnd hF
    refine m_gI X hH e_1 gg_X8_21 dX8_fits_4 ?_
    refine lv_icmp_ge (tgt := 38) hx hb dX8_fits_7 (by decide) (fun c_2 => ?_) (fun c_2 => ?_)
    · replace hF := itt c_2 hF
      exact hK_38  w hF H locs ls hH hS (lv_sub hl [] rfl)
    · replace hF := itf c_2 hF
      refine lv_iload_n hx hb dX8_fits_10 rfl (lv_at hl 1 rfl) ?_
      refine lv_iload_n hx hb dX8_fits_11 rfl (lv_at hl 2 rfl) ?_
      refine lv_aload_n hx hb dX8_fits_12 rfl (lv_at hl 0 rfl) ?_
      obtain ⟨r_3, e_3, hF⟩ := bnd hF
      refine m_gR X hH e_3 gg_X8_9 dX8_fits_13 ?_
      refine lv_iload_n hx hb dX8_fits_16 rfl (lv_at hl 3 rfl) ?_
      obtain ⟨x_4, e_4, hF⟩ := bnd hF
      refine m_rdI X hH e_4 dX8_fits_17 ?_
      obtain ⟨q_5, e_5, hF⟩ := bnd hF
      refine m_callS (As := [.int v1, .int v2, .int x_4]) (rest := []) X hH hS hl.1 (k_X3_settle l D cI cT cII base v1 v2 x_4 w q_5 e_5) q_X3_settle kw_738 kw_569 rfl rfl (Nat.le_of_ble_eq_true rfl) ⟨by decide, by decide⟩ hc dX8_fits_18 (fun H locs hH hS => W.eq (g2 := F0 m 21 ls [.int q_5.1]) rfl ?_)
      refine lv_aload_n hx hb dX8_fits_21 rfl (lv_at hl 0 rfl) ?_
      obtain ⟨r_6, e_6, hF⟩ := bnd hF
      refine m_gR X hH e_6 gg_X8_15 dX8_fits_22 ?_
      refine lv_iload_n hx hb dX8_fits_25 rfl (lv_at hl 3 rfl) ?_
      obtain ⟨x_7, e_7, hF⟩ := bnd hF
      refine m_rdI X hH e_7 dX8_fits_26 ?_
      refine lv_icmp_eq (tgt := 32) hx hb dX8_fits_27 (by decide) (fun c_8 => ?_) (fun c_8 => ?_)
      · replace hF := itt c_8 hF
        refine lv_iinc (v := v3 + (1 : Int32)) (lv' := [(3, .int (v3 + (1 : Int32))), (0, .ref (base + p0)), (1, .int v1), (2, .int v2)]) hx hb dX8_fits_32 hl (k := 3) rfl (congrArg (fun z => v3 + z) (by decide)) (by decide) rfl (fun ls hl => ?_)
        refine lv_goto (tgt := 2) hx hb dX8_fits_35 (by decide) ?_
        exact ih (v3 + (1 : Int32)) q_5.2 hF H locs ls hH hS (lv_sub hl [1, 2, 3, 0] rfl)
      · replace hF := itf c_8 hF
        exact hK_30  q_5.2 hF H locs ls hH hS (lv_sub hl [] rfl)
set_option maxHeartbeats 4000000 in
set_option maxRecDepth 100000 in
theorem k_X8_fits (l : Launch) (D : va_G) (cI cT cII : ClassId) (base : Nat) (p0 : Nat) (v1 : Int32) (v2 : Int32) (w : Wd) (res : Int32 × Wd) (hF : fX8_fits p0 v1 v2 w = some res) : Ct l yX8_fits cX8_fits 4 (some .boolean) { frames := 2, cells := 0, slots := 0, locals := 43 } D cI cT cII base [.ref (base + p0), .int v1, .int v2] w res.2 (some (.int res.1)) 0 0 := by
  unfold fX8_fits at hF
  refine m_enter (by decide) (Nat.le_of_ble_eq_true rfl) ?_
  intro p e s m below meth c ls X hr hlk hnm hH hS hl
  have hx := X.1
  have hb := X.2.1
  have hc : (0 : Nat) ≤ ({ frames := 2, cells := 0, slots := 0, locals := 43 } : Room).cells ∧ (0 : Nat) ≤ ({ frames := 2, cells := 0, slots := 0, locals := 43 } : Room).slots := ⟨Nat.zero_le _, Nat.zero_le _⟩
  obtain ⟨H, hHe⟩ : ∃ H : Heap, H = s.heap := ⟨_, rfl⟩
  obtain ⟨locs, hle⟩ : ∃ L : List Loc, L = [] := ⟨_, rfl⟩
  have hl : lv_has ls 4 [(0, .ref (base + p0)), (1, .int v1), (2, .int v2)] := hl
  rw [← hHe] at hH
  have hS : va_S (fun q => base ≤ q) s.heap H locs := by rw [hHe, hle]; exact hS
  rw [← hle]
  show W p l e _ s m _ below meth c s.heap locs 0 0 _ _
  rw [← hHe]
  refine lv_iconst (v := (0 : Int32)) hx hb dX8_fits_0 (by decide) ?_
  refine lv_istore_n (lv' := [(3, .int (0 : Int32)), (0, .ref (base + p0)), (1, .int v1), (2, .int v2)]) hx hb dX8_fits_1 rfl hl (by decide) rfl (fun ls hl => ?_)
  refine l_X8_fits_2 X hc p0 v1 v2 _ _ res ?_ ?_ FV (0 : Int32) w hF H locs ls hH hS (lv_sub hl [1, 2, 3, 0] rfl)
  · intro  w_9 hF H locs ls hH hS hl
    refine lv_iconst (v := (0 : Int32)) hx hb dX8_fits_30 (by decide) ?_
    have hF := Option.some.inj hF
    subst hF
    exact m_zret (r := (0 : Int32)) X hr hlk (by decide) hH hS dX8_fits_31
  · intro  w_10 hF H locs ls hH hS hl
    refine lv_iconst (v := (1 : Int32)) hx hb dX8_fits_38 (by decide) ?_
    have hF := Option.some.inj hF
    subst hF
    exact m_zret (r := (1 : Int32)) X hr hlk (by decide) hH hS dX8_fits_39
noncomputable def fX8_fitting_4 (p0 : Nat) (v1 : Int32) (K_31 : Int32 → Wd → Option (Int32 × Wd)) : Nat → Int32 → Int32 → Wd → Option (Int32 × Wd)
  | 0, _, _, _ => none
  | n + 1, v2, v3, w => if (20 : Int32) < v3 then K_31 v2 w else (isO 7 p0 w).bind fun u_2 => (fX8_fits p0 v1 v3 w).bind fun q_3 => if q_3.1 = 0 then fX8_fitting_4 p0 v1 K_31 n v2 (v3 + (1 : Int32)) q_3.2 else fX8_fitting_4 p0 v1 K_31 n (v2 ||| ((1 : Int32) <<< (v3 &&& 31))) (v3 + (1 : Int32)) q_3.2
noncomputable def fX8_fitting (p0 : Nat) (v1 : Int32) (w : Wd) : Option (Int32 × Wd) := fX8_fitting_4 p0 v1 (fun (v2_6 : Int32) (w_5 : Wd) => some (v2_6, w_5)) FV (0 : Int32) (0 : Int32) w
set_option maxHeartbeats 4000000 in
set_option maxRecDepth 100000 in
theorem l_X8_fitting_4 (X : Cx p R s m args c cX8_fitting 4 RX8 D cI cT cII 3 66) (hc : cells ≤ R.cells ∧ slots ≤ R.slots) (p0 : Nat) (v1 : Int32) (K_31 : Int32 → Wd → Option (Int32 × Wd)) (res : Int32 × Wd)
    (hK_31 : ∀ (z2 : Int32) (w : Wd), K_31 z2 w = some res → ∀ (H : Heap) (locs : List Loc) (ls : Array Slot), Hd D cI cT cII base w H → va_S (fun q => base ≤ q) s.heap H locs → lv_has ls 4 [(2, .int z2)] → W p l e R s m args below meth c H locs cells slots Q (F0 m 31 ls [])) :
    ∀ (n : Nat) (v2 : Int32) (v3 : Int32) (w : Wd), fX8_fitting_4 p0 v1 K_31 n v2 v3 w = some res → ∀ (H : Heap) (locs : List Loc) (ls : Array Slot), Hd D cI cT cII base w H → va_S (fun q => base ≤ q) s.heap H locs → lv_has ls 4 [(0, .ref (base + p0)), (1, .int v1), (2, .int v2), (3, .int v3)] → W p l e R s m args below meth c H locs cells slots Q (F0 m 4 ls []) := by
  have hx := X.1
  have hb := X.2.1
  intro n
  induction n with
  | zero =>
    intro v2 v3 w hF
    rw [fX8_fitting_4] at hF
    cases hF
  | succ n ih =>
    intro v2 v3 w hF H locs ls hH hS hl
    rw [fX8_fitting_4] at hF
    refine lv_iload_n hx hb dX8_fitting_4 rfl (lv_at hl 3 rfl) ?_
    refine lv_bipush (v := (20 : Int32)) hx hb dX8_fitting_5 (by decide) ?_
    refine lv_icmp_gt (tgt := 31) hx hb dX8_fitting_7 (by decide) (fun c_1 => ?_) (fun c_1 => ?_)
    · replace hF := itt c_1 hF
      exact hK_31 v2 w hF H locs ls hH hS (lv_sub hl [2] rfl)
    · replace hF := itf c_1 hF
      refine lv_aload_n hx hb dX8_fitting_10 rfl (lv_at hl 0 rfl) ?_
      refine lv_iload_n hx hb dX8_fitting_11 rfl (lv_at hl 1 rfl) ?_
      refine lv_iload_n hx hb dX8_fitting_12 rfl (lv_at hl 3 rfl) ?_
      obtain ⟨u_2, ou_2, hF⟩ := bnd hF
      obtain ⟨q_3, e_3, hF⟩ := bnd hF
      refine m_callV (As := [.int v1, .int v3]) (rest := []) X hH hS hl.1 ou_2 rfl (by decide) (k_X8_fits l D cI cT cII base p0 v1 v3 w q_3 e_3) q_X8_fits kw_734 kw_736 kw_22 rfl rfl (Nat.le_of_ble_eq_true rfl) ⟨by decide, by decide⟩ hc dX8_fitting_13 (fun H locs hH hS => W.eq (g2 := F0 m 16 ls [.int q_3.1]) rfl ?_)
      refine lv_if_eq (tgt := 25) hx hb dX8_fitting_16 (by decide) (fun c_4 => ?_) (fun c_4 => ?_)
      · replace hF := itt c_4 hF
        refine lv_iinc (v := v3 + (1 : Int32)) (lv' := [(3, .int (v3 + (1 : Int32))), (0, .ref (base + p0)), (1, .int v1), (2, .int v2)]) hx hb dX8_fitting_25 hl (k := 3) rfl (congrArg (fun z => v3 + z) (by decide)) (by decide) rfl (fun ls hl => ?_)
        refine lv_goto (tgt := 4) hx hb dX8_fitting_28 (by decide) ?_
        exact ih v2 (v3 + (1 : Int32)) q_3.2 hF H locs ls hH hS (lv_sub hl [1, 2, 3, 0] rfl)
      · replace hF := itf c_4 hF
        refine lv_iload_n hx hb dX8_fitting_19 rfl (lv_at hl 2 rfl) ?_
        refine lv_iconst (v := (1 : Int32)) hx hb dX8_fitting_20 (by decide) ?_
        refine lv_iload_n hx hb dX8_fitting_21 rfl (lv_at hl 3 rfl) ?_
        refine lv_ishl hx hb dX8_fitting_22 ?_
        refine lv_ior hx hb dX8_fitting_23 ?_
        refine lv_istore_n (lv' := [(2, .int (v2 ||| ((1 : Int32) <<< (v3 &&& 31)))), (0, .ref (base + p0)), (1, .int v1), (3, .int v3)]) hx hb dX8_fitting_24 rfl hl (by decide) rfl (fun ls hl => ?_)
        refine lv_iinc (v := v3 + (1 : Int32)) (lv' := [(3, .int (v3 + (1 : Int32))), (2, .int (v2 ||| ((1 : Int32) <<< (v3 &&& 31)))), (0, .ref (base + p0)), (1, .int v1)]) hx hb dX8_fitting_25 hl (k := 3) rfl (congrArg (fun z => v3 + z) (by decide)) (by decide) rfl (fun ls hl => ?_)
        refine lv_goto (tgt := 4) hx hb dX8_fitting_28 (by decide) ?_
        exact ih (v2 ||| ((1 : Int32) <<< (v3 &&& 31))) (v3 + (1 : Int32)) q_3.2 hF H locs ls hH hS (lv_sub hl [2, 3, 1, 0] rfl)
set_option maxHeartbeats 4000000 in
set_option maxRecDepth 100000 in
theorem k_X8_fitting (l : Launch) (D : va_G) (cI cT cII : ClassId) (base : Nat) (p0 : Nat) (v1 : Int32) (w : Wd) (res : Int32 × Wd) (hF : fX8_fitting p0 v1 w = some res) : Ct l yX8_fitting cX8_fitting 4 (some .int) { frames := 3, cells := 0, slots := 0, locals := 66 } D cI cT cII base [.ref (base + p0), .int v1] w res.2 (some (.int res.1)) 0 0 := by
  unfold fX8_fitting at hF
  refine m_enter (by decide) (Nat.le_of_ble_eq_true rfl) ?_
  intro p e s m below meth c ls X hr hlk hnm hH hS hl
  have hx := X.1
  have hb := X.2.1
  have hc : (0 : Nat) ≤ ({ frames := 3, cells := 0, slots := 0, locals := 66 } : Room).cells ∧ (0 : Nat) ≤ ({ frames := 3, cells := 0, slots := 0, locals := 66 } : Room).slots := ⟨Nat.zero_le _, Nat.zero_le _⟩
  obtain ⟨H, hHe⟩ : ∃ H : Heap, H = s.heap := ⟨_, rfl⟩
  obtain ⟨locs, hle⟩ : ∃ L : List Loc, L = [] := ⟨_, rfl⟩
  have hl : lv_has ls 4 [(0, .ref (base + p0)), (1, .int v1)] := hl
  rw [← hHe] at hH
  have hS : va_S (fun q => base ≤ q) s.heap H locs := by rw [hHe, hle]; exact hS
  rw [← hle]
  show W p l e _ s m _ below meth c s.heap locs 0 0 _ _
  rw [← hHe]
  refine lv_iconst (v := (0 : Int32)) hx hb dX8_fitting_0 (by decide) ?_
  refine lv_istore_n (lv' := [(2, .int (0 : Int32)), (0, .ref (base + p0)), (1, .int v1)]) hx hb dX8_fitting_1 rfl hl (by decide) rfl (fun ls hl => ?_)
  refine lv_iconst (v := (0 : Int32)) hx hb dX8_fitting_2 (by decide) ?_
  refine lv_istore_n (lv' := [(3, .int (0 : Int32)), (2, .int (0 : Int32)), (0, .ref (base + p0)), (1, .int v1)]) hx hb dX8_fitting_3 rfl hl (by decide) rfl (fun ls hl => ?_)
  refine l_X8_fitting_4 X hc p0 v1 _ res ?_ FV (0 : Int32) (0 : Int32) w hF H locs ls hH hS (lv_sub hl [2, 3, 1, 0] rfl)
  · intro v2_6 w_5 hF H locs ls hH hS hl
    refine lv_iload_n hx hb dX8_fitting_31 rfl (lv_at hl 0 rfl) ?_
    have hF := Option.some.inj hF
    subst hF
    exact m_iret X hr hlk hH hS dX8_fitting_32
noncomputable def fX11_bears (p0 : Nat) (v1 : Int32) (w : Wd) : Option (Int32 × Wd) := (fX11_outside v1 (4 : Int32) w).bind fun q_1 => if q_1.1 = 0 then (gfR 10 7 p0 q_1.2).bind fun r_3 => (isO 7 r_3 q_1.2).bind fun u_4 => (fX8_fitting r_3 v1 q_1.2).bind fun q_5 => some (q_5.1, q_5.2) else some ((-1 : Int32), q_1.2)
set_option maxHeartbeats 4000000 in
set_option maxRecDepth 100000 in
theorem k_X11_bears (l : Launch) (D : va_G) (cI cT cII : ClassId) (base : Nat) (p0 : Nat) (v1 : Int32) (w : Wd) (res : Int32 × Wd) (hF : fX11_bears p0 v1 w = some res) : Ct l yX11_bears cX11_bears 2 (some .int) { frames := 4, cells := 0, slots := 0, locals := 89 } D cI cT cII base [.ref (base + p0), .int v1] w res.2 (some (.int res.1)) 0 0 := by
  unfold fX11_bears at hF
  refine m_enter (by decide) (Nat.le_of_ble_eq_true rfl) ?_
  intro p e s m below meth c ls X hr hlk hnm hH hS hl
  have hx := X.1
  have hb := X.2.1
  have hc : (0 : Nat) ≤ ({ frames := 4, cells := 0, slots := 0, locals := 89 } : Room).cells ∧ (0 : Nat) ≤ ({ frames := 4, cells := 0, slots := 0, locals := 89 } : Room).slots := ⟨Nat.zero_le _, Nat.zero_le _⟩
  obtain ⟨H, hHe⟩ : ∃ H : Heap, H = s.heap := ⟨_, rfl⟩
  obtain ⟨locs, hle⟩ : ∃ L : List Loc, L = [] := ⟨_, rfl⟩
  have hl : lv_has ls 2 [(0, .ref (base + p0)), (1, .int v1)] := hl
  rw [← hHe] at hH
  have hS : va_S (fun q => base ≤ q) s.heap H locs := by rw [hHe, hle]; exact hS
  rw [← hle]
  show W p l e _ s m _ below meth c s.heap locs 0 0 _ _
  rw [← hHe]
  refine lv_iload_n hx hb dX11_bears_0 rfl (lv_at hl 1 rfl) ?_
  refine lv_iconst (v := (4 : Int32)) hx hb dX11_bears_1 (by decide) ?_
  obtain ⟨q_1, e_1, hF⟩ := bnd hF
  refine m_callS (As := [.int v1, .int (4 : Int32)]) (rest := []) X hH hS hl.1 (k_X11_outside l D cI cT cII base v1 (4 : Int32) w q_1 e_1) q_X11_outside kw_511 kw_391 rfl rfl (Nat.le_of_ble_eq_true rfl) ⟨by decide, by decide⟩ hc dX11_bears_2 (fun H locs hH hS => W.eq (g2 := F0 m 5 ls [.int q_1.1]) rfl ?_)
  refine lv_if_eq (tgt := 12) hx hb dX11_bears_5 (by decide) (fun c_2 => ?_) (fun c_2 => ?_)
  · replace hF := itt c_2 hF
    refine lv_aload_n hx hb dX11_bears_12 rfl (lv_at hl 0 rfl) ?_
    obtain ⟨r_3, e_3, hF⟩ := bnd hF
    refine m_gR X hH e_3 gg_X11_59 dX11_bears_13 ?_
    refine lv_iload_n hx hb dX11_bears_16 rfl (lv_at hl 1 rfl) ?_
    obtain ⟨u_4, ou_4, hF⟩ := bnd hF
    obtain ⟨q_5, e_5, hF⟩ := bnd hF
    refine m_callV (As := [.int v1]) (rest := []) X hH hS hl.1 ou_4 rfl (by decide) (k_X8_fitting l D cI cT cII base r_3 v1 q_1.2 q_5 e_5) q_X8_fitting kw_730 kw_731 kw_732 rfl rfl (Nat.le_of_ble_eq_true rfl) ⟨by decide, by decide⟩ hc dX11_bears_17 (fun H locs hH hS => W.eq (g2 := F0 m 20 ls [.int q_5.1]) rfl ?_)
    have hF := Option.some.inj hF
    subst hF
    exact m_iret X hr hlk hH hS dX11_bears_20
  · replace hF := itf c_2 hF
    refine lv_iconst (v := (-1 : Int32)) hx hb dX11_bears_8 (by decide) ?_
    refine lv_goto (tgt := 20) hx hb dX11_bears_9 (by decide) ?_
    have hF := Option.some.inj hF
    subst hF
    exact m_iret X hr hlk hH hS dX11_bears_20
noncomputable def fX11_count (p0 : Nat) (v1 : Int32) (w : Wd) : Option (Int32 × Wd) := if v1 = (0 : Int32) then (gfR 10 10 p0 w).bind fun r_9 => (gfI 3 4 r_9 w).bind fun x_10 => some (x_10, w) else if v1 = (1 : Int32) then (gfR 10 10 p0 w).bind fun r_11 => (gfI 3 7 r_11 w).bind fun x_12 => some (x_12, w) else if v1 = (2 : Int32) then (gfR 10 10 p0 w).bind fun r_13 => (gfI 3 11 r_13 w).bind fun x_14 => some (x_14, w) else if v1 = (3 : Int32) then (gfR 10 2 p0 w).bind fun r_15 => (gfI 9 3 r_15 w).bind fun x_16 => some (x_16, w) else if v1 = (4 : Int32) then (gfR 10 7 p0 w).bind fun r_17 => (gfI 7 2 r_17 w).bind fun x_18 => some (x_18, w) else if v1 = (5 : Int32) then (gfR 10 3 p0 w).bind fun r_19 => (gfI 6 1 r_19 w).bind fun x_20 => some (x_20, w) else if v1 = (6 : Int32) then (gfR 10 4 p0 w).bind fun r_21 => (gfI 6 1 r_21 w).bind fun x_22 => some (x_22, w) else if v1 = (7 : Int32) then (gfR 10 0 p0 w).bind fun r_23 => (gfI 8 1 r_23 w).bind fun x_24 => some (x_24, w) else some ((-1 : Int32), w)
set_option maxHeartbeats 4000000 in
set_option maxRecDepth 100000 in
theorem k_X11_count (l : Launch) (D : va_G) (cI cT cII : ClassId) (base : Nat) (p0 : Nat) (v1 : Int32) (w : Wd) (res : Int32 × Wd) (hF : fX11_count p0 v1 w = some res) : Ct l yX11_count cX11_count 2 (some .int) { frames := 0, cells := 0, slots := 0, locals := 0 } D cI cT cII base [.ref (base + p0), .int v1] w res.2 (some (.int res.1)) 0 0 := by
  unfold fX11_count at hF
  refine m_enter (by decide) (Nat.le_of_ble_eq_true rfl) ?_
  intro p e s m below meth c ls X hr hlk hnm hH hS hl
  have hx := X.1
  have hb := X.2.1
  have hc : (0 : Nat) ≤ ({ frames := 0, cells := 0, slots := 0, locals := 0 } : Room).cells ∧ (0 : Nat) ≤ ({ frames := 0, cells := 0, slots := 0, locals := 0 } : Room).slots := ⟨Nat.zero_le _, Nat.zero_le _⟩
  obtain ⟨H, hHe⟩ : ∃ H : Heap, H = s.heap := ⟨_, rfl⟩
  obtain ⟨locs, hle⟩ : ∃ L : List Loc, L = [] := ⟨_, rfl⟩
  have hl : lv_has ls 2 [(0, .ref (base + p0)), (1, .int v1)] := hl
  rw [← hHe] at hH
  have hS : va_S (fun q => base ≤ q) s.heap H locs := by rw [hHe, hle]; exact hS
  rw [← hle]
  show W p l e _ s m _ below meth c s.heap locs 0 0 _ _
  rw [← hHe]
  refine lv_iload_n hx hb dX11_count_0 rfl (lv_at hl 1 rfl) ?_
  by_cases c_1 : v1 = (0 : Int32)
  · replace hF := itt c_1 hF
    refine lv_tableIn (tgt := 48) hx hb dX11_count_1 (by rw [c_1]; decide) (by rw [c_1]; decide) (by rw [c_1]; rfl) (by decide) ?_
    refine lv_aload_n hx hb dX11_count_48 rfl (lv_at hl 0 rfl) ?_
    obtain ⟨r_9, e_9, hF⟩ := bnd hF
    refine m_gR X hH e_9 gg_X11_80 dX11_count_49 ?_
    obtain ⟨x_10, e_10, hF⟩ := bnd hF
    refine m_hI X hH e_10 gg_X11_116 dX11_count_52 ?_
    have hF := Option.some.inj hF
    subst hF
    exact m_iret X hr hlk hH hS dX11_count_55
  · replace hF := itf c_1 hF
    by_cases c_2 : v1 = (1 : Int32)
    · replace hF := itt c_2 hF
      refine lv_tableIn (tgt := 56) hx hb dX11_count_1 (by rw [c_2]; decide) (by rw [c_2]; decide) (by rw [c_2]; rfl) (by decide) ?_
      refine lv_aload_n hx hb dX11_count_56 rfl (lv_at hl 0 rfl) ?_
      obtain ⟨r_11, e_11, hF⟩ := bnd hF
      refine m_gR X hH e_11 gg_X11_80 dX11_count_57 ?_
      obtain ⟨x_12, e_12, hF⟩ := bnd hF
      refine m_hI X hH e_12 gg_X11_136 dX11_count_60 ?_
      have hF := Option.some.inj hF
      subst hF
      exact m_iret X hr hlk hH hS dX11_count_63
    · replace hF := itf c_2 hF
      by_cases c_3 : v1 = (2 : Int32)
      · replace hF := itt c_3 hF
        refine lv_tableIn (tgt := 64) hx hb dX11_count_1 (by rw [c_3]; decide) (by rw [c_3]; decide) (by rw [c_3]; rfl) (by decide) ?_
        refine lv_aload_n hx hb dX11_count_64 rfl (lv_at hl 0 rfl) ?_
        obtain ⟨r_13, e_13, hF⟩ := bnd hF
        refine m_gR X hH e_13 gg_X11_80 dX11_count_65 ?_
        obtain ⟨x_14, e_14, hF⟩ := bnd hF
        refine m_hI X hH e_14 gg_X11_259 dX11_count_68 ?_
        have hF := Option.some.inj hF
        subst hF
        exact m_iret X hr hlk hH hS dX11_count_71
      · replace hF := itf c_3 hF
        by_cases c_4 : v1 = (3 : Int32)
        · replace hF := itt c_4 hF
          refine lv_tableIn (tgt := 72) hx hb dX11_count_1 (by rw [c_4]; decide) (by rw [c_4]; decide) (by rw [c_4]; rfl) (by decide) ?_
          refine lv_aload_n hx hb dX11_count_72 rfl (lv_at hl 0 rfl) ?_
          obtain ⟨r_15, e_15, hF⟩ := bnd hF
          refine m_gR X hH e_15 gg_X11_26 dX11_count_73 ?_
          obtain ⟨x_16, e_16, hF⟩ := bnd hF
          refine m_hI X hH e_16 gg_X11_167 dX11_count_76 ?_
          have hF := Option.some.inj hF
          subst hF
          exact m_iret X hr hlk hH hS dX11_count_79
        · replace hF := itf c_4 hF
          by_cases c_5 : v1 = (4 : Int32)
          · replace hF := itt c_5 hF
            refine lv_tableIn (tgt := 80) hx hb dX11_count_1 (by rw [c_5]; decide) (by rw [c_5]; decide) (by rw [c_5]; rfl) (by decide) ?_
            refine lv_aload_n hx hb dX11_count_80 rfl (lv_at hl 0 rfl) ?_
            obtain ⟨r_17, e_17, hF⟩ := bnd hF
            refine m_gR X hH e_17 gg_X11_59 dX11_count_81 ?_
            obtain ⟨x_18, e_18, hF⟩ := bnd hF
            refine m_hI X hH e_18 gg_X11_221 dX11_count_84 ?_
            have hF := Option.some.inj hF
            subst hF
            exact m_iret X hr hlk hH hS dX11_count_87
          · replace hF := itf c_5 hF
            by_cases c_6 : v1 = (5 : Int32)
            · replace hF := itt c_6 hF
              refine lv_tableIn (tgt := 88) hx hb dX11_count_1 (by rw [c_6]; decide) (by rw [c_6]; decide) (by rw [c_6]; rfl) (by decide) ?_
              refine lv_aload_n hx hb dX11_count_88 rfl (lv_at hl 0 rfl) ?_
              obtain ⟨r_19, e_19, hF⟩ := bnd hF
              refine m_gR X hH e_19 gg_X11_35 dX11_count_89 ?_
              obtain ⟨x_20, e_20, hF⟩ := bnd hF
              refine m_hI X hH e_20 gg_X11_196 dX11_count_92 ?_
              have hF := Option.some.inj hF
              subst hF
              exact m_iret X hr hlk hH hS dX11_count_95
            · replace hF := itf c_6 hF
              by_cases c_7 : v1 = (6 : Int32)
              · replace hF := itt c_7 hF
                refine lv_tableIn (tgt := 96) hx hb dX11_count_1 (by rw [c_7]; decide) (by rw [c_7]; decide) (by rw [c_7]; rfl) (by decide) ?_
                refine lv_aload_n hx hb dX11_count_96 rfl (lv_at hl 0 rfl) ?_
                obtain ⟨r_21, e_21, hF⟩ := bnd hF
                refine m_gR X hH e_21 gg_X11_39 dX11_count_97 ?_
                obtain ⟨x_22, e_22, hF⟩ := bnd hF
                refine m_hI X hH e_22 gg_X11_196 dX11_count_100 ?_
                have hF := Option.some.inj hF
                subst hF
                exact m_iret X hr hlk hH hS dX11_count_103
              · replace hF := itf c_7 hF
                by_cases c_8 : v1 = (7 : Int32)
                · replace hF := itt c_8 hF
                  refine lv_tableIn (tgt := 104) hx hb dX11_count_1 (by rw [c_8]; decide) (by rw [c_8]; decide) (by rw [c_8]; rfl) (by decide) ?_
                  refine lv_aload_n hx hb dX11_count_104 rfl (lv_at hl 0 rfl) ?_
                  obtain ⟨r_23, e_23, hF⟩ := bnd hF
                  refine m_gR X hH e_23 gg_X11_10 dX11_count_105 ?_
                  obtain ⟨x_24, e_24, hF⟩ := bnd hF
                  refine m_hI X hH e_24 gg_X11_113 dX11_count_108 ?_
                  have hF := Option.some.inj hF
                  subst hF
                  exact m_iret X hr hlk hH hS dX11_count_111
                · replace hF := itf c_8 hF
                  have z_c_1 := lv_neT c_1 (show Int32.toInt (0 : Int32) = 0 by decide)
                  have z_c_2 := lv_neT c_2 (show Int32.toInt (1 : Int32) = 1 by decide)
                  have z_c_3 := lv_neT c_3 (show Int32.toInt (2 : Int32) = 2 by decide)
                  have z_c_4 := lv_neT c_4 (show Int32.toInt (3 : Int32) = 3 by decide)
                  have z_c_5 := lv_neT c_5 (show Int32.toInt (4 : Int32) = 4 by decide)
                  have z_c_6 := lv_neT c_6 (show Int32.toInt (5 : Int32) = 5 by decide)
                  have z_c_7 := lv_neT c_7 (show Int32.toInt (6 : Int32) = 6 by decide)
                  have z_c_8 := lv_neT c_8 (show Int32.toInt (7 : Int32) = 7 by decide)
                  refine lv_tableOut (tgt := 112) hx hb dX11_count_1 (by omega) (by decide) ?_
                  refine lv_iconst (v := (-1 : Int32)) hx hb dX11_count_112 (by decide) ?_
                  have hF := Option.some.inj hF
                  subst hF
                  exact m_iret X hr hlk hH hS dX11_count_113
noncomputable def fX11_ends_57 (p0 : Nat) (v1 : Int32) (v2 : Int32) (v4 : Int32) (K_94 : Int32 → Int32 → Wd → Option (Int32 × Wd)) (K_139 : Wd → Option (Int32 × Wd)) : Nat → Int32 → Int32 → Wd → Option (Int32 × Wd)
  | 0, _, _, _ => none
  | n + 1, v5, v6, w => if (80 : Int32) < v6 then K_139  w else (gfR 10 10 p0 w).bind fun r_14 => (isO 3 r_14 w).bind fun u_15 => (fX4_setBy r_14 v1 v5 w).bind fun q_16 => if q_16.1 = v5 then (gfR 10 10 p0 q_16.2).bind fun r_25 => (isO 3 r_25 q_16.2).bind fun u_26 => (fX4_setBy r_25 v2 v5 q_16.2).bind fun q_27 => if q_27.1 = v5 then K_94 v5 v6 q_27.2 else (gfR 10 10 p0 q_27.2).bind fun r_29 => (rmI v6 (2 : Int32)).bind fun x_30 => if x_30 = 0 then (isO 3 r_29 q_27.2).bind fun u_34 => (fX4_setBy r_29 v1 v5 q_27.2).bind fun q_35 => fX11_ends_57 p0 v1 v2 v4 K_94 K_139 n q_35.1 (v6 + (1 : Int32)) q_35.2 else (isO 3 r_29 q_27.2).bind fun u_32 => (fX4_setBy r_29 v2 v5 q_27.2).bind fun q_33 => fX11_ends_57 p0 v1 v2 v4 K_94 K_139 n q_33.1 (v6 + (1 : Int32)) q_33.2 else (gfR 10 10 p0 q_16.2).bind fun r_18 => (rmI v6 (2 : Int32)).bind fun x_19 => if x_19 = 0 then (isO 3 r_18 q_16.2).bind fun u_23 => (fX4_setBy r_18 v1 v5 q_16.2).bind fun q_24 => fX11_ends_57 p0 v1 v2 v4 K_94 K_139 n q_24.1 (v6 + (1 : Int32)) q_24.2 else (isO 3 r_18 q_16.2).bind fun u_21 => (fX4_setBy r_18 v2 v5 q_16.2).bind fun q_22 => fX11_ends_57 p0 v1 v2 v4 K_94 K_139 n q_22.1 (v6 + (1 : Int32)) q_22.2
noncomputable def fX11_ends (p0 : Nat) (v1 : Int32) (v2 : Int32) (v3 : Int32) (v4 : Int32) (w : Wd) : Option (Int32 × Wd) := (gfR 10 10 p0 w).bind fun r_1 => (gfI 3 7 r_1 w).bind fun x_2 => (fX11_outside v1 x_2 w).bind fun q_3 => if q_3.1 = 0 then (gfR 10 10 p0 q_3.2).bind fun r_5 => (gfI 3 7 r_5 q_3.2).bind fun x_6 => (fX11_outside v2 x_6 q_3.2).bind fun q_7 => if q_7.1 = 0 then (fX11_outside v3 (41 : Int32) q_7.2).bind fun q_9 => if q_9.1 = 0 then (fX11_outside v4 (2 : Int32) q_9.2).bind fun q_11 => if q_11.1 = 0 then fX11_ends_57 p0 v1 v2 v4 (fun (v5_37 : Int32) (v6_38 : Int32) (w_36 : Wd) => if v4 = 0 then some (v5_37 + (40 : Int32), w_36) else some (v6_38, w_36)) (fun  (w_40 : Wd) => some ((-4 : Int32), w_40)) FV (v3 - (20 : Int32)) (0 : Int32) q_11.2 else some ((-1 : Int32), q_11.2) else some ((-1 : Int32), q_9.2) else some ((-1 : Int32), q_7.2) else some ((-1 : Int32), q_3.2)
set_option maxHeartbeats 4000000 in
set_option maxRecDepth 100000 in
theorem l_X11_ends_57 (X : Cx p R s m args c cX11_ends 7 RX11 D cI cT cII 3 65) (hc : cells ≤ R.cells ∧ slots ≤ R.slots) (p0 : Nat) (v1 : Int32) (v2 : Int32) (v4 : Int32) (K_94 : Int32 → Int32 → Wd → Option (Int32 × Wd)) (K_139 : Wd → Option (Int32 × Wd)) (res : Int32 × Wd)
    (hK_94 : ∀ (z5 : Int32) (z6 : Int32) (w : Wd), K_94 z5 z6 w = some res → ∀ (H : Heap) (locs : List Loc) (ls : Array Slot), Hd D cI cT cII base w H → va_S (fun q => base ≤ q) s.heap H locs → lv_has ls 7 [(4, .int v4), (5, .int z5), (6, .int z6)] → W p l e R s m args below meth c H locs cells slots Q (F0 m 94 ls []))
    (hK_139 : ∀  (w : Wd), K_139  w = some res → ∀ (H : Heap) (locs : List Loc) (ls : Array Slot), Hd D cI cT cII base w H → va_S (fun q => base ≤ q) s.heap H locs → lv_has ls 7 [] → W p l e R s m args below meth c H locs cells slots Q (F0 m 139 ls [])) :
    ∀ (n : Nat) (v5 : Int32) (v6 : Int32) (w : Wd), fX11_ends_57 p0 v1 v2 v4 K_94 K_139 n v5 v6 w = some res → ∀ (H : Heap) (locs : List Loc) (ls : Array Slot), Hd D cI cT cII base w H → va_S (fun q => base ≤ q) s.heap H locs → lv_has ls 7 [(0, .ref (base + p0)), (1, .int v1), (2, .int v2), (4, .int v4), (5, .int v5), (6, .int v6)] → W p l e R s m args below meth c H locs cells slots Q (F0 m 57 ls []) := by
  have hx := X.1
  have hb := X.2.1
  intro n
  induction n with
  | zero =>
    intro v5 v6 w hF
    rw [fX11_ends_57] at hF
    cases hF
  | succ n ih =>
    intro v5 v6 w hF H locs ls hH hS hl
    rw [fX11_ends_57] at hF
    refine lv_iload hx hb dX11_ends_57 (lv_at hl 5 rfl) ?_
    refine lv_bipush (v := (80 : Int32)) hx hb dX11_ends_59 (by decide) ?_
    refine lv_icmp_gt (tgt := 139) hx hb dX11_ends_61 (by decide) (fun c_13 => ?_) (fun c_13 => ?_)
    · replace hF := itt c_13 hF
      exact hK_139  w hF H locs ls hH hS (lv_sub hl [] rfl)
    · replace hF := itf c_13 hF
      refine lv_aload_n hx hb dX11_ends_64 rfl (lv_at hl 0 rfl) ?_
      obtain ⟨r_14, e_14, hF⟩ := bnd hF
      refine m_gR X hH e_14 gg_X11_80 dX11_ends_65 ?_
      refine lv_iload_n hx hb dX11_ends_68 rfl (lv_at hl 1 rfl) ?_
      refine lv_iload hx hb dX11_ends_69 (lv_at hl 4 rfl) ?_
      obtain ⟨u_15, ou_15, hF⟩ := bnd hF
      obtain ⟨q_16, e_16, hF⟩ := bnd hF
      refine m_callV (As := [.int v1, .int v5]) (rest := []) X hH hS hl.1 ou_15 rfl (by decide) (k_X4_setBy l D cI cT cII base r_14 v1 v5 w q_16 e_16) q_X4_setBy kw_759 kw_565 kw_566 rfl rfl (Nat.le_of_ble_eq_true rfl) ⟨by decide, by decide⟩ hc dX11_ends_71 (fun H locs hH hS => W.eq (g2 := F0 m 74 ls [.int q_16.1]) rfl ?_)
      refine lv_iload hx hb dX11_ends_74 (lv_at hl 4 rfl) ?_
      refine lv_icmp_ne (tgt := 110) hx hb dX11_ends_76 (by decide) (fun c_17 => ?_) (fun c_17 => ?_)
      · replace hF := itf c_17 hF
        refine lv_aload_n hx hb dX11_ends_110 rfl (lv_at hl 0 rfl) ?_
        obtain ⟨r_18, e_18, hF⟩ := bnd hF
        refine m_gR X hH e_18 gg_X11_80 dX11_ends_111 ?_
        refine lv_iload hx hb dX11_ends_114 (lv_at hl 5 rfl) ?_
        refine lv_iconst (v := (2 : Int32)) hx hb dX11_ends_116 (by decide) ?_
        obtain ⟨x_19, e_19, hF⟩ := bnd hF
        refine m_irem X e_19 dX11_ends_117 ?_
        refine lv_if_ne (tgt := 125) hx hb dX11_ends_118 (by decide) (fun c_20 => ?_) (fun c_20 => ?_)
        · replace hF := itf c_20 hF
          refine lv_iload_n hx hb dX11_ends_125 rfl (lv_at hl 2 rfl) ?_
          refine lv_iload hx hb dX11_ends_126 (lv_at hl 4 rfl) ?_
          obtain ⟨u_21, ou_21, hF⟩ := bnd hF
          obtain ⟨q_22, e_22, hF⟩ := bnd hF
          refine m_callV (As := [.int v2, .int v5]) (rest := []) X hH hS hl.1 ou_21 rfl (by decide) (k_X4_setBy l D cI cT cII base r_18 v2 v5 q_16.2 q_22 e_22) q_X4_setBy kw_759 kw_565 kw_566 rfl rfl (Nat.le_of_ble_eq_true rfl) ⟨by decide, by decide⟩ hc dX11_ends_128 (fun H locs hH hS => W.eq (g2 := F0 m 131 ls [.int q_22.1]) rfl ?_)
          refine lv_istore (lv' := [(5, .int q_22.1), (0, .ref (base + p0)), (1, .int v1), (2, .int v2), (4, .int v4), (6, .int v6)]) hx hb dX11_ends_131 hl (by decide) rfl (fun ls hl => ?_)
          refine lv_iinc (v := v6 + (1 : Int32)) (lv' := [(6, .int (v6 + (1 : Int32))), (5, .int q_22.1), (0, .ref (base + p0)), (1, .int v1), (2, .int v2), (4, .int v4)]) hx hb dX11_ends_133 hl (k := 5) rfl (congrArg (fun z => v6 + z) (by decide)) (by decide) rfl (fun ls hl => ?_)
          refine lv_goto (tgt := 57) hx hb dX11_ends_136 (by decide) ?_
          exact ih q_22.1 (v6 + (1 : Int32)) q_22.2 hF H locs ls hH hS (lv_sub hl [2, 3, 4, 5, 1, 0] rfl)
        · replace hF := itt c_20 hF
          refine lv_iload_n hx hb dX11_ends_121 rfl (lv_at hl 1 rfl) ?_
          refine lv_goto (tgt := 126) hx hb dX11_ends_122 (by decide) ?_
          refine lv_iload hx hb dX11_ends_126 (lv_at hl 4 rfl) ?_
          obtain ⟨u_23, ou_23, hF⟩ := bnd hF
          obtain ⟨q_24, e_24, hF⟩ := bnd hF
          refine m_callV (As := [.int v1, .int v5]) (rest := []) X hH hS hl.1 ou_23 rfl (by decide) (k_X4_setBy l D cI cT cII base r_18 v1 v5 q_16.2 q_24 e_24) q_X4_setBy kw_759 kw_565 kw_566 rfl rfl (Nat.le_of_ble_eq_true rfl) ⟨by decide, by decide⟩ hc dX11_ends_128 (fun H locs hH hS => W.eq (g2 := F0 m 131 ls [.int q_24.1]) rfl ?_)
          refine lv_istore (lv' := [(5, .int q_24.1), (0, .ref (base + p0)), (1, .int v1), (2, .int v2), (4, .int v4), (6, .int v6)]) hx hb dX11_ends_131 hl (by decide) rfl (fun ls hl => ?_)
          refine lv_iinc (v := v6 + (1 : Int32)) (lv' := [(6, .int (v6 + (1 : Int32))), (5, .int q_24.1), (0, .ref (base + p0)), (1, .int v1), (2, .int v2), (4, .int v4)]) hx hb dX11_ends_133 hl (k := 5) rfl (congrArg (fun z => v6 + z) (by decide)) (by decide) rfl (fun ls hl => ?_)
          refine lv_goto (tgt := 57) hx hb dX11_ends_136 (by decide) ?_
          exact ih q_24.1 (v6 + (1 : Int32)) q_24.2 hF H locs ls hH hS (lv_sub hl [2, 3, 4, 5, 1, 0] rfl)
      · replace hF := itt c_17 hF
        refine lv_aload_n hx hb dX11_ends_79 rfl (lv_at hl 0 rfl) ?_
        obtain ⟨r_25, e_25, hF⟩ := bnd hF
        refine m_gR X hH e_25 gg_X11_80 dX11_ends_80 ?_
        refine lv_iload_n hx hb dX11_ends_83 rfl (lv_at hl 2 rfl) ?_
        refine lv_iload hx hb dX11_ends_84 (lv_at hl 4 rfl) ?_
        obtain ⟨u_26, ou_26, hF⟩ := bnd hF
        obtain ⟨q_27, e_27, hF⟩ := bnd hF
        refine m_callV (As := [.int v2, .int v5]) (rest := []) X hH hS hl.1 ou_26 rfl (by decide) (k_X4_setBy l D cI cT cII base r_25 v2 v5 q_16.2 q_27 e_27) q_X4_setBy kw_759 kw_565 kw_566 rfl rfl (Nat.le_of_ble_eq_true rfl) ⟨by decide, by decide⟩ hc dX11_ends_86 (fun H locs hH hS => W.eq (g2 := F0 m 89 ls [.int q_27.1]) rfl ?_)
        refine lv_iload hx hb dX11_ends_89 (lv_at hl 4 rfl) ?_
        refine lv_icmp_ne (tgt := 110) hx hb dX11_ends_91 (by decide) (fun c_28 => ?_) (fun c_28 => ?_)
        · replace hF := itf c_28 hF
          refine lv_aload_n hx hb dX11_ends_110 rfl (lv_at hl 0 rfl) ?_
          obtain ⟨r_29, e_29, hF⟩ := bnd hF
          refine m_gR X hH e_29 gg_X11_80 dX11_ends_111 ?_
          refine lv_iload hx hb dX11_ends_114 (lv_at hl 5 rfl) ?_
          refine lv_iconst (v := (2 : Int32)) hx hb dX11_ends_116 (by decide) ?_
          obtain ⟨x_30, e_30, hF⟩ := bnd hF
          refine m_irem X e_30 dX11_ends_117 ?_
          refine lv_if_ne (tgt := 125) hx hb dX11_ends_118 (by decide) (fun c_31 => ?_) (fun c_31 => ?_)
          · replace hF := itf c_31 hF
            refine lv_iload_n hx hb dX11_ends_125 rfl (lv_at hl 2 rfl) ?_
            refine lv_iload hx hb dX11_ends_126 (lv_at hl 4 rfl) ?_
            obtain ⟨u_32, ou_32, hF⟩ := bnd hF
            obtain ⟨q_33, e_33, hF⟩ := bnd hF
            refine m_callV (As := [.int v2, .int v5]) (rest := []) X hH hS hl.1 ou_32 rfl (by decide) (k_X4_setBy l D cI cT cII base r_29 v2 v5 q_27.2 q_33 e_33) q_X4_setBy kw_759 kw_565 kw_566 rfl rfl (Nat.le_of_ble_eq_true rfl) ⟨by decide, by decide⟩ hc dX11_ends_128 (fun H locs hH hS => W.eq (g2 := F0 m 131 ls [.int q_33.1]) rfl ?_)
            refine lv_istore (lv' := [(5, .int q_33.1), (0, .ref (base + p0)), (1, .int v1), (2, .int v2), (4, .int v4), (6, .int v6)]) hx hb dX11_ends_131 hl (by decide) rfl (fun ls hl => ?_)
            refine lv_iinc (v := v6 + (1 : Int32)) (lv' := [(6, .int (v6 + (1 : Int32))), (5, .int q_33.1), (0, .ref (base + p0)), (1, .int v1), (2, .int v2), (4, .int v4)]) hx hb dX11_ends_133 hl (k := 5) rfl (congrArg (fun z => v6 + z) (by decide)) (by decide) rfl (fun ls hl => ?_)
            refine lv_goto (tgt := 57) hx hb dX11_ends_136 (by decide) ?_
            exact ih q_33.1 (v6 + (1 : Int32)) q_33.2 hF H locs ls hH hS (lv_sub hl [2, 3, 4, 5, 1, 0] rfl)
          · replace hF := itt c_31 hF
            refine lv_iload_n hx hb dX11_ends_121 rfl (lv_at hl 1 rfl) ?_
            refine lv_goto (tgt := 126) hx hb dX11_ends_122 (by decide) ?_
            refine lv_iload hx hb dX11_ends_126 (lv_at hl 4 rfl) ?_
            obtain ⟨u_34, ou_34, hF⟩ := bnd hF
            obtain ⟨q_35, e_35, hF⟩ := bnd hF
            refine m_callV (As := [.int v1, .int v5]) (rest := []) X hH hS hl.1 ou_34 rfl (by decide) (k_X4_setBy l D cI cT cII base r_29 v1 v5 q_27.2 q_35 e_35) q_X4_setBy kw_759 kw_565 kw_566 rfl rfl (Nat.le_of_ble_eq_true rfl) ⟨by decide, by decide⟩ hc dX11_ends_128 (fun H locs hH hS => W.eq (g2 := F0 m 131 ls [.int q_35.1]) rfl ?_)
            refine lv_istore (lv' := [(5, .int q_35.1), (0, .ref (base + p0)), (1, .int v1), (2, .int v2), (4, .int v4), (6, .int v6)]) hx hb dX11_ends_131 hl (by decide) rfl (fun ls hl => ?_)
            refine lv_iinc (v := v6 + (1 : Int32)) (lv' := [(6, .int (v6 + (1 : Int32))), (5, .int q_35.1), (0, .ref (base + p0)), (1, .int v1), (2, .int v2), (4, .int v4)]) hx hb dX11_ends_133 hl (k := 5) rfl (congrArg (fun z => v6 + z) (by decide)) (by decide) rfl (fun ls hl => ?_)
            refine lv_goto (tgt := 57) hx hb dX11_ends_136 (by decide) ?_
            exact ih q_35.1 (v6 + (1 : Int32)) q_35.2 hF H locs ls hH hS (lv_sub hl [2, 3, 4, 5, 1, 0] rfl)
        · replace hF := itt c_28 hF
          exact hK_94 v5 v6 q_27.2 hF H locs ls hH hS (lv_sub hl [3, 4, 5] rfl)
set_option maxHeartbeats 4000000 in
set_option maxRecDepth 100000 in
theorem k_X11_ends (l : Launch) (D : va_G) (cI cT cII : ClassId) (base : Nat) (p0 : Nat) (v1 : Int32) (v2 : Int32) (v3 : Int32) (v4 : Int32) (w : Wd) (res : Int32 × Wd) (hF : fX11_ends p0 v1 v2 v3 v4 w = some res) : Ct l yX11_ends cX11_ends 7 (some .int) { frames := 3, cells := 0, slots := 0, locals := 65 } D cI cT cII base [.ref (base + p0), .int v1, .int v2, .int v3, .int v4] w res.2 (some (.int res.1)) 0 0 := by
  unfold fX11_ends at hF
  refine m_enter (by decide) (Nat.le_of_ble_eq_true rfl) ?_
  intro p e s m below meth c ls X hr hlk hnm hH hS hl
  have hx := X.1
  have hb := X.2.1
  have hc : (0 : Nat) ≤ ({ frames := 3, cells := 0, slots := 0, locals := 65 } : Room).cells ∧ (0 : Nat) ≤ ({ frames := 3, cells := 0, slots := 0, locals := 65 } : Room).slots := ⟨Nat.zero_le _, Nat.zero_le _⟩
  obtain ⟨H, hHe⟩ : ∃ H : Heap, H = s.heap := ⟨_, rfl⟩
  obtain ⟨locs, hle⟩ : ∃ L : List Loc, L = [] := ⟨_, rfl⟩
  have hl : lv_has ls 7 [(0, .ref (base + p0)), (1, .int v1), (2, .int v2), (3, .int v3), (4, .int v4)] := hl
  rw [← hHe] at hH
  have hS : va_S (fun q => base ≤ q) s.heap H locs := by rw [hHe, hle]; exact hS
  rw [← hle]
  show W p l e _ s m _ below meth c s.heap locs 0 0 _ _
  rw [← hHe]
  refine lv_iload_n hx hb dX11_ends_0 rfl (lv_at hl 1 rfl) ?_
  refine lv_aload_n hx hb dX11_ends_1 rfl (lv_at hl 0 rfl) ?_
  obtain ⟨r_1, e_1, hF⟩ := bnd hF
  refine m_gR X hH e_1 gg_X11_80 dX11_ends_2 ?_
  obtain ⟨x_2, e_2, hF⟩ := bnd hF
  refine m_hI X hH e_2 gg_X11_136 dX11_ends_5 ?_
  obtain ⟨q_3, e_3, hF⟩ := bnd hF
  refine m_callS (As := [.int v1, .int x_2]) (rest := []) X hH hS hl.1 (k_X11_outside l D cI cT cII base v1 x_2 w q_3 e_3) q_X11_outside kw_511 kw_391 rfl rfl (Nat.le_of_ble_eq_true rfl) ⟨by decide, by decide⟩ hc dX11_ends_8 (fun H locs hH hS => W.eq (g2 := F0 m 11 ls [.int q_3.1]) rfl ?_)
  refine lv_if_ne (tgt := 46) hx hb dX11_ends_11 (by decide) (fun c_4 => ?_) (fun c_4 => ?_)
  · replace hF := itf c_4 hF
    refine lv_iconst (v := (-1 : Int32)) hx hb dX11_ends_46 (by decide) ?_
    have hF := Option.some.inj hF
    subst hF
    exact m_iret X hr hlk hH hS dX11_ends_47
  · replace hF := itt c_4 hF
    refine lv_iload_n hx hb dX11_ends_14 rfl (lv_at hl 2 rfl) ?_
    refine lv_aload_n hx hb dX11_ends_15 rfl (lv_at hl 0 rfl) ?_
    obtain ⟨r_5, e_5, hF⟩ := bnd hF
    refine m_gR X hH e_5 gg_X11_80 dX11_ends_16 ?_
    obtain ⟨x_6, e_6, hF⟩ := bnd hF
    refine m_hI X hH e_6 gg_X11_136 dX11_ends_19 ?_
    obtain ⟨q_7, e_7, hF⟩ := bnd hF
    refine m_callS (As := [.int v2, .int x_6]) (rest := []) X hH hS hl.1 (k_X11_outside l D cI cT cII base v2 x_6 q_3.2 q_7 e_7) q_X11_outside kw_511 kw_391 rfl rfl (Nat.le_of_ble_eq_true rfl) ⟨by decide, by decide⟩ hc dX11_ends_22 (fun H locs hH hS => W.eq (g2 := F0 m 25 ls [.int q_7.1]) rfl ?_)
    refine lv_if_ne (tgt := 46) hx hb dX11_ends_25 (by decide) (fun c_8 => ?_) (fun c_8 => ?_)
    · replace hF := itf c_8 hF
      refine lv_iconst (v := (-1 : Int32)) hx hb dX11_ends_46 (by decide) ?_
      have hF := Option.some.inj hF
      subst hF
      exact m_iret X hr hlk hH hS dX11_ends_47
    · replace hF := itt c_8 hF
      refine lv_iload_n hx hb dX11_ends_28 rfl (lv_at hl 3 rfl) ?_
      refine lv_bipush (v := (41 : Int32)) hx hb dX11_ends_29 (by decide) ?_
      obtain ⟨q_9, e_9, hF⟩ := bnd hF
      refine m_callS (As := [.int v3, .int (41 : Int32)]) (rest := []) X hH hS hl.1 (k_X11_outside l D cI cT cII base v3 (41 : Int32) q_7.2 q_9 e_9) q_X11_outside kw_511 kw_391 rfl rfl (Nat.le_of_ble_eq_true rfl) ⟨by decide, by decide⟩ hc dX11_ends_31 (fun H locs hH hS => W.eq (g2 := F0 m 34 ls [.int q_9.1]) rfl ?_)
      refine lv_if_ne (tgt := 46) hx hb dX11_ends_34 (by decide) (fun c_10 => ?_) (fun c_10 => ?_)
      · replace hF := itf c_10 hF
        refine lv_iconst (v := (-1 : Int32)) hx hb dX11_ends_46 (by decide) ?_
        have hF := Option.some.inj hF
        subst hF
        exact m_iret X hr hlk hH hS dX11_ends_47
      · replace hF := itt c_10 hF
        refine lv_iload hx hb dX11_ends_37 (lv_at hl 4 rfl) ?_
        refine lv_iconst (v := (2 : Int32)) hx hb dX11_ends_39 (by decide) ?_
        obtain ⟨q_11, e_11, hF⟩ := bnd hF
        refine m_callS (As := [.int v4, .int (2 : Int32)]) (rest := []) X hH hS hl.1 (k_X11_outside l D cI cT cII base v4 (2 : Int32) q_9.2 q_11 e_11) q_X11_outside kw_511 kw_391 rfl rfl (Nat.le_of_ble_eq_true rfl) ⟨by decide, by decide⟩ hc dX11_ends_40 (fun H locs hH hS => W.eq (g2 := F0 m 43 ls [.int q_11.1]) rfl ?_)
        refine lv_if_eq (tgt := 48) hx hb dX11_ends_43 (by decide) (fun c_12 => ?_) (fun c_12 => ?_)
        · replace hF := itt c_12 hF
          refine lv_iload_n hx hb dX11_ends_48 rfl (lv_at hl 3 rfl) ?_
          refine lv_bipush (v := (20 : Int32)) hx hb dX11_ends_49 (by decide) ?_
          refine lv_isub hx hb dX11_ends_51 ?_
          refine lv_istore (lv' := [(5, .int (v3 - (20 : Int32))), (0, .ref (base + p0)), (1, .int v1), (2, .int v2), (3, .int v3), (4, .int v4)]) hx hb dX11_ends_52 hl (by decide) rfl (fun ls hl => ?_)
          refine lv_iconst (v := (0 : Int32)) hx hb dX11_ends_54 (by decide) ?_
          refine lv_istore (lv' := [(6, .int (0 : Int32)), (5, .int (v3 - (20 : Int32))), (0, .ref (base + p0)), (1, .int v1), (2, .int v2), (3, .int v3), (4, .int v4)]) hx hb dX11_ends_55 hl (by decide) rfl (fun ls hl => ?_)
          refine l_X11_ends_57 X hc p0 v1 v2 v4 _ _ res ?_ ?_ FV (v3 - (20 : Int32)) (0 : Int32) q_11.2 hF H locs ls hH hS (lv_sub hl [2, 3, 4, 6, 1, 0] rfl)
          · intro v5_37 v6_38 w_36 hF H locs ls hH hS hl
            refine lv_iload hx hb dX11_ends_94 (lv_at hl 0 rfl) ?_
            refine lv_if_ne (tgt := 107) hx hb dX11_ends_96 (by decide) (fun c_39 => ?_) (fun c_39 => ?_)
            · replace hF := itf c_39 hF
              refine lv_iload hx hb dX11_ends_107 (lv_at hl 2 rfl) ?_
              have hF := Option.some.inj hF
              subst hF
              exact m_iret X hr hlk hH hS dX11_ends_109
            · replace hF := itt c_39 hF
              refine lv_iload hx hb dX11_ends_99 (lv_at hl 1 rfl) ?_
              refine lv_bipush (v := (40 : Int32)) hx hb dX11_ends_101 (by decide) ?_
              refine lv_iadd hx hb dX11_ends_103 ?_
              refine lv_goto (tgt := 109) hx hb dX11_ends_104 (by decide) ?_
              have hF := Option.some.inj hF
              subst hF
              exact m_iret X hr hlk hH hS dX11_ends_109
          · intro  w_40 hF H locs ls hH hS hl
            refine lv_bipush (v := (-4 : Int32)) hx hb dX11_ends_139 (by decide) ?_
            have hF := Option.some.inj hF
            subst hF
            exact m_iret X hr hlk hH hS dX11_ends_141
        · replace hF := itf c_12 hF
          refine lv_iconst (v := (-1 : Int32)) hx hb dX11_ends_46 (by decide) ?_
          have hF := Option.some.inj hF
          subst hF
          exact m_iret X hr hlk hH hS dX11_ends_47
noncomputable def fX4_empty (p0 : Nat) (w : Wd) : Option (Unit × Wd) := (pfI 3 4 p0 (0 : Int32) w).bind fun w_1 => (pfI 3 7 p0 (0 : Int32) w_1).bind fun w_2 => (pfI 3 11 p0 (0 : Int32) w_2).bind fun w_3 => (gfR 3 12 p0 w_3).bind fun r_4 => (pfI 9 3 r_4 (0 : Int32) w_3).bind fun w_5 => some ((), w_5)
set_option maxHeartbeats 4000000 in
set_option maxRecDepth 100000 in
theorem k_X4_empty (l : Launch) (D : va_G) (cI cT cII : ClassId) (base : Nat) (p0 : Nat) (w : Wd) (res : Unit × Wd) (hF : fX4_empty p0 w = some res) : Ct l yX4_empty cX4_empty 1 none { frames := 0, cells := 0, slots := 0, locals := 0 } D cI cT cII base [.ref (base + p0)] w res.2 none 0 0 := by
  unfold fX4_empty at hF
  refine m_enter (by decide) (Nat.le_of_ble_eq_true rfl) ?_
  intro p e s m below meth c ls X hr hlk hnm hH hS hl
  have hx := X.1
  have hb := X.2.1
  have hc : (0 : Nat) ≤ ({ frames := 0, cells := 0, slots := 0, locals := 0 } : Room).cells ∧ (0 : Nat) ≤ ({ frames := 0, cells := 0, slots := 0, locals := 0 } : Room).slots := ⟨Nat.zero_le _, Nat.zero_le _⟩
  obtain ⟨H, hHe⟩ : ∃ H : Heap, H = s.heap := ⟨_, rfl⟩
  obtain ⟨locs, hle⟩ : ∃ L : List Loc, L = [] := ⟨_, rfl⟩
  have hl : lv_has ls 1 [(0, .ref (base + p0))] := hl
  rw [← hHe] at hH
  have hS : va_S (fun q => base ≤ q) s.heap H locs := by rw [hHe, hle]; exact hS
  rw [← hle]
  show W p l e _ s m _ below meth c s.heap locs 0 0 _ _
  rw [← hHe]
  refine lv_aload_n hx hb dX4_empty_0 rfl (lv_at hl 0 rfl) ?_
  refine lv_iconst (v := (0 : Int32)) hx hb dX4_empty_1 (by decide) ?_
  obtain ⟨w_1, e_1, hF⟩ := bnd hF
  refine m_pI X hH hS e_1 gp_X4_46 rfl rfl dX4_empty_2 (fun H locs hH hS => ?_)
  refine lv_aload_n hx hb dX4_empty_5 rfl (lv_at hl 0 rfl) ?_
  refine lv_iconst (v := (0 : Int32)) hx hb dX4_empty_6 (by decide) ?_
  obtain ⟨w_2, e_2, hF⟩ := bnd hF
  refine m_pI X hH hS e_2 gp_X4_50 rfl rfl dX4_empty_7 (fun H locs hH hS => ?_)
  refine lv_aload_n hx hb dX4_empty_10 rfl (lv_at hl 0 rfl) ?_
  refine lv_iconst (v := (0 : Int32)) hx hb dX4_empty_11 (by decide) ?_
  obtain ⟨w_3, e_3, hF⟩ := bnd hF
  refine m_pI X hH hS e_3 gp_X4_53 rfl rfl dX4_empty_12 (fun H locs hH hS => ?_)
  refine lv_aload_n hx hb dX4_empty_15 rfl (lv_at hl 0 rfl) ?_
  obtain ⟨r_4, e_4, hF⟩ := bnd hF
  refine m_gR X hH e_4 gg_X4_42 dX4_empty_16 ?_
  refine lv_iconst (v := (0 : Int32)) hx hb dX4_empty_19 (by decide) ?_
  obtain ⟨w_5, e_5, hF⟩ := bnd hF
  refine m_qI X hH hS e_5 gp_X4_56 rfl rfl dX4_empty_20 (fun H locs hH hS => ?_)
  have hF := Option.some.inj hF
  subst hF
  exact m_vret X hr hlk hH hS dX4_empty_23
noncomputable def fX9_letterAt (p0 : Nat) (v1 : Int32) (w : Wd) : Option (Int32 × Wd) := (gfI 8 1 p0 w).bind fun x_1 => (fX11_outside v1 x_1 w).bind fun q_2 => if q_2.1 = 0 then (gfR 8 0 p0 q_2.2).bind fun r_4 => (rdI r_4 v1 q_2.2).bind fun x_5 => some (x_5, q_2.2) else some ((-4 : Int32), q_2.2)
set_option maxHeartbeats 4000000 in
set_option maxRecDepth 100000 in
theorem k_X9_letterAt (l : Launch) (D : va_G) (cI cT cII : ClassId) (base : Nat) (p0 : Nat) (v1 : Int32) (w : Wd) (res : Int32 × Wd) (hF : fX9_letterAt p0 v1 w = some res) : Ct l yX9_letterAt cX9_letterAt 2 (some .int) { frames := 1, cells := 0, slots := 0, locals := 21 } D cI cT cII base [.ref (base + p0), .int v1] w res.2 (some (.int res.1)) 0 0 := by
  unfold fX9_letterAt at hF
  refine m_enter (by decide) (Nat.le_of_ble_eq_true rfl) ?_
  intro p e s m below meth c ls X hr hlk hnm hH hS hl
  have hx := X.1
  have hb := X.2.1
  have hc : (0 : Nat) ≤ ({ frames := 1, cells := 0, slots := 0, locals := 21 } : Room).cells ∧ (0 : Nat) ≤ ({ frames := 1, cells := 0, slots := 0, locals := 21 } : Room).slots := ⟨Nat.zero_le _, Nat.zero_le _⟩
  obtain ⟨H, hHe⟩ : ∃ H : Heap, H = s.heap := ⟨_, rfl⟩
  obtain ⟨locs, hle⟩ : ∃ L : List Loc, L = [] := ⟨_, rfl⟩
  have hl : lv_has ls 2 [(0, .ref (base + p0)), (1, .int v1)] := hl
  rw [← hHe] at hH
  have hS : va_S (fun q => base ≤ q) s.heap H locs := by rw [hHe, hle]; exact hS
  rw [← hle]
  show W p l e _ s m _ below meth c s.heap locs 0 0 _ _
  rw [← hHe]
  refine lv_iload_n hx hb dX9_letterAt_0 rfl (lv_at hl 1 rfl) ?_
  refine lv_aload_n hx hb dX9_letterAt_1 rfl (lv_at hl 0 rfl) ?_
  obtain ⟨x_1, e_1, hF⟩ := bnd hF
  refine m_gI X hH e_1 gg_X9_15 dX9_letterAt_2 ?_
  obtain ⟨q_2, e_2, hF⟩ := bnd hF
  refine m_callSN (As := [.int v1, .int x_1]) (rest := []) X hH hS hl.1 (k_X11_outside l D cI cT cII base v1 x_1 w q_2 e_2) q_X11_outside kw_390 kw_391 rfl rfl (Nat.le_of_ble_eq_true rfl) ⟨by decide, by decide⟩ hc dX9_letterAt_5 (fun H locs hH hS => W.eq (g2 := F0 m 8 ls [.int q_2.1]) rfl ?_)
  refine lv_if_eq (tgt := 16) hx hb dX9_letterAt_8 (by decide) (fun c_3 => ?_) (fun c_3 => ?_)
  · replace hF := itt c_3 hF
    refine lv_aload_n hx hb dX9_letterAt_16 rfl (lv_at hl 0 rfl) ?_
    obtain ⟨r_4, e_4, hF⟩ := bnd hF
    refine m_gR X hH e_4 gg_X9_9 dX9_letterAt_17 ?_
    refine lv_iload_n hx hb dX9_letterAt_20 rfl (lv_at hl 1 rfl) ?_
    obtain ⟨x_5, e_5, hF⟩ := bnd hF
    refine m_rdI X hH e_5 dX9_letterAt_21 ?_
    have hF := Option.some.inj hF
    subst hF
    exact m_iret X hr hlk hH hS dX9_letterAt_22
  · replace hF := itf c_3 hF
    refine lv_bipush (v := (-4 : Int32)) hx hb dX9_letterAt_11 (by decide) ?_
    refine lv_goto (tgt := 22) hx hb dX9_letterAt_13 (by decide) ?_
    have hF := Option.some.inj hF
    subst hF
    exact m_iret X hr hlk hH hS dX9_letterAt_22
noncomputable def fX6_numbersBehind (v0 : Int32) (w : Wd) : Option (Int32 × Wd) := if v0 = (99 : Int32) then some ((2 : Int32), w) else if v0 = (102 : Int32) then some ((2 : Int32), w) else if v0 = (110 : Int32) then some ((3 : Int32), w) else if v0 = (112 : Int32) then some ((2 : Int32), w) else if v0 = (116 : Int32) then some ((2 : Int32), w) else if v0 = (119 : Int32) then some ((3 : Int32), w) else some ((0 : Int32), w)
set_option maxHeartbeats 4000000 in
set_option maxRecDepth 100000 in
theorem k_X6_numbersBehind (l : Launch) (D : va_G) (cI cT cII : ClassId) (base : Nat) (v0 : Int32) (w : Wd) (res : Int32 × Wd) (hF : fX6_numbersBehind v0 w = some res) : Ct l yX6_numbersBehind cX6_numbersBehind 1 (some .int) { frames := 0, cells := 0, slots := 0, locals := 0 } D cI cT cII base [.int v0] w res.2 (some (.int res.1)) 0 0 := by
  unfold fX6_numbersBehind at hF
  refine m_enter (by decide) (Nat.le_of_ble_eq_true rfl) ?_
  intro p e s m below meth c ls X hr hlk hnm hH hS hl
  have hx := X.1
  have hb := X.2.1
  have hc : (0 : Nat) ≤ ({ frames := 0, cells := 0, slots := 0, locals := 0 } : Room).cells ∧ (0 : Nat) ≤ ({ frames := 0, cells := 0, slots := 0, locals := 0 } : Room).slots := ⟨Nat.zero_le _, Nat.zero_le _⟩
  obtain ⟨H, hHe⟩ : ∃ H : Heap, H = s.heap := ⟨_, rfl⟩
  obtain ⟨locs, hle⟩ : ∃ L : List Loc, L = [] := ⟨_, rfl⟩
  have hl : lv_has ls 1 [(0, .int v0)] := hl
  rw [← hHe] at hH
  have hS : va_S (fun q => base ≤ q) s.heap H locs := by rw [hHe, hle]; exact hS
  rw [← hle]
  show W p l e _ s m _ below meth c s.heap locs 0 0 _ _
  rw [← hHe]
  refine lv_iload_n hx hb dX6_numbersBehind_0 rfl (lv_at hl 0 rfl) ?_
  by_cases c_1 : v0 = (99 : Int32)
  · replace hF := itt c_1 hF
    refine lv_lookup (off := 59) (tgt := 60) hx hb dX6_numbersBehind_1 (by decide) (by rw [c_1]; decide) (by decide) ?_
    refine lv_iconst (v := (2 : Int32)) hx hb dX6_numbersBehind_60 (by decide) ?_
    have hF := Option.some.inj hF
    subst hF
    exact m_iret X hr hlk hH hS dX6_numbersBehind_61
  · replace hF := itf c_1 hF
    by_cases c_2 : v0 = (102 : Int32)
    · replace hF := itt c_2 hF
      refine lv_lookup (off := 59) (tgt := 60) hx hb dX6_numbersBehind_1 (by decide) (by rw [c_2]; decide) (by decide) ?_
      refine lv_iconst (v := (2 : Int32)) hx hb dX6_numbersBehind_60 (by decide) ?_
      have hF := Option.some.inj hF
      subst hF
      exact m_iret X hr hlk hH hS dX6_numbersBehind_61
    · replace hF := itf c_2 hF
      by_cases c_3 : v0 = (110 : Int32)
      · replace hF := itt c_3 hF
        refine lv_lookup (off := 61) (tgt := 62) hx hb dX6_numbersBehind_1 (by decide) (by rw [c_3]; decide) (by decide) ?_
        refine lv_iconst (v := (3 : Int32)) hx hb dX6_numbersBehind_62 (by decide) ?_
        have hF := Option.some.inj hF
        subst hF
        exact m_iret X hr hlk hH hS dX6_numbersBehind_63
      · replace hF := itf c_3 hF
        by_cases c_4 : v0 = (112 : Int32)
        · replace hF := itt c_4 hF
          refine lv_lookup (off := 59) (tgt := 60) hx hb dX6_numbersBehind_1 (by decide) (by rw [c_4]; decide) (by decide) ?_
          refine lv_iconst (v := (2 : Int32)) hx hb dX6_numbersBehind_60 (by decide) ?_
          have hF := Option.some.inj hF
          subst hF
          exact m_iret X hr hlk hH hS dX6_numbersBehind_61
        · replace hF := itf c_4 hF
          by_cases c_5 : v0 = (116 : Int32)
          · replace hF := itt c_5 hF
            refine lv_lookup (off := 59) (tgt := 60) hx hb dX6_numbersBehind_1 (by decide) (by rw [c_5]; decide) (by decide) ?_
            refine lv_iconst (v := (2 : Int32)) hx hb dX6_numbersBehind_60 (by decide) ?_
            have hF := Option.some.inj hF
            subst hF
            exact m_iret X hr hlk hH hS dX6_numbersBehind_61
          · replace hF := itf c_5 hF
            by_cases c_6 : v0 = (119 : Int32)
            · replace hF := itt c_6 hF
              refine lv_lookup (off := 61) (tgt := 62) hx hb dX6_numbersBehind_1 (by decide) (by rw [c_6]; decide) (by decide) ?_
              refine lv_iconst (v := (3 : Int32)) hx hb dX6_numbersBehind_62 (by decide) ?_
              have hF := Option.some.inj hF
              subst hF
              exact m_iret X hr hlk hH hS dX6_numbersBehind_63
            · replace hF := itf c_6 hF
              refine lv_lookup (off := 63) (tgt := 64) hx hb dX6_numbersBehind_1 (by decide) (by show Op.lookupswitch.offset [(99, 59), (102, 59), (110, 61), (112, 59), (116, 59), (119, 61)] 63 _ = _; rw [lv_osw c_1 (by decide), lv_osw c_2 (by decide), lv_osw c_3 (by decide), lv_osw c_4 (by decide), lv_osw c_5 (by decide), lv_osw c_6 (by decide)]; rfl) (by decide) ?_
              refine lv_iconst (v := (0 : Int32)) hx hb dX6_numbersBehind_64 (by decide) ?_
              have hF := Option.some.inj hF
              subst hF
              exact m_iret X hr hlk hH hS dX6_numbersBehind_65
noncomputable def fX6_figureAt (p0 : Nat) (v1 : Int32) (w : Wd) : Option (Int32 × Wd) := (isO 8 p0 w).bind fun u_1 => (fX9_letterAt p0 v1 w).bind fun q_2 => if q_2.1 < (48 : Int32) then some ((-4 : Int32), q_2.2) else if (57 : Int32) < q_2.1 then some ((-4 : Int32), q_2.2) else some (q_2.1 - (48 : Int32), q_2.2)
set_option maxHeartbeats 4000000 in
set_option maxRecDepth 100000 in
theorem k_X6_figureAt (l : Launch) (D : va_G) (cI cT cII : ClassId) (base : Nat) (p0 : Nat) (v1 : Int32) (w : Wd) (res : Int32 × Wd) (hF : fX6_figureAt p0 v1 w = some res) : Ct l yX6_figureAt cX6_figureAt 3 (some .int) { frames := 2, cells := 0, slots := 0, locals := 42 } D cI cT cII base [.ref (base + p0), .int v1] w res.2 (some (.int res.1)) 0 0 := by
  unfold fX6_figureAt at hF
  refine m_enter (by decide) (Nat.le_of_ble_eq_true rfl) ?_
  intro p e s m below meth c ls X hr hlk hnm hH hS hl
  have hx := X.1
  have hb := X.2.1
  have hc : (0 : Nat) ≤ ({ frames := 2, cells := 0, slots := 0, locals := 42 } : Room).cells ∧ (0 : Nat) ≤ ({ frames := 2, cells := 0, slots := 0, locals := 42 } : Room).slots := ⟨Nat.zero_le _, Nat.zero_le _⟩
  obtain ⟨H, hHe⟩ : ∃ H : Heap, H = s.heap := ⟨_, rfl⟩
  obtain ⟨locs, hle⟩ : ∃ L : List Loc, L = [] := ⟨_, rfl⟩
  have hl : lv_has ls 3 [(0, .ref (base + p0)), (1, .int v1)] := hl
  rw [← hHe] at hH
  have hS : va_S (fun q => base ≤ q) s.heap H locs := by rw [hHe, hle]; exact hS
  rw [← hle]
  show W p l e _ s m _ below meth c s.heap locs 0 0 _ _
  rw [← hHe]
  refine lv_aload_n hx hb dX6_figureAt_0 rfl (lv_at hl 0 rfl) ?_
  refine lv_iload_n hx hb dX6_figureAt_1 rfl (lv_at hl 1 rfl) ?_
  obtain ⟨u_1, ou_1, hF⟩ := bnd hF
  obtain ⟨q_2, e_2, hF⟩ := bnd hF
  refine m_callV (As := [.int v1]) (rest := []) X hH hS hl.1 ou_1 rfl (by decide) (k_X9_letterAt l D cI cT cII base p0 v1 w q_2 e_2) q_X9_letterAt kw_386 kw_387 kw_388 rfl rfl (Nat.le_of_ble_eq_true rfl) ⟨by decide, by decide⟩ hc dX6_figureAt_2 (fun H locs hH hS => W.eq (g2 := F0 m 5 ls [.int q_2.1]) rfl ?_)
  refine lv_istore_n (lv' := [(2, .int q_2.1), (0, .ref (base + p0)), (1, .int v1)]) hx hb dX6_figureAt_5 rfl hl (by decide) rfl (fun ls hl => ?_)
  refine lv_iload_n hx hb dX6_figureAt_6 rfl (lv_at hl 0 rfl) ?_
  refine lv_bipush (v := (48 : Int32)) hx hb dX6_figureAt_7 (by decide) ?_
  refine lv_icmp_lt (tgt := 25) hx hb dX6_figureAt_9 (by decide) (fun c_3 => ?_) (fun c_3 => ?_)
  · replace hF := itt c_3 hF
    refine lv_bipush (v := (-4 : Int32)) hx hb dX6_figureAt_25 (by decide) ?_
    have hF := Option.some.inj hF
    subst hF
    exact m_iret X hr hlk hH hS dX6_figureAt_27
  · replace hF := itf c_3 hF
    refine lv_iload_n hx hb dX6_figureAt_12 rfl (lv_at hl 0 rfl) ?_
    refine lv_bipush (v := (57 : Int32)) hx hb dX6_figureAt_13 (by decide) ?_
    refine lv_icmp_gt (tgt := 25) hx hb dX6_figureAt_15 (by decide) (fun c_4 => ?_) (fun c_4 => ?_)
    · replace hF := itt c_4 hF
      refine lv_bipush (v := (-4 : Int32)) hx hb dX6_figureAt_25 (by decide) ?_
      have hF := Option.some.inj hF
      subst hF
      exact m_iret X hr hlk hH hS dX6_figureAt_27
    · replace hF := itf c_4 hF
      refine lv_iload_n hx hb dX6_figureAt_18 rfl (lv_at hl 0 rfl) ?_
      refine lv_bipush (v := (48 : Int32)) hx hb dX6_figureAt_19 (by decide) ?_
      refine lv_isub hx hb dX6_figureAt_21 ?_
      refine lv_goto (tgt := 27) hx hb dX6_figureAt_22 (by decide) ?_
      have hF := Option.some.inj hF
      subst hF
      exact m_iret X hr hlk hH hS dX6_figureAt_27
noncomputable def fX6_readNumber (p0 : Nat) (p1 : Nat) (w : Wd) : Option (Int32 × Wd) := (gfI 5 1 p0 w).bind fun x_1 => (fX6_figureAt p1 x_1 w).bind fun q_2 => if q_2.1 = (-4 : Int32) then some ((-4 : Int32), q_2.2) else (gfI 5 1 p0 q_2.2).bind fun x_4 => (pfI 5 1 p0 (x_4 + (1 : Int32)) q_2.2).bind fun w_5 => (gfI 5 1 p0 w_5).bind fun x_6 => (fX6_figureAt p1 x_6 w_5).bind fun q_7 => if q_7.1 = (-4 : Int32) then some (q_2.1, q_7.2) else (gfI 5 1 p0 q_7.2).bind fun x_9 => (pfI 5 1 p0 (x_9 + (1 : Int32)) q_7.2).bind fun w_10 => some (((10 : Int32) * q_2.1) + q_7.1, w_10)
set_option maxHeartbeats 4000000 in
set_option maxRecDepth 100000 in
theorem k_X6_readNumber (l : Launch) (D : va_G) (cI cT cII : ClassId) (base : Nat) (p0 : Nat) (p1 : Nat) (w : Wd) (res : Int32 × Wd) (hF : fX6_readNumber p0 p1 w = some res) : Ct l yX6_readNumber cX6_readNumber 4 (some .int) { frames := 3, cells := 0, slots := 0, locals := 64 } D cI cT cII base [.ref (base + p0), .ref (base + p1)] w res.2 (some (.int res.1)) 0 0 := by
  unfold fX6_readNumber at hF
  refine m_enter (by decide) (Nat.le_of_ble_eq_true rfl) ?_
  intro p e s m below meth c ls X hr hlk hnm hH hS hl
  have hx := X.1
  have hb := X.2.1
  have hc : (0 : Nat) ≤ ({ frames := 3, cells := 0, slots := 0, locals := 64 } : Room).cells ∧ (0 : Nat) ≤ ({ frames := 3, cells := 0, slots := 0, locals := 64 } : Room).slots := ⟨Nat.zero_le _, Nat.zero_le _⟩
  obtain ⟨H, hHe⟩ : ∃ H : Heap, H = s.heap := ⟨_, rfl⟩
  obtain ⟨locs, hle⟩ : ∃ L : List Loc, L = [] := ⟨_, rfl⟩
  have hl : lv_has ls 4 [(0, .ref (base + p0)), (1, .ref (base + p1))] := hl
  rw [← hHe] at hH
  have hS : va_S (fun q => base ≤ q) s.heap H locs := by rw [hHe, hle]; exact hS
  rw [← hle]
  show W p l e _ s m _ below meth c s.heap locs 0 0 _ _
  rw [← hHe]
  refine lv_aload_n hx hb dX6_readNumber_0 rfl (lv_at hl 1 rfl) ?_
  refine lv_aload_n hx hb dX6_readNumber_1 rfl (lv_at hl 0 rfl) ?_
  obtain ⟨x_1, e_1, hF⟩ := bnd hF
  refine m_gI X hH e_1 gg_X6_20 dX6_readNumber_2 ?_
  obtain ⟨q_2, e_2, hF⟩ := bnd hF
  refine m_callS (As := [.ref (base + p1), .int x_1]) (rest := []) X hH hS hl.1 (k_X6_figureAt l D cI cT cII base p1 x_1 w q_2 e_2) q_X6_figureAt kw_400 kw_401 rfl rfl (Nat.le_of_ble_eq_true rfl) ⟨by decide, by decide⟩ hc dX6_readNumber_5 (fun H locs hH hS => W.eq (g2 := F0 m 8 ls [.int q_2.1]) rfl ?_)
  refine lv_istore_n (lv' := [(2, .int q_2.1), (0, .ref (base + p0)), (1, .ref (base + p1))]) hx hb dX6_readNumber_8 rfl hl (by decide) rfl (fun ls hl => ?_)
  refine lv_iload_n hx hb dX6_readNumber_9 rfl (lv_at hl 0 rfl) ?_
  refine lv_bipush (v := (-4 : Int32)) hx hb dX6_readNumber_10 (by decide) ?_
  refine lv_icmp_ne (tgt := 18) hx hb dX6_readNumber_12 (by decide) (fun c_3 => ?_) (fun c_3 => ?_)
  · replace hF := itf c_3 hF
    refine lv_aload_n hx hb dX6_readNumber_18 rfl (lv_at hl 1 rfl) ?_
    refine lv_dup hx hb dX6_readNumber_19 rfl ?_
    obtain ⟨x_4, e_4, hF⟩ := bnd hF
    refine m_gI X hH e_4 gg_X6_20 dX6_readNumber_20 ?_
    refine lv_iconst (v := (1 : Int32)) hx hb dX6_readNumber_23 (by decide) ?_
    refine lv_iadd hx hb dX6_readNumber_24 ?_
    obtain ⟨w_5, e_5, hF⟩ := bnd hF
    refine m_pI X hH hS e_5 gp_X6_20 rfl rfl dX6_readNumber_25 (fun H locs hH hS => ?_)
    refine lv_aload_n hx hb dX6_readNumber_28 rfl (lv_at hl 2 rfl) ?_
    refine lv_aload_n hx hb dX6_readNumber_29 rfl (lv_at hl 1 rfl) ?_
    obtain ⟨x_6, e_6, hF⟩ := bnd hF
    refine m_gI X hH e_6 gg_X6_20 dX6_readNumber_30 ?_
    obtain ⟨q_7, e_7, hF⟩ := bnd hF
    refine m_callS (As := [.ref (base + p1), .int x_6]) (rest := []) X hH hS hl.1 (k_X6_figureAt l D cI cT cII base p1 x_6 w_5 q_7 e_7) q_X6_figureAt kw_400 kw_401 rfl rfl (Nat.le_of_ble_eq_true rfl) ⟨by decide, by decide⟩ hc dX6_readNumber_33 (fun H locs hH hS => W.eq (g2 := F0 m 36 ls [.int q_7.1]) rfl ?_)
    refine lv_istore_n (lv' := [(3, .int q_7.1), (2, .int q_2.1), (0, .ref (base + p0)), (1, .ref (base + p1))]) hx hb dX6_readNumber_36 rfl hl (by decide) rfl (fun ls hl => ?_)
    refine lv_iload_n hx hb dX6_readNumber_37 rfl (lv_at hl 0 rfl) ?_
    refine lv_bipush (v := (-4 : Int32)) hx hb dX6_readNumber_38 (by decide) ?_
    refine lv_icmp_ne (tgt := 45) hx hb dX6_readNumber_40 (by decide) (fun c_8 => ?_) (fun c_8 => ?_)
    · replace hF := itf c_8 hF
      refine lv_aload_n hx hb dX6_readNumber_45 rfl (lv_at hl 2 rfl) ?_
      refine lv_dup hx hb dX6_readNumber_46 rfl ?_
      obtain ⟨x_9, e_9, hF⟩ := bnd hF
      refine m_gI X hH e_9 gg_X6_20 dX6_readNumber_47 ?_
      refine lv_iconst (v := (1 : Int32)) hx hb dX6_readNumber_50 (by decide) ?_
      refine lv_iadd hx hb dX6_readNumber_51 ?_
      obtain ⟨w_10, e_10, hF⟩ := bnd hF
      refine m_pI X hH hS e_10 gp_X6_20 rfl rfl dX6_readNumber_52 (fun H locs hH hS => ?_)
      refine lv_bipush (v := (10 : Int32)) hx hb dX6_readNumber_55 (by decide) ?_
      refine lv_iload_n hx hb dX6_readNumber_57 rfl (lv_at hl 1 rfl) ?_
      refine lv_imul hx hb dX6_readNumber_58 ?_
      refine lv_iload_n hx hb dX6_readNumber_59 rfl (lv_at hl 0 rfl) ?_
      refine lv_iadd hx hb dX6_readNumber_60 ?_
      have hF := Option.some.inj hF
      subst hF
      exact m_iret X hr hlk hH hS dX6_readNumber_61
    · replace hF := itt c_8 hF
      refine lv_iload_n hx hb dX6_readNumber_43 rfl (lv_at hl 1 rfl) ?_
      have hF := Option.some.inj hF
      subst hF
      exact m_iret X hr hlk hH hS dX6_readNumber_44
  · replace hF := itt c_3 hF
    refine lv_bipush (v := (-4 : Int32)) hx hb dX6_readNumber_15 (by decide) ?_
    have hF := Option.some.inj hF
    subst hF
    exact m_iret X hr hlk hH hS dX6_readNumber_17
noncomputable def fX6_readItem_24 (p0 : Nat) (p1 : Nat) (v2 : Int32) (K_78 : Wd → Option (Int32 × Wd)) (K_96 : Wd → Option (Int32 × Wd)) : Nat → Int32 → Wd → Option (Int32 × Wd)
  | 0, _, _ => none
  | n + 1, v3, w => if v2 ≤ v3 then K_96  w else if (v2 - (1 : Int32)) ≤ v3 then (gfR 5 0 p0 w).bind fun r_9 => (isO 5 p0 w).bind fun u_10 => (fX6_readNumber p0 p1 w).bind fun q_11 => (wrI r_9 v3 q_11.1 q_11.2).bind fun w_12 => (gfR 5 0 p0 w_12).bind fun r_13 => (rdI r_13 v3 w_12).bind fun x_14 => if x_14 < 0 then K_78  w_12 else (gfI 5 1 p0 w_12).bind fun x_16 => (isO 8 p1 w_12).bind fun u_17 => (fX9_letterAt p1 x_16 w_12).bind fun q_18 => if q_18.1 = (59 : Int32) then (gfI 5 1 p0 q_18.2).bind fun x_20 => (pfI 5 1 p0 (x_20 + (1 : Int32)) q_18.2).bind fun w_21 => fX6_readItem_24 p0 p1 v2 K_78 K_96 n (v3 + (1 : Int32)) w_21 else K_78  q_18.2 else (gfR 5 0 p0 w).bind fun r_22 => (isO 5 p0 w).bind fun u_23 => (fX6_readNumber p0 p1 w).bind fun q_24 => (wrI r_22 v3 q_24.1 q_24.2).bind fun w_25 => (gfR 5 0 p0 w_25).bind fun r_26 => (rdI r_26 v3 w_25).bind fun x_27 => if x_27 < 0 then K_78  w_25 else (gfI 5 1 p0 w_25).bind fun x_29 => (isO 8 p1 w_25).bind fun u_30 => (fX9_letterAt p1 x_29 w_25).bind fun q_31 => if q_31.1 = (44 : Int32) then (gfI 5 1 p0 q_31.2).bind fun x_33 => (pfI 5 1 p0 (x_33 + (1 : Int32)) q_31.2).bind fun w_34 => fX6_readItem_24 p0 p1 v2 K_78 K_96 n (v3 + (1 : Int32)) w_34 else K_78  q_31.2
noncomputable def fX6_readItem (p0 : Nat) (p1 : Nat) (w : Wd) : Option (Int32 × Wd) := (gfI 5 1 p0 w).bind fun x_1 => (isO 8 p1 w).bind fun u_2 => (fX9_letterAt p1 x_1 w).bind fun q_3 => (fX6_numbersBehind q_3.1 q_3.2).bind fun q_4 => (gfI 5 1 p0 q_4.2).bind fun x_5 => (pfI 5 1 p0 (x_5 + (1 : Int32)) q_4.2).bind fun w_6 => fX6_readItem_24 p0 p1 q_4.1 (fun  (w_35 : Wd) => some ((0 : Int32), w_35)) (fun  (w_36 : Wd) => if q_4.1 ≤ 0 then some ((0 : Int32), w_36) else some ((1 : Int32), w_36)) FV (0 : Int32) w_6
set_option maxHeartbeats 4000000 in
set_option maxRecDepth 100000 in
theorem l_X6_readItem_24 (X : Cx p R s m args c cX6_readItem 5 RX6 D cI cT cII 4 87) (hc : cells ≤ R.cells ∧ slots ≤ R.slots) (p0 : Nat) (p1 : Nat) (v2 : Int32) (K_78 : Wd → Option (Int32 × Wd)) (K_96 : Wd → Option (Int32 × Wd)) (res : Int32 × Wd)
    (hK_78 : ∀  (w : Wd), K_78  w = some res → ∀ (H : Heap) (locs : List Loc) (ls : Array Slot), Hd D cI cT cII base w H → va_S (fun q => base ≤ q) s.heap H locs → lv_has ls 5 [] → W p l e R s m args below meth c H locs cells slots Q (F0 m 78 ls []))
    (hK_96 : ∀  (w : Wd), K_96  w = some res → ∀ (H : Heap) (locs : List Loc) (ls : Array Slot), Hd D cI cT cII base w H → va_S (fun q => base ≤ q) s.heap H locs → lv_has ls 5 [(2, .int v2)] → W p l e R s m args below meth c H locs cells slots Q (F0 m 96 ls [])) :
    ∀ (n : Nat) (v3 : Int32) (w : Wd), fX6_readItem_24 p0 p1 v2 K_78 K_96 n v3 w = some res → ∀ (H : Heap) (locs : List Loc) (ls : Array Slot), Hd D cI cT cII base w H → va_S (fun q => base ≤ q) s.heap H locs → lv_has ls 5 [(0, .ref (base + p0)), (1, .ref (base + p1)), (2, .int v2), (3, .int v3)] → W p l e R s m args below meth c H locs cells slots Q (F0 m 24 ls []) := by
  have hx := X.1
  have hb := X.2.1
  intro n
  induction n with
  | zero =>
    intro v3 w hF
    rw [fX6_readItem_24] at hF
    cases hF
  | succ n ih =>
    intro v3 w hF H locs ls hH hS hl
    rw [fX6_readItem_24] at hF
    refine lv_iload_n hx hb dX6_readItem_24 rfl (lv_at hl 3 rfl) ?_
    refine lv_iload_n hx hb dX6_readItem_25 rfl (lv_at hl 2 rfl) ?_
    refine lv_icmp_ge (tgt := 96) hx hb dX6_readItem_26 (by decide) (fun c_7 => ?_) (fun c_7 => ?_)
    · replace hF := itt c_7 hF
      exact hK_96  w hF H locs ls hH hS (lv_sub hl [2] rfl)
    · replace hF := itf c_7 hF
      refine lv_iload_n hx hb dX6_readItem_29 rfl (lv_at hl 3 rfl) ?_
      refine lv_iload_n hx hb dX6_readItem_30 rfl (lv_at hl 2 rfl) ?_
      refine lv_iconst (v := (1 : Int32)) hx hb dX6_readItem_31 (by decide) ?_
      refine lv_isub hx hb dX6_readItem_32 ?_
      refine lv_icmp_ge (tgt := 41) hx hb dX6_readItem_33 (by decide) (fun c_8 => ?_) (fun c_8 => ?_)
      · replace hF := itt c_8 hF
        refine lv_bipush (v := (59 : Int32)) hx hb dX6_readItem_41 (by decide) ?_
        refine lv_istore (lv' := [(4, .int (59 : Int32)), (0, .ref (base + p0)), (1, .ref (base + p1)), (2, .int v2), (3, .int v3)]) hx hb dX6_readItem_43 hl (by decide) rfl (fun ls hl => ?_)
        refine lv_aload_n hx hb dX6_readItem_45 rfl (lv_at hl 1 rfl) ?_
        obtain ⟨r_9, e_9, hF⟩ := bnd hF
        refine m_gR X hH e_9 gg_X6_11 dX6_readItem_46 ?_
        refine lv_iload_n hx hb dX6_readItem_49 rfl (lv_at hl 4 rfl) ?_
        refine lv_aload_n hx hb dX6_readItem_50 rfl (lv_at hl 1 rfl) ?_
        refine lv_aload_n hx hb dX6_readItem_51 rfl (lv_at hl 2 rfl) ?_
        obtain ⟨u_10, ou_10, hF⟩ := bnd hF
        obtain ⟨q_11, e_11, hF⟩ := bnd hF
        refine m_callV (As := [.ref (base + p1)]) (rest := [.int v3, .ref (base + r_9)]) X hH hS hl.1 ou_10 rfl (by decide) (k_X6_readNumber l D cI cT cII base p0 p1 w q_11 e_11) q_X6_readNumber kw_396 kw_398 kw_1 rfl rfl (Nat.le_of_ble_eq_true rfl) ⟨by decide, by decide⟩ hc dX6_readItem_52 (fun H locs hH hS => W.eq (g2 := F0 m 55 ls [.int q_11.1, .int v3, .ref (base + r_9)]) rfl ?_)
        obtain ⟨w_12, e_12, hF⟩ := bnd hF
        refine m_wrI X hH hS e_12 dX6_readItem_55 (fun H locs hH hS => ?_)
        refine lv_aload_n hx hb dX6_readItem_56 rfl (lv_at hl 1 rfl) ?_
        obtain ⟨r_13, e_13, hF⟩ := bnd hF
        refine m_gR X hH e_13 gg_X6_11 dX6_readItem_57 ?_
        refine lv_iload_n hx hb dX6_readItem_60 rfl (lv_at hl 4 rfl) ?_
        obtain ⟨x_14, e_14, hF⟩ := bnd hF
        refine m_rdI X hH e_14 dX6_readItem_61 ?_
        refine lv_if_lt (tgt := 78) hx hb dX6_readItem_62 (by decide) (fun c_15 => ?_) (fun c_15 => ?_)
        · replace hF := itt c_15 hF
          exact hK_78  w_12 hF H locs ls hH hS (lv_sub hl [] rfl)
        · replace hF := itf c_15 hF
          refine lv_aload_n hx hb dX6_readItem_65 rfl (lv_at hl 2 rfl) ?_
          refine lv_aload_n hx hb dX6_readItem_66 rfl (lv_at hl 1 rfl) ?_
          obtain ⟨x_16, e_16, hF⟩ := bnd hF
          refine m_gI X hH e_16 gg_X6_20 dX6_readItem_67 ?_
          obtain ⟨u_17, ou_17, hF⟩ := bnd hF
          obtain ⟨q_18, e_18, hF⟩ := bnd hF
          refine m_callV (As := [.int x_16]) (rest := []) X hH hS hl.1 ou_17 rfl (by decide) (k_X9_letterAt l D cI cT cII base p1 x_16 w_12 q_18 e_18) q_X9_letterAt kw_386 kw_387 kw_388 rfl rfl (Nat.le_of_ble_eq_true rfl) ⟨by decide, by decide⟩ hc dX6_readItem_70 (fun H locs hH hS => W.eq (g2 := F0 m 73 ls [.int q_18.1]) rfl ?_)
          refine lv_iload hx hb dX6_readItem_73 (lv_at hl 0 rfl) ?_
          refine lv_icmp_eq (tgt := 80) hx hb dX6_readItem_75 (by decide) (fun c_19 => ?_) (fun c_19 => ?_)
          · replace hF := itt c_19 hF
            refine lv_aload_n hx hb dX6_readItem_80 rfl (lv_at hl 1 rfl) ?_
            refine lv_dup hx hb dX6_readItem_81 rfl ?_
            obtain ⟨x_20, e_20, hF⟩ := bnd hF
            refine m_gI X hH e_20 gg_X6_20 dX6_readItem_82 ?_
            refine lv_iconst (v := (1 : Int32)) hx hb dX6_readItem_85 (by decide) ?_
            refine lv_iadd hx hb dX6_readItem_86 ?_
            obtain ⟨w_21, e_21, hF⟩ := bnd hF
            refine m_pI X hH hS e_21 gp_X6_20 rfl rfl dX6_readItem_87 (fun H locs hH hS => ?_)
            refine lv_iinc (v := v3 + (1 : Int32)) (lv' := [(3, .int (v3 + (1 : Int32))), (4, .int (59 : Int32)), (0, .ref (base + p0)), (1, .ref (base + p1)), (2, .int v2)]) hx hb dX6_readItem_90 hl (k := 4) rfl (congrArg (fun z => v3 + z) (by decide)) (by decide) rfl (fun ls hl => ?_)
            refine lv_goto (tgt := 24) hx hb dX6_readItem_93 (by decide) ?_
            exact ih (v3 + (1 : Int32)) w_21 hF H locs ls hH hS (lv_sub hl [2, 3, 4, 0] rfl)
          · replace hF := itf c_19 hF
            exact hK_78  q_18.2 hF H locs ls hH hS (lv_sub hl [] rfl)
      · replace hF := itf c_8 hF
        refine lv_bipush (v := (44 : Int32)) hx hb dX6_readItem_36 (by decide) ?_
        refine lv_goto (tgt := 43) hx hb dX6_readItem_38 (by decide) ?_
        refine lv_istore (lv' := [(4, .int (44 : Int32)), (0, .ref (base + p0)), (1, .ref (base + p1)), (2, .int v2), (3, .int v3)]) hx hb dX6_readItem_43 hl (by decide) rfl (fun ls hl => ?_)
        refine lv_aload_n hx hb dX6_readItem_45 rfl (lv_at hl 1 rfl) ?_
        obtain ⟨r_22, e_22, hF⟩ := bnd hF
        refine m_gR X hH e_22 gg_X6_11 dX6_readItem_46 ?_
        refine lv_iload_n hx hb dX6_readItem_49 rfl (lv_at hl 4 rfl) ?_
        refine lv_aload_n hx hb dX6_readItem_50 rfl (lv_at hl 1 rfl) ?_
        refine lv_aload_n hx hb dX6_readItem_51 rfl (lv_at hl 2 rfl) ?_
        obtain ⟨u_23, ou_23, hF⟩ := bnd hF
        obtain ⟨q_24, e_24, hF⟩ := bnd hF
        refine m_callV (As := [.ref (base + p1)]) (rest := [.int v3, .ref (base + r_22)]) X hH hS hl.1 ou_23 rfl (by decide) (k_X6_readNumber l D cI cT cII base p0 p1 w q_24 e_24) q_X6_readNumber kw_396 kw_398 kw_1 rfl rfl (Nat.le_of_ble_eq_true rfl) ⟨by decide, by decide⟩ hc dX6_readItem_52 (fun H locs hH hS => W.eq (g2 := F0 m 55 ls [.int q_24.1, .int v3, .ref (base + r_22)]) rfl ?_)
        obtain ⟨w_25, e_25, hF⟩ := bnd hF
        refine m_wrI X hH hS e_25 dX6_readItem_55 (fun H locs hH hS => ?_)
        refine lv_aload_n hx hb dX6_readItem_56 rfl (lv_at hl 1 rfl) ?_
        obtain ⟨r_26, e_26, hF⟩ := bnd hF
        refine m_gR X hH e_26 gg_X6_11 dX6_readItem_57 ?_
        refine lv_iload_n hx hb dX6_readItem_60 rfl (lv_at hl 4 rfl) ?_
        obtain ⟨x_27, e_27, hF⟩ := bnd hF
        refine m_rdI X hH e_27 dX6_readItem_61 ?_
        refine lv_if_lt (tgt := 78) hx hb dX6_readItem_62 (by decide) (fun c_28 => ?_) (fun c_28 => ?_)
        · replace hF := itt c_28 hF
          exact hK_78  w_25 hF H locs ls hH hS (lv_sub hl [] rfl)
        · replace hF := itf c_28 hF
          refine lv_aload_n hx hb dX6_readItem_65 rfl (lv_at hl 2 rfl) ?_
          refine lv_aload_n hx hb dX6_readItem_66 rfl (lv_at hl 1 rfl) ?_
          obtain ⟨x_29, e_29, hF⟩ := bnd hF
          refine m_gI X hH e_29 gg_X6_20 dX6_readItem_67 ?_
          obtain ⟨u_30, ou_30, hF⟩ := bnd hF
          obtain ⟨q_31, e_31, hF⟩ := bnd hF
          refine m_callV (As := [.int x_29]) (rest := []) X hH hS hl.1 ou_30 rfl (by decide) (k_X9_letterAt l D cI cT cII base p1 x_29 w_25 q_31 e_31) q_X9_letterAt kw_386 kw_387 kw_388 rfl rfl (Nat.le_of_ble_eq_true rfl) ⟨by decide, by decide⟩ hc dX6_readItem_70 (fun H locs hH hS => W.eq (g2 := F0 m 73 ls [.int q_31.1]) rfl ?_)
          refine lv_iload hx hb dX6_readItem_73 (lv_at hl 0 rfl) ?_
          refine lv_icmp_eq (tgt := 80) hx hb dX6_readItem_75 (by decide) (fun c_32 => ?_) (fun c_32 => ?_)
          · replace hF := itt c_32 hF
            refine lv_aload_n hx hb dX6_readItem_80 rfl (lv_at hl 1 rfl) ?_
            refine lv_dup hx hb dX6_readItem_81 rfl ?_
            obtain ⟨x_33, e_33, hF⟩ := bnd hF
            refine m_gI X hH e_33 gg_X6_20 dX6_readItem_82 ?_
            refine lv_iconst (v := (1 : Int32)) hx hb dX6_readItem_85 (by decide) ?_
            refine lv_iadd hx hb dX6_readItem_86 ?_
            obtain ⟨w_34, e_34, hF⟩ := bnd hF
            refine m_pI X hH hS e_34 gp_X6_20 rfl rfl dX6_readItem_87 (fun H locs hH hS => ?_)
            refine lv_iinc (v := v3 + (1 : Int32)) (lv' := [(3, .int (v3 + (1 : Int32))), (4, .int (44 : Int32)), (0, .ref (base + p0)), (1, .ref (base + p1)), (2, .int v2)]) hx hb dX6_readItem_90 hl (k := 4) rfl (congrArg (fun z => v3 + z) (by decide)) (by decide) rfl (fun ls hl => ?_)
            refine lv_goto (tgt := 24) hx hb dX6_readItem_93 (by decide) ?_
            exact ih (v3 + (1 : Int32)) w_34 hF H locs ls hH hS (lv_sub hl [2, 3, 4, 0] rfl)
          · replace hF := itf c_32 hF
            exact hK_78  q_31.2 hF H locs ls hH hS (lv_sub hl [] rfl)
set_option maxHeartbeats 4000000 in
set_option maxRecDepth 100000 in
theorem k_X6_readItem (l : Launch) (D : va_G) (cI cT cII : ClassId) (base : Nat) (p0 : Nat) (p1 : Nat) (w : Wd) (res : Int32 × Wd) (hF : fX6_readItem p0 p1 w = some res) : Ct l yX6_readItem cX6_readItem 5 (some .boolean) { frames := 4, cells := 0, slots := 0, locals := 87 } D cI cT cII base [.ref (base + p0), .ref (base + p1)] w res.2 (some (.int res.1)) 0 0 := by
  unfold fX6_readItem at hF
  refine m_enter (by decide) (Nat.le_of_ble_eq_true rfl) ?_
  intro p e s m below meth c ls X hr hlk hnm hH hS hl
  have hx := X.1
  have hb := X.2.1
  have hc : (0 : Nat) ≤ ({ frames := 4, cells := 0, slots := 0, locals := 87 } : Room).cells ∧ (0 : Nat) ≤ ({ frames := 4, cells := 0, slots := 0, locals := 87 } : Room).slots := ⟨Nat.zero_le _, Nat.zero_le _⟩
  obtain ⟨H, hHe⟩ : ∃ H : Heap, H = s.heap := ⟨_, rfl⟩
  obtain ⟨locs, hle⟩ : ∃ L : List Loc, L = [] := ⟨_, rfl⟩
  have hl : lv_has ls 5 [(0, .ref (base + p0)), (1, .ref (base + p1))] := hl
  rw [← hHe] at hH
  have hS : va_S (fun q => base ≤ q) s.heap H locs := by rw [hHe, hle]; exact hS
  rw [← hle]
  show W p l e _ s m _ below meth c s.heap locs 0 0 _ _
  rw [← hHe]
  refine lv_aload_n hx hb dX6_readItem_0 rfl (lv_at hl 1 rfl) ?_
  refine lv_aload_n hx hb dX6_readItem_1 rfl (lv_at hl 0 rfl) ?_
  obtain ⟨x_1, e_1, hF⟩ := bnd hF
  refine m_gI X hH e_1 gg_X6_20 dX6_readItem_2 ?_
  obtain ⟨u_2, ou_2, hF⟩ := bnd hF
  obtain ⟨q_3, e_3, hF⟩ := bnd hF
  refine m_callV (As := [.int x_1]) (rest := []) X hH hS hl.1 ou_2 rfl (by decide) (k_X9_letterAt l D cI cT cII base p1 x_1 w q_3 e_3) q_X9_letterAt kw_386 kw_387 kw_388 rfl rfl (Nat.le_of_ble_eq_true rfl) ⟨by decide, by decide⟩ hc dX6_readItem_5 (fun H locs hH hS => W.eq (g2 := F0 m 8 ls [.int q_3.1]) rfl ?_)
  obtain ⟨q_4, e_4, hF⟩ := bnd hF
  refine m_callS (As := [.int q_3.1]) (rest := []) X hH hS hl.1 (k_X6_numbersBehind l D cI cT cII base q_3.1 q_3.2 q_4 e_4) q_X6_numbersBehind kw_393 kw_394 rfl rfl (Nat.le_of_ble_eq_true rfl) ⟨by decide, by decide⟩ hc dX6_readItem_8 (fun H locs hH hS => W.eq (g2 := F0 m 11 ls [.int q_4.1]) rfl ?_)
  refine lv_istore_n (lv' := [(2, .int q_4.1), (0, .ref (base + p0)), (1, .ref (base + p1))]) hx hb dX6_readItem_11 rfl hl (by decide) rfl (fun ls hl => ?_)
  refine lv_aload_n hx hb dX6_readItem_12 rfl (lv_at hl 1 rfl) ?_
  refine lv_dup hx hb dX6_readItem_13 rfl ?_
  obtain ⟨x_5, e_5, hF⟩ := bnd hF
  refine m_gI X hH e_5 gg_X6_20 dX6_readItem_14 ?_
  refine lv_iconst (v := (1 : Int32)) hx hb dX6_readItem_17 (by decide) ?_
  refine lv_iadd hx hb dX6_readItem_18 ?_
  obtain ⟨w_6, e_6, hF⟩ := bnd hF
  refine m_pI X hH hS e_6 gp_X6_20 rfl rfl dX6_readItem_19 (fun H locs hH hS => ?_)
  refine lv_iconst (v := (0 : Int32)) hx hb dX6_readItem_22 (by decide) ?_
  refine lv_istore_n (lv' := [(3, .int (0 : Int32)), (2, .int q_4.1), (0, .ref (base + p0)), (1, .ref (base + p1))]) hx hb dX6_readItem_23 rfl hl (by decide) rfl (fun ls hl => ?_)
  refine l_X6_readItem_24 X hc p0 p1 q_4.1 _ _ res ?_ ?_ FV (0 : Int32) w_6 hF H locs ls hH hS (lv_sub hl [2, 3, 1, 0] rfl)
  · intro  w_35 hF H locs ls hH hS hl
    refine lv_iconst (v := (0 : Int32)) hx hb dX6_readItem_78 (by decide) ?_
    have hF := Option.some.inj hF
    subst hF
    exact m_zret (r := (0 : Int32)) X hr hlk (by decide) hH hS dX6_readItem_79
  · intro  w_36 hF H locs ls hH hS hl
    refine lv_iload_n hx hb dX6_readItem_96 rfl (lv_at hl 0 rfl) ?_
    refine lv_if_le (tgt := 104) hx hb dX6_readItem_97 (by decide) (fun c_37 => ?_) (fun c_37 => ?_)
    · replace hF := itt c_37 hF
      refine lv_iconst (v := (0 : Int32)) hx hb dX6_readItem_104 (by decide) ?_
      have hF := Option.some.inj hF
      subst hF
      exact m_zret (r := (0 : Int32)) X hr hlk (by decide) hH hS dX6_readItem_105
    · replace hF := itf c_37 hF
      refine lv_iconst (v := (1 : Int32)) hx hb dX6_readItem_100 (by decide) ?_
      refine lv_goto (tgt := 105) hx hb dX6_readItem_101 (by decide) ?_
      have hF := Option.some.inj hF
      subst hF
      exact m_zret (r := (1 : Int32)) X hr hlk (by decide) hH hS dX6_readItem_105
noncomputable def fX4_takeFrame (p0 : Nat) (v1 : Int32) (v2 : Int32) (w : Wd) : Option (Int32 × Wd) := (gfI 3 4 p0 w).bind fun x_1 => if (7 : Int32) ≤ x_1 then some ((0 : Int32), w) else (fX11_outside v1 (4 : Int32) w).bind fun q_3 => if q_3.1 = 0 then (fX11_outside v2 (41 : Int32) q_3.2).bind fun q_5 => if q_5.1 = 0 then (gfR 3 0 p0 q_5.2).bind fun r_7 => (gfI 3 4 p0 q_5.2).bind fun x_8 => (wrI r_7 x_8 v1 q_5.2).bind fun w_9 => (gfR 3 1 p0 w_9).bind fun r_10 => (gfI 3 4 p0 w_9).bind fun x_11 => (wrI r_10 x_11 (v2 - (20 : Int32)) w_9).bind fun w_12 => (gfR 3 2 p0 w_12).bind fun r_13 => (gfI 3 4 p0 w_12).bind fun x_14 => (wrI r_13 x_14 (0 : Int32) w_12).bind fun w_15 => (gfR 3 3 p0 w_15).bind fun r_16 => (gfI 3 4 p0 w_15).bind fun x_17 => (wrI r_16 x_17 (0 : Int32) w_15).bind fun w_18 => (gfI 3 4 p0 w_18).bind fun x_19 => (pfI 3 4 p0 (x_19 + (1 : Int32)) w_18).bind fun w_20 => some ((1 : Int32), w_20) else some ((0 : Int32), q_5.2) else some ((0 : Int32), q_3.2)
set_option maxHeartbeats 4000000 in
set_option maxRecDepth 100000 in
theorem k_X4_takeFrame (l : Launch) (D : va_G) (cI cT cII : ClassId) (base : Nat) (p0 : Nat) (v1 : Int32) (v2 : Int32) (w : Wd) (res : Int32 × Wd) (hF : fX4_takeFrame p0 v1 v2 w = some res) : Ct l yX4_takeFrame cX4_takeFrame 3 (some .boolean) { frames := 1, cells := 0, slots := 0, locals := 21 } D cI cT cII base [.ref (base + p0), .int v1, .int v2] w res.2 (some (.int res.1)) 0 0 := by
  unfold fX4_takeFrame at hF
  refine m_enter (by decide) (Nat.le_of_ble_eq_true rfl) ?_
  intro p e s m below meth c ls X hr hlk hnm hH hS hl
  have hx := X.1
  have hb := X.2.1
  have hc : (0 : Nat) ≤ ({ frames := 1, cells := 0, slots := 0, locals := 21 } : Room).cells ∧ (0 : Nat) ≤ ({ frames := 1, cells := 0, slots := 0, locals := 21 } : Room).slots := ⟨Nat.zero_le _, Nat.zero_le _⟩
  obtain ⟨H, hHe⟩ : ∃ H : Heap, H = s.heap := ⟨_, rfl⟩
  obtain ⟨locs, hle⟩ : ∃ L : List Loc, L = [] := ⟨_, rfl⟩
  have hl : lv_has ls 3 [(0, .ref (base + p0)), (1, .int v1), (2, .int v2)] := hl
  rw [← hHe] at hH
  have hS : va_S (fun q => base ≤ q) s.heap H locs := by rw [hHe, hle]; exact hS
  rw [← hle]
  show W p l e _ s m _ below meth c s.heap locs 0 0 _ _
  rw [← hHe]
  refine lv_aload_n hx hb dX4_takeFrame_0 rfl (lv_at hl 0 rfl) ?_
  obtain ⟨x_1, e_1, hF⟩ := bnd hF
  refine m_gI X hH e_1 gg_X4_46 dX4_takeFrame_1 ?_
  refine lv_bipush (v := (7 : Int32)) hx hb dX4_takeFrame_4 (by decide) ?_
  refine lv_icmp_ge (tgt := 26) hx hb dX4_takeFrame_6 (by decide) (fun c_2 => ?_) (fun c_2 => ?_)
  · replace hF := itt c_2 hF
    refine lv_iconst (v := (0 : Int32)) hx hb dX4_takeFrame_26 (by decide) ?_
    have hF := Option.some.inj hF
    subst hF
    exact m_zret (r := (0 : Int32)) X hr hlk (by decide) hH hS dX4_takeFrame_27
  · replace hF := itf c_2 hF
    refine lv_iload_n hx hb dX4_takeFrame_9 rfl (lv_at hl 1 rfl) ?_
    refine lv_iconst (v := (4 : Int32)) hx hb dX4_takeFrame_10 (by decide) ?_
    obtain ⟨q_3, e_3, hF⟩ := bnd hF
    refine m_callSN (As := [.int v1, .int (4 : Int32)]) (rest := []) X hH hS hl.1 (k_X11_outside l D cI cT cII base v1 (4 : Int32) w q_3 e_3) q_X11_outside kw_411 kw_391 rfl rfl (Nat.le_of_ble_eq_true rfl) ⟨by decide, by decide⟩ hc dX4_takeFrame_11 (fun H locs hH hS => W.eq (g2 := F0 m 14 ls [.int q_3.1]) rfl ?_)
    refine lv_if_ne (tgt := 26) hx hb dX4_takeFrame_14 (by decide) (fun c_4 => ?_) (fun c_4 => ?_)
    · replace hF := itf c_4 hF
      refine lv_iconst (v := (0 : Int32)) hx hb dX4_takeFrame_26 (by decide) ?_
      have hF := Option.some.inj hF
      subst hF
      exact m_zret (r := (0 : Int32)) X hr hlk (by decide) hH hS dX4_takeFrame_27
    · replace hF := itt c_4 hF
      refine lv_iload_n hx hb dX4_takeFrame_17 rfl (lv_at hl 2 rfl) ?_
      refine lv_bipush (v := (41 : Int32)) hx hb dX4_takeFrame_18 (by decide) ?_
      obtain ⟨q_5, e_5, hF⟩ := bnd hF
      refine m_callSN (As := [.int v2, .int (41 : Int32)]) (rest := []) X hH hS hl.1 (k_X11_outside l D cI cT cII base v2 (41 : Int32) q_3.2 q_5 e_5) q_X11_outside kw_411 kw_391 rfl rfl (Nat.le_of_ble_eq_true rfl) ⟨by decide, by decide⟩ hc dX4_takeFrame_20 (fun H locs hH hS => W.eq (g2 := F0 m 23 ls [.int q_5.1]) rfl ?_)
      refine lv_if_eq (tgt := 28) hx hb dX4_takeFrame_23 (by decide) (fun c_6 => ?_) (fun c_6 => ?_)
      · replace hF := itt c_6 hF
        refine lv_aload_n hx hb dX4_takeFrame_28 rfl (lv_at hl 0 rfl) ?_
        obtain ⟨r_7, e_7, hF⟩ := bnd hF
        refine m_gR X hH e_7 gg_X4_9 dX4_takeFrame_29 ?_
        refine lv_aload_n hx hb dX4_takeFrame_32 rfl (lv_at hl 0 rfl) ?_
        obtain ⟨x_8, e_8, hF⟩ := bnd hF
        refine m_gI X hH e_8 gg_X4_46 dX4_takeFrame_33 ?_
        refine lv_iload_n hx hb dX4_takeFrame_36 rfl (lv_at hl 1 rfl) ?_
        obtain ⟨w_9, e_9, hF⟩ := bnd hF
        refine m_wrI X hH hS e_9 dX4_takeFrame_37 (fun H locs hH hS => ?_)
        refine lv_aload_n hx hb dX4_takeFrame_38 rfl (lv_at hl 0 rfl) ?_
        obtain ⟨r_10, e_10, hF⟩ := bnd hF
        refine m_gR X hH e_10 gg_X4_15 dX4_takeFrame_39 ?_
        refine lv_aload_n hx hb dX4_takeFrame_42 rfl (lv_at hl 0 rfl) ?_
        obtain ⟨x_11, e_11, hF⟩ := bnd hF
        refine m_gI X hH e_11 gg_X4_46 dX4_takeFrame_43 ?_
        refine lv_iload_n hx hb dX4_takeFrame_46 rfl (lv_at hl 2 rfl) ?_
        refine lv_bipush (v := (20 : Int32)) hx hb dX4_takeFrame_47 (by decide) ?_
        refine lv_isub hx hb dX4_takeFrame_49 ?_
        obtain ⟨w_12, e_12, hF⟩ := bnd hF
        refine m_wrI X hH hS e_12 dX4_takeFrame_50 (fun H locs hH hS => ?_)
        refine lv_aload_n hx hb dX4_takeFrame_51 rfl (lv_at hl 0 rfl) ?_
        obtain ⟨r_13, e_13, hF⟩ := bnd hF
        refine m_gR X hH e_13 gg_X4_18 dX4_takeFrame_52 ?_
        refine lv_aload_n hx hb dX4_takeFrame_55 rfl (lv_at hl 0 rfl) ?_
        obtain ⟨x_14, e_14, hF⟩ := bnd hF
        refine m_gI X hH e_14 gg_X4_46 dX4_takeFrame_56 ?_
        refine lv_iconst (v := (0 : Int32)) hx hb dX4_takeFrame_59 (by decide) ?_
        obtain ⟨w_15, e_15, hF⟩ := bnd hF
        refine m_wrI X hH hS e_15 dX4_takeFrame_60 (fun H locs hH hS => ?_)
        refine lv_aload_n hx hb dX4_takeFrame_61 rfl (lv_at hl 0 rfl) ?_
        obtain ⟨r_16, e_16, hF⟩ := bnd hF
        refine m_gR X hH e_16 gg_X4_21 dX4_takeFrame_62 ?_
        refine lv_aload_n hx hb dX4_takeFrame_65 rfl (lv_at hl 0 rfl) ?_
        obtain ⟨x_17, e_17, hF⟩ := bnd hF
        refine m_gI X hH e_17 gg_X4_46 dX4_takeFrame_66 ?_
        refine lv_iconst (v := (0 : Int32)) hx hb dX4_takeFrame_69 (by decide) ?_
        obtain ⟨w_18, e_18, hF⟩ := bnd hF
        refine m_wrI X hH hS e_18 dX4_takeFrame_70 (fun H locs hH hS => ?_)
        refine lv_aload_n hx hb dX4_takeFrame_71 rfl (lv_at hl 0 rfl) ?_
        refine lv_dup hx hb dX4_takeFrame_72 rfl ?_
        obtain ⟨x_19, e_19, hF⟩ := bnd hF
        refine m_gI X hH e_19 gg_X4_46 dX4_takeFrame_73 ?_
        refine lv_iconst (v := (1 : Int32)) hx hb dX4_takeFrame_76 (by decide) ?_
        refine lv_iadd hx hb dX4_takeFrame_77 ?_
        obtain ⟨w_20, e_20, hF⟩ := bnd hF
        refine m_pI X hH hS e_20 gp_X4_46 rfl rfl dX4_takeFrame_78 (fun H locs hH hS => ?_)
        refine lv_iconst (v := (1 : Int32)) hx hb dX4_takeFrame_81 (by decide) ?_
        have hF := Option.some.inj hF
        subst hF
        exact m_zret (r := (1 : Int32)) X hr hlk (by decide) hH hS dX4_takeFrame_82
      · replace hF := itf c_6 hF
        refine lv_iconst (v := (0 : Int32)) hx hb dX4_takeFrame_26 (by decide) ?_
        have hF := Option.some.inj hF
        subst hF
        exact m_zret (r := (0 : Int32)) X hr hlk (by decide) hH hS dX4_takeFrame_27
end M01
