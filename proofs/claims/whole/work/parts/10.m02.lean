section M02
variable {p : Program} {l : Launch} {e : Env} {R : Room} {s : State} {m : MethodId} {args : Array Value} {below : List Frame} {meth : Method} {c : Code} {cells slots : Nat} {Q : State → Prop} {D : va_G} {cI cT cII : ClassId} {base : Nat}
noncomputable def fX4_takeWire (p0 : Nat) (v1 : Int32) (v2 : Int32) (w : Wd) : Option (Int32 × Wd) := (gfI 3 4 p0 w).bind fun x_1 => (fX11_outside v1 x_1 w).bind fun q_2 => if q_2.1 = 0 then (fX11_outside v2 (11 : Int32) q_2.2).bind fun q_4 => if q_4.1 = 0 then (gfR 3 2 p0 q_4.2).bind fun r_6 => (wrI r_6 v1 (v2 - (5 : Int32)) q_4.2).bind fun w_7 => some ((1 : Int32), w_7) else some ((0 : Int32), q_4.2) else some ((0 : Int32), q_2.2)
set_option maxHeartbeats 4000000 in
set_option maxRecDepth 100000 in
theorem k_X4_takeWire (l : Launch) (D : va_G) (cI cT cII : ClassId) (base : Nat) (p0 : Nat) (v1 : Int32) (v2 : Int32) (w : Wd) (res : Int32 × Wd) (hF : fX4_takeWire p0 v1 v2 w = some res) : Ct l yX4_takeWire cX4_takeWire 3 (some .boolean) { frames := 1, cells := 0, slots := 0, locals := 21 } D cI cT cII base [.ref (base + p0), .int v1, .int v2] w res.2 (some (.int res.1)) 0 0 := by
  unfold fX4_takeWire at hF
  refine m_enter (by decide) (Nat.le_of_ble_eq_true rfl) ?_
  intro p e s m below meth c ls X hr hlk hnm hH hS hl
  have hx := X.1
  have hb := X.2.1
  have hc : (0 : Nat) ≤ ({ frames := 1, cells := 0, slots := 0, locals := 21 } : Room).cells ∧ (0 : Nat) ≤ ({ frames := 1, cells := 0, slots := 0, locals := 21 } : Room).slots := ⟨Nat.zero_le _, Nat.zero_le _⟩
  obtain ⟨H, hHe⟩ : ∃ H : Heap, H = s.heap := ⟨_, rfl⟩
  obtain ⟨locs, hle⟩ : ∃ L : List Loc, L = [] := ⟨_, rfl⟩
  have hl : lv_has ls 3 [(0, .ref (base + p0)), (1, .int v1), (2, .int v2)] := hl
  rw [← hHe] at hH
  have hS : va_S (fun q => base ≤ q) s.heap H locs := by rw [hHe, hle]; exact hS
  rw [← hle]
  show W p l e _ s m _ below meth c s.heap locs 0 0 _ _
  rw [← hHe]
  refine lv_iload_n hx hb dX4_takeWire_0 rfl (lv_at hl 1 rfl) ?_
  refine lv_aload_n hx hb dX4_takeWire_1 rfl (lv_at hl 0 rfl) ?_
  obtain ⟨x_1, e_1, hF⟩ := bnd hF
  refine m_gI X hH e_1 gg_X4_46 dX4_takeWire_2 ?_
  obtain ⟨q_2, e_2, hF⟩ := bnd hF
  refine m_callSN (As := [.int v1, .int x_1]) (rest := []) X hH hS hl.1 (k_X11_outside l D cI cT cII base v1 x_1 w q_2 e_2) q_X11_outside kw_411 kw_391 rfl rfl (Nat.le_of_ble_eq_true rfl) ⟨by decide, by decide⟩ hc dX4_takeWire_5 (fun H locs hH hS => W.eq (g2 := F0 m 8 ls [.int q_2.1]) rfl ?_)
  refine lv_if_ne (tgt := 20) hx hb dX4_takeWire_8 (by decide) (fun c_3 => ?_) (fun c_3 => ?_)
  · replace hF := itf c_3 hF
    refine lv_iconst (v := (0 : Int32)) hx hb dX4_takeWire_20 (by decide) ?_
    have hF := Option.some.inj hF
    subst hF
    exact m_zret (r := (0 : Int32)) X hr hlk (by decide) hH hS dX4_takeWire_21
  · replace hF := itt c_3 hF
    refine lv_iload_n hx hb dX4_takeWire_11 rfl (lv_at hl 2 rfl) ?_
    refine lv_bipush (v := (11 : Int32)) hx hb dX4_takeWire_12 (by decide) ?_
    obtain ⟨q_4, e_4, hF⟩ := bnd hF
    refine m_callSN (As := [.int v2, .int (11 : Int32)]) (rest := []) X hH hS hl.1 (k_X11_outside l D cI cT cII base v2 (11 : Int32) q_2.2 q_4 e_4) q_X11_outside kw_411 kw_391 rfl rfl (Nat.le_of_ble_eq_true rfl) ⟨by decide, by decide⟩ hc dX4_takeWire_14 (fun H locs hH hS => W.eq (g2 := F0 m 17 ls [.int q_4.1]) rfl ?_)
    refine lv_if_eq (tgt := 22) hx hb dX4_takeWire_17 (by decide) (fun c_5 => ?_) (fun c_5 => ?_)
    · replace hF := itt c_5 hF
      refine lv_aload_n hx hb dX4_takeWire_22 rfl (lv_at hl 0 rfl) ?_
      obtain ⟨r_6, e_6, hF⟩ := bnd hF
      refine m_gR X hH e_6 gg_X4_18 dX4_takeWire_23 ?_
      refine lv_iload_n hx hb dX4_takeWire_26 rfl (lv_at hl 1 rfl) ?_
      refine lv_iload_n hx hb dX4_takeWire_27 rfl (lv_at hl 2 rfl) ?_
      refine lv_iconst (v := (5 : Int32)) hx hb dX4_takeWire_28 (by decide) ?_
      refine lv_isub hx hb dX4_takeWire_29 ?_
      obtain ⟨w_7, e_7, hF⟩ := bnd hF
      refine m_wrI X hH hS e_7 dX4_takeWire_30 (fun H locs hH hS => ?_)
      refine lv_iconst (v := (1 : Int32)) hx hb dX4_takeWire_31 (by decide) ?_
      have hF := Option.some.inj hF
      subst hF
      exact m_zret (r := (1 : Int32)) X hr hlk (by decide) hH hS dX4_takeWire_32
    · replace hF := itf c_5 hF
      refine lv_iconst (v := (0 : Int32)) hx hb dX4_takeWire_20 (by decide) ?_
      have hF := Option.some.inj hF
      subst hF
      exact m_zret (r := (0 : Int32)) X hr hlk (by decide) hH hS dX4_takeWire_21
noncomputable def fX4_takePerson (p0 : Nat) (v1 : Int32) (v2 : Int32) (w : Wd) : Option (Int32 × Wd) := (gfI 3 7 p0 w).bind fun x_1 => if (5 : Int32) ≤ x_1 then some ((0 : Int32), w) else (fX11_outside v1 (4 : Int32) w).bind fun q_3 => if q_3.1 = 0 then (fX11_outside v2 (21 : Int32) q_3.2).bind fun q_5 => if q_5.1 = 0 then (gfR 3 5 p0 q_5.2).bind fun r_7 => (gfI 3 7 p0 q_5.2).bind fun x_8 => (wrI r_7 x_8 v1 q_5.2).bind fun w_9 => (gfR 3 6 p0 w_9).bind fun r_10 => (gfI 3 7 p0 w_9).bind fun x_11 => (wrI r_10 x_11 v2 w_9).bind fun w_12 => (gfI 3 7 p0 w_12).bind fun x_13 => (pfI 3 7 p0 (x_13 + (1 : Int32)) w_12).bind fun w_14 => some ((1 : Int32), w_14) else some ((0 : Int32), q_5.2) else some ((0 : Int32), q_3.2)
set_option maxHeartbeats 4000000 in
set_option maxRecDepth 100000 in
theorem k_X4_takePerson (l : Launch) (D : va_G) (cI cT cII : ClassId) (base : Nat) (p0 : Nat) (v1 : Int32) (v2 : Int32) (w : Wd) (res : Int32 × Wd) (hF : fX4_takePerson p0 v1 v2 w = some res) : Ct l yX4_takePerson cX4_takePerson 3 (some .boolean) { frames := 1, cells := 0, slots := 0, locals := 21 } D cI cT cII base [.ref (base + p0), .int v1, .int v2] w res.2 (some (.int res.1)) 0 0 := by
  unfold fX4_takePerson at hF
  refine m_enter (by decide) (Nat.le_of_ble_eq_true rfl) ?_
  intro p e s m below meth c ls X hr hlk hnm hH hS hl
  have hx := X.1
  have hb := X.2.1
  have hc : (0 : Nat) ≤ ({ frames := 1, cells := 0, slots := 0, locals := 21 } : Room).cells ∧ (0 : Nat) ≤ ({ frames := 1, cells := 0, slots := 0, locals := 21 } : Room).slots := ⟨Nat.zero_le _, Nat.zero_le _⟩
  obtain ⟨H, hHe⟩ : ∃ H : Heap, H = s.heap := ⟨_, rfl⟩
  obtain ⟨locs, hle⟩ : ∃ L : List Loc, L = [] := ⟨_, rfl⟩
  have hl : lv_has ls 3 [(0, .ref (base + p0)), (1, .int v1), (2, .int v2)] := hl
  rw [← hHe] at hH
  have hS : va_S (fun q => base ≤ q) s.heap H locs := by rw [hHe, hle]; exact hS
  rw [← hle]
  show W p l e _ s m _ below meth c s.heap locs 0 0 _ _
  rw [← hHe]
  refine lv_aload_n hx hb dX4_takePerson_0 rfl (lv_at hl 0 rfl) ?_
  obtain ⟨x_1, e_1, hF⟩ := bnd hF
  refine m_gI X hH e_1 gg_X4_50 dX4_takePerson_1 ?_
  refine lv_iconst (v := (5 : Int32)) hx hb dX4_takePerson_4 (by decide) ?_
  refine lv_icmp_ge (tgt := 25) hx hb dX4_takePerson_5 (by decide) (fun c_2 => ?_) (fun c_2 => ?_)
  · replace hF := itt c_2 hF
    refine lv_iconst (v := (0 : Int32)) hx hb dX4_takePerson_25 (by decide) ?_
    have hF := Option.some.inj hF
    subst hF
    exact m_zret (r := (0 : Int32)) X hr hlk (by decide) hH hS dX4_takePerson_26
  · replace hF := itf c_2 hF
    refine lv_iload_n hx hb dX4_takePerson_8 rfl (lv_at hl 1 rfl) ?_
    refine lv_iconst (v := (4 : Int32)) hx hb dX4_takePerson_9 (by decide) ?_
    obtain ⟨q_3, e_3, hF⟩ := bnd hF
    refine m_callSN (As := [.int v1, .int (4 : Int32)]) (rest := []) X hH hS hl.1 (k_X11_outside l D cI cT cII base v1 (4 : Int32) w q_3 e_3) q_X11_outside kw_411 kw_391 rfl rfl (Nat.le_of_ble_eq_true rfl) ⟨by decide, by decide⟩ hc dX4_takePerson_10 (fun H locs hH hS => W.eq (g2 := F0 m 13 ls [.int q_3.1]) rfl ?_)
    refine lv_if_ne (tgt := 25) hx hb dX4_takePerson_13 (by decide) (fun c_4 => ?_) (fun c_4 => ?_)
    · replace hF := itf c_4 hF
      refine lv_iconst (v := (0 : Int32)) hx hb dX4_takePerson_25 (by decide) ?_
      have hF := Option.some.inj hF
      subst hF
      exact m_zret (r := (0 : Int32)) X hr hlk (by decide) hH hS dX4_takePerson_26
    · replace hF := itt c_4 hF
      refine lv_iload_n hx hb dX4_takePerson_16 rfl (lv_at hl 2 rfl) ?_
      refine lv_bipush (v := (21 : Int32)) hx hb dX4_takePerson_17 (by decide) ?_
      obtain ⟨q_5, e_5, hF⟩ := bnd hF
      refine m_callSN (As := [.int v2, .int (21 : Int32)]) (rest := []) X hH hS hl.1 (k_X11_outside l D cI cT cII base v2 (21 : Int32) q_3.2 q_5 e_5) q_X11_outside kw_411 kw_391 rfl rfl (Nat.le_of_ble_eq_true rfl) ⟨by decide, by decide⟩ hc dX4_takePerson_19 (fun H locs hH hS => W.eq (g2 := F0 m 22 ls [.int q_5.1]) rfl ?_)
      refine lv_if_eq (tgt := 27) hx hb dX4_takePerson_22 (by decide) (fun c_6 => ?_) (fun c_6 => ?_)
      · replace hF := itt c_6 hF
        refine lv_aload_n hx hb dX4_takePerson_27 rfl (lv_at hl 0 rfl) ?_
        obtain ⟨r_7, e_7, hF⟩ := bnd hF
        refine m_gR X hH e_7 gg_X4_24 dX4_takePerson_28 ?_
        refine lv_aload_n hx hb dX4_takePerson_31 rfl (lv_at hl 0 rfl) ?_
        obtain ⟨x_8, e_8, hF⟩ := bnd hF
        refine m_gI X hH e_8 gg_X4_50 dX4_takePerson_32 ?_
        refine lv_iload_n hx hb dX4_takePerson_35 rfl (lv_at hl 1 rfl) ?_
        obtain ⟨w_9, e_9, hF⟩ := bnd hF
        refine m_wrI X hH hS e_9 dX4_takePerson_36 (fun H locs hH hS => ?_)
        refine lv_aload_n hx hb dX4_takePerson_37 rfl (lv_at hl 0 rfl) ?_
        obtain ⟨r_10, e_10, hF⟩ := bnd hF
        refine m_gR X hH e_10 gg_X4_27 dX4_takePerson_38 ?_
        refine lv_aload_n hx hb dX4_takePerson_41 rfl (lv_at hl 0 rfl) ?_
        obtain ⟨x_11, e_11, hF⟩ := bnd hF
        refine m_gI X hH e_11 gg_X4_50 dX4_takePerson_42 ?_
        refine lv_iload_n hx hb dX4_takePerson_45 rfl (lv_at hl 2 rfl) ?_
        obtain ⟨w_12, e_12, hF⟩ := bnd hF
        refine m_wrI X hH hS e_12 dX4_takePerson_46 (fun H locs hH hS => ?_)
        refine lv_aload_n hx hb dX4_takePerson_47 rfl (lv_at hl 0 rfl) ?_
        refine lv_dup hx hb dX4_takePerson_48 rfl ?_
        obtain ⟨x_13, e_13, hF⟩ := bnd hF
        refine m_gI X hH e_13 gg_X4_50 dX4_takePerson_49 ?_
        refine lv_iconst (v := (1 : Int32)) hx hb dX4_takePerson_52 (by decide) ?_
        refine lv_iadd hx hb dX4_takePerson_53 ?_
        obtain ⟨w_14, e_14, hF⟩ := bnd hF
        refine m_pI X hH hS e_14 gp_X4_50 rfl rfl dX4_takePerson_54 (fun H locs hH hS => ?_)
        refine lv_iconst (v := (1 : Int32)) hx hb dX4_takePerson_57 (by decide) ?_
        have hF := Option.some.inj hF
        subst hF
        exact m_zret (r := (1 : Int32)) X hr hlk (by decide) hH hS dX4_takePerson_58
      · replace hF := itf c_6 hF
        refine lv_iconst (v := (0 : Int32)) hx hb dX4_takePerson_25 (by decide) ?_
        have hF := Option.some.inj hF
        subst hF
        exact m_zret (r := (0 : Int32)) X hr hlk (by decide) hH hS dX4_takePerson_26
noncomputable def fX4_takeComing_45 (p0 : Nat) (v1 : Int32) (v2 : Int32) (v3 : Int32) (K_117 : Int32 → Wd → Option (Int32 × Wd)) : Nat → Int32 → Wd → Option (Int32 × Wd)
  | 0, _, _ => none
  | n + 1, v4, w => if v4 ≤ 0 then K_117 v4 w else (gfR 3 9 p0 w).bind fun r_12 => (rdI r_12 (v4 - (1 : Int32)) w).bind fun x_13 => if x_13 ≤ v2 then K_117 v4 w else (gfR 3 8 p0 w).bind fun r_15 => (gfR 3 8 p0 w).bind fun r_16 => (rdI r_16 (v4 - (1 : Int32)) w).bind fun x_17 => (wrI r_15 v4 x_17 w).bind fun w_18 => (gfR 3 9 p0 w_18).bind fun r_19 => (gfR 3 9 p0 w_18).bind fun r_20 => (rdI r_20 (v4 - (1 : Int32)) w_18).bind fun x_21 => (wrI r_19 v4 x_21 w_18).bind fun w_22 => (gfR 3 10 p0 w_22).bind fun r_23 => (gfR 3 10 p0 w_22).bind fun r_24 => (rdI r_24 (v4 - (1 : Int32)) w_22).bind fun x_25 => (wrI r_23 v4 x_25 w_22).bind fun w_26 => fX4_takeComing_45 p0 v1 v2 v3 K_117 n (v4 + (-1 : Int32)) w_26
noncomputable def fX4_takeComing (p0 : Nat) (v1 : Int32) (v2 : Int32) (v3 : Int32) (w : Wd) : Option (Int32 × Wd) := (gfI 3 11 p0 w).bind fun x_1 => if (10 : Int32) ≤ x_1 then some ((0 : Int32), w) else (gfI 3 7 p0 w).bind fun x_3 => (fX11_outside v1 x_3 w).bind fun q_4 => if q_4.1 = 0 then (fX11_outside v2 (24 : Int32) q_4.2).bind fun q_6 => if q_6.1 = 0 then (fX11_outside v3 (4 : Int32) q_6.2).bind fun q_8 => if q_8.1 = 0 then (gfI 3 11 p0 q_8.2).bind fun x_10 => fX4_takeComing_45 p0 v1 v2 v3 (fun (v4_28 : Int32) (w_27 : Wd) => (gfR 3 8 p0 w_27).bind fun r_29 => (wrI r_29 v4_28 v1 w_27).bind fun w_30 => (gfR 3 9 p0 w_30).bind fun r_31 => (wrI r_31 v4_28 v2 w_30).bind fun w_32 => (gfR 3 10 p0 w_32).bind fun r_33 => (wrI r_33 v4_28 v3 w_32).bind fun w_34 => (gfI 3 11 p0 w_34).bind fun x_35 => (pfI 3 11 p0 (x_35 + (1 : Int32)) w_34).bind fun w_36 => some ((1 : Int32), w_36)) FV x_10 q_8.2 else some ((0 : Int32), q_8.2) else some ((0 : Int32), q_6.2) else some ((0 : Int32), q_4.2)
set_option maxHeartbeats 4000000 in
set_option maxRecDepth 100000 in
theorem l_X4_takeComing_45 (X : Cx p R s m args c cX4_takeComing 5 RX4 D cI cT cII 1 21) (hc : cells ≤ R.cells ∧ slots ≤ R.slots) (p0 : Nat) (v1 : Int32) (v2 : Int32) (v3 : Int32) (K_117 : Int32 → Wd → Option (Int32 × Wd)) (res : Int32 × Wd)
    (hK_117 : ∀ (z4 : Int32) (w : Wd), K_117 z4 w = some res → ∀ (H : Heap) (locs : List Loc) (ls : Array Slot), Hd D cI cT cII base w H → va_S (fun q => base ≤ q) s.heap H locs → lv_has ls 5 [(0, .ref (base + p0)), (1, .int v1), (2, .int v2), (3, .int v3), (4, .int z4)] → W p l e R s m args below meth c H locs cells slots Q (F0 m 117 ls [])) :
    ∀ (n : Nat) (v4 : Int32) (w : Wd), fX4_takeComing_45 p0 v1 v2 v3 K_117 n v4 w = some res → ∀ (H : Heap) (locs : List Loc) (ls : Array Slot), Hd D cI cT cII base w H → va_S (fun q => base ≤ q) s.heap H locs → lv_has ls 5 [(0, .ref (base + p0)), (1, .int v1), (2, .int v2), (3, .int v3), (4, .int v4)] → W p l e R s m args below meth c H locs cells slots Q (F0 m 45 ls []) := by
  have hx := X.1
  have hb := X.2.1
  intro n
  induction n with
  | zero =>
    intro v4 w hF
    rw [fX4_takeComing_45] at hF
    cases hF
  | succ n ih =>
    intro v4 w hF H locs ls hH hS hl
    rw [fX4_takeComing_45] at hF
    refine lv_iload hx hb dX4_takeComing_45 (lv_at hl 4 rfl) ?_
    refine lv_if_le (tgt := 117) hx hb dX4_takeComing_47 (by decide) (fun c_11 => ?_) (fun c_11 => ?_)
    · replace hF := itt c_11 hF
      exact hK_117 v4 w hF H locs ls hH hS (lv_sub hl [0, 1, 2, 3, 4] rfl)
    · replace hF := itf c_11 hF
      refine lv_aload_n hx hb dX4_takeComing_50 rfl (lv_at hl 0 rfl) ?_
      obtain ⟨r_12, e_12, hF⟩ := bnd hF
      refine m_gR X hH e_12 gg_X4_33 dX4_takeComing_51 ?_
      refine lv_iload hx hb dX4_takeComing_54 (lv_at hl 4 rfl) ?_
      refine lv_iconst (v := (1 : Int32)) hx hb dX4_takeComing_56 (by decide) ?_
      refine lv_isub hx hb dX4_takeComing_57 ?_
      obtain ⟨x_13, e_13, hF⟩ := bnd hF
      refine m_rdI X hH e_13 dX4_takeComing_58 ?_
      refine lv_iload_n hx hb dX4_takeComing_59 rfl (lv_at hl 2 rfl) ?_
      refine lv_icmp_le (tgt := 117) hx hb dX4_takeComing_60 (by decide) (fun c_14 => ?_) (fun c_14 => ?_)
      · replace hF := itt c_14 hF
        exact hK_117 v4 w hF H locs ls hH hS (lv_sub hl [0, 1, 2, 3, 4] rfl)
      · replace hF := itf c_14 hF
        refine lv_aload_n hx hb dX4_takeComing_63 rfl (lv_at hl 0 rfl) ?_
        obtain ⟨r_15, e_15, hF⟩ := bnd hF
        refine m_gR X hH e_15 gg_X4_30 dX4_takeComing_64 ?_
        refine lv_iload hx hb dX4_takeComing_67 (lv_at hl 4 rfl) ?_
        refine lv_aload_n hx hb dX4_takeComing_69 rfl (lv_at hl 0 rfl) ?_
        obtain ⟨r_16, e_16, hF⟩ := bnd hF
        refine m_gR X hH e_16 gg_X4_30 dX4_takeComing_70 ?_
        refine lv_iload hx hb dX4_takeComing_73 (lv_at hl 4 rfl) ?_
        refine lv_iconst (v := (1 : Int32)) hx hb dX4_takeComing_75 (by decide) ?_
        refine lv_isub hx hb dX4_takeComing_76 ?_
        obtain ⟨x_17, e_17, hF⟩ := bnd hF
        refine m_rdI X hH e_17 dX4_takeComing_77 ?_
        obtain ⟨w_18, e_18, hF⟩ := bnd hF
        refine m_wrI X hH hS e_18 dX4_takeComing_78 (fun H locs hH hS => ?_)
        refine lv_aload_n hx hb dX4_takeComing_79 rfl (lv_at hl 0 rfl) ?_
        obtain ⟨r_19, e_19, hF⟩ := bnd hF
        refine m_gR X hH e_19 gg_X4_33 dX4_takeComing_80 ?_
        refine lv_iload hx hb dX4_takeComing_83 (lv_at hl 4 rfl) ?_
        refine lv_aload_n hx hb dX4_takeComing_85 rfl (lv_at hl 0 rfl) ?_
        obtain ⟨r_20, e_20, hF⟩ := bnd hF
        refine m_gR X hH e_20 gg_X4_33 dX4_takeComing_86 ?_
        refine lv_iload hx hb dX4_takeComing_89 (lv_at hl 4 rfl) ?_
        refine lv_iconst (v := (1 : Int32)) hx hb dX4_takeComing_91 (by decide) ?_
        refine lv_isub hx hb dX4_takeComing_92 ?_
        obtain ⟨x_21, e_21, hF⟩ := bnd hF
        refine m_rdI X hH e_21 dX4_takeComing_93 ?_
        obtain ⟨w_22, e_22, hF⟩ := bnd hF
        refine m_wrI X hH hS e_22 dX4_takeComing_94 (fun H locs hH hS => ?_)
        refine lv_aload_n hx hb dX4_takeComing_95 rfl (lv_at hl 0 rfl) ?_
        obtain ⟨r_23, e_23, hF⟩ := bnd hF
        refine m_gR X hH e_23 gg_X4_36 dX4_takeComing_96 ?_
        refine lv_iload hx hb dX4_takeComing_99 (lv_at hl 4 rfl) ?_
        refine lv_aload_n hx hb dX4_takeComing_101 rfl (lv_at hl 0 rfl) ?_
        obtain ⟨r_24, e_24, hF⟩ := bnd hF
        refine m_gR X hH e_24 gg_X4_36 dX4_takeComing_102 ?_
        refine lv_iload hx hb dX4_takeComing_105 (lv_at hl 4 rfl) ?_
        refine lv_iconst (v := (1 : Int32)) hx hb dX4_takeComing_107 (by decide) ?_
        refine lv_isub hx hb dX4_takeComing_108 ?_
        obtain ⟨x_25, e_25, hF⟩ := bnd hF
        refine m_rdI X hH e_25 dX4_takeComing_109 ?_
        obtain ⟨w_26, e_26, hF⟩ := bnd hF
        refine m_wrI X hH hS e_26 dX4_takeComing_110 (fun H locs hH hS => ?_)
        refine lv_iinc (v := v4 + (-1 : Int32)) (lv' := [(4, .int (v4 + (-1 : Int32))), (0, .ref (base + p0)), (1, .int v1), (2, .int v2), (3, .int v3)]) hx hb dX4_takeComing_111 hl (k := 4) rfl (congrArg (fun z => v4 + z) (by decide)) (by decide) rfl (fun ls hl => ?_)
        refine lv_goto (tgt := 45) hx hb dX4_takeComing_114 (by decide) ?_
        exact ih (v4 + (-1 : Int32)) w_26 hF H locs ls hH hS (lv_sub hl [1, 2, 3, 4, 0] rfl)
set_option maxHeartbeats 4000000 in
set_option maxRecDepth 100000 in
theorem k_X4_takeComing (l : Launch) (D : va_G) (cI cT cII : ClassId) (base : Nat) (p0 : Nat) (v1 : Int32) (v2 : Int32) (v3 : Int32) (w : Wd) (res : Int32 × Wd) (hF : fX4_takeComing p0 v1 v2 v3 w = some res) : Ct l yX4_takeComing cX4_takeComing 5 (some .boolean) { frames := 1, cells := 0, slots := 0, locals := 21 } D cI cT cII base [.ref (base + p0), .int v1, .int v2, .int v3] w res.2 (some (.int res.1)) 0 0 := by
  unfold fX4_takeComing at hF
  refine m_enter (by decide) (Nat.le_of_ble_eq_true rfl) ?_
  intro p e s m below meth c ls X hr hlk hnm hH hS hl
  have hx := X.1
  have hb := X.2.1
  have hc : (0 : Nat) ≤ ({ frames := 1, cells := 0, slots := 0, locals := 21 } : Room).cells ∧ (0 : Nat) ≤ ({ frames := 1, cells := 0, slots := 0, locals := 21 } : Room).slots := ⟨Nat.zero_le _, Nat.zero_le _⟩
  obtain ⟨H, hHe⟩ : ∃ H : Heap, H = s.heap := ⟨_, rfl⟩
  obtain ⟨locs, hle⟩ : ∃ L : List Loc, L = [] := ⟨_, rfl⟩
  have hl : lv_has ls 5 [(0, .ref (base + p0)), (1, .int v1), (2, .int v2), (3, .int v3)] := hl
  rw [← hHe] at hH
  have hS : va_S (fun q => base ≤ q) s.heap H locs := by rw [hHe, hle]; exact hS
  rw [← hle]
  show W p l e _ s m _ below meth c s.heap locs 0 0 _ _
  rw [← hHe]
  refine lv_aload_n hx hb dX4_takeComing_0 rfl (lv_at hl 0 rfl) ?_
  obtain ⟨x_1, e_1, hF⟩ := bnd hF
  refine m_gI X hH e_1 gg_X4_53 dX4_takeComing_1 ?_
  refine lv_bipush (v := (10 : Int32)) hx hb dX4_takeComing_4 (by decide) ?_
  refine lv_icmp_ge (tgt := 37) hx hb dX4_takeComing_6 (by decide) (fun c_2 => ?_) (fun c_2 => ?_)
  · replace hF := itt c_2 hF
    refine lv_iconst (v := (0 : Int32)) hx hb dX4_takeComing_37 (by decide) ?_
    have hF := Option.some.inj hF
    subst hF
    exact m_zret (r := (0 : Int32)) X hr hlk (by decide) hH hS dX4_takeComing_38
  · replace hF := itf c_2 hF
    refine lv_iload_n hx hb dX4_takeComing_9 rfl (lv_at hl 1 rfl) ?_
    refine lv_aload_n hx hb dX4_takeComing_10 rfl (lv_at hl 0 rfl) ?_
    obtain ⟨x_3, e_3, hF⟩ := bnd hF
    refine m_gI X hH e_3 gg_X4_50 dX4_takeComing_11 ?_
    obtain ⟨q_4, e_4, hF⟩ := bnd hF
    refine m_callSN (As := [.int v1, .int x_3]) (rest := []) X hH hS hl.1 (k_X11_outside l D cI cT cII base v1 x_3 w q_4 e_4) q_X11_outside kw_411 kw_391 rfl rfl (Nat.le_of_ble_eq_true rfl) ⟨by decide, by decide⟩ hc dX4_takeComing_14 (fun H locs hH hS => W.eq (g2 := F0 m 17 ls [.int q_4.1]) rfl ?_)
    refine lv_if_ne (tgt := 37) hx hb dX4_takeComing_17 (by decide) (fun c_5 => ?_) (fun c_5 => ?_)
    · replace hF := itf c_5 hF
      refine lv_iconst (v := (0 : Int32)) hx hb dX4_takeComing_37 (by decide) ?_
      have hF := Option.some.inj hF
      subst hF
      exact m_zret (r := (0 : Int32)) X hr hlk (by decide) hH hS dX4_takeComing_38
    · replace hF := itt c_5 hF
      refine lv_iload_n hx hb dX4_takeComing_20 rfl (lv_at hl 2 rfl) ?_
      refine lv_bipush (v := (24 : Int32)) hx hb dX4_takeComing_21 (by decide) ?_
      obtain ⟨q_6, e_6, hF⟩ := bnd hF
      refine m_callSN (As := [.int v2, .int (24 : Int32)]) (rest := []) X hH hS hl.1 (k_X11_outside l D cI cT cII base v2 (24 : Int32) q_4.2 q_6 e_6) q_X11_outside kw_411 kw_391 rfl rfl (Nat.le_of_ble_eq_true rfl) ⟨by decide, by decide⟩ hc dX4_takeComing_23 (fun H locs hH hS => W.eq (g2 := F0 m 26 ls [.int q_6.1]) rfl ?_)
      refine lv_if_ne (tgt := 37) hx hb dX4_takeComing_26 (by decide) (fun c_7 => ?_) (fun c_7 => ?_)
      · replace hF := itf c_7 hF
        refine lv_iconst (v := (0 : Int32)) hx hb dX4_takeComing_37 (by decide) ?_
        have hF := Option.some.inj hF
        subst hF
        exact m_zret (r := (0 : Int32)) X hr hlk (by decide) hH hS dX4_takeComing_38
      · replace hF := itt c_7 hF
        refine lv_iload_n hx hb dX4_takeComing_29 rfl (lv_at hl 3 rfl) ?_
        refine lv_iconst (v := (4 : Int32)) hx hb dX4_takeComing_30 (by decide) ?_
        obtain ⟨q_8, e_8, hF⟩ := bnd hF
        refine m_callSN (As := [.int v3, .int (4 : Int32)]) (rest := []) X hH hS hl.1 (k_X11_outside l D cI cT cII base v3 (4 : Int32) q_6.2 q_8 e_8) q_X11_outside kw_411 kw_391 rfl rfl (Nat.le_of_ble_eq_true rfl) ⟨by decide, by decide⟩ hc dX4_takeComing_31 (fun H locs hH hS => W.eq (g2 := F0 m 34 ls [.int q_8.1]) rfl ?_)
        refine lv_if_eq (tgt := 39) hx hb dX4_takeComing_34 (by decide) (fun c_9 => ?_) (fun c_9 => ?_)
        · replace hF := itt c_9 hF
          refine lv_aload_n hx hb dX4_takeComing_39 rfl (lv_at hl 0 rfl) ?_
          obtain ⟨x_10, e_10, hF⟩ := bnd hF
          refine m_gI X hH e_10 gg_X4_53 dX4_takeComing_40 ?_
          refine lv_istore (lv' := [(4, .int x_10), (0, .ref (base + p0)), (1, .int v1), (2, .int v2), (3, .int v3)]) hx hb dX4_takeComing_43 hl (by decide) rfl (fun ls hl => ?_)
          refine l_X4_takeComing_45 X hc p0 v1 v2 v3 _ res ?_ FV x_10 q_8.2 hF H locs ls hH hS (lv_sub hl [1, 2, 3, 4, 0] rfl)
          · intro v4_28 w_27 hF H locs ls hH hS hl
            refine lv_aload_n hx hb dX4_takeComing_117 rfl (lv_at hl 0 rfl) ?_
            obtain ⟨r_29, e_29, hF⟩ := bnd hF
            refine m_gR X hH e_29 gg_X4_30 dX4_takeComing_118 ?_
            refine lv_iload hx hb dX4_takeComing_121 (lv_at hl 4 rfl) ?_
            refine lv_iload_n hx hb dX4_takeComing_123 rfl (lv_at hl 1 rfl) ?_
            obtain ⟨w_30, e_30, hF⟩ := bnd hF
            refine m_wrI X hH hS e_30 dX4_takeComing_124 (fun H locs hH hS => ?_)
            refine lv_aload_n hx hb dX4_takeComing_125 rfl (lv_at hl 0 rfl) ?_
            obtain ⟨r_31, e_31, hF⟩ := bnd hF
            refine m_gR X hH e_31 gg_X4_33 dX4_takeComing_126 ?_
            refine lv_iload hx hb dX4_takeComing_129 (lv_at hl 4 rfl) ?_
            refine lv_iload_n hx hb dX4_takeComing_131 rfl (lv_at hl 2 rfl) ?_
            obtain ⟨w_32, e_32, hF⟩ := bnd hF
            refine m_wrI X hH hS e_32 dX4_takeComing_132 (fun H locs hH hS => ?_)
            refine lv_aload_n hx hb dX4_takeComing_133 rfl (lv_at hl 0 rfl) ?_
            obtain ⟨r_33, e_33, hF⟩ := bnd hF
            refine m_gR X hH e_33 gg_X4_36 dX4_takeComing_134 ?_
            refine lv_iload hx hb dX4_takeComing_137 (lv_at hl 4 rfl) ?_
            refine lv_iload_n hx hb dX4_takeComing_139 rfl (lv_at hl 3 rfl) ?_
            obtain ⟨w_34, e_34, hF⟩ := bnd hF
            refine m_wrI X hH hS e_34 dX4_takeComing_140 (fun H locs hH hS => ?_)
            refine lv_aload_n hx hb dX4_takeComing_141 rfl (lv_at hl 0 rfl) ?_
            refine lv_dup hx hb dX4_takeComing_142 rfl ?_
            obtain ⟨x_35, e_35, hF⟩ := bnd hF
            refine m_gI X hH e_35 gg_X4_53 dX4_takeComing_143 ?_
            refine lv_iconst (v := (1 : Int32)) hx hb dX4_takeComing_146 (by decide) ?_
            refine lv_iadd hx hb dX4_takeComing_147 ?_
            obtain ⟨w_36, e_36, hF⟩ := bnd hF
            refine m_pI X hH hS e_36 gp_X4_53 rfl rfl dX4_takeComing_148 (fun H locs hH hS => ?_)
            refine lv_iconst (v := (1 : Int32)) hx hb dX4_takeComing_151 (by decide) ?_
            have hF := Option.some.inj hF
            subst hF
            exact m_zret (r := (1 : Int32)) X hr hlk (by decide) hH hS dX4_takeComing_152
        · replace hF := itf c_9 hF
          refine lv_iconst (v := (0 : Int32)) hx hb dX4_takeComing_37 (by decide) ?_
          have hF := Option.some.inj hF
          subst hF
          exact m_zret (r := (0 : Int32)) X hr hlk (by decide) hH hS dX4_takeComing_38
noncomputable def fX4_takeTurn (p0 : Nat) (v1 : Int32) (v2 : Int32) (v3 : Int32) (w : Wd) : Option (Int32 × Wd) := (gfR 3 12 p0 w).bind fun r_1 => (gfI 9 3 r_1 w).bind fun x_2 => if (8 : Int32) ≤ x_2 then some ((0 : Int32), w) else (fX11_outside v1 (31 : Int32) w).bind fun q_4 => if q_4.1 = 0 then (gfI 3 4 p0 q_4.2).bind fun x_6 => (fX11_outside v2 x_6 q_4.2).bind fun q_7 => if q_7.1 = 0 then (fX11_outside v3 (41 : Int32) q_7.2).bind fun q_9 => if q_9.1 = 0 then (gfR 3 12 p0 q_9.2).bind fun r_11 => (isO 9 r_11 q_9.2).bind fun u_12 => (fX10_add r_11 v1 v2 (v3 - (20 : Int32)) q_9.2).bind fun q_13 => some ((1 : Int32), q_13.2) else some ((0 : Int32), q_9.2) else some ((0 : Int32), q_7.2) else some ((0 : Int32), q_4.2)
set_option maxHeartbeats 4000000 in
set_option maxRecDepth 100000 in
theorem k_X4_takeTurn (l : Launch) (D : va_G) (cI cT cII : ClassId) (base : Nat) (p0 : Nat) (v1 : Int32) (v2 : Int32) (v3 : Int32) (w : Wd) (res : Int32 × Wd) (hF : fX4_takeTurn p0 v1 v2 v3 w = some res) : Ct l yX4_takeTurn cX4_takeTurn 4 (some .boolean) { frames := 1, cells := 0, slots := 0, locals := 23 } D cI cT cII base [.ref (base + p0), .int v1, .int v2, .int v3] w res.2 (some (.int res.1)) 0 0 := by
  unfold fX4_takeTurn at hF
  refine m_enter (by decide) (Nat.le_of_ble_eq_true rfl) ?_
  intro p e s m below meth c ls X hr hlk hnm hH hS hl
  have hx := X.1
  have hb := X.2.1
  have hc : (0 : Nat) ≤ ({ frames := 1, cells := 0, slots := 0, locals := 23 } : Room).cells ∧ (0 : Nat) ≤ ({ frames := 1, cells := 0, slots := 0, locals := 23 } : Room).slots := ⟨Nat.zero_le _, Nat.zero_le _⟩
  obtain ⟨H, hHe⟩ : ∃ H : Heap, H = s.heap := ⟨_, rfl⟩
  obtain ⟨locs, hle⟩ : ∃ L : List Loc, L = [] := ⟨_, rfl⟩
  have hl : lv_has ls 4 [(0, .ref (base + p0)), (1, .int v1), (2, .int v2), (3, .int v3)] := hl
  rw [← hHe] at hH
  have hS : va_S (fun q => base ≤ q) s.heap H locs := by rw [hHe, hle]; exact hS
  rw [← hle]
  show W p l e _ s m _ below meth c s.heap locs 0 0 _ _
  rw [← hHe]
  refine lv_aload_n hx hb dX4_takeTurn_0 rfl (lv_at hl 0 rfl) ?_
  obtain ⟨r_1, e_1, hF⟩ := bnd hF
  refine m_gR X hH e_1 gg_X4_42 dX4_takeTurn_1 ?_
  obtain ⟨x_2, e_2, hF⟩ := bnd hF
  refine m_hI X hH e_2 gg_X4_56 dX4_takeTurn_4 ?_
  refine lv_bipush (v := (8 : Int32)) hx hb dX4_takeTurn_7 (by decide) ?_
  refine lv_icmp_ge (tgt := 41) hx hb dX4_takeTurn_9 (by decide) (fun c_3 => ?_) (fun c_3 => ?_)
  · replace hF := itt c_3 hF
    refine lv_iconst (v := (0 : Int32)) hx hb dX4_takeTurn_41 (by decide) ?_
    have hF := Option.some.inj hF
    subst hF
    exact m_zret (r := (0 : Int32)) X hr hlk (by decide) hH hS dX4_takeTurn_42
  · replace hF := itf c_3 hF
    refine lv_iload_n hx hb dX4_takeTurn_12 rfl (lv_at hl 1 rfl) ?_
    refine lv_bipush (v := (31 : Int32)) hx hb dX4_takeTurn_13 (by decide) ?_
    obtain ⟨q_4, e_4, hF⟩ := bnd hF
    refine m_callSN (As := [.int v1, .int (31 : Int32)]) (rest := []) X hH hS hl.1 (k_X11_outside l D cI cT cII base v1 (31 : Int32) w q_4 e_4) q_X11_outside kw_411 kw_391 rfl rfl (Nat.le_of_ble_eq_true rfl) ⟨by decide, by decide⟩ hc dX4_takeTurn_15 (fun H locs hH hS => W.eq (g2 := F0 m 18 ls [.int q_4.1]) rfl ?_)
    refine lv_if_ne (tgt := 41) hx hb dX4_takeTurn_18 (by decide) (fun c_5 => ?_) (fun c_5 => ?_)
    · replace hF := itf c_5 hF
      refine lv_iconst (v := (0 : Int32)) hx hb dX4_takeTurn_41 (by decide) ?_
      have hF := Option.some.inj hF
      subst hF
      exact m_zret (r := (0 : Int32)) X hr hlk (by decide) hH hS dX4_takeTurn_42
    · replace hF := itt c_5 hF
      refine lv_iload_n hx hb dX4_takeTurn_21 rfl (lv_at hl 2 rfl) ?_
      refine lv_aload_n hx hb dX4_takeTurn_22 rfl (lv_at hl 0 rfl) ?_
      obtain ⟨x_6, e_6, hF⟩ := bnd hF
      refine m_gI X hH e_6 gg_X4_46 dX4_takeTurn_23 ?_
      obtain ⟨q_7, e_7, hF⟩ := bnd hF
      refine m_callSN (As := [.int v2, .int x_6]) (rest := []) X hH hS hl.1 (k_X11_outside l D cI cT cII base v2 x_6 q_4.2 q_7 e_7) q_X11_outside kw_411 kw_391 rfl rfl (Nat.le_of_ble_eq_true rfl) ⟨by decide, by decide⟩ hc dX4_takeTurn_26 (fun H locs hH hS => W.eq (g2 := F0 m 29 ls [.int q_7.1]) rfl ?_)
      refine lv_if_ne (tgt := 41) hx hb dX4_takeTurn_29 (by decide) (fun c_8 => ?_) (fun c_8 => ?_)
      · replace hF := itf c_8 hF
        refine lv_iconst (v := (0 : Int32)) hx hb dX4_takeTurn_41 (by decide) ?_
        have hF := Option.some.inj hF
        subst hF
        exact m_zret (r := (0 : Int32)) X hr hlk (by decide) hH hS dX4_takeTurn_42
      · replace hF := itt c_8 hF
        refine lv_iload_n hx hb dX4_takeTurn_32 rfl (lv_at hl 3 rfl) ?_
        refine lv_bipush (v := (41 : Int32)) hx hb dX4_takeTurn_33 (by decide) ?_
        obtain ⟨q_9, e_9, hF⟩ := bnd hF
        refine m_callSN (As := [.int v3, .int (41 : Int32)]) (rest := []) X hH hS hl.1 (k_X11_outside l D cI cT cII base v3 (41 : Int32) q_7.2 q_9 e_9) q_X11_outside kw_411 kw_391 rfl rfl (Nat.le_of_ble_eq_true rfl) ⟨by decide, by decide⟩ hc dX4_takeTurn_35 (fun H locs hH hS => W.eq (g2 := F0 m 38 ls [.int q_9.1]) rfl ?_)
        refine lv_if_eq (tgt := 43) hx hb dX4_takeTurn_38 (by decide) (fun c_10 => ?_) (fun c_10 => ?_)
        · replace hF := itt c_10 hF
          refine lv_aload_n hx hb dX4_takeTurn_43 rfl (lv_at hl 0 rfl) ?_
          obtain ⟨r_11, e_11, hF⟩ := bnd hF
          refine m_gR X hH e_11 gg_X4_42 dX4_takeTurn_44 ?_
          refine lv_iload_n hx hb dX4_takeTurn_47 rfl (lv_at hl 1 rfl) ?_
          refine lv_iload_n hx hb dX4_takeTurn_48 rfl (lv_at hl 2 rfl) ?_
          refine lv_iload_n hx hb dX4_takeTurn_49 rfl (lv_at hl 3 rfl) ?_
          refine lv_bipush (v := (20 : Int32)) hx hb dX4_takeTurn_50 (by decide) ?_
          refine lv_isub hx hb dX4_takeTurn_52 ?_
          obtain ⟨u_12, ou_12, hF⟩ := bnd hF
          obtain ⟨q_13, e_13, hF⟩ := bnd hF
          refine m_callV (As := [.int v1, .int v2, .int (v3 - (20 : Int32))]) (rest := []) X hH hS hl.1 ou_12 rfl (by decide) (k_X10_add l D cI cT cII base r_11 v1 v2 (v3 - (20 : Int32)) q_9.2 q_13 e_13) q_X10_add kw_428 kw_429 kw_430 rfl rfl (Nat.le_of_ble_eq_true rfl) ⟨by decide, by decide⟩ hc dX4_takeTurn_53 (fun H locs hH hS => W.eq (g2 := F0 m 56 ls []) rfl ?_)
          refine lv_iconst (v := (1 : Int32)) hx hb dX4_takeTurn_56 (by decide) ?_
          have hF := Option.some.inj hF
          subst hF
          exact m_zret (r := (1 : Int32)) X hr hlk (by decide) hH hS dX4_takeTurn_57
        · replace hF := itf c_10 hF
          refine lv_iconst (v := (0 : Int32)) hx hb dX4_takeTurn_41 (by decide) ?_
          have hF := Option.some.inj hF
          subst hF
          exact m_zret (r := (0 : Int32)) X hr hlk (by decide) hH hS dX4_takeTurn_42
noncomputable def fX4_takePatch (p0 : Nat) (v1 : Int32) (v2 : Int32) (w : Wd) : Option (Int32 × Wd) := (gfI 3 4 p0 w).bind fun x_1 => (fX11_outside v1 x_1 w).bind fun q_2 => if q_2.1 = 0 then (fX11_outside v2 (41 : Int32) q_2.2).bind fun q_4 => if q_4.1 = 0 then (gfR 3 3 p0 q_4.2).bind fun r_6 => (wrI r_6 v1 (v2 - (20 : Int32)) q_4.2).bind fun w_7 => some ((1 : Int32), w_7) else some ((0 : Int32), q_4.2) else some ((0 : Int32), q_2.2)
set_option maxHeartbeats 4000000 in
set_option maxRecDepth 100000 in
theorem k_X4_takePatch (l : Launch) (D : va_G) (cI cT cII : ClassId) (base : Nat) (p0 : Nat) (v1 : Int32) (v2 : Int32) (w : Wd) (res : Int32 × Wd) (hF : fX4_takePatch p0 v1 v2 w = some res) : Ct l yX4_takePatch cX4_takePatch 3 (some .boolean) { frames := 1, cells := 0, slots := 0, locals := 21 } D cI cT cII base [.ref (base + p0), .int v1, .int v2] w res.2 (some (.int res.1)) 0 0 := by
  unfold fX4_takePatch at hF
  refine m_enter (by decide) (Nat.le_of_ble_eq_true rfl) ?_
  intro p e s m below meth c ls X hr hlk hnm hH hS hl
  have hx := X.1
  have hb := X.2.1
  have hc : (0 : Nat) ≤ ({ frames := 1, cells := 0, slots := 0, locals := 21 } : Room).cells ∧ (0 : Nat) ≤ ({ frames := 1, cells := 0, slots := 0, locals := 21 } : Room).slots := ⟨Nat.zero_le _, Nat.zero_le _⟩
  obtain ⟨H, hHe⟩ : ∃ H : Heap, H = s.heap := ⟨_, rfl⟩
  obtain ⟨locs, hle⟩ : ∃ L : List Loc, L = [] := ⟨_, rfl⟩
  have hl : lv_has ls 3 [(0, .ref (base + p0)), (1, .int v1), (2, .int v2)] := hl
  rw [← hHe] at hH
  have hS : va_S (fun q => base ≤ q) s.heap H locs := by rw [hHe, hle]; exact hS
  rw [← hle]
  show W p l e _ s m _ below meth c s.heap locs 0 0 _ _
  rw [← hHe]
  refine lv_iload_n hx hb dX4_takePatch_0 rfl (lv_at hl 1 rfl) ?_
  refine lv_aload_n hx hb dX4_takePatch_1 rfl (lv_at hl 0 rfl) ?_
  obtain ⟨x_1, e_1, hF⟩ := bnd hF
  refine m_gI X hH e_1 gg_X4_46 dX4_takePatch_2 ?_
  obtain ⟨q_2, e_2, hF⟩ := bnd hF
  refine m_callSN (As := [.int v1, .int x_1]) (rest := []) X hH hS hl.1 (k_X11_outside l D cI cT cII base v1 x_1 w q_2 e_2) q_X11_outside kw_411 kw_391 rfl rfl (Nat.le_of_ble_eq_true rfl) ⟨by decide, by decide⟩ hc dX4_takePatch_5 (fun H locs hH hS => W.eq (g2 := F0 m 8 ls [.int q_2.1]) rfl ?_)
  refine lv_if_ne (tgt := 20) hx hb dX4_takePatch_8 (by decide) (fun c_3 => ?_) (fun c_3 => ?_)
  · replace hF := itf c_3 hF
    refine lv_iconst (v := (0 : Int32)) hx hb dX4_takePatch_20 (by decide) ?_
    have hF := Option.some.inj hF
    subst hF
    exact m_zret (r := (0 : Int32)) X hr hlk (by decide) hH hS dX4_takePatch_21
  · replace hF := itt c_3 hF
    refine lv_iload_n hx hb dX4_takePatch_11 rfl (lv_at hl 2 rfl) ?_
    refine lv_bipush (v := (41 : Int32)) hx hb dX4_takePatch_12 (by decide) ?_
    obtain ⟨q_4, e_4, hF⟩ := bnd hF
    refine m_callSN (As := [.int v2, .int (41 : Int32)]) (rest := []) X hH hS hl.1 (k_X11_outside l D cI cT cII base v2 (41 : Int32) q_2.2 q_4 e_4) q_X11_outside kw_411 kw_391 rfl rfl (Nat.le_of_ble_eq_true rfl) ⟨by decide, by decide⟩ hc dX4_takePatch_14 (fun H locs hH hS => W.eq (g2 := F0 m 17 ls [.int q_4.1]) rfl ?_)
    refine lv_if_eq (tgt := 22) hx hb dX4_takePatch_17 (by decide) (fun c_5 => ?_) (fun c_5 => ?_)
    · replace hF := itt c_5 hF
      refine lv_aload_n hx hb dX4_takePatch_22 rfl (lv_at hl 0 rfl) ?_
      obtain ⟨r_6, e_6, hF⟩ := bnd hF
      refine m_gR X hH e_6 gg_X4_21 dX4_takePatch_23 ?_
      refine lv_iload_n hx hb dX4_takePatch_26 rfl (lv_at hl 1 rfl) ?_
      refine lv_iload_n hx hb dX4_takePatch_27 rfl (lv_at hl 2 rfl) ?_
      refine lv_bipush (v := (20 : Int32)) hx hb dX4_takePatch_28 (by decide) ?_
      refine lv_isub hx hb dX4_takePatch_30 ?_
      obtain ⟨w_7, e_7, hF⟩ := bnd hF
      refine m_wrI X hH hS e_7 dX4_takePatch_31 (fun H locs hH hS => ?_)
      refine lv_iconst (v := (1 : Int32)) hx hb dX4_takePatch_32 (by decide) ?_
      have hF := Option.some.inj hF
      subst hF
      exact m_zret (r := (1 : Int32)) X hr hlk (by decide) hH hS dX4_takePatch_33
    · replace hF := itf c_5 hF
      refine lv_iconst (v := (0 : Int32)) hx hb dX4_takePatch_20 (by decide) ?_
      have hF := Option.some.inj hF
      subst hF
      exact m_zret (r := (0 : Int32)) X hr hlk (by decide) hH hS dX4_takePatch_21
noncomputable def fX4_take (p0 : Nat) (v1 : Int32) (p2 : Nat) (w : Wd) : Option (Int32 × Wd) := (rdI p2 (0 : Int32) w).bind fun x_1 => (rdI p2 (1 : Int32) w).bind fun x_2 => (rdI p2 (2 : Int32) w).bind fun x_3 => if v1 = (99 : Int32) then (isO 3 p0 w).bind fun u_10 => (fX4_takePatch p0 x_1 x_2 w).bind fun q_11 => (bz q_11.1).bind fun x_12 => some (x_12, q_11.2) else if v1 = (102 : Int32) then (isO 3 p0 w).bind fun u_13 => (fX4_takeFrame p0 x_1 x_2 w).bind fun q_14 => (bz q_14.1).bind fun x_15 => some (x_15, q_14.2) else if v1 = (110 : Int32) then (isO 3 p0 w).bind fun u_16 => (fX4_takeTurn p0 x_1 x_2 x_3 w).bind fun q_17 => (bz q_17.1).bind fun x_18 => some (x_18, q_17.2) else if v1 = (112 : Int32) then (isO 3 p0 w).bind fun u_19 => (fX4_takePerson p0 x_1 x_2 w).bind fun q_20 => (bz q_20.1).bind fun x_21 => some (x_21, q_20.2) else if v1 = (116 : Int32) then (isO 3 p0 w).bind fun u_22 => (fX4_takeWire p0 x_1 x_2 w).bind fun q_23 => (bz q_23.1).bind fun x_24 => some (x_24, q_23.2) else if v1 = (119 : Int32) then (isO 3 p0 w).bind fun u_25 => (fX4_takeComing p0 x_1 x_2 x_3 w).bind fun q_26 => (bz q_26.1).bind fun x_27 => some (x_27, q_26.2) else some ((0 : Int32), w)
set_option maxHeartbeats 4000000 in
set_option maxRecDepth 100000 in
theorem k_X4_take (l : Launch) (D : va_G) (cI cT cII : ClassId) (base : Nat) (p0 : Nat) (v1 : Int32) (p2 : Nat) (w : Wd) (res : Int32 × Wd) (hF : fX4_take p0 v1 p2 w = some res) : Ct l yX4_take cX4_take 6 (some .boolean) { frames := 2, cells := 0, slots := 0, locals := 46 } D cI cT cII base [.ref (base + p0), .int v1, .ref (base + p2)] w res.2 (some (.int res.1)) 0 0 := by
  unfold fX4_take at hF
  refine m_enter (by decide) (Nat.le_of_ble_eq_true rfl) ?_
  intro p e s m below meth c ls X hr hlk hnm hH hS hl
  have hx := X.1
  have hb := X.2.1
  have hc : (0 : Nat) ≤ ({ frames := 2, cells := 0, slots := 0, locals := 46 } : Room).cells ∧ (0 : Nat) ≤ ({ frames := 2, cells := 0, slots := 0, locals := 46 } : Room).slots := ⟨Nat.zero_le _, Nat.zero_le _⟩
  obtain ⟨H, hHe⟩ : ∃ H : Heap, H = s.heap := ⟨_, rfl⟩
  obtain ⟨locs, hle⟩ : ∃ L : List Loc, L = [] := ⟨_, rfl⟩
  have hl : lv_has ls 6 [(0, .ref (base + p0)), (1, .int v1), (2, .ref (base + p2))] := hl
  rw [← hHe] at hH
  have hS : va_S (fun q => base ≤ q) s.heap H locs := by rw [hHe, hle]; exact hS
  rw [← hle]
  show W p l e _ s m _ below meth c s.heap locs 0 0 _ _
  rw [← hHe]
  refine lv_aload_n hx hb dX4_take_0 rfl (lv_at hl 2 rfl) ?_
  refine lv_iconst (v := (0 : Int32)) hx hb dX4_take_1 (by decide) ?_
  obtain ⟨x_1, e_1, hF⟩ := bnd hF
  refine m_rdI X hH e_1 dX4_take_2 ?_
  refine lv_istore_n (lv' := [(3, .int x_1), (0, .ref (base + p0)), (1, .int v1), (2, .ref (base + p2))]) hx hb dX4_take_3 rfl hl (by decide) rfl (fun ls hl => ?_)
  refine lv_aload_n hx hb dX4_take_4 rfl (lv_at hl 3 rfl) ?_
  refine lv_iconst (v := (1 : Int32)) hx hb dX4_take_5 (by decide) ?_
  obtain ⟨x_2, e_2, hF⟩ := bnd hF
  refine m_rdI X hH e_2 dX4_take_6 ?_
  refine lv_istore (lv' := [(4, .int x_2), (3, .int x_1), (0, .ref (base + p0)), (1, .int v1), (2, .ref (base + p2))]) hx hb dX4_take_7 hl (by decide) rfl (fun ls hl => ?_)
  refine lv_aload_n hx hb dX4_take_9 rfl (lv_at hl 4 rfl) ?_
  refine lv_iconst (v := (2 : Int32)) hx hb dX4_take_10 (by decide) ?_
  obtain ⟨x_3, e_3, hF⟩ := bnd hF
  refine m_rdI X hH e_3 dX4_take_11 ?_
  refine lv_istore (lv' := [(5, .int x_3), (4, .int x_2), (3, .int x_1), (0, .ref (base + p0)), (1, .int v1), (2, .ref (base + p2))]) hx hb dX4_take_12 hl (by decide) rfl (fun ls hl => ?_)
  refine lv_iload_n hx hb dX4_take_14 rfl (lv_at hl 4 rfl) ?_
  by_cases c_4 : v1 = (99 : Int32)
  · replace hF := itt c_4 hF
    refine lv_lookup (off := 101) (tgt := 116) hx hb dX4_take_15 (by decide) (by rw [c_4]; decide) (by decide) ?_
    refine lv_aload_n hx hb dX4_take_116 rfl (lv_at hl 3 rfl) ?_
    refine lv_iload_n hx hb dX4_take_117 rfl (lv_at hl 2 rfl) ?_
    refine lv_iload hx hb dX4_take_118 (lv_at hl 1 rfl) ?_
    obtain ⟨u_10, ou_10, hF⟩ := bnd hF
    obtain ⟨q_11, e_11, hF⟩ := bnd hF
    refine m_callV (As := [.int x_1, .int x_2]) (rest := []) X hH hS hl.1 ou_10 rfl (by decide) (k_X4_takePatch l D cI cT cII base p0 x_1 x_2 w q_11 e_11) q_X4_takePatch kw_432 kw_434 kw_7 rfl rfl (Nat.le_of_ble_eq_true rfl) ⟨by decide, by decide⟩ hc dX4_take_120 (fun H locs hH hS => W.eq (g2 := F0 m 123 ls [.int q_11.1]) rfl ?_)
    obtain ⟨x_12, e_12, hF⟩ := bnd hF
    obtain ⟨z_x_12, rfl⟩ := isn e_12
    have hF := Option.some.inj hF
    subst hF
    exact m_zret X hr hlk (if_pos z_x_12) hH hS dX4_take_123
  · replace hF := itf c_4 hF
    by_cases c_5 : v1 = (102 : Int32)
    · replace hF := itt c_5 hF
      refine lv_lookup (off := 57) (tgt := 72) hx hb dX4_take_15 (by decide) (by rw [c_5]; decide) (by decide) ?_
      refine lv_aload_n hx hb dX4_take_72 rfl (lv_at hl 3 rfl) ?_
      refine lv_iload_n hx hb dX4_take_73 rfl (lv_at hl 2 rfl) ?_
      refine lv_iload hx hb dX4_take_74 (lv_at hl 1 rfl) ?_
      obtain ⟨u_13, ou_13, hF⟩ := bnd hF
      obtain ⟨q_14, e_14, hF⟩ := bnd hF
      refine m_callV (As := [.int x_1, .int x_2]) (rest := []) X hH hS hl.1 ou_13 rfl (by decide) (k_X4_takeFrame l D cI cT cII base p0 x_1 x_2 w q_14 e_14) q_X4_takeFrame kw_407 kw_409 kw_2 rfl rfl (Nat.le_of_ble_eq_true rfl) ⟨by decide, by decide⟩ hc dX4_take_76 (fun H locs hH hS => W.eq (g2 := F0 m 79 ls [.int q_14.1]) rfl ?_)
      obtain ⟨x_15, e_15, hF⟩ := bnd hF
      obtain ⟨z_x_15, rfl⟩ := isn e_15
      have hF := Option.some.inj hF
      subst hF
      exact m_zret X hr hlk (if_pos z_x_15) hH hS dX4_take_79
    · replace hF := itf c_5 hF
      by_cases c_6 : v1 = (110 : Int32)
      · replace hF := itt c_6 hF
        refine lv_lookup (off := 91) (tgt := 106) hx hb dX4_take_15 (by decide) (by rw [c_6]; decide) (by decide) ?_
        refine lv_aload_n hx hb dX4_take_106 rfl (lv_at hl 3 rfl) ?_
        refine lv_iload_n hx hb dX4_take_107 rfl (lv_at hl 2 rfl) ?_
        refine lv_iload hx hb dX4_take_108 (lv_at hl 1 rfl) ?_
        refine lv_iload hx hb dX4_take_110 (lv_at hl 0 rfl) ?_
        obtain ⟨u_16, ou_16, hF⟩ := bnd hF
        obtain ⟨q_17, e_17, hF⟩ := bnd hF
        refine m_callV (As := [.int x_1, .int x_2, .int x_3]) (rest := []) X hH hS hl.1 ou_16 rfl (by decide) (k_X4_takeTurn l D cI cT cII base p0 x_1 x_2 x_3 w q_17 e_17) q_X4_takeTurn kw_424 kw_426 kw_6 rfl rfl (Nat.le_of_ble_eq_true rfl) ⟨by decide, by decide⟩ hc dX4_take_112 (fun H locs hH hS => W.eq (g2 := F0 m 115 ls [.int q_17.1]) rfl ?_)
        obtain ⟨x_18, e_18, hF⟩ := bnd hF
        obtain ⟨z_x_18, rfl⟩ := isn e_18
        have hF := Option.some.inj hF
        subst hF
        exact m_zret X hr hlk (if_pos z_x_18) hH hS dX4_take_115
      · replace hF := itf c_6 hF
        by_cases c_7 : v1 = (112 : Int32)
        · replace hF := itt c_7 hF
          refine lv_lookup (off := 73) (tgt := 88) hx hb dX4_take_15 (by decide) (by rw [c_7]; decide) (by decide) ?_
          refine lv_aload_n hx hb dX4_take_88 rfl (lv_at hl 3 rfl) ?_
          refine lv_iload_n hx hb dX4_take_89 rfl (lv_at hl 2 rfl) ?_
          refine lv_iload hx hb dX4_take_90 (lv_at hl 1 rfl) ?_
          obtain ⟨u_19, ou_19, hF⟩ := bnd hF
          obtain ⟨q_20, e_20, hF⟩ := bnd hF
          refine m_callV (As := [.int x_1, .int x_2]) (rest := []) X hH hS hl.1 ou_19 rfl (by decide) (k_X4_takePerson l D cI cT cII base p0 x_1 x_2 w q_20 e_20) q_X4_takePerson kw_416 kw_418 kw_4 rfl rfl (Nat.le_of_ble_eq_true rfl) ⟨by decide, by decide⟩ hc dX4_take_92 (fun H locs hH hS => W.eq (g2 := F0 m 95 ls [.int q_20.1]) rfl ?_)
          obtain ⟨x_21, e_21, hF⟩ := bnd hF
          obtain ⟨z_x_21, rfl⟩ := isn e_21
          have hF := Option.some.inj hF
          subst hF
          exact m_zret X hr hlk (if_pos z_x_21) hH hS dX4_take_95
        · replace hF := itf c_7 hF
          by_cases c_8 : v1 = (116 : Int32)
          · replace hF := itt c_8 hF
            refine lv_lookup (off := 65) (tgt := 80) hx hb dX4_take_15 (by decide) (by rw [c_8]; decide) (by decide) ?_
            refine lv_aload_n hx hb dX4_take_80 rfl (lv_at hl 3 rfl) ?_
            refine lv_iload_n hx hb dX4_take_81 rfl (lv_at hl 2 rfl) ?_
            refine lv_iload hx hb dX4_take_82 (lv_at hl 1 rfl) ?_
            obtain ⟨u_22, ou_22, hF⟩ := bnd hF
            obtain ⟨q_23, e_23, hF⟩ := bnd hF
            refine m_callV (As := [.int x_1, .int x_2]) (rest := []) X hH hS hl.1 ou_22 rfl (by decide) (k_X4_takeWire l D cI cT cII base p0 x_1 x_2 w q_23 e_23) q_X4_takeWire kw_412 kw_414 kw_3 rfl rfl (Nat.le_of_ble_eq_true rfl) ⟨by decide, by decide⟩ hc dX4_take_84 (fun H locs hH hS => W.eq (g2 := F0 m 87 ls [.int q_23.1]) rfl ?_)
            obtain ⟨x_24, e_24, hF⟩ := bnd hF
            obtain ⟨z_x_24, rfl⟩ := isn e_24
            have hF := Option.some.inj hF
            subst hF
            exact m_zret X hr hlk (if_pos z_x_24) hH hS dX4_take_87
          · replace hF := itf c_8 hF
            by_cases c_9 : v1 = (119 : Int32)
            · replace hF := itt c_9 hF
              refine lv_lookup (off := 81) (tgt := 96) hx hb dX4_take_15 (by decide) (by rw [c_9]; decide) (by decide) ?_
              refine lv_aload_n hx hb dX4_take_96 rfl (lv_at hl 3 rfl) ?_
              refine lv_iload_n hx hb dX4_take_97 rfl (lv_at hl 2 rfl) ?_
              refine lv_iload hx hb dX4_take_98 (lv_at hl 1 rfl) ?_
              refine lv_iload hx hb dX4_take_100 (lv_at hl 0 rfl) ?_
              obtain ⟨u_25, ou_25, hF⟩ := bnd hF
              obtain ⟨q_26, e_26, hF⟩ := bnd hF
              refine m_callV (As := [.int x_1, .int x_2, .int x_3]) (rest := []) X hH hS hl.1 ou_25 rfl (by decide) (k_X4_takeComing l D cI cT cII base p0 x_1 x_2 x_3 w q_26 e_26) q_X4_takeComing kw_420 kw_422 kw_5 rfl rfl (Nat.le_of_ble_eq_true rfl) ⟨by decide, by decide⟩ hc dX4_take_102 (fun H locs hH hS => W.eq (g2 := F0 m 105 ls [.int q_26.1]) rfl ?_)
              obtain ⟨x_27, e_27, hF⟩ := bnd hF
              obtain ⟨z_x_27, rfl⟩ := isn e_27
              have hF := Option.some.inj hF
              subst hF
              exact m_zret X hr hlk (if_pos z_x_27) hH hS dX4_take_105
            · replace hF := itf c_9 hF
              refine lv_lookup (off := 109) (tgt := 124) hx hb dX4_take_15 (by decide) (by show Op.lookupswitch.offset [(99, 101), (102, 57), (110, 91), (112, 73), (116, 65), (119, 81)] 109 _ = _; rw [lv_osw c_4 (by decide), lv_osw c_5 (by decide), lv_osw c_6 (by decide), lv_osw c_7 (by decide), lv_osw c_8 (by decide), lv_osw c_9 (by decide)]; rfl) (by decide) ?_
              refine lv_iconst (v := (0 : Int32)) hx hb dX4_take_124 (by decide) ?_
              have hF := Option.some.inj hF
              subst hF
              exact m_zret (r := (0 : Int32)) X hr hlk (by decide) hH hS dX4_take_125
noncomputable def fX6_readAll_11 (p0 : Nat) (p1 : Nat) (p2 : Nat) (K_60 : Int32 → Wd → Option (Int32 × Wd)) (K_69 : Wd → Option (Int32 × Wd)) : Nat → Int32 → Wd → Option (Int32 × Wd)
  | 0, _, _ => none
  | n + 1, v3, w => if (200 : Int32) ≤ v3 then K_69  w else (gfI 5 1 p0 w).bind fun x_5 => (gfI 8 1 p1 w).bind fun x_6 => if x_6 ≤ x_5 then K_69  w else (gfI 5 1 p0 w).bind fun x_8 => (isO 5 p0 w).bind fun u_9 => (fX6_readItem p0 p1 w).bind fun q_10 => if q_10.1 = 0 then K_60 x_8 q_10.2 else (isO 8 p1 q_10.2).bind fun u_12 => (fX9_letterAt p1 x_8 q_10.2).bind fun q_13 => (gfR 5 0 p0 q_13.2).bind fun r_14 => (isO 3 p2 q_13.2).bind fun u_15 => (fX4_take p2 q_13.1 r_14 q_13.2).bind fun q_16 => if q_16.1 = 0 then K_60 x_8 q_16.2 else fX6_readAll_11 p0 p1 p2 K_60 K_69 n (v3 + (1 : Int32)) q_16.2
noncomputable def fX6_readAll (p0 : Nat) (p1 : Nat) (p2 : Nat) (w : Wd) : Option (Int32 × Wd) := (isO 3 p2 w).bind fun u_1 => (fX4_empty p2 w).bind fun q_2 => (pfI 5 1 p0 (0 : Int32) q_2.2).bind fun w_3 => fX6_readAll_11 p0 p1 p2 (fun (v4_19 : Int32) (w_18 : Wd) => some (v4_19, w_18)) (fun  (w_20 : Wd) => some ((-4 : Int32), w_20)) FV (0 : Int32) w_3
set_option maxHeartbeats 4000000 in
set_option maxRecDepth 100000 in
theorem l_X6_readAll_11 (X : Cx p R s m args c cX6_readAll 5 RX6 D cI cT cII 5 111) (hc : cells ≤ R.cells ∧ slots ≤ R.slots) (p0 : Nat) (p1 : Nat) (p2 : Nat) (K_60 : Int32 → Wd → Option (Int32 × Wd)) (K_69 : Wd → Option (Int32 × Wd)) (res : Int32 × Wd)
    (hK_60 : ∀ (z4 : Int32) (w : Wd), K_60 z4 w = some res → ∀ (H : Heap) (locs : List Loc) (ls : Array Slot), Hd D cI cT cII base w H → va_S (fun q => base ≤ q) s.heap H locs → lv_has ls 5 [(4, .int z4)] → W p l e R s m args below meth c H locs cells slots Q (F0 m 60 ls []))
    (hK_69 : ∀  (w : Wd), K_69  w = some res → ∀ (H : Heap) (locs : List Loc) (ls : Array Slot), Hd D cI cT cII base w H → va_S (fun q => base ≤ q) s.heap H locs → lv_has ls 5 [] → W p l e R s m args below meth c H locs cells slots Q (F0 m 69 ls [])) :
    ∀ (n : Nat) (v3 : Int32) (w : Wd), fX6_readAll_11 p0 p1 p2 K_60 K_69 n v3 w = some res → ∀ (H : Heap) (locs : List Loc) (ls : Array Slot), Hd D cI cT cII base w H → va_S (fun q => base ≤ q) s.heap H locs → lv_has ls 5 [(0, .ref (base + p0)), (1, .ref (base + p1)), (2, .ref (base + p2)), (3, .int v3)] → W p l e R s m args below meth c H locs cells slots Q (F0 m 11 ls []) := by
  have hx := X.1
  have hb := X.2.1
  intro n
  induction n with
  | zero =>
    intro v3 w hF
    rw [fX6_readAll_11] at hF
    cases hF
  | succ n ih =>
    intro v3 w hF H locs ls hH hS hl
    rw [fX6_readAll_11] at hF
    refine lv_iload_n hx hb dX6_readAll_11 rfl (lv_at hl 3 rfl) ?_
    refine lv_sipush (v := (200 : Int32)) hx hb dX6_readAll_12 (by decide) ?_
    refine lv_icmp_ge (tgt := 69) hx hb dX6_readAll_15 (by decide) (fun c_4 => ?_) (fun c_4 => ?_)
    · replace hF := itt c_4 hF
      exact hK_69  w hF H locs ls hH hS (lv_sub hl [] rfl)
    · replace hF := itf c_4 hF
      refine lv_aload_n hx hb dX6_readAll_18 rfl (lv_at hl 0 rfl) ?_
      obtain ⟨x_5, e_5, hF⟩ := bnd hF
      refine m_gI X hH e_5 gg_X6_20 dX6_readAll_19 ?_
      refine lv_aload_n hx hb dX6_readAll_22 rfl (lv_at hl 1 rfl) ?_
      obtain ⟨x_6, e_6, hF⟩ := bnd hF
      refine m_hI X hH e_6 gg_X6_24 dX6_readAll_23 ?_
      refine lv_icmp_ge (tgt := 69) hx hb dX6_readAll_26 (by decide) (fun c_7 => ?_) (fun c_7 => ?_)
      · replace hF := itt c_7 hF
        exact hK_69  w hF H locs ls hH hS (lv_sub hl [] rfl)
      · replace hF := itf c_7 hF
        refine lv_aload_n hx hb dX6_readAll_29 rfl (lv_at hl 0 rfl) ?_
        obtain ⟨x_8, e_8, hF⟩ := bnd hF
        refine m_gI X hH e_8 gg_X6_20 dX6_readAll_30 ?_
        refine lv_istore (lv' := [(4, .int x_8), (0, .ref (base + p0)), (1, .ref (base + p1)), (2, .ref (base + p2)), (3, .int v3)]) hx hb dX6_readAll_33 hl (by decide) rfl (fun ls hl => ?_)
        refine lv_aload_n hx hb dX6_readAll_35 rfl (lv_at hl 1 rfl) ?_
        refine lv_aload_n hx hb dX6_readAll_36 rfl (lv_at hl 2 rfl) ?_
        obtain ⟨u_9, ou_9, hF⟩ := bnd hF
        obtain ⟨q_10, e_10, hF⟩ := bnd hF
        refine m_callV (As := [.ref (base + p1)]) (rest := []) X hH hS hl.1 ou_9 rfl (by decide) (k_X6_readItem l D cI cT cII base p0 p1 w q_10 e_10) q_X6_readItem kw_382 kw_384 kw_0 rfl rfl (Nat.le_of_ble_eq_true rfl) ⟨by decide, by decide⟩ hc dX6_readAll_37 (fun H locs hH hS => W.eq (g2 := F0 m 40 ls [.int q_10.1]) rfl ?_)
        refine lv_if_eq (tgt := 60) hx hb dX6_readAll_40 (by decide) (fun c_11 => ?_) (fun c_11 => ?_)
        · replace hF := itt c_11 hF
          exact hK_60 x_8 q_10.2 hF H locs ls hH hS (lv_sub hl [0] rfl)
        · replace hF := itf c_11 hF
          refine lv_aload_n hx hb dX6_readAll_43 rfl (lv_at hl 3 rfl) ?_
          refine lv_aload_n hx hb dX6_readAll_44 rfl (lv_at hl 2 rfl) ?_
          refine lv_iload hx hb dX6_readAll_45 (lv_at hl 0 rfl) ?_
          obtain ⟨u_12, ou_12, hF⟩ := bnd hF
          obtain ⟨q_13, e_13, hF⟩ := bnd hF
          refine m_callV (As := [.int x_8]) (rest := [.ref (base + p2)]) X hH hS hl.1 ou_12 rfl (by decide) (k_X9_letterAt l D cI cT cII base p1 x_8 q_10.2 q_13 e_13) q_X9_letterAt kw_386 kw_387 kw_388 rfl rfl (Nat.le_of_ble_eq_true rfl) ⟨by decide, by decide⟩ hc dX6_readAll_47 (fun H locs hH hS => W.eq (g2 := F0 m 50 ls [.int q_13.1, .ref (base + p2)]) rfl ?_)
          refine lv_aload_n hx hb dX6_readAll_50 rfl (lv_at hl 1 rfl) ?_
          obtain ⟨r_14, e_14, hF⟩ := bnd hF
          refine m_gR X hH e_14 gg_X6_11 dX6_readAll_51 ?_
          obtain ⟨u_15, ou_15, hF⟩ := bnd hF
          obtain ⟨q_16, e_16, hF⟩ := bnd hF
          refine m_callV (As := [.int q_13.1, .ref (base + r_14)]) (rest := []) X hH hS hl.1 ou_15 rfl (by decide) (k_X4_take l D cI cT cII base p2 q_13.1 r_14 q_13.2 q_16 e_16) q_X4_take kw_403 kw_404 kw_405 rfl rfl (Nat.le_of_ble_eq_true rfl) ⟨by decide, by decide⟩ hc dX6_readAll_54 (fun H locs hH hS => W.eq (g2 := F0 m 57 ls [.int q_16.1]) rfl ?_)
          refine lv_if_ne (tgt := 63) hx hb dX6_readAll_57 (by decide) (fun c_17 => ?_) (fun c_17 => ?_)
          · replace hF := itf c_17 hF
            refine lv_iinc (v := v3 + (1 : Int32)) (lv' := [(3, .int (v3 + (1 : Int32))), (4, .int x_8), (0, .ref (base + p0)), (1, .ref (base + p1)), (2, .ref (base + p2))]) hx hb dX6_readAll_63 hl (k := 4) rfl (congrArg (fun z => v3 + z) (by decide)) (by decide) rfl (fun ls hl => ?_)
            refine lv_goto (tgt := 11) hx hb dX6_readAll_66 (by decide) ?_
            exact ih (v3 + (1 : Int32)) q_16.2 hF H locs ls hH hS (lv_sub hl [2, 3, 4, 0] rfl)
          · replace hF := itt c_17 hF
            exact hK_60 x_8 q_16.2 hF H locs ls hH hS (lv_sub hl [0] rfl)
set_option maxHeartbeats 4000000 in
set_option maxRecDepth 100000 in
theorem k_X6_readAll (l : Launch) (D : va_G) (cI cT cII : ClassId) (base : Nat) (p0 : Nat) (p1 : Nat) (p2 : Nat) (w : Wd) (res : Int32 × Wd) (hF : fX6_readAll p0 p1 p2 w = some res) : Ct l yX6_readAll cX6_readAll 5 (some .int) { frames := 5, cells := 0, slots := 0, locals := 111 } D cI cT cII base [.ref (base + p0), .ref (base + p1), .ref (base + p2)] w res.2 (some (.int res.1)) 0 0 := by
  unfold fX6_readAll at hF
  refine m_enter (by decide) (Nat.le_of_ble_eq_true rfl) ?_
  intro p e s m below meth c ls X hr hlk hnm hH hS hl
  have hx := X.1
  have hb := X.2.1
  have hc : (0 : Nat) ≤ ({ frames := 5, cells := 0, slots := 0, locals := 111 } : Room).cells ∧ (0 : Nat) ≤ ({ frames := 5, cells := 0, slots := 0, locals := 111 } : Room).slots := ⟨Nat.zero_le _, Nat.zero_le _⟩
  obtain ⟨H, hHe⟩ : ∃ H : Heap, H = s.heap := ⟨_, rfl⟩
  obtain ⟨locs, hle⟩ : ∃ L : List Loc, L = [] := ⟨_, rfl⟩
  have hl : lv_has ls 5 [(0, .ref (base + p0)), (1, .ref (base + p1)), (2, .ref (base + p2))] := hl
  rw [← hHe] at hH
  have hS : va_S (fun q => base ≤ q) s.heap H locs := by rw [hHe, hle]; exact hS
  rw [← hle]
  show W p l e _ s m _ below meth c s.heap locs 0 0 _ _
  rw [← hHe]
  refine lv_aload_n hx hb dX6_readAll_0 rfl (lv_at hl 2 rfl) ?_
  obtain ⟨u_1, ou_1, hF⟩ := bnd hF
  obtain ⟨q_2, e_2, hF⟩ := bnd hF
  refine m_callV (As := []) (rest := []) X hH hS hl.1 ou_1 rfl (by decide) (k_X4_empty l D cI cT cII base p2 w q_2 e_2) q_X4_empty kw_378 kw_379 kw_380 rfl rfl (Nat.le_of_ble_eq_true rfl) ⟨by decide, by decide⟩ hc dX6_readAll_1 (fun H locs hH hS => W.eq (g2 := F0 m 4 ls []) rfl ?_)
  refine lv_aload_n hx hb dX6_readAll_4 rfl (lv_at hl 0 rfl) ?_
  refine lv_iconst (v := (0 : Int32)) hx hb dX6_readAll_5 (by decide) ?_
  obtain ⟨w_3, e_3, hF⟩ := bnd hF
  refine m_pI X hH hS e_3 gp_X6_20 rfl rfl dX6_readAll_6 (fun H locs hH hS => ?_)
  refine lv_iconst (v := (0 : Int32)) hx hb dX6_readAll_9 (by decide) ?_
  refine lv_istore_n (lv' := [(3, .int (0 : Int32)), (0, .ref (base + p0)), (1, .ref (base + p1)), (2, .ref (base + p2))]) hx hb dX6_readAll_10 rfl hl (by decide) rfl (fun ls hl => ?_)
  refine l_X6_readAll_11 X hc p0 p1 p2 _ _ res ?_ ?_ FV (0 : Int32) w_3 hF H locs ls hH hS (lv_sub hl [1, 2, 3, 0] rfl)
  · intro v4_19 w_18 hF H locs ls hH hS hl
    refine lv_iload hx hb dX6_readAll_60 (lv_at hl 0 rfl) ?_
    have hF := Option.some.inj hF
    subst hF
    exact m_iret X hr hlk hH hS dX6_readAll_62
  · intro  w_20 hF H locs ls hH hS hl
    refine lv_bipush (v := (-4 : Int32)) hx hb dX6_readAll_69 (by decide) ?_
    have hF := Option.some.inj hF
    subst hF
    exact m_iret X hr hlk hH hS dX6_readAll_71
noncomputable def fX11_fault (p0 : Nat) (w : Wd) : Option (Int32 × Wd) := (gfR 10 1 p0 w).bind fun r_1 => (gfR 10 0 p0 w).bind fun r_2 => (gfR 10 11 p0 w).bind fun r_3 => (isO 5 r_1 w).bind fun u_4 => (fX6_readAll r_1 r_2 r_3 w).bind fun q_5 => some (q_5.1, q_5.2)
set_option maxHeartbeats 4000000 in
set_option maxRecDepth 100000 in
theorem k_X11_fault (l : Launch) (D : va_G) (cI cT cII : ClassId) (base : Nat) (p0 : Nat) (w : Wd) (res : Int32 × Wd) (hF : fX11_fault p0 w = some res) : Ct l yX11_fault cX11_fault 1 (some .int) { frames := 6, cells := 0, slots := 0, locals := 135 } D cI cT cII base [.ref (base + p0)] w res.2 (some (.int res.1)) 0 0 := by
  unfold fX11_fault at hF
  refine m_enter (by decide) (Nat.le_of_ble_eq_true rfl) ?_
  intro p e s m below meth c ls X hr hlk hnm hH hS hl
  have hx := X.1
  have hb := X.2.1
  have hc : (0 : Nat) ≤ ({ frames := 6, cells := 0, slots := 0, locals := 135 } : Room).cells ∧ (0 : Nat) ≤ ({ frames := 6, cells := 0, slots := 0, locals := 135 } : Room).slots := ⟨Nat.zero_le _, Nat.zero_le _⟩
  obtain ⟨H, hHe⟩ : ∃ H : Heap, H = s.heap := ⟨_, rfl⟩
  obtain ⟨locs, hle⟩ : ∃ L : List Loc, L = [] := ⟨_, rfl⟩
  have hl : lv_has ls 1 [(0, .ref (base + p0))] := hl
  rw [← hHe] at hH
  have hS : va_S (fun q => base ≤ q) s.heap H locs := by rw [hHe, hle]; exact hS
  rw [← hle]
  show W p l e _ s m _ below meth c s.heap locs 0 0 _ _
  rw [← hHe]
  refine lv_aload_n hx hb dX11_fault_0 rfl (lv_at hl 0 rfl) ?_
  obtain ⟨r_1, e_1, hF⟩ := bnd hF
  refine m_gR X hH e_1 gg_X11_19 dX11_fault_1 ?_
  refine lv_aload_n hx hb dX11_fault_4 rfl (lv_at hl 0 rfl) ?_
  obtain ⟨r_2, e_2, hF⟩ := bnd hF
  refine m_gR X hH e_2 gg_X11_10 dX11_fault_5 ?_
  refine lv_aload_n hx hb dX11_fault_8 rfl (lv_at hl 0 rfl) ?_
  obtain ⟨r_3, e_3, hF⟩ := bnd hF
  refine m_gR X hH e_3 gg_X11_84 dX11_fault_9 ?_
  obtain ⟨u_4, ou_4, hF⟩ := bnd hF
  obtain ⟨q_5, e_5, hF⟩ := bnd hF
  refine m_callV (As := [.ref (base + r_2), .ref (base + r_3)]) (rest := []) X hH hS hl.1 ou_4 rfl (by decide) (k_X6_readAll l D cI cT cII base r_1 r_2 r_3 w q_5 e_5) q_X6_readAll kw_374 kw_375 kw_376 rfl rfl (Nat.le_of_ble_eq_true rfl) ⟨by decide, by decide⟩ hc dX11_fault_12 (fun H locs hH hS => W.eq (g2 := F0 m 15 ls [.int q_5.1]) rfl ?_)
  have hF := Option.some.inj hF
  subst hF
  exact m_iret X hr hlk hH hS dX11_fault_15
noncomputable def fX5_areAlike_3 (p0 : Nat) (p1 : Nat) (v2 : Int32) (v3 : Int32) (K_91 : Wd → Option (Int32 × Wd)) (K_99 : Wd → Option (Int32 × Wd)) : Nat → Int32 → Wd → Option (Int32 × Wd)
  | 0, _, _ => none
  | n + 1, v4, w => (gfI 3 7 p1 w).bind fun x_1 => if x_1 ≤ v4 then K_99  w else (isO 3 p1 w).bind fun u_3 => (fX4_setBy p1 v4 v2 w).bind fun q_4 => (isO 3 p1 q_4.2).bind fun u_5 => (fX4_setBy p1 v4 v3 q_4.2).bind fun q_6 => if (iabs q_4.1) = v2 then if (iabs q_6.1) = v3 then if (1 : Int32) = (1 : Int32) then if (1 : Int32) = 0 then (gfR 4 2 p0 q_6.2).bind fun r_33 => (rdI r_33 (iabs q_4.1) q_6.2).bind fun x_34 => (gfR 4 2 p0 q_6.2).bind fun r_35 => (rdI r_35 (iabs q_6.1) q_6.2).bind fun x_36 => if x_34 = x_36 then fX5_areAlike_3 p0 p1 v2 v3 K_91 K_99 n (v4 + (1 : Int32)) q_6.2 else K_91  q_6.2 else fX5_areAlike_3 p0 p1 v2 v3 K_91 K_99 n (v4 + (1 : Int32)) q_6.2 else K_91  q_6.2 else if (1 : Int32) = (0 : Int32) then if (0 : Int32) = 0 then (gfR 4 2 p0 q_6.2).bind fun r_26 => (rdI r_26 (iabs q_4.1) q_6.2).bind fun x_27 => (gfR 4 2 p0 q_6.2).bind fun r_28 => (rdI r_28 (iabs q_6.1) q_6.2).bind fun x_29 => if x_27 = x_29 then fX5_areAlike_3 p0 p1 v2 v3 K_91 K_99 n (v4 + (1 : Int32)) q_6.2 else K_91  q_6.2 else fX5_areAlike_3 p0 p1 v2 v3 K_91 K_99 n (v4 + (1 : Int32)) q_6.2 else K_91  q_6.2 else if (iabs q_6.1) = v3 then if (0 : Int32) = (1 : Int32) then if (1 : Int32) = 0 then (gfR 4 2 p0 q_6.2).bind fun r_18 => (rdI r_18 (iabs q_4.1) q_6.2).bind fun x_19 => (gfR 4 2 p0 q_6.2).bind fun r_20 => (rdI r_20 (iabs q_6.1) q_6.2).bind fun x_21 => if x_19 = x_21 then fX5_areAlike_3 p0 p1 v2 v3 K_91 K_99 n (v4 + (1 : Int32)) q_6.2 else K_91  q_6.2 else fX5_areAlike_3 p0 p1 v2 v3 K_91 K_99 n (v4 + (1 : Int32)) q_6.2 else K_91  q_6.2 else if (0 : Int32) = (0 : Int32) then if (0 : Int32) = 0 then (gfR 4 2 p0 q_6.2).bind fun r_11 => (rdI r_11 (iabs q_4.1) q_6.2).bind fun x_12 => (gfR 4 2 p0 q_6.2).bind fun r_13 => (rdI r_13 (iabs q_6.1) q_6.2).bind fun x_14 => if x_12 = x_14 then fX5_areAlike_3 p0 p1 v2 v3 K_91 K_99 n (v4 + (1 : Int32)) q_6.2 else K_91  q_6.2 else fX5_areAlike_3 p0 p1 v2 v3 K_91 K_99 n (v4 + (1 : Int32)) q_6.2 else K_91  q_6.2
noncomputable def fX5_areAlike (p0 : Nat) (p1 : Nat) (v2 : Int32) (v3 : Int32) (w : Wd) : Option (Int32 × Wd) := fX5_areAlike_3 p0 p1 v2 v3 (fun  (w_38 : Wd) => some ((0 : Int32), w_38)) (fun  (w_39 : Wd) => some ((1 : Int32), w_39)) FV (0 : Int32) w
set_option maxHeartbeats 4000000 in
set_option maxRecDepth 100000 in
theorem l_X5_areAlike_3 (X : Cx p R s m args c cX5_areAlike 9 RX5 D cI cT cII 3 65) (hc : cells ≤ R.cells ∧ slots ≤ R.slots) (p0 : Nat) (p1 : Nat) (v2 : Int32) (v3 : Int32) (K_91 : Wd → Option (Int32 × Wd)) (K_99 : Wd → Option (Int32 × Wd)) (res : Int32 × Wd)
    (hK_91 : ∀  (w : Wd), K_91  w = some res → ∀ (H : Heap) (locs : List Loc) (ls : Array Slot), Hd D cI cT cII base w H → va_S (fun q => base ≤ q) s.heap H locs → lv_has ls 9 [] → W p l e R s m args below meth c H locs cells slots Q (F0 m 91 ls []))
    (hK_99 : ∀  (w : Wd), K_99  w = some res → ∀ (H : Heap) (locs : List Loc) (ls : Array Slot), Hd D cI cT cII base w H → va_S (fun q => base ≤ q) s.heap H locs → lv_has ls 9 [] → W p l e R s m args below meth c H locs cells slots Q (F0 m 99 ls [])) :
    ∀ (n : Nat) (v4 : Int32) (w : Wd), fX5_areAlike_3 p0 p1 v2 v3 K_91 K_99 n v4 w = some res → ∀ (H : Heap) (locs : List Loc) (ls : Array Slot), Hd D cI cT cII base w H → va_S (fun q => base ≤ q) s.heap H locs → lv_has ls 9 [(0, .ref (base + p0)), (1, .ref (base + p1)), (2, .int v2), (3, .int v3), (4, .int v4)] → W p l e R s m args below meth c H locs cells slots Q (F0 m 3 ls []) := by
  have hx := X.1
  have hb := X.2.1
  intro n
  induction n with
  | zero =>
    intro v4 w hF
    rw [fX5_areAlike_3] at hF
    cases hF
  | succ n ih =>
    intro v4 w hF H locs ls hH hS hl
    rw [fX5_areAlike_3] at hF
    refine lv_iload hx hb dX5_areAlike_3 (lv_at hl 4 rfl) ?_
    refine lv_aload_n hx hb dX5_areAlike_5 rfl (lv_at hl 1 rfl) ?_
    obtain ⟨x_1, e_1, hF⟩ := bnd hF
    refine m_hI X hH e_1 gg_X5_102 dX5_areAlike_6 ?_
    refine lv_icmp_ge (tgt := 99) hx hb dX5_areAlike_9 (by decide) (fun c_2 => ?_) (fun c_2 => ?_)
    · replace hF := itt c_2 hF
      exact hK_99  w hF H locs ls hH hS (lv_sub hl [] rfl)
    · replace hF := itf c_2 hF
      refine lv_aload_n hx hb dX5_areAlike_12 rfl (lv_at hl 1 rfl) ?_
      refine lv_iload hx hb dX5_areAlike_13 (lv_at hl 4 rfl) ?_
      refine lv_iload_n hx hb dX5_areAlike_15 rfl (lv_at hl 2 rfl) ?_
      obtain ⟨u_3, ou_3, hF⟩ := bnd hF
      obtain ⟨q_4, e_4, hF⟩ := bnd hF
      refine m_callV (As := [.int v4, .int v2]) (rest := []) X hH hS hl.1 ou_3 rfl (by decide) (k_X4_setBy l D cI cT cII base p1 v4 v2 w q_4 e_4) q_X4_setBy kw_671 kw_565 kw_566 rfl rfl (Nat.le_of_ble_eq_true rfl) ⟨by decide, by decide⟩ hc dX5_areAlike_16 (fun H locs hH hS => W.eq (g2 := F0 m 19 ls [.int q_4.1]) rfl ?_)
      refine m_mabs X hl.1 kw_672 (by decide) (Nat.le_of_ble_eq_true rfl) hc dX5_areAlike_19 ?_
      refine lv_istore (lv' := [(5, .int (iabs q_4.1)), (0, .ref (base + p0)), (1, .ref (base + p1)), (2, .int v2), (3, .int v3), (4, .int v4)]) hx hb dX5_areAlike_22 hl (by decide) rfl (fun ls hl => ?_)
      refine lv_aload_n hx hb dX5_areAlike_24 rfl (lv_at hl 2 rfl) ?_
      refine lv_iload hx hb dX5_areAlike_25 (lv_at hl 5 rfl) ?_
      refine lv_iload_n hx hb dX5_areAlike_27 rfl (lv_at hl 4 rfl) ?_
      obtain ⟨u_5, ou_5, hF⟩ := bnd hF
      obtain ⟨q_6, e_6, hF⟩ := bnd hF
      refine m_callV (As := [.int v4, .int v3]) (rest := []) X hH hS hl.1 ou_5 rfl (by decide) (k_X4_setBy l D cI cT cII base p1 v4 v3 q_4.2 q_6 e_6) q_X4_setBy kw_671 kw_565 kw_566 rfl rfl (Nat.le_of_ble_eq_true rfl) ⟨by decide, by decide⟩ hc dX5_areAlike_28 (fun H locs hH hS => W.eq (g2 := F0 m 31 ls [.int q_6.1]) rfl ?_)
      refine m_mabs X hl.1 kw_672 (by decide) (Nat.le_of_ble_eq_true rfl) hc dX5_areAlike_31 ?_
      refine lv_istore (lv' := [(6, .int (iabs q_6.1)), (5, .int (iabs q_4.1)), (0, .ref (base + p0)), (1, .ref (base + p1)), (2, .int v2), (3, .int v3), (4, .int v4)]) hx hb dX5_areAlike_34 hl (by decide) rfl (fun ls hl => ?_)
      refine lv_iload hx hb dX5_areAlike_36 (lv_at hl 1 rfl) ?_
      refine lv_iload_n hx hb dX5_areAlike_38 rfl (lv_at hl 4 rfl) ?_
      refine lv_icmp_ne (tgt := 46) hx hb dX5_areAlike_39 (by decide) (fun c_7 => ?_) (fun c_7 => ?_)
      · replace hF := itf c_7 hF
        refine lv_iconst (v := (0 : Int32)) hx hb dX5_areAlike_46 (by decide) ?_
        refine lv_istore (lv' := [(7, .int (0 : Int32)), (6, .int (iabs q_6.1)), (5, .int (iabs q_4.1)), (0, .ref (base + p0)), (1, .ref (base + p1)), (2, .int v2), (3, .int v3), (4, .int v4)]) hx hb dX5_areAlike_47 hl (by decide) rfl (fun ls hl => ?_)
        refine lv_iload hx hb dX5_areAlike_49 (lv_at hl 1 rfl) ?_
        refine lv_iload_n hx hb dX5_areAlike_51 rfl (lv_at hl 6 rfl) ?_
        refine lv_icmp_ne (tgt := 59) hx hb dX5_areAlike_52 (by decide) (fun c_8 => ?_) (fun c_8 => ?_)
        · replace hF := itf c_8 hF
          refine lv_iconst (v := (0 : Int32)) hx hb dX5_areAlike_59 (by decide) ?_
          refine lv_istore (lv' := [(8, .int (0 : Int32)), (7, .int (0 : Int32)), (6, .int (iabs q_6.1)), (5, .int (iabs q_4.1)), (0, .ref (base + p0)), (1, .ref (base + p1)), (2, .int v2), (3, .int v3), (4, .int v4)]) hx hb dX5_areAlike_60 hl (by decide) rfl (fun ls hl => ?_)
          refine lv_iload hx hb dX5_areAlike_62 (lv_at hl 1 rfl) ?_
          refine lv_iload hx hb dX5_areAlike_64 (lv_at hl 0 rfl) ?_
          refine lv_icmp_ne (tgt := 91) hx hb dX5_areAlike_66 (by decide) (fun c_9 => ?_) (fun c_9 => ?_)
          · replace hF := itf c_9 hF
            exact hK_91  q_6.2 hF H locs ls hH hS (lv_sub hl [] rfl)
          · replace hF := itt c_9 hF
            refine lv_iload hx hb dX5_areAlike_69 (lv_at hl 0 rfl) ?_
            refine lv_if_ne (tgt := 93) hx hb dX5_areAlike_71 (by decide) (fun c_10 => ?_) (fun c_10 => ?_)
            · replace hF := itf c_10 hF
              refine lv_iinc (v := v4 + (1 : Int32)) (lv' := [(4, .int (v4 + (1 : Int32))), (8, .int (0 : Int32)), (7, .int (0 : Int32)), (6, .int (iabs q_6.1)), (5, .int (iabs q_4.1)), (0, .ref (base + p0)), (1, .ref (base + p1)), (2, .int v2), (3, .int v3)]) hx hb dX5_areAlike_93 hl (k := 8) rfl (congrArg (fun z => v4 + z) (by decide)) (by decide) rfl (fun ls hl => ?_)
              refine lv_goto (tgt := 3) hx hb dX5_areAlike_96 (by decide) ?_
              exact ih (v4 + (1 : Int32)) q_6.2 hF H locs ls hH hS (lv_sub hl [5, 6, 7, 8, 0] rfl)
            · replace hF := itt c_10 hF
              refine lv_aload_n hx hb dX5_areAlike_74 rfl (lv_at hl 4 rfl) ?_
              obtain ⟨r_11, e_11, hF⟩ := bnd hF
              refine m_gR X hH e_11 gg_X5_18 dX5_areAlike_75 ?_
              refine lv_iload hx hb dX5_areAlike_78 (lv_at hl 3 rfl) ?_
              obtain ⟨x_12, e_12, hF⟩ := bnd hF
              refine m_rdI X hH e_12 dX5_areAlike_80 ?_
              refine lv_aload_n hx hb dX5_areAlike_81 rfl (lv_at hl 4 rfl) ?_
              obtain ⟨r_13, e_13, hF⟩ := bnd hF
              refine m_gR X hH e_13 gg_X5_18 dX5_areAlike_82 ?_
              refine lv_iload hx hb dX5_areAlike_85 (lv_at hl 2 rfl) ?_
              obtain ⟨x_14, e_14, hF⟩ := bnd hF
              refine m_rdI X hH e_14 dX5_areAlike_87 ?_
              refine lv_icmp_eq (tgt := 93) hx hb dX5_areAlike_88 (by decide) (fun c_15 => ?_) (fun c_15 => ?_)
              · replace hF := itt c_15 hF
                refine lv_iinc (v := v4 + (1 : Int32)) (lv' := [(4, .int (v4 + (1 : Int32))), (8, .int (0 : Int32)), (7, .int (0 : Int32)), (6, .int (iabs q_6.1)), (5, .int (iabs q_4.1)), (0, .ref (base + p0)), (1, .ref (base + p1)), (2, .int v2), (3, .int v3)]) hx hb dX5_areAlike_93 hl (k := 8) rfl (congrArg (fun z => v4 + z) (by decide)) (by decide) rfl (fun ls hl => ?_)
                refine lv_goto (tgt := 3) hx hb dX5_areAlike_96 (by decide) ?_
                exact ih (v4 + (1 : Int32)) q_6.2 hF H locs ls hH hS (lv_sub hl [5, 6, 7, 8, 0] rfl)
              · replace hF := itf c_15 hF
                exact hK_91  q_6.2 hF H locs ls hH hS (lv_sub hl [] rfl)
        · replace hF := itt c_8 hF
          refine lv_iconst (v := (1 : Int32)) hx hb dX5_areAlike_55 (by decide) ?_
          refine lv_goto (tgt := 60) hx hb dX5_areAlike_56 (by decide) ?_
          refine lv_istore (lv' := [(8, .int (1 : Int32)), (7, .int (0 : Int32)), (6, .int (iabs q_6.1)), (5, .int (iabs q_4.1)), (0, .ref (base + p0)), (1, .ref (base + p1)), (2, .int v2), (3, .int v3), (4, .int v4)]) hx hb dX5_areAlike_60 hl (by decide) rfl (fun ls hl => ?_)
          refine lv_iload hx hb dX5_areAlike_62 (lv_at hl 1 rfl) ?_
          refine lv_iload hx hb dX5_areAlike_64 (lv_at hl 0 rfl) ?_
          refine lv_icmp_ne (tgt := 91) hx hb dX5_areAlike_66 (by decide) (fun c_16 => ?_) (fun c_16 => ?_)
          · replace hF := itf c_16 hF
            exact hK_91  q_6.2 hF H locs ls hH hS (lv_sub hl [] rfl)
          · replace hF := itt c_16 hF
            refine lv_iload hx hb dX5_areAlike_69 (lv_at hl 0 rfl) ?_
            refine lv_if_ne (tgt := 93) hx hb dX5_areAlike_71 (by decide) (fun c_17 => ?_) (fun c_17 => ?_)
            · replace hF := itf c_17 hF
              refine lv_iinc (v := v4 + (1 : Int32)) (lv' := [(4, .int (v4 + (1 : Int32))), (8, .int (1 : Int32)), (7, .int (0 : Int32)), (6, .int (iabs q_6.1)), (5, .int (iabs q_4.1)), (0, .ref (base + p0)), (1, .ref (base + p1)), (2, .int v2), (3, .int v3)]) hx hb dX5_areAlike_93 hl (k := 8) rfl (congrArg (fun z => v4 + z) (by decide)) (by decide) rfl (fun ls hl => ?_)
              refine lv_goto (tgt := 3) hx hb dX5_areAlike_96 (by decide) ?_
              exact ih (v4 + (1 : Int32)) q_6.2 hF H locs ls hH hS (lv_sub hl [5, 6, 7, 8, 0] rfl)
            · replace hF := itt c_17 hF
              refine lv_aload_n hx hb dX5_areAlike_74 rfl (lv_at hl 4 rfl) ?_
              obtain ⟨r_18, e_18, hF⟩ := bnd hF
              refine m_gR X hH e_18 gg_X5_18 dX5_areAlike_75 ?_
              refine lv_iload hx hb dX5_areAlike_78 (lv_at hl 3 rfl) ?_
              obtain ⟨x_19, e_19, hF⟩ := bnd hF
              refine m_rdI X hH e_19 dX5_areAlike_80 ?_
              refine lv_aload_n hx hb dX5_areAlike_81 rfl (lv_at hl 4 rfl) ?_
              obtain ⟨r_20, e_20, hF⟩ := bnd hF
              refine m_gR X hH e_20 gg_X5_18 dX5_areAlike_82 ?_
              refine lv_iload hx hb dX5_areAlike_85 (lv_at hl 2 rfl) ?_
              obtain ⟨x_21, e_21, hF⟩ := bnd hF
              refine m_rdI X hH e_21 dX5_areAlike_87 ?_
              refine lv_icmp_eq (tgt := 93) hx hb dX5_areAlike_88 (by decide) (fun c_22 => ?_) (fun c_22 => ?_)
              · replace hF := itt c_22 hF
                refine lv_iinc (v := v4 + (1 : Int32)) (lv' := [(4, .int (v4 + (1 : Int32))), (8, .int (1 : Int32)), (7, .int (0 : Int32)), (6, .int (iabs q_6.1)), (5, .int (iabs q_4.1)), (0, .ref (base + p0)), (1, .ref (base + p1)), (2, .int v2), (3, .int v3)]) hx hb dX5_areAlike_93 hl (k := 8) rfl (congrArg (fun z => v4 + z) (by decide)) (by decide) rfl (fun ls hl => ?_)
                refine lv_goto (tgt := 3) hx hb dX5_areAlike_96 (by decide) ?_
                exact ih (v4 + (1 : Int32)) q_6.2 hF H locs ls hH hS (lv_sub hl [5, 6, 7, 8, 0] rfl)
              · replace hF := itf c_22 hF
                exact hK_91  q_6.2 hF H locs ls hH hS (lv_sub hl [] rfl)
      · replace hF := itt c_7 hF
        refine lv_iconst (v := (1 : Int32)) hx hb dX5_areAlike_42 (by decide) ?_
        refine lv_goto (tgt := 47) hx hb dX5_areAlike_43 (by decide) ?_
        refine lv_istore (lv' := [(7, .int (1 : Int32)), (6, .int (iabs q_6.1)), (5, .int (iabs q_4.1)), (0, .ref (base + p0)), (1, .ref (base + p1)), (2, .int v2), (3, .int v3), (4, .int v4)]) hx hb dX5_areAlike_47 hl (by decide) rfl (fun ls hl => ?_)
        refine lv_iload hx hb dX5_areAlike_49 (lv_at hl 1 rfl) ?_
        refine lv_iload_n hx hb dX5_areAlike_51 rfl (lv_at hl 6 rfl) ?_
        refine lv_icmp_ne (tgt := 59) hx hb dX5_areAlike_52 (by decide) (fun c_23 => ?_) (fun c_23 => ?_)
        · replace hF := itf c_23 hF
          refine lv_iconst (v := (0 : Int32)) hx hb dX5_areAlike_59 (by decide) ?_
          refine lv_istore (lv' := [(8, .int (0 : Int32)), (7, .int (1 : Int32)), (6, .int (iabs q_6.1)), (5, .int (iabs q_4.1)), (0, .ref (base + p0)), (1, .ref (base + p1)), (2, .int v2), (3, .int v3), (4, .int v4)]) hx hb dX5_areAlike_60 hl (by decide) rfl (fun ls hl => ?_)
          refine lv_iload hx hb dX5_areAlike_62 (lv_at hl 1 rfl) ?_
          refine lv_iload hx hb dX5_areAlike_64 (lv_at hl 0 rfl) ?_
          refine lv_icmp_ne (tgt := 91) hx hb dX5_areAlike_66 (by decide) (fun c_24 => ?_) (fun c_24 => ?_)
          · replace hF := itf c_24 hF
            exact hK_91  q_6.2 hF H locs ls hH hS (lv_sub hl [] rfl)
          · replace hF := itt c_24 hF
            refine lv_iload hx hb dX5_areAlike_69 (lv_at hl 0 rfl) ?_
            refine lv_if_ne (tgt := 93) hx hb dX5_areAlike_71 (by decide) (fun c_25 => ?_) (fun c_25 => ?_)
            · replace hF := itf c_25 hF
              refine lv_iinc (v := v4 + (1 : Int32)) (lv' := [(4, .int (v4 + (1 : Int32))), (8, .int (0 : Int32)), (7, .int (1 : Int32)), (6, .int (iabs q_6.1)), (5, .int (iabs q_4.1)), (0, .ref (base + p0)), (1, .ref (base + p1)), (2, .int v2), (3, .int v3)]) hx hb dX5_areAlike_93 hl (k := 8) rfl (congrArg (fun z => v4 + z) (by decide)) (by decide) rfl (fun ls hl => ?_)
              refine lv_goto (tgt := 3) hx hb dX5_areAlike_96 (by decide) ?_
              exact ih (v4 + (1 : Int32)) q_6.2 hF H locs ls hH hS (lv_sub hl [5, 6, 7, 8, 0] rfl)
            · replace hF := itt c_25 hF
              refine lv_aload_n hx hb dX5_areAlike_74 rfl (lv_at hl 4 rfl) ?_
              obtain ⟨r_26, e_26, hF⟩ := bnd hF
              refine m_gR X hH e_26 gg_X5_18 dX5_areAlike_75 ?_
              refine lv_iload hx hb dX5_areAlike_78 (lv_at hl 3 rfl) ?_
              obtain ⟨x_27, e_27, hF⟩ := bnd hF
              refine m_rdI X hH e_27 dX5_areAlike_80 ?_
              refine lv_aload_n hx hb dX5_areAlike_81 rfl (lv_at hl 4 rfl) ?_
              obtain ⟨r_28, e_28, hF⟩ := bnd hF
              refine m_gR X hH e_28 gg_X5_18 dX5_areAlike_82 ?_
              refine lv_iload hx hb dX5_areAlike_85 (lv_at hl 2 rfl) ?_
              obtain ⟨x_29, e_29, hF⟩ := bnd hF
              refine m_rdI X hH e_29 dX5_areAlike_87 ?_
              refine lv_icmp_eq (tgt := 93) hx hb dX5_areAlike_88 (by decide) (fun c_30 => ?_) (fun c_30 => ?_)
              · replace hF := itt c_30 hF
                refine lv_iinc (v := v4 + (1 : Int32)) (lv' := [(4, .int (v4 + (1 : Int32))), (8, .int (0 : Int32)), (7, .int (1 : Int32)), (6, .int (iabs q_6.1)), (5, .int (iabs q_4.1)), (0, .ref (base + p0)), (1, .ref (base + p1)), (2, .int v2), (3, .int v3)]) hx hb dX5_areAlike_93 hl (k := 8) rfl (congrArg (fun z => v4 + z) (by decide)) (by decide) rfl (fun ls hl => ?_)
                refine lv_goto (tgt := 3) hx hb dX5_areAlike_96 (by decide) ?_
                exact ih (v4 + (1 : Int32)) q_6.2 hF H locs ls hH hS (lv_sub hl [5, 6, 7, 8, 0] rfl)
              · replace hF := itf c_30 hF
                exact hK_91  q_6.2 hF H locs ls hH hS (lv_sub hl [] rfl)
        · replace hF := itt c_23 hF
          refine lv_iconst (v := (1 : Int32)) hx hb dX5_areAlike_55 (by decide) ?_
          refine lv_goto (tgt := 60) hx hb dX5_areAlike_56 (by decide) ?_
          refine lv_istore (lv' := [(8, .int (1 : Int32)), (7, .int (1 : Int32)), (6, .int (iabs q_6.1)), (5, .int (iabs q_4.1)), (0, .ref (base + p0)), (1, .ref (base + p1)), (2, .int v2), (3, .int v3), (4, .int v4)]) hx hb dX5_areAlike_60 hl (by decide) rfl (fun ls hl => ?_)
          refine lv_iload hx hb dX5_areAlike_62 (lv_at hl 1 rfl) ?_
          refine lv_iload hx hb dX5_areAlike_64 (lv_at hl 0 rfl) ?_
          refine lv_icmp_ne (tgt := 91) hx hb dX5_areAlike_66 (by decide) (fun c_31 => ?_) (fun c_31 => ?_)
          · replace hF := itf c_31 hF
            exact hK_91  q_6.2 hF H locs ls hH hS (lv_sub hl [] rfl)
          · replace hF := itt c_31 hF
            refine lv_iload hx hb dX5_areAlike_69 (lv_at hl 0 rfl) ?_
            refine lv_if_ne (tgt := 93) hx hb dX5_areAlike_71 (by decide) (fun c_32 => ?_) (fun c_32 => ?_)
            · replace hF := itf c_32 hF
              refine lv_iinc (v := v4 + (1 : Int32)) (lv' := [(4, .int (v4 + (1 : Int32))), (8, .int (1 : Int32)), (7, .int (1 : Int32)), (6, .int (iabs q_6.1)), (5, .int (iabs q_4.1)), (0, .ref (base + p0)), (1, .ref (base + p1)), (2, .int v2), (3, .int v3)]) hx hb dX5_areAlike_93 hl (k := 8) rfl (congrArg (fun z => v4 + z) (by decide)) (by decide) rfl (fun ls hl => ?_)
              refine lv_goto (tgt := 3) hx hb dX5_areAlike_96 (by decide) ?_
              exact ih (v4 + (1 : Int32)) q_6.2 hF H locs ls hH hS (lv_sub hl [5, 6, 7, 8, 0] rfl)
            · replace hF := itt c_32 hF
              refine lv_aload_n hx hb dX5_areAlike_74 rfl (lv_at hl 4 rfl) ?_
              obtain ⟨r_33, e_33, hF⟩ := bnd hF
              refine m_gR X hH e_33 gg_X5_18 dX5_areAlike_75 ?_
              refine lv_iload hx hb dX5_areAlike_78 (lv_at hl 3 rfl) ?_
              obtain ⟨x_34, e_34, hF⟩ := bnd hF
              refine m_rdI X hH e_34 dX5_areAlike_80 ?_
              refine lv_aload_n hx hb dX5_areAlike_81 rfl (lv_at hl 4 rfl) ?_
              obtain ⟨r_35, e_35, hF⟩ := bnd hF
              refine m_gR X hH e_35 gg_X5_18 dX5_areAlike_82 ?_
              refine lv_iload hx hb dX5_areAlike_85 (lv_at hl 2 rfl) ?_
              obtain ⟨x_36, e_36, hF⟩ := bnd hF
              refine m_rdI X hH e_36 dX5_areAlike_87 ?_
              refine lv_icmp_eq (tgt := 93) hx hb dX5_areAlike_88 (by decide) (fun c_37 => ?_) (fun c_37 => ?_)
              · replace hF := itt c_37 hF
                refine lv_iinc (v := v4 + (1 : Int32)) (lv' := [(4, .int (v4 + (1 : Int32))), (8, .int (1 : Int32)), (7, .int (1 : Int32)), (6, .int (iabs q_6.1)), (5, .int (iabs q_4.1)), (0, .ref (base + p0)), (1, .ref (base + p1)), (2, .int v2), (3, .int v3)]) hx hb dX5_areAlike_93 hl (k := 8) rfl (congrArg (fun z => v4 + z) (by decide)) (by decide) rfl (fun ls hl => ?_)
                refine lv_goto (tgt := 3) hx hb dX5_areAlike_96 (by decide) ?_
                exact ih (v4 + (1 : Int32)) q_6.2 hF H locs ls hH hS (lv_sub hl [5, 6, 7, 8, 0] rfl)
              · replace hF := itf c_37 hF
                exact hK_91  q_6.2 hF H locs ls hH hS (lv_sub hl [] rfl)
set_option maxHeartbeats 4000000 in
set_option maxRecDepth 100000 in
theorem k_X5_areAlike (l : Launch) (D : va_G) (cI cT cII : ClassId) (base : Nat) (p0 : Nat) (p1 : Nat) (v2 : Int32) (v3 : Int32) (w : Wd) (res : Int32 × Wd) (hF : fX5_areAlike p0 p1 v2 v3 w = some res) : Ct l yX5_areAlike cX5_areAlike 9 (some .boolean) { frames := 3, cells := 0, slots := 0, locals := 65 } D cI cT cII base [.ref (base + p0), .ref (base + p1), .int v2, .int v3] w res.2 (some (.int res.1)) 0 0 := by
  unfold fX5_areAlike at hF
  refine m_enter (by decide) (Nat.le_of_ble_eq_true rfl) ?_
  intro p e s m below meth c ls X hr hlk hnm hH hS hl
  have hx := X.1
  have hb := X.2.1
  have hc : (0 : Nat) ≤ ({ frames := 3, cells := 0, slots := 0, locals := 65 } : Room).cells ∧ (0 : Nat) ≤ ({ frames := 3, cells := 0, slots := 0, locals := 65 } : Room).slots := ⟨Nat.zero_le _, Nat.zero_le _⟩
  obtain ⟨H, hHe⟩ : ∃ H : Heap, H = s.heap := ⟨_, rfl⟩
  obtain ⟨locs, hle⟩ : ∃ L : List Loc, L = [] := ⟨_, rfl⟩
  have hl : lv_has ls 9 [(0, .ref (base + p0)), (1, .ref (base + p1)), (2, .int v2), (3, .int v3)] := hl
  rw [← hHe] at hH
  have hS : va_S (fun q => base ≤ q) s.heap H locs := by rw [hHe, hle]; exact hS
  rw [← hle]
  show W p l e _ s m _ below meth c s.heap locs 0 0 _ _
  rw [← hHe]
  refine lv_iconst (v := (0 : Int32)) hx hb dX5_areAlike_0 (by decide) ?_
  refine lv_istore (lv' := [(4, .int (0 : Int32)), (0, .ref (base + p0)), (1, .ref (base + p1)), (2, .int v2), (3, .int v3)]) hx hb dX5_areAlike_1 hl (by decide) rfl (fun ls hl => ?_)
  refine l_X5_areAlike_3 X hc p0 p1 v2 v3 _ _ res ?_ ?_ FV (0 : Int32) w hF H locs ls hH hS (lv_sub hl [1, 2, 3, 4, 0] rfl)
  · intro  w_38 hF H locs ls hH hS hl
    refine lv_iconst (v := (0 : Int32)) hx hb dX5_areAlike_91 (by decide) ?_
    have hF := Option.some.inj hF
    subst hF
    exact m_zret (r := (0 : Int32)) X hr hlk (by decide) hH hS dX5_areAlike_92
  · intro  w_39 hF H locs ls hH hS hl
    refine lv_iconst (v := (1 : Int32)) hx hb dX5_areAlike_99 (by decide) ?_
    have hF := Option.some.inj hF
    subst hF
    exact m_zret (r := (1 : Int32)) X hr hlk (by decide) hH hS dX5_areAlike_100
noncomputable def fX5_findAlike_10 (p0 : Nat) (p1 : Nat) (v2 : Int32) (K_41 : Int32 → Wd → Option (Unit × Wd)) : Nat → Int32 → Wd → Option (Unit × Wd)
  | 0, _, _ => none
  | n + 1, v3, w => if v2 ≤ v3 then K_41 v3 w else (gfR 4 2 p0 w).bind fun r_3 => (rdI r_3 v3 w).bind fun x_4 => if x_4 = v3 then (isO 4 p0 w).bind fun u_6 => (fX5_areAlike p0 p1 v3 v2 w).bind fun q_7 => if q_7.1 = 0 then fX5_findAlike_10 p0 p1 v2 K_41 n (v3 + (1 : Int32)) q_7.2 else K_41 v3 q_7.2 else fX5_findAlike_10 p0 p1 v2 K_41 n (v3 + (1 : Int32)) w
noncomputable def fX5_findAlike_2 (p0 : Nat) (p1 : Nat) (K_54 : Wd → Option (Unit × Wd)) : Nat → Int32 → Wd → Option (Unit × Wd)
  | 0, _, _ => none
  | n + 1, v2, w => if (40 : Int32) < v2 then K_54  w else fX5_findAlike_10 p0 p1 v2 (fun (v3_10 : Int32) (w_9 : Wd) => (gfR 4 2 p0 w_9).bind fun r_11 => (wrI r_11 v2 v3_10 w_9).bind fun w_12 => fX5_findAlike_2 p0 p1 K_54 n (v2 + (1 : Int32)) w_12) FV (0 : Int32) w
noncomputable def fX5_findAlike (p0 : Nat) (p1 : Nat) (w : Wd) : Option (Unit × Wd) := fX5_findAlike_2 p0 p1 (fun  (w_13 : Wd) => some ((), w_13)) FV (0 : Int32) w
set_option maxHeartbeats 4000000 in
set_option maxRecDepth 100000 in
theorem l_X5_findAlike_10 (X : Cx p R s m args c cX5_findAlike 4 RX5 D cI cT cII 4 93) (hc : cells ≤ R.cells ∧ slots ≤ R.slots) (p0 : Nat) (p1 : Nat) (v2 : Int32) (K_41 : Int32 → Wd → Option (Unit × Wd)) (res : Unit × Wd)
    (hK_41 : ∀ (z3 : Int32) (w : Wd), K_41 z3 w = some res → ∀ (H : Heap) (locs : List Loc) (ls : Array Slot), Hd D cI cT cII base w H → va_S (fun q => base ≤ q) s.heap H locs → lv_has ls 4 [(0, .ref (base + p0)), (1, .ref (base + p1)), (2, .int v2), (3, .int z3)] → W p l e R s m args below meth c H locs cells slots Q (F0 m 41 ls [])) :
    ∀ (n : Nat) (v3 : Int32) (w : Wd), fX5_findAlike_10 p0 p1 v2 K_41 n v3 w = some res → ∀ (H : Heap) (locs : List Loc) (ls : Array Slot), Hd D cI cT cII base w H → va_S (fun q => base ≤ q) s.heap H locs → lv_has ls 4 [(0, .ref (base + p0)), (1, .ref (base + p1)), (2, .int v2), (3, .int v3)] → W p l e R s m args below meth c H locs cells slots Q (F0 m 10 ls []) := by
  have hx := X.1
  have hb := X.2.1
  intro n
  induction n with
  | zero =>
    intro v3 w hF
    rw [fX5_findAlike_10] at hF
    cases hF
  | succ n ih =>
    intro v3 w hF H locs ls hH hS hl
    rw [fX5_findAlike_10] at hF
    refine lv_iload_n hx hb dX5_findAlike_10 rfl (lv_at hl 3 rfl) ?_
    refine lv_iload_n hx hb dX5_findAlike_11 rfl (lv_at hl 2 rfl) ?_
    refine lv_icmp_ge (tgt := 41) hx hb dX5_findAlike_12 (by decide) (fun c_2 => ?_) (fun c_2 => ?_)
    · replace hF := itt c_2 hF
      exact hK_41 v3 w hF H locs ls hH hS (lv_sub hl [0, 1, 2, 3] rfl)
    · replace hF := itf c_2 hF
      refine lv_aload_n hx hb dX5_findAlike_15 rfl (lv_at hl 0 rfl) ?_
      obtain ⟨r_3, e_3, hF⟩ := bnd hF
      refine m_gR X hH e_3 gg_X5_18 dX5_findAlike_16 ?_
      refine lv_iload_n hx hb dX5_findAlike_19 rfl (lv_at hl 3 rfl) ?_
      obtain ⟨x_4, e_4, hF⟩ := bnd hF
      refine m_rdI X hH e_4 dX5_findAlike_20 ?_
      refine lv_iload_n hx hb dX5_findAlike_21 rfl (lv_at hl 3 rfl) ?_
      refine lv_icmp_ne (tgt := 35) hx hb dX5_findAlike_22 (by decide) (fun c_5 => ?_) (fun c_5 => ?_)
      · replace hF := itf c_5 hF
        refine lv_iinc (v := v3 + (1 : Int32)) (lv' := [(3, .int (v3 + (1 : Int32))), (0, .ref (base + p0)), (1, .ref (base + p1)), (2, .int v2)]) hx hb dX5_findAlike_35 hl (k := 3) rfl (congrArg (fun z => v3 + z) (by decide)) (by decide) rfl (fun ls hl => ?_)
        refine lv_goto (tgt := 10) hx hb dX5_findAlike_38 (by decide) ?_
        exact ih (v3 + (1 : Int32)) w hF H locs ls hH hS (lv_sub hl [1, 2, 3, 0] rfl)
      · replace hF := itt c_5 hF
        refine lv_aload_n hx hb dX5_findAlike_25 rfl (lv_at hl 0 rfl) ?_
        refine lv_aload_n hx hb dX5_findAlike_26 rfl (lv_at hl 1 rfl) ?_
        refine lv_iload_n hx hb dX5_findAlike_27 rfl (lv_at hl 3 rfl) ?_
        refine lv_iload_n hx hb dX5_findAlike_28 rfl (lv_at hl 2 rfl) ?_
        obtain ⟨u_6, ou_6, hF⟩ := bnd hF
        obtain ⟨q_7, e_7, hF⟩ := bnd hF
        refine m_callV (As := [.ref (base + p1), .int v3, .int v2]) (rest := []) X hH hS hl.1 ou_6 rfl (by decide) (k_X5_areAlike l D cI cT cII base p0 p1 v3 v2 w q_7 e_7) q_X5_areAlike kw_667 kw_669 kw_16 rfl rfl (Nat.le_of_ble_eq_true rfl) ⟨by decide, by decide⟩ hc dX5_findAlike_29 (fun H locs hH hS => W.eq (g2 := F0 m 32 ls [.int q_7.1]) rfl ?_)
        refine lv_if_ne (tgt := 41) hx hb dX5_findAlike_32 (by decide) (fun c_8 => ?_) (fun c_8 => ?_)
        · replace hF := itf c_8 hF
          exact hK_41 v3 q_7.2 hF H locs ls hH hS (lv_sub hl [0, 1, 2, 3] rfl)
        · replace hF := itt c_8 hF
          refine lv_iinc (v := v3 + (1 : Int32)) (lv' := [(3, .int (v3 + (1 : Int32))), (0, .ref (base + p0)), (1, .ref (base + p1)), (2, .int v2)]) hx hb dX5_findAlike_35 hl (k := 3) rfl (congrArg (fun z => v3 + z) (by decide)) (by decide) rfl (fun ls hl => ?_)
          refine lv_goto (tgt := 10) hx hb dX5_findAlike_38 (by decide) ?_
          exact ih (v3 + (1 : Int32)) q_7.2 hF H locs ls hH hS (lv_sub hl [1, 2, 3, 0] rfl)
set_option maxHeartbeats 4000000 in
set_option maxRecDepth 100000 in
theorem l_X5_findAlike_2 (X : Cx p R s m args c cX5_findAlike 4 RX5 D cI cT cII 4 93) (hc : cells ≤ R.cells ∧ slots ≤ R.slots) (p0 : Nat) (p1 : Nat) (K_54 : Wd → Option (Unit × Wd)) (res : Unit × Wd)
    (hK_54 : ∀  (w : Wd), K_54  w = some res → ∀ (H : Heap) (locs : List Loc) (ls : Array Slot), Hd D cI cT cII base w H → va_S (fun q => base ≤ q) s.heap H locs → lv_has ls 4 [] → W p l e R s m args below meth c H locs cells slots Q (F0 m 54 ls [])) :
    ∀ (n : Nat) (v2 : Int32) (w : Wd), fX5_findAlike_2 p0 p1 K_54 n v2 w = some res → ∀ (H : Heap) (locs : List Loc) (ls : Array Slot), Hd D cI cT cII base w H → va_S (fun q => base ≤ q) s.heap H locs → lv_has ls 4 [(0, .ref (base + p0)), (1, .ref (base + p1)), (2, .int v2)] → W p l e R s m args below meth c H locs cells slots Q (F0 m 2 ls []) := by
  have hx := X.1
  have hb := X.2.1
  intro n
  induction n with
  | zero =>
    intro v2 w hF
    rw [fX5_findAlike_2] at hF
    cases hF
  | succ n ih =>
    intro v2 w hF H locs ls hH hS hl
    rw [fX5_findAlike_2] at hF
    refine lv_iload_n hx hb dX5_findAlike_2 rfl (lv_at hl 2 rfl) ?_
    refine lv_bipush (v := (40 : Int32)) hx hb dX5_findAlike_3 (by decide) ?_
    refine lv_icmp_gt (tgt := 54) hx hb dX5_findAlike_5 (by decide) (fun c_1 => ?_) (fun c_1 => ?_)
    · replace hF := itt c_1 hF
      exact hK_54  w hF H locs ls hH hS (lv_sub hl [] rfl)
    · replace hF := itf c_1 hF
      refine lv_iconst (v := (0 : Int32)) hx hb dX5_findAlike_8 (by decide) ?_
      refine lv_istore_n (lv' := [(3, .int (0 : Int32)), (0, .ref (base + p0)), (1, .ref (base + p1)), (2, .int v2)]) hx hb dX5_findAlike_9 rfl hl (by decide) rfl (fun ls hl => ?_)
      refine l_X5_findAlike_10 X hc p0 p1 v2 _ res ?_ FV (0 : Int32) w hF H locs ls hH hS (lv_sub hl [1, 2, 3, 0] rfl)
      · intro v3_10 w_9 hF H locs ls hH hS hl
        refine lv_aload_n hx hb dX5_findAlike_41 rfl (lv_at hl 0 rfl) ?_
        obtain ⟨r_11, e_11, hF⟩ := bnd hF
        refine m_gR X hH e_11 gg_X5_18 dX5_findAlike_42 ?_
        refine lv_iload_n hx hb dX5_findAlike_45 rfl (lv_at hl 2 rfl) ?_
        refine lv_iload_n hx hb dX5_findAlike_46 rfl (lv_at hl 3 rfl) ?_
        obtain ⟨w_12, e_12, hF⟩ := bnd hF
        refine m_wrI X hH hS e_12 dX5_findAlike_47 (fun H locs hH hS => ?_)
        refine lv_iinc (v := v2 + (1 : Int32)) (lv' := [(2, .int (v2 + (1 : Int32))), (0, .ref (base + p0)), (1, .ref (base + p1)), (3, .int v3_10)]) hx hb dX5_findAlike_48 hl (k := 2) rfl (congrArg (fun z => v2 + z) (by decide)) (by decide) rfl (fun ls hl => ?_)
        refine lv_goto (tgt := 2) hx hb dX5_findAlike_51 (by decide) ?_
        exact ih (v2 + (1 : Int32)) w_12 hF H locs ls hH hS (lv_sub hl [1, 2, 0] rfl)
set_option maxHeartbeats 4000000 in
set_option maxRecDepth 100000 in
theorem k_X5_findAlike (l : Launch) (D : va_G) (cI cT cII : ClassId) (base : Nat) (p0 : Nat) (p1 : Nat) (w : Wd) (res : Unit × Wd) (hF : fX5_findAlike p0 p1 w = some res) : Ct l yX5_findAlike cX5_findAlike 4 none { frames := 4, cells := 0, slots := 0, locals := 93 } D cI cT cII base [.ref (base + p0), .ref (base + p1)] w res.2 none 0 0 := by
  unfold fX5_findAlike at hF
  refine m_enter (by decide) (Nat.le_of_ble_eq_true rfl) ?_
  intro p e s m below meth c ls X hr hlk hnm hH hS hl
  have hx := X.1
  have hb := X.2.1
  have hc : (0 : Nat) ≤ ({ frames := 4, cells := 0, slots := 0, locals := 93 } : Room).cells ∧ (0 : Nat) ≤ ({ frames := 4, cells := 0, slots := 0, locals := 93 } : Room).slots := ⟨Nat.zero_le _, Nat.zero_le _⟩
  obtain ⟨H, hHe⟩ : ∃ H : Heap, H = s.heap := ⟨_, rfl⟩
  obtain ⟨locs, hle⟩ : ∃ L : List Loc, L = [] := ⟨_, rfl⟩
  have hl : lv_has ls 4 [(0, .ref (base + p0)), (1, .ref (base + p1))] := hl
  rw [← hHe] at hH
  have hS : va_S (fun q => base ≤ q) s.heap H locs := by rw [hHe, hle]; exact hS
  rw [← hle]
  show W p l e _ s m _ below meth c s.heap locs 0 0 _ _
  rw [← hHe]
  refine lv_iconst (v := (0 : Int32)) hx hb dX5_findAlike_0 (by decide) ?_
  refine lv_istore_n (lv' := [(2, .int (0 : Int32)), (0, .ref (base + p0)), (1, .ref (base + p1))]) hx hb dX5_findAlike_1 rfl hl (by decide) rfl (fun ls hl => ?_)
  refine l_X5_findAlike_2 X hc p0 p1 _ res ?_ FV (0 : Int32) w hF H locs ls hH hS (lv_sub hl [1, 2, 0] rfl)
  · intro  w_13 hF H locs ls hH hS hl
    have hF := Option.some.inj hF
    subst hF
    exact m_vret X hr hlk hH hS dX5_findAlike_54
noncomputable def fX5_isEntered_2 (p0 : Nat) (v1 : Int32) (K_20 : Wd → Option (Int32 × Wd)) (K_28 : Wd → Option (Int32 × Wd)) : Nat → Int32 → Wd → Option (Int32 × Wd)
  | 0, _, _ => none
  | n + 1, v2, w => (gfI 3 11 p0 w).bind fun x_1 => if x_1 ≤ v2 then K_28  w else (gfR 3 10 p0 w).bind fun r_3 => (rdI r_3 v2 w).bind fun x_4 => if x_4 = v1 then K_20  w else fX5_isEntered_2 p0 v1 K_20 K_28 n (v2 + (1 : Int32)) w
noncomputable def fX5_isEntered (p0 : Nat) (v1 : Int32) (w : Wd) : Option (Int32 × Wd) := fX5_isEntered_2 p0 v1 (fun  (w_6 : Wd) => some ((1 : Int32), w_6)) (fun  (w_7 : Wd) => some ((0 : Int32), w_7)) FV (0 : Int32) w
set_option maxHeartbeats 4000000 in
set_option maxRecDepth 100000 in
theorem l_X5_isEntered_2 (X : Cx p R s m args c cX5_isEntered 3 RX5 D cI cT cII 0 0) (hc : cells ≤ R.cells ∧ slots ≤ R.slots) (p0 : Nat) (v1 : Int32) (K_20 : Wd → Option (Int32 × Wd)) (K_28 : Wd → Option (Int32 × Wd)) (res : Int32 × Wd)
    (hK_20 : ∀  (w : Wd), K_20  w = some res → ∀ (H : Heap) (locs : List Loc) (ls : Array Slot), Hd D cI cT cII base w H → va_S (fun q => base ≤ q) s.heap H locs → lv_has ls 3 [] → W p l e R s m args below meth c H locs cells slots Q (F0 m 20 ls []))
    (hK_28 : ∀  (w : Wd), K_28  w = some res → ∀ (H : Heap) (locs : List Loc) (ls : Array Slot), Hd D cI cT cII base w H → va_S (fun q => base ≤ q) s.heap H locs → lv_has ls 3 [] → W p l e R s m args below meth c H locs cells slots Q (F0 m 28 ls [])) :
    ∀ (n : Nat) (v2 : Int32) (w : Wd), fX5_isEntered_2 p0 v1 K_20 K_28 n v2 w = some res → ∀ (H : Heap) (locs : List Loc) (ls : Array Slot), Hd D cI cT cII base w H → va_S (fun q => base ≤ q) s.heap H locs → lv_has ls 3 [(0, .ref (base + p0)), (1, .int v1), (2, .int v2)] → W p l e R s m args below meth c H locs cells slots Q (F0 m 2 ls []) := by
  have hx := X.1
  have hb := X.2.1
  intro n
  induction n with
  | zero =>
    intro v2 w hF
    rw [fX5_isEntered_2] at hF
    cases hF
  | succ n ih =>
    intro v2 w hF H locs ls hH hS hl
    rw [fX5_isEntered_2] at hF
    refine lv_iload_n hx hb dX5_isEntered_2 rfl (lv_at hl 2 rfl) ?_
    refine lv_aload_n hx hb dX5_isEntered_3 rfl (lv_at hl 0 rfl) ?_
    obtain ⟨x_1, e_1, hF⟩ := bnd hF
    refine m_hI X hH e_1 gg_X5_92 dX5_isEntered_4 ?_
    refine lv_icmp_ge (tgt := 28) hx hb dX5_isEntered_7 (by decide) (fun c_2 => ?_) (fun c_2 => ?_)
    · replace hF := itt c_2 hF
      exact hK_28  w hF H locs ls hH hS (lv_sub hl [] rfl)
    · replace hF := itf c_2 hF
      refine lv_aload_n hx hb dX5_isEntered_10 rfl (lv_at hl 0 rfl) ?_
      obtain ⟨r_3, e_3, hF⟩ := bnd hF
      refine m_hR X hH e_3 gg_X5_95 dX5_isEntered_11 ?_
      refine lv_iload_n hx hb dX5_isEntered_14 rfl (lv_at hl 2 rfl) ?_
      obtain ⟨x_4, e_4, hF⟩ := bnd hF
      refine m_rdI X hH e_4 dX5_isEntered_15 ?_
      refine lv_iload_n hx hb dX5_isEntered_16 rfl (lv_at hl 1 rfl) ?_
      refine lv_icmp_ne (tgt := 22) hx hb dX5_isEntered_17 (by decide) (fun c_5 => ?_) (fun c_5 => ?_)
      · replace hF := itf c_5 hF
        refine lv_iinc (v := v2 + (1 : Int32)) (lv' := [(2, .int (v2 + (1 : Int32))), (0, .ref (base + p0)), (1, .int v1)]) hx hb dX5_isEntered_22 hl (k := 2) rfl (congrArg (fun z => v2 + z) (by decide)) (by decide) rfl (fun ls hl => ?_)
        refine lv_goto (tgt := 2) hx hb dX5_isEntered_25 (by decide) ?_
        exact ih (v2 + (1 : Int32)) w hF H locs ls hH hS (lv_sub hl [1, 2, 0] rfl)
      · replace hF := itt c_5 hF
        exact hK_20  w hF H locs ls hH hS (lv_sub hl [] rfl)
set_option maxHeartbeats 4000000 in
set_option maxRecDepth 100000 in
theorem k_X5_isEntered (l : Launch) (D : va_G) (cI cT cII : ClassId) (base : Nat) (p0 : Nat) (v1 : Int32) (w : Wd) (res : Int32 × Wd) (hF : fX5_isEntered p0 v1 w = some res) : Ct l yX5_isEntered cX5_isEntered 3 (some .boolean) { frames := 0, cells := 0, slots := 0, locals := 0 } D cI cT cII base [.ref (base + p0), .int v1] w res.2 (some (.int res.1)) 0 0 := by
  unfold fX5_isEntered at hF
  refine m_enter (by decide) (Nat.le_of_ble_eq_true rfl) ?_
  intro p e s m below meth c ls X hr hlk hnm hH hS hl
  have hx := X.1
  have hb := X.2.1
  have hc : (0 : Nat) ≤ ({ frames := 0, cells := 0, slots := 0, locals := 0 } : Room).cells ∧ (0 : Nat) ≤ ({ frames := 0, cells := 0, slots := 0, locals := 0 } : Room).slots := ⟨Nat.zero_le _, Nat.zero_le _⟩
  obtain ⟨H, hHe⟩ : ∃ H : Heap, H = s.heap := ⟨_, rfl⟩
  obtain ⟨locs, hle⟩ : ∃ L : List Loc, L = [] := ⟨_, rfl⟩
  have hl : lv_has ls 3 [(0, .ref (base + p0)), (1, .int v1)] := hl
  rw [← hHe] at hH
  have hS : va_S (fun q => base ≤ q) s.heap H locs := by rw [hHe, hle]; exact hS
  rw [← hle]
  show W p l e _ s m _ below meth c s.heap locs 0 0 _ _
  rw [← hHe]
  refine lv_iconst (v := (0 : Int32)) hx hb dX5_isEntered_0 (by decide) ?_
  refine lv_istore_n (lv' := [(2, .int (0 : Int32)), (0, .ref (base + p0)), (1, .int v1)]) hx hb dX5_isEntered_1 rfl hl (by decide) rfl (fun ls hl => ?_)
  refine l_X5_isEntered_2 X hc p0 v1 _ _ res ?_ ?_ FV (0 : Int32) w hF H locs ls hH hS (lv_sub hl [1, 2, 0] rfl)
  · intro  w_6 hF H locs ls hH hS hl
    refine lv_iconst (v := (1 : Int32)) hx hb dX5_isEntered_20 (by decide) ?_
    have hF := Option.some.inj hF
    subst hF
    exact m_zret (r := (1 : Int32)) X hr hlk (by decide) hH hS dX5_isEntered_21
  · intro  w_7 hF H locs ls hH hS hl
    refine lv_iconst (v := (0 : Int32)) hx hb dX5_isEntered_28 (by decide) ?_
    have hF := Option.some.inj hF
    subst hF
    exact m_zret (r := (0 : Int32)) X hr hlk (by decide) hH hS dX5_isEntered_29
noncomputable def fX5_addReached_2 (p0 : Nat) (v1 : Int32) (v2 : Int32) (K_24 : Wd → Option (Unit × Wd)) (K_31 : Wd → Option (Unit × Wd)) : Nat → Int32 → Wd → Option (Unit × Wd)
  | 0, _, _ => none
  | n + 1, v3, w => (gfR 4 4 p0 w).bind fun r_1 => (rdI r_1 v1 w).bind fun x_2 => if x_2 ≤ v3 then K_31  w else (gfR 4 3 p0 w).bind fun r_4 => (rdR 14 r_4 v1 w).bind fun r_5 => (rdI r_5 v3 w).bind fun x_6 => if x_6 = v2 then K_24  w else fX5_addReached_2 p0 v1 v2 K_24 K_31 n (v3 + (1 : Int32)) w
noncomputable def fX5_addReached (p0 : Nat) (v1 : Int32) (v2 : Int32) (w : Wd) : Option (Unit × Wd) := fX5_addReached_2 p0 v1 v2 (fun  (w_8 : Wd) => some ((), w_8)) (fun  (w_9 : Wd) => (gfR 4 4 p0 w_9).bind fun r_10 => (rdI r_10 v1 w_9).bind fun x_11 => if (40 : Int32) < x_11 then some ((), w_9) else (gfR 4 3 p0 w_9).bind fun r_13 => (rdR 14 r_13 v1 w_9).bind fun r_14 => (gfR 4 4 p0 w_9).bind fun r_15 => (rdI r_15 v1 w_9).bind fun x_16 => (wrI r_14 x_16 v2 w_9).bind fun w_17 => (gfR 4 4 p0 w_17).bind fun r_18 => (rdI r_18 v1 w_17).bind fun x_19 => (wrI r_18 v1 (x_19 + (1 : Int32)) w_17).bind fun w_20 => some ((), w_20)) FV (0 : Int32) w
set_option maxHeartbeats 4000000 in
set_option maxRecDepth 100000 in
theorem l_X5_addReached_2 (X : Cx p R s m args c cX5_addReached 4 RX5 D cI cT cII 0 0) (hc : cells ≤ R.cells ∧ slots ≤ R.slots) (p0 : Nat) (v1 : Int32) (v2 : Int32) (K_24 : Wd → Option (Unit × Wd)) (K_31 : Wd → Option (Unit × Wd)) (res : Unit × Wd)
    (hK_24 : ∀  (w : Wd), K_24  w = some res → ∀ (H : Heap) (locs : List Loc) (ls : Array Slot), Hd D cI cT cII base w H → va_S (fun q => base ≤ q) s.heap H locs → lv_has ls 4 [] → W p l e R s m args below meth c H locs cells slots Q (F0 m 24 ls []))
    (hK_31 : ∀  (w : Wd), K_31  w = some res → ∀ (H : Heap) (locs : List Loc) (ls : Array Slot), Hd D cI cT cII base w H → va_S (fun q => base ≤ q) s.heap H locs → lv_has ls 4 [(0, .ref (base + p0)), (1, .int v1), (2, .int v2)] → W p l e R s m args below meth c H locs cells slots Q (F0 m 31 ls [])) :
    ∀ (n : Nat) (v3 : Int32) (w : Wd), fX5_addReached_2 p0 v1 v2 K_24 K_31 n v3 w = some res → ∀ (H : Heap) (locs : List Loc) (ls : Array Slot), Hd D cI cT cII base w H → va_S (fun q => base ≤ q) s.heap H locs → lv_has ls 4 [(0, .ref (base + p0)), (1, .int v1), (2, .int v2), (3, .int v3)] → W p l e R s m args below meth c H locs cells slots Q (F0 m 2 ls []) := by
  have hx := X.1
  have hb := X.2.1
  intro n
  induction n with
  | zero =>
    intro v3 w hF
    rw [fX5_addReached_2] at hF
    cases hF
  | succ n ih =>
    intro v3 w hF H locs ls hH hS hl
    rw [fX5_addReached_2] at hF
    refine lv_iload_n hx hb dX5_addReached_2 rfl (lv_at hl 3 rfl) ?_
    refine lv_aload_n hx hb dX5_addReached_3 rfl (lv_at hl 0 rfl) ?_
    obtain ⟨r_1, e_1, hF⟩ := bnd hF
    refine m_gR X hH e_1 gg_X5_26 dX5_addReached_4 ?_
    refine lv_iload_n hx hb dX5_addReached_7 rfl (lv_at hl 1 rfl) ?_
    obtain ⟨x_2, e_2, hF⟩ := bnd hF
    refine m_rdI X hH e_2 dX5_addReached_8 ?_
    refine lv_icmp_ge (tgt := 31) hx hb dX5_addReached_9 (by decide) (fun c_3 => ?_) (fun c_3 => ?_)
    · replace hF := itt c_3 hF
      exact hK_31  w hF H locs ls hH hS (lv_sub hl [0, 1, 2] rfl)
    · replace hF := itf c_3 hF
      refine lv_aload_n hx hb dX5_addReached_12 rfl (lv_at hl 0 rfl) ?_
      obtain ⟨r_4, e_4, hF⟩ := bnd hF
      refine m_gR X hH e_4 gg_X5_23 dX5_addReached_13 ?_
      refine lv_iload_n hx hb dX5_addReached_16 rfl (lv_at hl 1 rfl) ?_
      obtain ⟨r_5, e_5, hF⟩ := bnd hF
      refine m_rdII X hH e_5 dX5_addReached_17 ?_
      refine lv_iload_n hx hb dX5_addReached_18 rfl (lv_at hl 3 rfl) ?_
      obtain ⟨x_6, e_6, hF⟩ := bnd hF
      refine m_rdI X hH e_6 dX5_addReached_19 ?_
      refine lv_iload_n hx hb dX5_addReached_20 rfl (lv_at hl 2 rfl) ?_
      refine lv_icmp_ne (tgt := 25) hx hb dX5_addReached_21 (by decide) (fun c_7 => ?_) (fun c_7 => ?_)
      · replace hF := itf c_7 hF
        refine lv_iinc (v := v3 + (1 : Int32)) (lv' := [(3, .int (v3 + (1 : Int32))), (0, .ref (base + p0)), (1, .int v1), (2, .int v2)]) hx hb dX5_addReached_25 hl (k := 3) rfl (congrArg (fun z => v3 + z) (by decide)) (by decide) rfl (fun ls hl => ?_)
        refine lv_goto (tgt := 2) hx hb dX5_addReached_28 (by decide) ?_
        exact ih (v3 + (1 : Int32)) w hF H locs ls hH hS (lv_sub hl [1, 2, 3, 0] rfl)
      · replace hF := itt c_7 hF
        exact hK_24  w hF H locs ls hH hS (lv_sub hl [] rfl)
set_option maxHeartbeats 4000000 in
set_option maxRecDepth 100000 in
theorem k_X5_addReached (l : Launch) (D : va_G) (cI cT cII : ClassId) (base : Nat) (p0 : Nat) (v1 : Int32) (v2 : Int32) (w : Wd) (res : Unit × Wd) (hF : fX5_addReached p0 v1 v2 w = some res) : Ct l yX5_addReached cX5_addReached 4 none { frames := 0, cells := 0, slots := 0, locals := 0 } D cI cT cII base [.ref (base + p0), .int v1, .int v2] w res.2 none 0 0 := by
  unfold fX5_addReached at hF
  refine m_enter (by decide) (Nat.le_of_ble_eq_true rfl) ?_
  intro p e s m below meth c ls X hr hlk hnm hH hS hl
  have hx := X.1
  have hb := X.2.1
  have hc : (0 : Nat) ≤ ({ frames := 0, cells := 0, slots := 0, locals := 0 } : Room).cells ∧ (0 : Nat) ≤ ({ frames := 0, cells := 0, slots := 0, locals := 0 } : Room).slots := ⟨Nat.zero_le _, Nat.zero_le _⟩
  obtain ⟨H, hHe⟩ : ∃ H : Heap, H = s.heap := ⟨_, rfl⟩
  obtain ⟨locs, hle⟩ : ∃ L : List Loc, L = [] := ⟨_, rfl⟩
  have hl : lv_has ls 4 [(0, .ref (base + p0)), (1, .int v1), (2, .int v2)] := hl
  rw [← hHe] at hH
  have hS : va_S (fun q => base ≤ q) s.heap H locs := by rw [hHe, hle]; exact hS
  rw [← hle]
  show W p l e _ s m _ below meth c s.heap locs 0 0 _ _
  rw [← hHe]
  refine lv_iconst (v := (0 : Int32)) hx hb dX5_addReached_0 (by decide) ?_
  refine lv_istore_n (lv' := [(3, .int (0 : Int32)), (0, .ref (base + p0)), (1, .int v1), (2, .int v2)]) hx hb dX5_addReached_1 rfl hl (by decide) rfl (fun ls hl => ?_)
  refine l_X5_addReached_2 X hc p0 v1 v2 _ _ res ?_ ?_ FV (0 : Int32) w hF H locs ls hH hS (lv_sub hl [1, 2, 3, 0] rfl)
  · intro  w_8 hF H locs ls hH hS hl
    have hF := Option.some.inj hF
    subst hF
    exact m_vret X hr hlk hH hS dX5_addReached_24
  · intro  w_9 hF H locs ls hH hS hl
    refine lv_aload_n hx hb dX5_addReached_31 rfl (lv_at hl 0 rfl) ?_
    obtain ⟨r_10, e_10, hF⟩ := bnd hF
    refine m_gR X hH e_10 gg_X5_26 dX5_addReached_32 ?_
    refine lv_iload_n hx hb dX5_addReached_35 rfl (lv_at hl 1 rfl) ?_
    obtain ⟨x_11, e_11, hF⟩ := bnd hF
    refine m_rdI X hH e_11 dX5_addReached_36 ?_
    refine lv_bipush (v := (40 : Int32)) hx hb dX5_addReached_37 (by decide) ?_
    refine lv_icmp_gt (tgt := 66) hx hb dX5_addReached_39 (by decide) (fun c_12 => ?_) (fun c_12 => ?_)
    · replace hF := itt c_12 hF
      have hF := Option.some.inj hF
      subst hF
      exact m_vret X hr hlk hH hS dX5_addReached_66
    · replace hF := itf c_12 hF
      refine lv_aload_n hx hb dX5_addReached_42 rfl (lv_at hl 0 rfl) ?_
      obtain ⟨r_13, e_13, hF⟩ := bnd hF
      refine m_gR X hH e_13 gg_X5_23 dX5_addReached_43 ?_
      refine lv_iload_n hx hb dX5_addReached_46 rfl (lv_at hl 1 rfl) ?_
      obtain ⟨r_14, e_14, hF⟩ := bnd hF
      refine m_rdII X hH e_14 dX5_addReached_47 ?_
      refine lv_aload_n hx hb dX5_addReached_48 rfl (lv_at hl 0 rfl) ?_
      obtain ⟨r_15, e_15, hF⟩ := bnd hF
      refine m_gR X hH e_15 gg_X5_26 dX5_addReached_49 ?_
      refine lv_iload_n hx hb dX5_addReached_52 rfl (lv_at hl 1 rfl) ?_
      obtain ⟨x_16, e_16, hF⟩ := bnd hF
      refine m_rdI X hH e_16 dX5_addReached_53 ?_
      refine lv_iload_n hx hb dX5_addReached_54 rfl (lv_at hl 2 rfl) ?_
      obtain ⟨w_17, e_17, hF⟩ := bnd hF
      refine m_wrI X hH hS e_17 dX5_addReached_55 (fun H locs hH hS => ?_)
      refine lv_aload_n hx hb dX5_addReached_56 rfl (lv_at hl 0 rfl) ?_
      obtain ⟨r_18, e_18, hF⟩ := bnd hF
      refine m_gR X hH e_18 gg_X5_26 dX5_addReached_57 ?_
      refine lv_iload_n hx hb dX5_addReached_60 rfl (lv_at hl 1 rfl) ?_
      refine lv_dup2_11 hx hb dX5_addReached_61 rfl rfl ?_
      obtain ⟨x_19, e_19, hF⟩ := bnd hF
      refine m_rdI X hH e_19 dX5_addReached_62 ?_
      refine lv_iconst (v := (1 : Int32)) hx hb dX5_addReached_63 (by decide) ?_
      refine lv_iadd hx hb dX5_addReached_64 ?_
      obtain ⟨w_20, e_20, hF⟩ := bnd hF
      refine m_wrI X hH hS e_20 dX5_addReached_65 (fun H locs hH hS => ?_)
      have hF := Option.some.inj hF
      subst hF
      exact m_vret X hr hlk hH hS dX5_addReached_66
noncomputable def fX5_reach_30 (p0 : Nat) (v2 : Int32) (v3 : Int32) (v4 : Int32) (K_63 : Wd → Option (Unit × Wd)) : Nat → Int32 → Wd → Option (Unit × Wd)
  | 0, _, _ => none
  | n + 1, v5, w => (fX11_keptWithin (v2 + v4) w).bind fun q_8 => if q_8.1 < v5 then K_63  q_8.2 else (gfR 4 2 p0 q_8.2).bind fun r_10 => (rdI r_10 (iabs v5) q_8.2).bind fun x_11 => (isO 4 p0 q_8.2).bind fun u_12 => (fX5_addReached p0 v3 x_11 q_8.2).bind fun q_13 => fX5_reach_30 p0 v2 v3 v4 K_63 n (v5 + (1 : Int32)) q_13.2
noncomputable def fX5_reach (p0 : Nat) (p1 : Nat) (v2 : Int32) (v3 : Int32) (v4 : Int32) (w : Wd) : Option (Unit × Wd) := (gfR 4 4 p0 w).bind fun r_1 => (wrI r_1 v3 (0 : Int32) w).bind fun w_2 => (gfR 3 0 p1 w_2).bind fun r_3 => (rdI r_3 v3 w_2).bind fun x_4 => (fX5_isEntered p1 x_4 w_2).bind fun q_5 => if q_5.1 = 0 then some ((), q_5.2) else (fX11_keptWithin (v2 - v4) q_5.2).bind fun q_7 => fX5_reach_30 p0 v2 v3 v4 (fun  (w_14 : Wd) => some ((), w_14)) FV q_7.1 q_7.2
set_option maxHeartbeats 4000000 in
set_option maxRecDepth 100000 in
theorem l_X5_reach_30 (X : Cx p R s m args c cX5_reach 6 RX5 D cI cT cII 2 41) (hc : cells ≤ R.cells ∧ slots ≤ R.slots) (p0 : Nat) (v2 : Int32) (v3 : Int32) (v4 : Int32) (K_63 : Wd → Option (Unit × Wd)) (res : Unit × Wd)
    (hK_63 : ∀  (w : Wd), K_63  w = some res → ∀ (H : Heap) (locs : List Loc) (ls : Array Slot), Hd D cI cT cII base w H → va_S (fun q => base ≤ q) s.heap H locs → lv_has ls 6 [] → W p l e R s m args below meth c H locs cells slots Q (F0 m 63 ls [])) :
    ∀ (n : Nat) (v5 : Int32) (w : Wd), fX5_reach_30 p0 v2 v3 v4 K_63 n v5 w = some res → ∀ (H : Heap) (locs : List Loc) (ls : Array Slot), Hd D cI cT cII base w H → va_S (fun q => base ≤ q) s.heap H locs → lv_has ls 6 [(0, .ref (base + p0)), (2, .int v2), (3, .int v3), (4, .int v4), (5, .int v5)] → W p l e R s m args below meth c H locs cells slots Q (F0 m 30 ls []) := by
  have hx := X.1
  have hb := X.2.1
  intro n
  induction n with
  | zero =>
    intro v5 w hF
    rw [fX5_reach_30] at hF
    cases hF
  | succ n ih =>
    intro v5 w hF H locs ls hH hS hl
    rw [fX5_reach_30] at hF
    refine lv_iload hx hb dX5_reach_30 (lv_at hl 4 rfl) ?_
    refine lv_iload_n hx hb dX5_reach_32 rfl (lv_at hl 1 rfl) ?_
    refine lv_iload hx hb dX5_reach_33 (lv_at hl 3 rfl) ?_
    refine lv_iadd hx hb dX5_reach_35 ?_
    obtain ⟨q_8, e_8, hF⟩ := bnd hF
    refine m_callSN (As := [.int (v2 + v4)]) (rest := [.int v5]) X hH hS hl.1 (k_X11_keptWithin l D cI cT cII base (v2 + v4) w q_8 e_8) q_X11_keptWithin kw_648 kw_536 rfl rfl (Nat.le_of_ble_eq_true rfl) ⟨by decide, by decide⟩ hc dX5_reach_36 (fun H locs hH hS => W.eq (g2 := F0 m 39 ls [.int q_8.1, .int v5]) rfl ?_)
    refine lv_icmp_gt (tgt := 63) hx hb dX5_reach_39 (by decide) (fun c_9 => ?_) (fun c_9 => ?_)
    · replace hF := itt c_9 hF
      exact hK_63  q_8.2 hF H locs ls hH hS (lv_sub hl [] rfl)
    · replace hF := itf c_9 hF
      refine lv_aload_n hx hb dX5_reach_42 rfl (lv_at hl 0 rfl) ?_
      refine lv_iload_n hx hb dX5_reach_43 rfl (lv_at hl 2 rfl) ?_
      refine lv_aload_n hx hb dX5_reach_44 rfl (lv_at hl 0 rfl) ?_
      obtain ⟨r_10, e_10, hF⟩ := bnd hF
      refine m_gR X hH e_10 gg_X5_18 dX5_reach_45 ?_
      refine lv_iload hx hb dX5_reach_48 (lv_at hl 4 rfl) ?_
      refine m_mabs X hl.1 kw_672 (by decide) (Nat.le_of_ble_eq_true rfl) hc dX5_reach_50 ?_
      obtain ⟨x_11, e_11, hF⟩ := bnd hF
      refine m_rdI X hH e_11 dX5_reach_53 ?_
      obtain ⟨u_12, ou_12, hF⟩ := bnd hF
      obtain ⟨q_13, e_13, hF⟩ := bnd hF
      refine m_callV (As := [.int v3, .int x_11]) (rest := []) X hH hS hl.1 ou_12 rfl (by decide) (k_X5_addReached l D cI cT cII base p0 v3 x_11 q_8.2 q_13 e_13) q_X5_addReached kw_684 kw_686 kw_19 rfl rfl (Nat.le_of_ble_eq_true rfl) ⟨by decide, by decide⟩ hc dX5_reach_54 (fun H locs hH hS => W.eq (g2 := F0 m 57 ls []) rfl ?_)
      refine lv_iinc (v := v5 + (1 : Int32)) (lv' := [(5, .int (v5 + (1 : Int32))), (0, .ref (base + p0)), (2, .int v2), (3, .int v3), (4, .int v4)]) hx hb dX5_reach_57 hl (k := 4) rfl (congrArg (fun z => v5 + z) (by decide)) (by decide) rfl (fun ls hl => ?_)
      refine lv_goto (tgt := 30) hx hb dX5_reach_60 (by decide) ?_
      exact ih (v5 + (1 : Int32)) q_13.2 hF H locs ls hH hS (lv_sub hl [1, 2, 3, 4, 0] rfl)
set_option maxHeartbeats 4000000 in
set_option maxRecDepth 100000 in
theorem k_X5_reach (l : Launch) (D : va_G) (cI cT cII : ClassId) (base : Nat) (p0 : Nat) (p1 : Nat) (v2 : Int32) (v3 : Int32) (v4 : Int32) (w : Wd) (res : Unit × Wd) (hF : fX5_reach p0 p1 v2 v3 v4 w = some res) : Ct l yX5_reach cX5_reach 6 none { frames := 2, cells := 0, slots := 0, locals := 41 } D cI cT cII base [.ref (base + p0), .ref (base + p1), .int v2, .int v3, .int v4] w res.2 none 0 0 := by
  unfold fX5_reach at hF
  refine m_enter (by decide) (Nat.le_of_ble_eq_true rfl) ?_
  intro p e s m below meth c ls X hr hlk hnm hH hS hl
  have hx := X.1
  have hb := X.2.1
  have hc : (0 : Nat) ≤ ({ frames := 2, cells := 0, slots := 0, locals := 41 } : Room).cells ∧ (0 : Nat) ≤ ({ frames := 2, cells := 0, slots := 0, locals := 41 } : Room).slots := ⟨Nat.zero_le _, Nat.zero_le _⟩
  obtain ⟨H, hHe⟩ : ∃ H : Heap, H = s.heap := ⟨_, rfl⟩
  obtain ⟨locs, hle⟩ : ∃ L : List Loc, L = [] := ⟨_, rfl⟩
  have hl : lv_has ls 6 [(0, .ref (base + p0)), (1, .ref (base + p1)), (2, .int v2), (3, .int v3), (4, .int v4)] := hl
  rw [← hHe] at hH
  have hS : va_S (fun q => base ≤ q) s.heap H locs := by rw [hHe, hle]; exact hS
  rw [← hle]
  show W p l e _ s m _ below meth c s.heap locs 0 0 _ _
  rw [← hHe]
  refine lv_aload_n hx hb dX5_reach_0 rfl (lv_at hl 0 rfl) ?_
  obtain ⟨r_1, e_1, hF⟩ := bnd hF
  refine m_gR X hH e_1 gg_X5_26 dX5_reach_1 ?_
  refine lv_iload_n hx hb dX5_reach_4 rfl (lv_at hl 3 rfl) ?_
  refine lv_iconst (v := (0 : Int32)) hx hb dX5_reach_5 (by decide) ?_
  obtain ⟨w_2, e_2, hF⟩ := bnd hF
  refine m_wrI X hH hS e_2 dX5_reach_6 (fun H locs hH hS => ?_)
  refine lv_aload_n hx hb dX5_reach_7 rfl (lv_at hl 1 rfl) ?_
  refine lv_aload_n hx hb dX5_reach_8 rfl (lv_at hl 1 rfl) ?_
  obtain ⟨r_3, e_3, hF⟩ := bnd hF
  refine m_hR X hH e_3 gg_X5_76 dX5_reach_9 ?_
  refine lv_iload_n hx hb dX5_reach_12 rfl (lv_at hl 3 rfl) ?_
  obtain ⟨x_4, e_4, hF⟩ := bnd hF
  refine m_rdI X hH e_4 dX5_reach_13 ?_
  obtain ⟨q_5, e_5, hF⟩ := bnd hF
  refine m_callS (As := [.ref (base + p1), .int x_4]) (rest := []) X hH hS hl.1 (k_X5_isEntered l D cI cT cII base p1 x_4 w_2 q_5 e_5) q_X5_isEntered kw_681 kw_682 rfl rfl (Nat.le_of_ble_eq_true rfl) ⟨by decide, by decide⟩ hc dX5_reach_14 (fun H locs hH hS => W.eq (g2 := F0 m 17 ls [.int q_5.1]) rfl ?_)
  refine lv_if_ne (tgt := 21) hx hb dX5_reach_17 (by decide) (fun c_6 => ?_) (fun c_6 => ?_)
  · replace hF := itf c_6 hF
    refine lv_iload_n hx hb dX5_reach_21 rfl (lv_at hl 2 rfl) ?_
    refine lv_iload hx hb dX5_reach_22 (lv_at hl 4 rfl) ?_
    refine lv_isub hx hb dX5_reach_24 ?_
    obtain ⟨q_7, e_7, hF⟩ := bnd hF
    refine m_callSN (As := [.int (v2 - v4)]) (rest := []) X hH hS hl.1 (k_X11_keptWithin l D cI cT cII base (v2 - v4) q_5.2 q_7 e_7) q_X11_keptWithin kw_648 kw_536 rfl rfl (Nat.le_of_ble_eq_true rfl) ⟨by decide, by decide⟩ hc dX5_reach_25 (fun H locs hH hS => W.eq (g2 := F0 m 28 ls [.int q_7.1]) rfl ?_)
    refine lv_istore (lv' := [(5, .int q_7.1), (0, .ref (base + p0)), (1, .ref (base + p1)), (2, .int v2), (3, .int v3), (4, .int v4)]) hx hb dX5_reach_28 hl (by decide) rfl (fun ls hl => ?_)
    refine l_X5_reach_30 X hc p0 v2 v3 v4 _ res ?_ FV q_7.1 q_7.2 hF H locs ls hH hS (lv_sub hl [1, 3, 4, 5, 0] rfl)
    · intro  w_14 hF H locs ls hH hS hl
      have hF := Option.some.inj hF
      subst hF
      exact m_vret X hr hlk hH hS dX5_reach_63
  · replace hF := itt c_6 hF
    have hF := Option.some.inj hF
    subst hF
    exact m_vret X hr hlk hH hS dX5_reach_20
end M02
