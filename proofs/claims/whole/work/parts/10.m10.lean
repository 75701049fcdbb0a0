section M10
variable {p : Program} {l : Launch} {e : Env} {R : Room} {s : State} {m : MethodId} {args : Array Value} {below : List Frame} {meth : Method} {c : Code} {cells slots : Nat} {Q : State → Prop} {D : va_G} {cI cT cII : ClassId} {base : Nat}
noncomputable def fX12_patches_18 (p0 : Nat) (K_59 : Int32 → Wd → Option (Int32 × Wd)) : Nat → Int32 → Int32 → Wd → Option (Int32 × Wd)
  | 0, _, _, _ => none
  | n + 1, v2, v3, w => (gfI 11 0 p0 w).bind fun x_5 => if x_5 ≤ v3 then K_59 v2 w else (gfR 11 25 p0 w).bind fun r_7 => (rdI r_7 v3 w).bind fun x_8 => (gfR 11 1 p0 w).bind fun r_9 => (rdI r_9 (((4 : Int32) * v3) + (3 : Int32)) w).bind fun x_10 => if x_8 = x_10 then fX12_patches_18 p0 K_59 n (v2 + (1 : Int32)) (v3 + (1 : Int32)) w else fX12_patches_18 p0 K_59 n (v2 + (0 : Int32)) (v3 + (1 : Int32)) w
noncomputable def fX12_patches (p0 : Nat) (v1 : Int32) (w : Wd) : Option (Int32 × Wd) := (fX12_isDay v1 w).bind fun q_1 => if q_1.1 = 0 then some ((-1 : Int32), q_1.2) else (isO 11 p0 q_1.2).bind fun u_3 => (fX12_goes p0 v1 q_1.2).bind fun q_4 => fX12_patches_18 p0 (fun (v2_13 : Int32) (w_12 : Wd) => some (v2_13, w_12)) FV (0 : Int32) (0 : Int32) q_4.2
set_option maxHeartbeats 4000000 in
set_option maxRecDepth 100000 in
theorem l_X12_patches_18 (X : Cx p R s m args c cX12_patches 4 RX12 D cI cT cII 6 131) (hc : cells ≤ R.cells ∧ slots ≤ R.slots) (p0 : Nat) (K_59 : Int32 → Wd → Option (Int32 × Wd)) (res : Int32 × Wd)
    (hK_59 : ∀ (z2 : Int32) (w : Wd), K_59 z2 w = some res → ∀ (H : Heap) (locs : List Loc) (ls : Array Slot), Hd D cI cT cII base w H → va_S (fun q => base ≤ q) s.heap H locs → lv_has ls 4 [(2, .int z2)] → W p l e R s m args below meth c H locs cells slots Q (F0 m 59 ls [])) :
    ∀ (n : Nat) (v2 : Int32) (v3 : Int32) (w : Wd), fX12_patches_18 p0 K_59 n v2 v3 w = some res → ∀ (H : Heap) (locs : List Loc) (ls : Array Slot), Hd D cI cT cII base w H → va_S (fun q => base ≤ q) s.heap H locs → lv_has ls 4 [(0, .ref (base + p0)), (2, .int v2), (3, .int v3)] → W p l e R s m args below meth c H locs cells slots Q (F0 m 18 ls []) := by
  have hx := X.1
  have hb := X.2.1
  intro n
  induction n with
  | zero =>
    intro v2 v3 w hF
    rw [fX12_patches_18] at hF
    cases hF
  | succ n ih =>
    intro v2 v3 w hF H locs ls hH hS hl
    rw [fX12_patches_18] at hF
    refine lv_iload_n hx hb dX12_patches_18 rfl (lv_at hl 2 rfl) ?_
    refine lv_aload_n hx hb dX12_patches_19 rfl (lv_at hl 0 rfl) ?_
    obtain ⟨x_5, e_5, hF⟩ := bnd hF
    refine m_gI X hH e_5 gg_X12_7 dX12_patches_20 ?_
    refine lv_icmp_ge (tgt := 59) hx hb dX12_patches_23 (by decide) (fun c_6 => ?_) (fun c_6 => ?_)
    · replace hF := itt c_6 hF
      exact hK_59 v2 w hF H locs ls hH hS (lv_sub hl [1] rfl)
    · replace hF := itf c_6 hF
      refine lv_iload_n hx hb dX12_patches_26 rfl (lv_at hl 1 rfl) ?_
      refine lv_aload_n hx hb dX12_patches_27 rfl (lv_at hl 0 rfl) ?_
      obtain ⟨r_7, e_7, hF⟩ := bnd hF
      refine m_gR X hH e_7 gg_X12_62 dX12_patches_28 ?_
      refine lv_iload_n hx hb dX12_patches_31 rfl (lv_at hl 2 rfl) ?_
      obtain ⟨x_8, e_8, hF⟩ := bnd hF
      refine m_rdI X hH e_8 dX12_patches_32 ?_
      refine lv_aload_n hx hb dX12_patches_33 rfl (lv_at hl 0 rfl) ?_
      obtain ⟨r_9, e_9, hF⟩ := bnd hF
      refine m_gR X hH e_9 gg_X12_13 dX12_patches_34 ?_
      refine lv_iconst (v := (4 : Int32)) hx hb dX12_patches_37 (by decide) ?_
      refine lv_iload_n hx hb dX12_patches_38 rfl (lv_at hl 2 rfl) ?_
      refine lv_imul hx hb dX12_patches_39 ?_
      refine lv_iconst (v := (3 : Int32)) hx hb dX12_patches_40 (by decide) ?_
      refine lv_iadd hx hb dX12_patches_41 ?_
      obtain ⟨x_10, e_10, hF⟩ := bnd hF
      refine m_rdI X hH e_10 dX12_patches_42 ?_
      refine lv_icmp_ne (tgt := 50) hx hb dX12_patches_43 (by decide) (fun c_11 => ?_) (fun c_11 => ?_)
      · replace hF := itf c_11 hF
        refine lv_iconst (v := (0 : Int32)) hx hb dX12_patches_50 (by decide) ?_
        refine lv_iadd hx hb dX12_patches_51 ?_
        refine lv_istore_n (lv' := [(2, .int (v2 + (0 : Int32))), (0, .ref (base + p0)), (3, .int v3)]) hx hb dX12_patches_52 rfl hl (by decide) rfl (fun ls hl => ?_)
        refine lv_iinc (v := v3 + (1 : Int32)) (lv' := [(3, .int (v3 + (1 : Int32))), (2, .int (v2 + (0 : Int32))), (0, .ref (base + p0))]) hx hb dX12_patches_53 hl (k := 2) rfl (congrArg (fun z => v3 + z) (by decide)) (by decide) rfl (fun ls hl => ?_)
        refine lv_goto (tgt := 18) hx hb dX12_patches_56 (by decide) ?_
        exact ih (v2 + (0 : Int32)) (v3 + (1 : Int32)) w hF H locs ls hH hS (lv_sub hl [2, 1, 0] rfl)
      · replace hF := itt c_11 hF
        refine lv_iconst (v := (1 : Int32)) hx hb dX12_patches_46 (by decide) ?_
        refine lv_goto (tgt := 51) hx hb dX12_patches_47 (by decide) ?_
        refine lv_iadd hx hb dX12_patches_51 ?_
        refine lv_istore_n (lv' := [(2, .int (v2 + (1 : Int32))), (0, .ref (base + p0)), (3, .int v3)]) hx hb dX12_patches_52 rfl hl (by decide) rfl (fun ls hl => ?_)
        refine lv_iinc (v := v3 + (1 : Int32)) (lv' := [(3, .int (v3 + (1 : Int32))), (2, .int (v2 + (1 : Int32))), (0, .ref (base + p0))]) hx hb dX12_patches_53 hl (k := 2) rfl (congrArg (fun z => v3 + z) (by decide)) (by decide) rfl (fun ls hl => ?_)
        refine lv_goto (tgt := 18) hx hb dX12_patches_56 (by decide) ?_
        exact ih (v2 + (1 : Int32)) (v3 + (1 : Int32)) w hF H locs ls hH hS (lv_sub hl [2, 1, 0] rfl)
set_option maxHeartbeats 4000000 in
set_option maxRecDepth 100000 in
theorem k_X12_patches (l : Launch) (D : va_G) (cI cT cII : ClassId) (base : Nat) (p0 : Nat) (v1 : Int32) (w : Wd) (res : Int32 × Wd) (hF : fX12_patches p0 v1 w = some res) : Ct l yX12_patches cX12_patches 4 (some .int) { frames := 6, cells := 0, slots := 0, locals := 131 } D cI cT cII base [.ref (base + p0), .int v1] w res.2 (some (.int res.1)) 0 0 := by
  unfold fX12_patches at hF
  refine m_enter (by decide) (Nat.le_of_ble_eq_true rfl) ?_
  intro p e s m below meth c ls X hr hlk hnm hH hS hl
  have hx := X.1
  have hb := X.2.1
  have hc : (0 : Nat) ≤ ({ frames := 6, cells := 0, slots := 0, locals := 131 } : Room).cells ∧ (0 : Nat) ≤ ({ frames := 6, cells := 0, slots := 0, locals := 131 } : Room).slots := ⟨Nat.zero_le _, Nat.zero_le _⟩
  obtain ⟨H, hHe⟩ : ∃ H : Heap, H = s.heap := ⟨_, rfl⟩
  obtain ⟨locs, hle⟩ : ∃ L : List Loc, L = [] := ⟨_, rfl⟩
  have hl : lv_has ls 4 [(0, .ref (base + p0)), (1, .int v1)] := hl
  rw [← hHe] at hH
  have hS : va_S (fun q => base ≤ q) s.heap H locs := by rw [hHe, hle]; exact hS
  rw [← hle]
  show W p l e _ s m _ below meth c s.heap locs 0 0 _ _
  rw [← hHe]
  refine lv_iload_n hx hb dX12_patches_0 rfl (lv_at hl 1 rfl) ?_
  obtain ⟨q_1, e_1, hF⟩ := bnd hF
  refine m_callS (As := [.int v1]) (rest := []) X hH hS hl.1 (k_X12_isDay l D cI cT cII base v1 w q_1 e_1) q_X12_isDay kw_1033 kw_1034 rfl rfl (Nat.le_of_ble_eq_true rfl) ⟨by decide, by decide⟩ hc dX12_patches_1 (fun H locs hH hS => W.eq (g2 := F0 m 4 ls [.int q_1.1]) rfl ?_)
  refine lv_if_ne (tgt := 9) hx hb dX12_patches_4 (by decide) (fun c_2 => ?_) (fun c_2 => ?_)
  · replace hF := itf c_2 hF
    refine lv_aload_n hx hb dX12_patches_9 rfl (lv_at hl 0 rfl) ?_
    refine lv_iload_n hx hb dX12_patches_10 rfl (lv_at hl 1 rfl) ?_
    obtain ⟨u_3, ou_3, hF⟩ := bnd hF
    obtain ⟨q_4, e_4, hF⟩ := bnd hF
    refine m_callV (As := [.int v1]) (rest := []) X hH hS hl.1 ou_3 rfl (by decide) (k_X12_goes l D cI cT cII base p0 v1 q_1.2 q_4 e_4) q_X12_goes kw_1036 kw_1038 kw_37 rfl rfl (Nat.le_of_ble_eq_true rfl) ⟨by decide, by decide⟩ hc dX12_patches_11 (fun H locs hH hS => W.eq (g2 := F0 m 14 ls []) rfl ?_)
    refine lv_iconst (v := (0 : Int32)) hx hb dX12_patches_14 (by decide) ?_
    refine lv_istore_n (lv' := [(2, .int (0 : Int32)), (0, .ref (base + p0)), (1, .int v1)]) hx hb dX12_patches_15 rfl hl (by decide) rfl (fun ls hl => ?_)
    refine lv_iconst (v := (0 : Int32)) hx hb dX12_patches_16 (by decide) ?_
    refine lv_istore_n (lv' := [(3, .int (0 : Int32)), (2, .int (0 : Int32)), (0, .ref (base + p0)), (1, .int v1)]) hx hb dX12_patches_17 rfl hl (by decide) rfl (fun ls hl => ?_)
    refine l_X12_patches_18 X hc p0 _ res ?_ FV (0 : Int32) (0 : Int32) q_4.2 hF H locs ls hH hS (lv_sub hl [2, 1, 0] rfl)
    · intro v2_13 w_12 hF H locs ls hH hS hl
      refine lv_iload_n hx hb dX12_patches_59 rfl (lv_at hl 0 rfl) ?_
      have hF := Option.some.inj hF
      subst hF
      exact m_iret X hr hlk hH hS dX12_patches_60
  · replace hF := itt c_2 hF
    refine lv_iconst (v := (-1 : Int32)) hx hb dX12_patches_7 (by decide) ?_
    have hF := Option.some.inj hF
    subst hF
    exact m_iret X hr hlk hH hS dX12_patches_8
noncomputable def fX12_person (p0 : Nat) (v1 : Int32) (v2 : Int32) (w : Wd) : Option (Int32 × Wd) := (isO 11 p0 w).bind fun u_1 => (fX12_isPerson p0 v1 w).bind fun q_2 => if q_2.1 = 0 then some ((-1 : Int32), q_2.2) else (fX12_in v2 (0 : Int32) (1 : Int32) q_2.2).bind fun q_4 => if q_4.1 = 0 then some ((-1 : Int32), q_4.2) else (gfR 11 3 p0 q_4.2).bind fun r_6 => (rdI r_6 (((2 : Int32) * v1) + v2) q_4.2).bind fun x_7 => some (x_7, q_4.2)
set_option maxHeartbeats 4000000 in
set_option maxRecDepth 100000 in
theorem k_X12_person (l : Launch) (D : va_G) (cI cT cII : ClassId) (base : Nat) (p0 : Nat) (v1 : Int32) (v2 : Int32) (w : Wd) (res : Int32 × Wd) (hF : fX12_person p0 v1 v2 w = some res) : Ct l yX12_person cX12_person 3 (some .int) { frames := 2, cells := 0, slots := 0, locals := 43 } D cI cT cII base [.ref (base + p0), .int v1, .int v2] w res.2 (some (.int res.1)) 0 0 := by
  unfold fX12_person at hF
  refine m_enter (by decide) (Nat.le_of_ble_eq_true rfl) ?_
  intro p e s m below meth c ls X hr hlk hnm hH hS hl
  have hx := X.1
  have hb := X.2.1
  have hc : (0 : Nat) ≤ ({ frames := 2, cells := 0, slots := 0, locals := 43 } : Room).cells ∧ (0 : Nat) ≤ ({ frames := 2, cells := 0, slots := 0, locals := 43 } : Room).slots := ⟨Nat.zero_le _, Nat.zero_le _⟩
  obtain ⟨H, hHe⟩ : ∃ H : Heap, H = s.heap := ⟨_, rfl⟩
  obtain ⟨locs, hle⟩ : ∃ L : List Loc, L = [] := ⟨_, rfl⟩
  have hl : lv_has ls 3 [(0, .ref (base + p0)), (1, .int v1), (2, .int v2)] := hl
  rw [← hHe] at hH
  have hS : va_S (fun q => base ≤ q) s.heap H locs := by rw [hHe, hle]; exact hS
  rw [← hle]
  show W p l e _ s m _ below meth c s.heap locs 0 0 _ _
  rw [← hHe]
  refine lv_aload_n hx hb dX12_person_0 rfl (lv_at hl 0 rfl) ?_
  refine lv_iload_n hx hb dX12_person_1 rfl (lv_at hl 1 rfl) ?_
  obtain ⟨u_1, ou_1, hF⟩ := bnd hF
  obtain ⟨q_2, e_2, hF⟩ := bnd hF
  refine m_callV (As := [.int v1]) (rest := []) X hH hS hl.1 ou_1 rfl (by decide) (k_X12_isPerson l D cI cT cII base p0 v1 w q_2 e_2) q_X12_isPerson kw_1025 kw_1027 kw_36 rfl rfl (Nat.le_of_ble_eq_true rfl) ⟨by decide, by decide⟩ hc dX12_person_2 (fun H locs hH hS => W.eq (g2 := F0 m 5 ls [.int q_2.1]) rfl ?_)
  refine lv_if_eq (tgt := 30) hx hb dX12_person_5 (by decide) (fun c_3 => ?_) (fun c_3 => ?_)
  · replace hF := itt c_3 hF
    refine lv_iconst (v := (-1 : Int32)) hx hb dX12_person_30 (by decide) ?_
    have hF := Option.some.inj hF
    subst hF
    exact m_iret X hr hlk hH hS dX12_person_31
  · replace hF := itf c_3 hF
    refine lv_iload_n hx hb dX12_person_8 rfl (lv_at hl 2 rfl) ?_
    refine lv_iconst (v := (0 : Int32)) hx hb dX12_person_9 (by decide) ?_
    refine lv_iconst (v := (1 : Int32)) hx hb dX12_person_10 (by decide) ?_
    obtain ⟨q_4, e_4, hF⟩ := bnd hF
    refine m_callS (As := [.int v2, .int (0 : Int32), .int (1 : Int32)]) (rest := []) X hH hS hl.1 (k_X12_in l D cI cT cII base v2 (0 : Int32) (1 : Int32) q_2.2 q_4 e_4) q_X12_in kw_951 kw_952 rfl rfl (Nat.le_of_ble_eq_true rfl) ⟨by decide, by decide⟩ hc dX12_person_11 (fun H locs hH hS => W.eq (g2 := F0 m 14 ls [.int q_4.1]) rfl ?_)
    refine lv_if_eq (tgt := 30) hx hb dX12_person_14 (by decide) (fun c_5 => ?_) (fun c_5 => ?_)
    · replace hF := itt c_5 hF
      refine lv_iconst (v := (-1 : Int32)) hx hb dX12_person_30 (by decide) ?_
      have hF := Option.some.inj hF
      subst hF
      exact m_iret X hr hlk hH hS dX12_person_31
    · replace hF := itf c_5 hF
      refine lv_aload_n hx hb dX12_person_17 rfl (lv_at hl 0 rfl) ?_
      obtain ⟨r_6, e_6, hF⟩ := bnd hF
      refine m_gR X hH e_6 gg_X12_20 dX12_person_18 ?_
      refine lv_iconst (v := (2 : Int32)) hx hb dX12_person_21 (by decide) ?_
      refine lv_iload_n hx hb dX12_person_22 rfl (lv_at hl 1 rfl) ?_
      refine lv_imul hx hb dX12_person_23 ?_
      refine lv_iload_n hx hb dX12_person_24 rfl (lv_at hl 2 rfl) ?_
      refine lv_iadd hx hb dX12_person_25 ?_
      obtain ⟨x_7, e_7, hF⟩ := bnd hF
      refine m_rdI X hH e_7 dX12_person_26 ?_
      refine lv_goto (tgt := 31) hx hb dX12_person_27 (by decide) ?_
      have hF := Option.some.inj hF
      subst hF
      exact m_iret X hr hlk hH hS dX12_person_31
noncomputable def fX12_rest_16 (p0 : Nat) (v1 : Int32) (v2 : Int32) (K_40 : Wd → Option (Int32 × Wd)) : Nat → Int32 → Wd → Option (Int32 × Wd)
  | 0, _, _ => none
  | n + 1, v3, w => if (7 : Int32) ≤ v3 then K_40  w else (gfR 11 29 p0 w).bind fun r_5 => (gfR 11 25 p0 w).bind fun r_6 => (rdI r_6 v3 w).bind fun x_7 => (wrI r_5 v3 x_7 w).bind fun w_8 => fX12_rest_16 p0 v1 v2 K_40 n (v3 + (1 : Int32)) w_8
noncomputable def fX12_rest_51 (p0 : Nat) (v2 : Int32) (K_88 : Int32 → Wd → Option (Int32 × Wd)) : Nat → Int32 → Int32 → Wd → Option (Int32 × Wd)
  | 0, _, _, _ => none
  | n + 1, v1, v3, w => (gfI 11 0 p0 w).bind fun x_14 => if x_14 ≤ v3 then K_88 v1 w else (gfR 11 25 p0 w).bind fun r_16 => (rdI r_16 v3 w).bind fun x_17 => (gfR 11 29 p0 w).bind fun r_18 => (rdI r_18 v3 w).bind fun x_19 => if x_17 = x_19 then fX12_rest_51 p0 v2 K_88 n v1 (v3 + (1 : Int32)) w else fX12_rest_51 p0 v2 K_88 n (v2 + (1 : Int32)) (v3 + (1 : Int32)) w
noncomputable def fX12_rest_8 (p0 : Nat) (K_94 : Int32 → Wd → Option (Int32 × Wd)) : Nat → Int32 → Int32 → Wd → Option (Int32 × Wd)
  | 0, _, _, _ => none
  | n + 1, v1, v2, w => if (30 : Int32) < v2 then K_94 v1 w else fX12_rest_16 p0 v1 v2 (fun  (w_9 : Wd) => (isO 11 p0 w_9).bind fun u_10 => (fX12_nightOf p0 v2 w_9).bind fun q_11 => (isO 11 p0 q_11.2).bind fun u_12 => (fX12_morning p0 q_11.2).bind fun q_13 => fX12_rest_51 p0 v2 (fun (v1_22 : Int32) (w_21 : Wd) => fX12_rest_8 p0 K_94 n v1_22 (v2 + (1 : Int32)) w_21) FV v1 (0 : Int32) q_13.2) FV (0 : Int32) w
noncomputable def fX12_rest (p0 : Nat) (w : Wd) : Option (Int32 × Wd) := (isO 11 p0 w).bind fun u_1 => (fX12_begins p0 w).bind fun q_2 => fX12_rest_8 p0 (fun (v1_24 : Int32) (w_23 : Wd) => if v1_24 ≤ (30 : Int32) then some (v1_24, w_23) else some ((-4 : Int32), w_23)) FV (0 : Int32) (0 : Int32) q_2.2
set_option maxHeartbeats 4000000 in
set_option maxRecDepth 100000 in
theorem l_X12_rest_16 (X : Cx p R s m args c cX12_rest 4 RX12 D cI cT cII 5 108) (hc : cells ≤ R.cells ∧ slots ≤ R.slots) (p0 : Nat) (v1 : Int32) (v2 : Int32) (K_40 : Wd → Option (Int32 × Wd)) (res : Int32 × Wd)
    (hK_40 : ∀  (w : Wd), K_40  w = some res → ∀ (H : Heap) (locs : List Loc) (ls : Array Slot), Hd D cI cT cII base w H → va_S (fun q => base ≤ q) s.heap H locs → lv_has ls 4 [(0, .ref (base + p0)), (1, .int v1), (2, .int v2)] → W p l e R s m args below meth c H locs cells slots Q (F0 m 40 ls [])) :
    ∀ (n : Nat) (v3 : Int32) (w : Wd), fX12_rest_16 p0 v1 v2 K_40 n v3 w = some res → ∀ (H : Heap) (locs : List Loc) (ls : Array Slot), Hd D cI cT cII base w H → va_S (fun q => base ≤ q) s.heap H locs → lv_has ls 4 [(0, .ref (base + p0)), (1, .int v1), (2, .int v2), (3, .int v3)] → W p l e R s m args below meth c H locs cells slots Q (F0 m 16 ls []) := by
  have hx := X.1
  have hb := X.2.1
  intro n
  induction n with
  | zero =>
    intro v3 w hF
    rw [fX12_rest_16] at hF
    cases hF
  | succ n ih =>
    intro v3 w hF H locs ls hH hS hl
    rw [fX12_rest_16] at hF
    refine lv_iload_n hx hb dX12_rest_16 rfl (lv_at hl 3 rfl) ?_
    refine lv_bipush (v := (7 : Int32)) hx hb dX12_rest_17 (by decide) ?_
    refine lv_icmp_ge (tgt := 40) hx hb dX12_rest_19 (by decide) (fun c_4 => ?_) (fun c_4 => ?_)
    · replace hF := itt c_4 hF
      exact hK_40  w hF H locs ls hH hS (lv_sub hl [0, 1, 2] rfl)
    · replace hF := itf c_4 hF
      refine lv_aload_n hx hb dX12_rest_22 rfl (lv_at hl 0 rfl) ?_
      obtain ⟨r_5, e_5, hF⟩ := bnd hF
      refine m_gR X hH e_5 gg_X12_71 dX12_rest_23 ?_
      refine lv_iload_n hx hb dX12_rest_26 rfl (lv_at hl 3 rfl) ?_
      refine lv_aload_n hx hb dX12_rest_27 rfl (lv_at hl 0 rfl) ?_
      obtain ⟨r_6, e_6, hF⟩ := bnd hF
      refine m_gR X hH e_6 gg_X12_62 dX12_rest_28 ?_
      refine lv_iload_n hx hb dX12_rest_31 rfl (lv_at hl 3 rfl) ?_
      obtain ⟨x_7, e_7, hF⟩ := bnd hF
      refine m_rdI X hH e_7 dX12_rest_32 ?_
      obtain ⟨w_8, e_8, hF⟩ := bnd hF
      refine m_wrI X hH hS e_8 dX12_rest_33 (fun H locs hH hS => ?_)
      refine lv_iinc (v := v3 + (1 : Int32)) (lv' := [(3, .int (v3 + (1 : Int32))), (0, .ref (base + p0)), (1, .int v1), (2, .int v2)]) hx hb dX12_rest_34 hl (k := 3) rfl (congrArg (fun z => v3 + z) (by decide)) (by decide) rfl (fun ls hl => ?_)
      refine lv_goto (tgt := 16) hx hb dX12_rest_37 (by decide) ?_
      exact ih (v3 + (1 : Int32)) w_8 hF H locs ls hH hS (lv_sub hl [1, 2, 3, 0] rfl)
set_option maxHeartbeats 4000000 in
set_option maxRecDepth 100000 in
theorem l_X12_rest_51 (X : Cx p R s m args c cX12_rest 4 RX12 D cI cT cII 5 108) (hc : cells ≤ R.cells ∧ slots ≤ R.slots) (p0 : Nat) (v2 : Int32) (K_88 : Int32 → Wd → Option (Int32 × Wd)) (res : Int32 × Wd)
    (hK_88 : ∀ (z1 : Int32) (w : Wd), K_88 z1 w = some res → ∀ (H : Heap) (locs : List Loc) (ls : Array Slot), Hd D cI cT cII base w H → va_S (fun q => base ≤ q) s.heap H locs → lv_has ls 4 [(0, .ref (base + p0)), (1, .int z1), (2, .int v2)] → W p l e R s m args below meth c H locs cells slots Q (F0 m 88 ls [])) :
    ∀ (n : Nat) (v1 : Int32) (v3 : Int32) (w : Wd), fX12_rest_51 p0 v2 K_88 n v1 v3 w = some res → ∀ (H : Heap) (locs : List Loc) (ls : Array Slot), Hd D cI cT cII base w H → va_S (fun q => base ≤ q) s.heap H locs → lv_has ls 4 [(0, .ref (base + p0)), (1, .int v1), (2, .int v2), (3, .int v3)] → W p l e R s m args below meth c H locs cells slots Q (F0 m 51 ls []) := by
  have hx := X.1
  have hb := X.2.1
  intro n
  induction n with
  | zero =>
    intro v1 v3 w hF
    rw [fX12_rest_51] at hF
    cases hF
  | succ n ih =>
    intro v1 v3 w hF H locs ls hH hS hl
    rw [fX12_rest_51] at hF
    refine lv_iload_n hx hb dX12_rest_51 rfl (lv_at hl 3 rfl) ?_
    refine lv_aload_n hx hb dX12_rest_52 rfl (lv_at hl 0 rfl) ?_
    obtain ⟨x_14, e_14, hF⟩ := bnd hF
    refine m_gI X hH e_14 gg_X12_7 dX12_rest_53 ?_
    refine lv_icmp_ge (tgt := 88) hx hb dX12_rest_56 (by decide) (fun c_15 => ?_) (fun c_15 => ?_)
    · replace hF := itt c_15 hF
      exact hK_88 v1 w hF H locs ls hH hS (lv_sub hl [0, 1, 2] rfl)
    · replace hF := itf c_15 hF
      refine lv_aload_n hx hb dX12_rest_59 rfl (lv_at hl 0 rfl) ?_
      obtain ⟨r_16, e_16, hF⟩ := bnd hF
      refine m_gR X hH e_16 gg_X12_62 dX12_rest_60 ?_
      refine lv_iload_n hx hb dX12_rest_63 rfl (lv_at hl 3 rfl) ?_
      obtain ⟨x_17, e_17, hF⟩ := bnd hF
      refine m_rdI X hH e_17 dX12_rest_64 ?_
      refine lv_aload_n hx hb dX12_rest_65 rfl (lv_at hl 0 rfl) ?_
      obtain ⟨r_18, e_18, hF⟩ := bnd hF
      refine m_gR X hH e_18 gg_X12_71 dX12_rest_66 ?_
      refine lv_iload_n hx hb dX12_rest_69 rfl (lv_at hl 3 rfl) ?_
      obtain ⟨x_19, e_19, hF⟩ := bnd hF
      refine m_rdI X hH e_19 dX12_rest_70 ?_
      refine lv_icmp_ne (tgt := 78) hx hb dX12_rest_71 (by decide) (fun c_20 => ?_) (fun c_20 => ?_)
      · replace hF := itf c_20 hF
        refine lv_iload_n hx hb dX12_rest_78 rfl (lv_at hl 2 rfl) ?_
        refine lv_iconst (v := (1 : Int32)) hx hb dX12_rest_79 (by decide) ?_
        refine lv_iadd hx hb dX12_rest_80 ?_
        refine lv_istore_n (lv' := [(1, .int (v2 + (1 : Int32))), (0, .ref (base + p0)), (2, .int v2), (3, .int v3)]) hx hb dX12_rest_81 rfl hl (by decide) rfl (fun ls hl => ?_)
        refine lv_iinc (v := v3 + (1 : Int32)) (lv' := [(3, .int (v3 + (1 : Int32))), (1, .int (v2 + (1 : Int32))), (0, .ref (base + p0)), (2, .int v2)]) hx hb dX12_rest_82 hl (k := 3) rfl (congrArg (fun z => v3 + z) (by decide)) (by decide) rfl (fun ls hl => ?_)
        refine lv_goto (tgt := 51) hx hb dX12_rest_85 (by decide) ?_
        exact ih (v2 + (1 : Int32)) (v3 + (1 : Int32)) w hF H locs ls hH hS (lv_sub hl [2, 1, 3, 0] rfl)
      · replace hF := itt c_20 hF
        refine lv_iload_n hx hb dX12_rest_74 rfl (lv_at hl 1 rfl) ?_
        refine lv_goto (tgt := 81) hx hb dX12_rest_75 (by decide) ?_
        refine lv_istore_n (lv' := [(1, .int v1), (0, .ref (base + p0)), (2, .int v2), (3, .int v3)]) hx hb dX12_rest_81 rfl hl (by decide) rfl (fun ls hl => ?_)
        refine lv_iinc (v := v3 + (1 : Int32)) (lv' := [(3, .int (v3 + (1 : Int32))), (1, .int v1), (0, .ref (base + p0)), (2, .int v2)]) hx hb dX12_rest_82 hl (k := 3) rfl (congrArg (fun z => v3 + z) (by decide)) (by decide) rfl (fun ls hl => ?_)
        refine lv_goto (tgt := 51) hx hb dX12_rest_85 (by decide) ?_
        exact ih v1 (v3 + (1 : Int32)) w hF H locs ls hH hS (lv_sub hl [2, 1, 3, 0] rfl)
set_option maxHeartbeats 4000000 in
set_option maxRecDepth 100000 in
theorem l_X12_rest_8 (X : Cx p R s m args c cX12_rest 4 RX12 D cI cT cII 5 108) (hc : cells ≤ R.cells ∧ slots ≤ R.slots) (p0 : Nat) (K_94 : Int32 → Wd → Option (Int32 × Wd)) (res : Int32 × Wd)
    (hK_94 : ∀ (z1 : Int32) (w : Wd), K_94 z1 w = some res → ∀ (H : Heap) (locs : List Loc) (ls : Array Slot), Hd D cI cT cII base w H → va_S (fun q => base ≤ q) s.heap H locs → lv_has ls 4 [(1, .int z1)] → W p l e R s m args below meth c H locs cells slots Q (F0 m 94 ls [])) :
    ∀ (n : Nat) (v1 : Int32) (v2 : Int32) (w : Wd), fX12_rest_8 p0 K_94 n v1 v2 w = some res → ∀ (H : Heap) (locs : List Loc) (ls : Array Slot), Hd D cI cT cII base w H → va_S (fun q => base ≤ q) s.heap H locs → lv_has ls 4 [(0, .ref (base + p0)), (1, .int v1), (2, .int v2)] → W p l e R s m args below meth c H locs cells slots Q (F0 m 8 ls []) := by
  have hx := X.1
  have hb := X.2.1
  intro n
  induction n with
  | zero =>
    intro v1 v2 w hF
    rw [fX12_rest_8] at hF
    cases hF
  | succ n ih =>
    intro v1 v2 w hF H locs ls hH hS hl
    rw [fX12_rest_8] at hF
    refine lv_iload_n hx hb dX12_rest_8 rfl (lv_at hl 2 rfl) ?_
    refine lv_bipush (v := (30 : Int32)) hx hb dX12_rest_9 (by decide) ?_
    refine lv_icmp_gt (tgt := 94) hx hb dX12_rest_11 (by decide) (fun c_3 => ?_) (fun c_3 => ?_)
    · replace hF := itt c_3 hF
      exact hK_94 v1 w hF H locs ls hH hS (lv_sub hl [1] rfl)
    · replace hF := itf c_3 hF
      refine lv_iconst (v := (0 : Int32)) hx hb dX12_rest_14 (by decide) ?_
      refine lv_istore_n (lv' := [(3, .int (0 : Int32)), (0, .ref (base + p0)), (1, .int v1), (2, .int v2)]) hx hb dX12_rest_15 rfl hl (by decide) rfl (fun ls hl => ?_)
      refine l_X12_rest_16 X hc p0 v1 v2 _ res ?_ FV (0 : Int32) w hF H locs ls hH hS (lv_sub hl [1, 2, 3, 0] rfl)
      · intro  w_9 hF H locs ls hH hS hl
        refine lv_aload_n hx hb dX12_rest_40 rfl (lv_at hl 0 rfl) ?_
        refine lv_iload_n hx hb dX12_rest_41 rfl (lv_at hl 2 rfl) ?_
        obtain ⟨u_10, ou_10, hF⟩ := bnd hF
        obtain ⟨q_11, e_11, hF⟩ := bnd hF
        refine m_callV (As := [.int v2]) (rest := []) X hH hS hl.1 ou_10 rfl (by decide) (k_X12_nightOf l D cI cT cII base p0 v2 w_9 q_11 e_11) q_X12_nightOf kw_1044 kw_1046 kw_39 rfl rfl (Nat.le_of_ble_eq_true rfl) ⟨by decide, by decide⟩ hc dX12_rest_42 (fun H locs hH hS => W.eq (g2 := F0 m 45 ls []) rfl ?_)
        refine lv_aload_n hx hb dX12_rest_45 rfl (lv_at hl 0 rfl) ?_
        obtain ⟨u_12, ou_12, hF⟩ := bnd hF
        obtain ⟨q_13, e_13, hF⟩ := bnd hF
        refine m_callV (As := []) (rest := []) X hH hS hl.1 ou_12 rfl (by decide) (k_X12_morning l D cI cT cII base p0 q_11.2 q_13 e_13) q_X12_morning kw_1059 kw_1061 kw_42 rfl rfl (Nat.le_of_ble_eq_true rfl) ⟨by decide, by decide⟩ hc dX12_rest_46 (fun H locs hH hS => W.eq (g2 := F0 m 49 ls []) rfl ?_)
        refine lv_iconst (v := (0 : Int32)) hx hb dX12_rest_49 (by decide) ?_
        refine lv_istore_n (lv' := [(3, .int (0 : Int32)), (0, .ref (base + p0)), (1, .int v1), (2, .int v2)]) hx hb dX12_rest_50 rfl hl (by decide) rfl (fun ls hl => ?_)
        refine l_X12_rest_51 X hc p0 v2 _ res ?_ FV v1 (0 : Int32) q_13.2 hF H locs ls hH hS (lv_sub hl [1, 2, 3, 0] rfl)
        · intro v1_22 w_21 hF H locs ls hH hS hl
          refine lv_iinc (v := v2 + (1 : Int32)) (lv' := [(2, .int (v2 + (1 : Int32))), (0, .ref (base + p0)), (1, .int v1_22)]) hx hb dX12_rest_88 hl (k := 2) rfl (congrArg (fun z => v2 + z) (by decide)) (by decide) rfl (fun ls hl => ?_)
          refine lv_goto (tgt := 8) hx hb dX12_rest_91 (by decide) ?_
          exact ih v1_22 (v2 + (1 : Int32)) w_21 hF H locs ls hH hS (lv_sub hl [1, 2, 0] rfl)
set_option maxHeartbeats 4000000 in
set_option maxRecDepth 100000 in
theorem k_X12_rest (l : Launch) (D : va_G) (cI cT cII : ClassId) (base : Nat) (p0 : Nat) (w : Wd) (res : Int32 × Wd) (hF : fX12_rest p0 w = some res) : Ct l yX12_rest cX12_rest 4 (some .int) { frames := 5, cells := 0, slots := 0, locals := 108 } D cI cT cII base [.ref (base + p0)] w res.2 (some (.int res.1)) 0 0 := by
  unfold fX12_rest at hF
  refine m_enter (by decide) (Nat.le_of_ble_eq_true rfl) ?_
  intro p e s m below meth c ls X hr hlk hnm hH hS hl
  have hx := X.1
  have hb := X.2.1
  have hc : (0 : Nat) ≤ ({ frames := 5, cells := 0, slots := 0, locals := 108 } : Room).cells ∧ (0 : Nat) ≤ ({ frames := 5, cells := 0, slots := 0, locals := 108 } : Room).slots := ⟨Nat.zero_le _, Nat.zero_le _⟩
  obtain ⟨H, hHe⟩ : ∃ H : Heap, H = s.heap := ⟨_, rfl⟩
  obtain ⟨locs, hle⟩ : ∃ L : List Loc, L = [] := ⟨_, rfl⟩
  have hl : lv_has ls 4 [(0, .ref (base + p0))] := hl
  rw [← hHe] at hH
  have hS : va_S (fun q => base ≤ q) s.heap H locs := by rw [hHe, hle]; exact hS
  rw [← hle]
  show W p l e _ s m _ below meth c s.heap locs 0 0 _ _
  rw [← hHe]
  refine lv_iconst (v := (0 : Int32)) hx hb dX12_rest_0 (by decide) ?_
  refine lv_istore_n (lv' := [(1, .int (0 : Int32)), (0, .ref (base + p0))]) hx hb dX12_rest_1 rfl hl (by decide) rfl (fun ls hl => ?_)
  refine lv_aload_n hx hb dX12_rest_2 rfl (lv_at hl 1 rfl) ?_
  obtain ⟨u_1, ou_1, hF⟩ := bnd hF
  obtain ⟨q_2, e_2, hF⟩ := bnd hF
  refine m_callV (As := []) (rest := []) X hH hS hl.1 ou_1 rfl (by decide) (k_X12_begins l D cI cT cII base p0 w q_2 e_2) q_X12_begins kw_1040 kw_1042 kw_38 rfl rfl (Nat.le_of_ble_eq_true rfl) ⟨by decide, by decide⟩ hc dX12_rest_3 (fun H locs hH hS => W.eq (g2 := F0 m 6 ls []) rfl ?_)
  refine lv_iconst (v := (0 : Int32)) hx hb dX12_rest_6 (by decide) ?_
  refine lv_istore_n (lv' := [(2, .int (0 : Int32)), (1, .int (0 : Int32)), (0, .ref (base + p0))]) hx hb dX12_rest_7 rfl hl (by decide) rfl (fun ls hl => ?_)
  refine l_X12_rest_8 X hc p0 _ res ?_ FV (0 : Int32) (0 : Int32) q_2.2 hF H locs ls hH hS (lv_sub hl [2, 1, 0] rfl)
  · intro v1_24 w_23 hF H locs ls hH hS hl
    refine lv_iload_n hx hb dX12_rest_94 rfl (lv_at hl 0 rfl) ?_
    refine lv_bipush (v := (30 : Int32)) hx hb dX12_rest_95 (by decide) ?_
    refine lv_icmp_le (tgt := 105) hx hb dX12_rest_97 (by decide) (fun c_25 => ?_) (fun c_25 => ?_)
    · replace hF := itt c_25 hF
      refine lv_iload_n hx hb dX12_rest_105 rfl (lv_at hl 0 rfl) ?_
      have hF := Option.some.inj hF
      subst hF
      exact m_iret X hr hlk hH hS dX12_rest_106
    · replace hF := itf c_25 hF
      refine lv_bipush (v := (-4 : Int32)) hx hb dX12_rest_100 (by decide) ?_
      refine lv_goto (tgt := 106) hx hb dX12_rest_102 (by decide) ?_
      have hF := Option.some.inj hF
      subst hF
      exact m_iret X hr hlk hH hS dX12_rest_106
noncomputable def fX12_safe_21 (p0 : Nat) (K_50 : Int32 → Wd → Option (Int32 × Wd)) : Nat → Int32 → Int32 → Wd → Option (Int32 × Wd)
  | 0, _, _, _ => none
  | n + 1, v2, v3, w => (gfI 11 0 p0 w).bind fun x_6 => if ((40 : Int32) * x_6) ≤ v3 then K_50 v2 w else (isO 11 p0 w).bind fun u_8 => (fX12_tries p0 v3 w).bind fun q_9 => (gfI 11 28 p0 q_9.2).bind fun x_10 => fX12_safe_21 p0 K_50 n (v2 ||| x_10) (v3 + (1 : Int32)) q_9.2
noncomputable def fX12_safe (p0 : Nat) (v1 : Int32) (w : Wd) : Option (Int32 × Wd) := (fX12_isDay v1 w).bind fun q_1 => if q_1.1 = 0 then some ((-1 : Int32), q_1.2) else (isO 11 p0 q_1.2).bind fun u_3 => (fX12_goes p0 v1 q_1.2).bind fun q_4 => (gfI 11 28 p0 q_4.2).bind fun x_5 => fX12_safe_21 p0 (fun (v2_12 : Int32) (w_11 : Wd) => (gfI 11 2 p0 w_11).bind fun x_13 => some ((((1 : Int32) <<< (x_13 &&& 31)) - (1 : Int32)) &&& (v2_12 ^^^ (-1 : Int32)), w_11)) FV x_5 (0 : Int32) q_4.2
set_option maxHeartbeats 4000000 in
set_option maxRecDepth 100000 in
theorem l_X12_safe_21 (X : Cx p R s m args c cX12_safe 4 RX12 D cI cT cII 6 131) (hc : cells ≤ R.cells ∧ slots ≤ R.slots) (p0 : Nat) (K_50 : Int32 → Wd → Option (Int32 × Wd)) (res : Int32 × Wd)
    (hK_50 : ∀ (z2 : Int32) (w : Wd), K_50 z2 w = some res → ∀ (H : Heap) (locs : List Loc) (ls : Array Slot), Hd D cI cT cII base w H → va_S (fun q => base ≤ q) s.heap H locs → lv_has ls 4 [(0, .ref (base + p0)), (2, .int z2)] → W p l e R s m args below meth c H locs cells slots Q (F0 m 50 ls [])) :
    ∀ (n : Nat) (v2 : Int32) (v3 : Int32) (w : Wd), fX12_safe_21 p0 K_50 n v2 v3 w = some res → ∀ (H : Heap) (locs : List Loc) (ls : Array Slot), Hd D cI cT cII base w H → va_S (fun q => base ≤ q) s.heap H locs → lv_has ls 4 [(0, .ref (base + p0)), (2, .int v2), (3, .int v3)] → W p l e R s m args below meth c H locs cells slots Q (F0 m 21 ls []) := by
  have hx := X.1
  have hb := X.2.1
  intro n
  induction n with
  | zero =>
    intro v2 v3 w hF
    rw [fX12_safe_21] at hF
    cases hF
  | succ n ih =>
    intro v2 v3 w hF H locs ls hH hS hl
    rw [fX12_safe_21] at hF
    refine lv_iload_n hx hb dX12_safe_21 rfl (lv_at hl 2 rfl) ?_
    refine lv_bipush (v := (40 : Int32)) hx hb dX12_safe_22 (by decide) ?_
    refine lv_aload_n hx hb dX12_safe_24 rfl (lv_at hl 0 rfl) ?_
    obtain ⟨x_6, e_6, hF⟩ := bnd hF
    refine m_gI X hH e_6 gg_X12_7 dX12_safe_25 ?_
    refine lv_imul hx hb dX12_safe_28 ?_
    refine lv_icmp_ge (tgt := 50) hx hb dX12_safe_29 (by decide) (fun c_7 => ?_) (fun c_7 => ?_)
    · replace hF := itt c_7 hF
      exact hK_50 v2 w hF H locs ls hH hS (lv_sub hl [0, 1] rfl)
    · replace hF := itf c_7 hF
      refine lv_aload_n hx hb dX12_safe_32 rfl (lv_at hl 0 rfl) ?_
      refine lv_iload_n hx hb dX12_safe_33 rfl (lv_at hl 2 rfl) ?_
      obtain ⟨u_8, ou_8, hF⟩ := bnd hF
      obtain ⟨q_9, e_9, hF⟩ := bnd hF
      refine m_callV (As := [.int v3]) (rest := []) X hH hS hl.1 ou_8 rfl (by decide) (k_X12_tries l D cI cT cII base p0 v3 w q_9 e_9) q_X12_tries kw_1127 kw_1129 kw_47 rfl rfl (Nat.le_of_ble_eq_true rfl) ⟨by decide, by decide⟩ hc dX12_safe_34 (fun H locs hH hS => W.eq (g2 := F0 m 37 ls []) rfl ?_)
      refine lv_iload_n hx hb dX12_safe_37 rfl (lv_at hl 1 rfl) ?_
      refine lv_aload_n hx hb dX12_safe_38 rfl (lv_at hl 0 rfl) ?_
      obtain ⟨x_10, e_10, hF⟩ := bnd hF
      refine m_gI X hH e_10 gg_X12_182 dX12_safe_39 ?_
      refine lv_ior hx hb dX12_safe_42 ?_
      refine lv_istore_n (lv' := [(2, .int (v2 ||| x_10)), (0, .ref (base + p0)), (3, .int v3)]) hx hb dX12_safe_43 rfl hl (by decide) rfl (fun ls hl => ?_)
      refine lv_iinc (v := v3 + (1 : Int32)) (lv' := [(3, .int (v3 + (1 : Int32))), (2, .int (v2 ||| x_10)), (0, .ref (base + p0))]) hx hb dX12_safe_44 hl (k := 2) rfl (congrArg (fun z => v3 + z) (by decide)) (by decide) rfl (fun ls hl => ?_)
      refine lv_goto (tgt := 21) hx hb dX12_safe_47 (by decide) ?_
      exact ih (v2 ||| x_10) (v3 + (1 : Int32)) q_9.2 hF H locs ls hH hS (lv_sub hl [2, 1, 0] rfl)
set_option maxHeartbeats 4000000 in
set_option maxRecDepth 100000 in
theorem k_X12_safe (l : Launch) (D : va_G) (cI cT cII : ClassId) (base : Nat) (p0 : Nat) (v1 : Int32) (w : Wd) (res : Int32 × Wd) (hF : fX12_safe p0 v1 w = some res) : Ct l yX12_safe cX12_safe 4 (some .int) { frames := 6, cells := 0, slots := 0, locals := 131 } D cI cT cII base [.ref (base + p0), .int v1] w res.2 (some (.int res.1)) 0 0 := by
  unfold fX12_safe at hF
  refine m_enter (by decide) (Nat.le_of_ble_eq_true rfl) ?_
  intro p e s m below meth c ls X hr hlk hnm hH hS hl
  have hx := X.1
  have hb := X.2.1
  have hc : (0 : Nat) ≤ ({ frames := 6, cells := 0, slots := 0, locals := 131 } : Room).cells ∧ (0 : Nat) ≤ ({ frames := 6, cells := 0, slots := 0, locals := 131 } : Room).slots := ⟨Nat.zero_le _, Nat.zero_le _⟩
  obtain ⟨H, hHe⟩ : ∃ H : Heap, H = s.heap := ⟨_, rfl⟩
  obtain ⟨locs, hle⟩ : ∃ L : List Loc, L = [] := ⟨_, rfl⟩
  have hl : lv_has ls 4 [(0, .ref (base + p0)), (1, .int v1)] := hl
  rw [← hHe] at hH
  have hS : va_S (fun q => base ≤ q) s.heap H locs := by rw [hHe, hle]; exact hS
  rw [← hle]
  show W p l e _ s m _ below meth c s.heap locs 0 0 _ _
  rw [← hHe]
  refine lv_iload_n hx hb dX12_safe_0 rfl (lv_at hl 1 rfl) ?_
  obtain ⟨q_1, e_1, hF⟩ := bnd hF
  refine m_callS (As := [.int v1]) (rest := []) X hH hS hl.1 (k_X12_isDay l D cI cT cII base v1 w q_1 e_1) q_X12_isDay kw_1033 kw_1034 rfl rfl (Nat.le_of_ble_eq_true rfl) ⟨by decide, by decide⟩ hc dX12_safe_1 (fun H locs hH hS => W.eq (g2 := F0 m 4 ls [.int q_1.1]) rfl ?_)
  refine lv_if_ne (tgt := 9) hx hb dX12_safe_4 (by decide) (fun c_2 => ?_) (fun c_2 => ?_)
  · replace hF := itf c_2 hF
    refine lv_aload_n hx hb dX12_safe_9 rfl (lv_at hl 0 rfl) ?_
    refine lv_iload_n hx hb dX12_safe_10 rfl (lv_at hl 1 rfl) ?_
    obtain ⟨u_3, ou_3, hF⟩ := bnd hF
    obtain ⟨q_4, e_4, hF⟩ := bnd hF
    refine m_callV (As := [.int v1]) (rest := []) X hH hS hl.1 ou_3 rfl (by decide) (k_X12_goes l D cI cT cII base p0 v1 q_1.2 q_4 e_4) q_X12_goes kw_1036 kw_1038 kw_37 rfl rfl (Nat.le_of_ble_eq_true rfl) ⟨by decide, by decide⟩ hc dX12_safe_11 (fun H locs hH hS => W.eq (g2 := F0 m 14 ls []) rfl ?_)
    refine lv_aload_n hx hb dX12_safe_14 rfl (lv_at hl 0 rfl) ?_
    obtain ⟨x_5, e_5, hF⟩ := bnd hF
    refine m_gI X hH e_5 gg_X12_182 dX12_safe_15 ?_
    refine lv_istore_n (lv' := [(2, .int x_5), (0, .ref (base + p0)), (1, .int v1)]) hx hb dX12_safe_18 rfl hl (by decide) rfl (fun ls hl => ?_)
    refine lv_iconst (v := (0 : Int32)) hx hb dX12_safe_19 (by decide) ?_
    refine lv_istore_n (lv' := [(3, .int (0 : Int32)), (2, .int x_5), (0, .ref (base + p0)), (1, .int v1)]) hx hb dX12_safe_20 rfl hl (by decide) rfl (fun ls hl => ?_)
    refine l_X12_safe_21 X hc p0 _ res ?_ FV x_5 (0 : Int32) q_4.2 hF H locs ls hH hS (lv_sub hl [2, 1, 0] rfl)
    · intro v2_12 w_11 hF H locs ls hH hS hl
      refine lv_iconst (v := (1 : Int32)) hx hb dX12_safe_50 (by decide) ?_
      refine lv_aload_n hx hb dX12_safe_51 rfl (lv_at hl 0 rfl) ?_
      obtain ⟨x_13, e_13, hF⟩ := bnd hF
      refine m_gI X hH e_13 gg_X12_17 dX12_safe_52 ?_
      refine lv_ishl hx hb dX12_safe_55 ?_
      refine lv_iconst (v := (1 : Int32)) hx hb dX12_safe_56 (by decide) ?_
      refine lv_isub hx hb dX12_safe_57 ?_
      refine lv_iload_n hx hb dX12_safe_58 rfl (lv_at hl 1 rfl) ?_
      refine lv_iconst (v := (-1 : Int32)) hx hb dX12_safe_59 (by decide) ?_
      refine lv_ixor hx hb dX12_safe_60 ?_
      refine lv_iand hx hb dX12_safe_61 ?_
      have hF := Option.some.inj hF
      subst hF
      exact m_iret X hr hlk hH hS dX12_safe_62
  · replace hF := itt c_2 hF
    refine lv_iconst (v := (-1 : Int32)) hx hb dX12_safe_7 (by decide) ?_
    have hF := Option.some.inj hF
    subst hF
    exact m_iret X hr hlk hH hS dX12_safe_8
noncomputable def fX12_seen (p0 : Nat) (v1 : Int32) (v2 : Int32) (w : Wd) : Option (Int32 × Wd) := (fX12_in v1 (0 : Int32) (40 : Int32) w).bind fun q_1 => if q_1.1 = 0 then some ((-1 : Int32), q_1.2) else (fX12_in v2 (0 : Int32) (40 : Int32) q_1.2).bind fun q_3 => if q_3.1 = 0 then some ((-1 : Int32), q_3.2) else (gfI 11 12 p0 q_3.2).bind fun x_5 => if x_5 = (8 : Int32) then some ((-3 : Int32), q_3.2) else (gfR 11 13 p0 q_3.2).bind fun r_7 => (gfI 11 12 p0 q_3.2).bind fun x_8 => (wrI r_7 ((2 : Int32) * x_8) (v1 - (20 : Int32)) q_3.2).bind fun w_9 => (gfR 11 13 p0 w_9).bind fun r_10 => (gfI 11 12 p0 w_9).bind fun x_11 => (wrI r_10 (((2 : Int32) * x_11) + (1 : Int32)) (v2 - (20 : Int32)) w_9).bind fun w_12 => (gfI 11 12 p0 w_12).bind fun x_13 => (pfI 11 12 p0 (x_13 + (1 : Int32)) w_12).bind fun w_14 => (gfI 11 12 p0 w_14).bind fun x_15 => some (x_15, w_14)
set_option maxHeartbeats 4000000 in
set_option maxRecDepth 100000 in
theorem k_X12_seen (l : Launch) (D : va_G) (cI cT cII : ClassId) (base : Nat) (p0 : Nat) (v1 : Int32) (v2 : Int32) (w : Wd) (res : Int32 × Wd) (hF : fX12_seen p0 v1 v2 w = some res) : Ct l yX12_seen cX12_seen 3 (some .int) { frames := 1, cells := 0, slots := 0, locals := 22 } D cI cT cII base [.ref (base + p0), .int v1, .int v2] w res.2 (some (.int res.1)) 0 0 := by
  unfold fX12_seen at hF
  refine m_enter (by decide) (Nat.le_of_ble_eq_true rfl) ?_
  intro p e s m below meth c ls X hr hlk hnm hH hS hl
  have hx := X.1
  have hb := X.2.1
  have hc : (0 : Nat) ≤ ({ frames := 1, cells := 0, slots := 0, locals := 22 } : Room).cells ∧ (0 : Nat) ≤ ({ frames := 1, cells := 0, slots := 0, locals := 22 } : Room).slots := ⟨Nat.zero_le _, Nat.zero_le _⟩
  obtain ⟨H, hHe⟩ : ∃ H : Heap, H = s.heap := ⟨_, rfl⟩
  obtain ⟨locs, hle⟩ : ∃ L : List Loc, L = [] := ⟨_, rfl⟩
  have hl : lv_has ls 3 [(0, .ref (base + p0)), (1, .int v1), (2, .int v2)] := hl
  rw [← hHe] at hH
  have hS : va_S (fun q => base ≤ q) s.heap H locs := by rw [hHe, hle]; exact hS
  rw [← hle]
  show W p l e _ s m _ below meth c s.heap locs 0 0 _ _
  rw [← hHe]
  refine lv_iload_n hx hb dX12_seen_0 rfl (lv_at hl 1 rfl) ?_
  refine lv_iconst (v := (0 : Int32)) hx hb dX12_seen_1 (by decide) ?_
  refine lv_bipush (v := (40 : Int32)) hx hb dX12_seen_2 (by decide) ?_
  obtain ⟨q_1, e_1, hF⟩ := bnd hF
  refine m_callS (As := [.int v1, .int (0 : Int32), .int (40 : Int32)]) (rest := []) X hH hS hl.1 (k_X12_in l D cI cT cII base v1 (0 : Int32) (40 : Int32) w q_1 e_1) q_X12_in kw_951 kw_952 rfl rfl (Nat.le_of_ble_eq_true rfl) ⟨by decide, by decide⟩ hc dX12_seen_4 (fun H locs hH hS => W.eq (g2 := F0 m 7 ls [.int q_1.1]) rfl ?_)
  refine lv_if_eq (tgt := 20) hx hb dX12_seen_7 (by decide) (fun c_2 => ?_) (fun c_2 => ?_)
  · replace hF := itt c_2 hF
    refine lv_iconst (v := (-1 : Int32)) hx hb dX12_seen_20 (by decide) ?_
    have hF := Option.some.inj hF
    subst hF
    exact m_iret X hr hlk hH hS dX12_seen_21
  · replace hF := itf c_2 hF
    refine lv_iload_n hx hb dX12_seen_10 rfl (lv_at hl 2 rfl) ?_
    refine lv_iconst (v := (0 : Int32)) hx hb dX12_seen_11 (by decide) ?_
    refine lv_bipush (v := (40 : Int32)) hx hb dX12_seen_12 (by decide) ?_
    obtain ⟨q_3, e_3, hF⟩ := bnd hF
    refine m_callS (As := [.int v2, .int (0 : Int32), .int (40 : Int32)]) (rest := []) X hH hS hl.1 (k_X12_in l D cI cT cII base v2 (0 : Int32) (40 : Int32) q_1.2 q_3 e_3) q_X12_in kw_951 kw_952 rfl rfl (Nat.le_of_ble_eq_true rfl) ⟨by decide, by decide⟩ hc dX12_seen_14 (fun H locs hH hS => W.eq (g2 := F0 m 17 ls [.int q_3.1]) rfl ?_)
    refine lv_if_ne (tgt := 22) hx hb dX12_seen_17 (by decide) (fun c_4 => ?_) (fun c_4 => ?_)
    · replace hF := itf c_4 hF
      refine lv_aload_n hx hb dX12_seen_22 rfl (lv_at hl 0 rfl) ?_
      obtain ⟨x_5, e_5, hF⟩ := bnd hF
      refine m_gI X hH e_5 gg_X12_156 dX12_seen_23 ?_
      refine lv_bipush (v := (8 : Int32)) hx hb dX12_seen_26 (by decide) ?_
      refine lv_icmp_ne (tgt := 34) hx hb dX12_seen_28 (by decide) (fun c_6 => ?_) (fun c_6 => ?_)
      · replace hF := itf c_6 hF
        refine lv_aload_n hx hb dX12_seen_34 rfl (lv_at hl 0 rfl) ?_
        obtain ⟨r_7, e_7, hF⟩ := bnd hF
        refine m_gR X hH e_7 gg_X12_41 dX12_seen_35 ?_
        refine lv_iconst (v := (2 : Int32)) hx hb dX12_seen_38 (by decide) ?_
        refine lv_aload_n hx hb dX12_seen_39 rfl (lv_at hl 0 rfl) ?_
        obtain ⟨x_8, e_8, hF⟩ := bnd hF
        refine m_gI X hH e_8 gg_X12_156 dX12_seen_40 ?_
        refine lv_imul hx hb dX12_seen_43 ?_
        refine lv_iload_n hx hb dX12_seen_44 rfl (lv_at hl 1 rfl) ?_
        refine lv_bipush (v := (20 : Int32)) hx hb dX12_seen_45 (by decide) ?_
        refine lv_isub hx hb dX12_seen_47 ?_
        obtain ⟨w_9, e_9, hF⟩ := bnd hF
        refine m_wrI X hH hS e_9 dX12_seen_48 (fun H locs hH hS => ?_)
        refine lv_aload_n hx hb dX12_seen_49 rfl (lv_at hl 0 rfl) ?_
        obtain ⟨r_10, e_10, hF⟩ := bnd hF
        refine m_gR X hH e_10 gg_X12_41 dX12_seen_50 ?_
        refine lv_iconst (v := (2 : Int32)) hx hb dX12_seen_53 (by decide) ?_
        refine lv_aload_n hx hb dX12_seen_54 rfl (lv_at hl 0 rfl) ?_
        obtain ⟨x_11, e_11, hF⟩ := bnd hF
        refine m_gI X hH e_11 gg_X12_156 dX12_seen_55 ?_
        refine lv_imul hx hb dX12_seen_58 ?_
        refine lv_iconst (v := (1 : Int32)) hx hb dX12_seen_59 (by decide) ?_
        refine lv_iadd hx hb dX12_seen_60 ?_
        refine lv_iload_n hx hb dX12_seen_61 rfl (lv_at hl 2 rfl) ?_
        refine lv_bipush (v := (20 : Int32)) hx hb dX12_seen_62 (by decide) ?_
        refine lv_isub hx hb dX12_seen_64 ?_
        obtain ⟨w_12, e_12, hF⟩ := bnd hF
        refine m_wrI X hH hS e_12 dX12_seen_65 (fun H locs hH hS => ?_)
        refine lv_aload_n hx hb dX12_seen_66 rfl (lv_at hl 0 rfl) ?_
        refine lv_dup hx hb dX12_seen_67 rfl ?_
        obtain ⟨x_13, e_13, hF⟩ := bnd hF
        refine m_gI X hH e_13 gg_X12_156 dX12_seen_68 ?_
        refine lv_iconst (v := (1 : Int32)) hx hb dX12_seen_71 (by decide) ?_
        refine lv_iadd hx hb dX12_seen_72 ?_
        obtain ⟨w_14, e_14, hF⟩ := bnd hF
        refine m_pI X hH hS e_14 gp_X12_156 rfl rfl dX12_seen_73 (fun H locs hH hS => ?_)
        refine lv_aload_n hx hb dX12_seen_76 rfl (lv_at hl 0 rfl) ?_
        obtain ⟨x_15, e_15, hF⟩ := bnd hF
        refine m_gI X hH e_15 gg_X12_156 dX12_seen_77 ?_
        have hF := Option.some.inj hF
        subst hF
        exact m_iret X hr hlk hH hS dX12_seen_80
      · replace hF := itt c_6 hF
        refine lv_bipush (v := (-3 : Int32)) hx hb dX12_seen_31 (by decide) ?_
        have hF := Option.some.inj hF
        subst hF
        exact m_iret X hr hlk hH hS dX12_seen_33
    · replace hF := itt c_4 hF
      refine lv_iconst (v := (-1 : Int32)) hx hb dX12_seen_20 (by decide) ?_
      have hF := Option.some.inj hF
      subst hF
      exact m_iret X hr hlk hH hS dX12_seen_21
noncomputable def fX12_sets (p0 : Nat) (v1 : Int32) (v2 : Int32) (w : Wd) : Option (Int32 × Wd) := (isO 11 p0 w).bind fun u_1 => (fX12_isPerson p0 v1 w).bind fun q_2 => if q_2.1 = 0 then some ((-1 : Int32), q_2.2) else (fX12_isDay v2 q_2.2).bind fun q_4 => if q_4.1 = 0 then some ((-1 : Int32), q_4.2) else (isO 11 p0 q_4.2).bind fun u_6 => (fX12_goes p0 v2 q_4.2).bind fun q_7 => (gfR 11 27 p0 q_7.2).bind fun r_8 => (rdI r_8 v1 q_7.2).bind fun x_9 => some (x_9, q_7.2)
set_option maxHeartbeats 4000000 in
set_option maxRecDepth 100000 in
theorem k_X12_sets (l : Launch) (D : va_G) (cI cT cII : ClassId) (base : Nat) (p0 : Nat) (v1 : Int32) (v2 : Int32) (w : Wd) (res : Int32 × Wd) (hF : fX12_sets p0 v1 v2 w = some res) : Ct l yX12_sets cX12_sets 3 (some .int) { frames := 6, cells := 0, slots := 0, locals := 131 } D cI cT cII base [.ref (base + p0), .int v1, .int v2] w res.2 (some (.int res.1)) 0 0 := by
  unfold fX12_sets at hF
  refine m_enter (by decide) (Nat.le_of_ble_eq_true rfl) ?_
  intro p e s m below meth c ls X hr hlk hnm hH hS hl
  have hx := X.1
  have hb := X.2.1
  have hc : (0 : Nat) ≤ ({ frames := 6, cells := 0, slots := 0, locals := 131 } : Room).cells ∧ (0 : Nat) ≤ ({ frames := 6, cells := 0, slots := 0, locals := 131 } : Room).slots := ⟨Nat.zero_le _, Nat.zero_le _⟩
  obtain ⟨H, hHe⟩ : ∃ H : Heap, H = s.heap := ⟨_, rfl⟩
  obtain ⟨locs, hle⟩ : ∃ L : List Loc, L = [] := ⟨_, rfl⟩
  have hl : lv_has ls 3 [(0, .ref (base + p0)), (1, .int v1), (2, .int v2)] := hl
  rw [← hHe] at hH
  have hS : va_S (fun q => base ≤ q) s.heap H locs := by rw [hHe, hle]; exact hS
  rw [← hle]
  show W p l e _ s m _ below meth c s.heap locs 0 0 _ _
  rw [← hHe]
  refine lv_aload_n hx hb dX12_sets_0 rfl (lv_at hl 0 rfl) ?_
  refine lv_iload_n hx hb dX12_sets_1 rfl (lv_at hl 1 rfl) ?_
  obtain ⟨u_1, ou_1, hF⟩ := bnd hF
  obtain ⟨q_2, e_2, hF⟩ := bnd hF
  refine m_callV (As := [.int v1]) (rest := []) X hH hS hl.1 ou_1 rfl (by decide) (k_X12_isPerson l D cI cT cII base p0 v1 w q_2 e_2) q_X12_isPerson kw_1025 kw_1027 kw_36 rfl rfl (Nat.le_of_ble_eq_true rfl) ⟨by decide, by decide⟩ hc dX12_sets_2 (fun H locs hH hS => W.eq (g2 := F0 m 5 ls [.int q_2.1]) rfl ?_)
  refine lv_if_eq (tgt := 15) hx hb dX12_sets_5 (by decide) (fun c_3 => ?_) (fun c_3 => ?_)
  · replace hF := itt c_3 hF
    refine lv_iconst (v := (-1 : Int32)) hx hb dX12_sets_15 (by decide) ?_
    have hF := Option.some.inj hF
    subst hF
    exact m_iret X hr hlk hH hS dX12_sets_16
  · replace hF := itf c_3 hF
    refine lv_iload_n hx hb dX12_sets_8 rfl (lv_at hl 2 rfl) ?_
    obtain ⟨q_4, e_4, hF⟩ := bnd hF
    refine m_callS (As := [.int v2]) (rest := []) X hH hS hl.1 (k_X12_isDay l D cI cT cII base v2 q_2.2 q_4 e_4) q_X12_isDay kw_1033 kw_1034 rfl rfl (Nat.le_of_ble_eq_true rfl) ⟨by decide, by decide⟩ hc dX12_sets_9 (fun H locs hH hS => W.eq (g2 := F0 m 12 ls [.int q_4.1]) rfl ?_)
    refine lv_if_ne (tgt := 17) hx hb dX12_sets_12 (by decide) (fun c_5 => ?_) (fun c_5 => ?_)
    · replace hF := itf c_5 hF
      refine lv_aload_n hx hb dX12_sets_17 rfl (lv_at hl 0 rfl) ?_
      refine lv_iload_n hx hb dX12_sets_18 rfl (lv_at hl 2 rfl) ?_
      obtain ⟨u_6, ou_6, hF⟩ := bnd hF
      obtain ⟨q_7, e_7, hF⟩ := bnd hF
      refine m_callV (As := [.int v2]) (rest := []) X hH hS hl.1 ou_6 rfl (by decide) (k_X12_goes l D cI cT cII base p0 v2 q_4.2 q_7 e_7) q_X12_goes kw_1036 kw_1038 kw_37 rfl rfl (Nat.le_of_ble_eq_true rfl) ⟨by decide, by decide⟩ hc dX12_sets_19 (fun H locs hH hS => W.eq (g2 := F0 m 22 ls []) rfl ?_)
      refine lv_aload_n hx hb dX12_sets_22 rfl (lv_at hl 0 rfl) ?_
      obtain ⟨r_8, e_8, hF⟩ := bnd hF
      refine m_gR X hH e_8 gg_X12_68 dX12_sets_23 ?_
      refine lv_iload_n hx hb dX12_sets_26 rfl (lv_at hl 1 rfl) ?_
      obtain ⟨x_9, e_9, hF⟩ := bnd hF
      refine m_rdI X hH e_9 dX12_sets_27 ?_
      have hF := Option.some.inj hF
      subst hF
      exact m_iret X hr hlk hH hS dX12_sets_28
    · replace hF := itt c_5 hF
      refine lv_iconst (v := (-1 : Int32)) hx hb dX12_sets_15 (by decide) ?_
      have hF := Option.some.inj hF
      subst hF
      exact m_iret X hr hlk hH hS dX12_sets_16
noncomputable def fX12_sways_25 (p0 : Nat) (v2 : Int32) (K_89 : Int32 → Wd → Option (Int32 × Wd)) : Nat → Int32 → Int32 → Wd → Option (Int32 × Wd)
  | 0, _, _, _ => none
  | n + 1, v1, v3, w => (gfI 11 0 p0 w).bind fun x_8 => if x_8 ≤ v3 then K_89 v1 w else (gfR 11 29 p0 w).bind fun r_10 => if v2 = 0 then (gfR 11 25 p0 w).bind fun r_20 => (rdI r_20 v3 w).bind fun x_21 => (wrI r_10 v3 x_21 w).bind fun w_22 => (gfR 11 25 p0 w_22).bind fun r_23 => (rdI r_23 v3 w_22).bind fun x_24 => (gfR 11 29 p0 w_22).bind fun r_25 => (rdI r_25 v3 w_22).bind fun x_26 => if x_24 = x_26 then fX12_sways_25 p0 v2 K_89 n (v1 ||| (0 : Int32)) (v3 + (1 : Int32)) w_22 else fX12_sways_25 p0 v2 K_89 n (v1 ||| ((1 : Int32) <<< (v3 &&& 31))) (v3 + (1 : Int32)) w_22 else (gfR 11 29 p0 w).bind fun r_12 => (rdI r_12 v3 w).bind fun x_13 => (wrI r_10 v3 x_13 w).bind fun w_14 => (gfR 11 25 p0 w_14).bind fun r_15 => (rdI r_15 v3 w_14).bind fun x_16 => (gfR 11 29 p0 w_14).bind fun r_17 => (rdI r_17 v3 w_14).bind fun x_18 => if x_16 = x_18 then fX12_sways_25 p0 v2 K_89 n (v1 ||| (0 : Int32)) (v3 + (1 : Int32)) w_14 else fX12_sways_25 p0 v2 K_89 n (v1 ||| ((1 : Int32) <<< (v3 &&& 31))) (v3 + (1 : Int32)) w_14
noncomputable def fX12_sways_8 (p0 : Nat) (K_95 : Int32 → Wd → Option (Int32 × Wd)) : Nat → Int32 → Int32 → Wd → Option (Int32 × Wd)
  | 0, _, _, _ => none
  | n + 1, v1, v2, w => if (30 : Int32) < v2 then K_95 v1 w else (isO 11 p0 w).bind fun u_4 => (fX12_nightOf p0 v2 w).bind fun q_5 => (isO 11 p0 q_5.2).bind fun u_6 => (fX12_morning p0 q_5.2).bind fun q_7 => fX12_sways_25 p0 v2 (fun (v1_29 : Int32) (w_28 : Wd) => fX12_sways_8 p0 K_95 n v1_29 (v2 + (1 : Int32)) w_28) FV v1 (0 : Int32) q_7.2
noncomputable def fX12_sways (p0 : Nat) (w : Wd) : Option (Int32 × Wd) := (isO 11 p0 w).bind fun u_1 => (fX12_begins p0 w).bind fun q_2 => fX12_sways_8 p0 (fun (v1_31 : Int32) (w_30 : Wd) => (fX12_bits v1_31 w_30).bind fun q_32 => some (q_32.1, q_32.2)) FV (0 : Int32) (0 : Int32) q_2.2
set_option maxHeartbeats 4000000 in
set_option maxRecDepth 100000 in
theorem l_X12_sways_25 (X : Cx p R s m args c cX12_sways 4 RX12 D cI cT cII 5 108) (hc : cells ≤ R.cells ∧ slots ≤ R.slots) (p0 : Nat) (v2 : Int32) (K_89 : Int32 → Wd → Option (Int32 × Wd)) (res : Int32 × Wd)
    (hK_89 : ∀ (z1 : Int32) (w : Wd), K_89 z1 w = some res → ∀ (H : Heap) (locs : List Loc) (ls : Array Slot), Hd D cI cT cII base w H → va_S (fun q => base ≤ q) s.heap H locs → lv_has ls 4 [(0, .ref (base + p0)), (1, .int z1), (2, .int v2)] → W p l e R s m args below meth c H locs cells slots Q (F0 m 89 ls [])) :
    ∀ (n : Nat) (v1 : Int32) (v3 : Int32) (w : Wd), fX12_sways_25 p0 v2 K_89 n v1 v3 w = some res → ∀ (H : Heap) (locs : List Loc) (ls : Array Slot), Hd D cI cT cII base w H → va_S (fun q => base ≤ q) s.heap H locs → lv_has ls 4 [(0, .ref (base + p0)), (1, .int v1), (2, .int v2), (3, .int v3)] → W p l e R s m args below meth c H locs cells slots Q (F0 m 25 ls []) := by
  have hx := X.1
  have hb := X.2.1
  intro n
  induction n with
  | zero =>
    intro v1 v3 w hF
    rw [fX12_sways_25] at hF
    cases hF
  | succ n ih =>
    intro v1 v3 w hF H locs ls hH hS hl
    rw [fX12_sways_25] at hF
    refine lv_iload_n hx hb dX12_sways_25 rfl (lv_at hl 3 rfl) ?_
    refine lv_aload_n hx hb dX12_sways_26 rfl (lv_at hl 0 rfl) ?_
    obtain ⟨x_8, e_8, hF⟩ := bnd hF
    refine m_gI X hH e_8 gg_X12_7 dX12_sways_27 ?_
    refine lv_icmp_ge (tgt := 89) hx hb dX12_sways_30 (by decide) (fun c_9 => ?_) (fun c_9 => ?_)
    · replace hF := itt c_9 hF
      exact hK_89 v1 w hF H locs ls hH hS (lv_sub hl [0, 1, 2] rfl)
    · replace hF := itf c_9 hF
      refine lv_aload_n hx hb dX12_sways_33 rfl (lv_at hl 0 rfl) ?_
      obtain ⟨r_10, e_10, hF⟩ := bnd hF
      refine m_gR X hH e_10 gg_X12_71 dX12_sways_34 ?_
      refine lv_iload_n hx hb dX12_sways_37 rfl (lv_at hl 3 rfl) ?_
      refine lv_iload_n hx hb dX12_sways_38 rfl (lv_at hl 2 rfl) ?_
      refine lv_if_ne (tgt := 51) hx hb dX12_sways_39 (by decide) (fun c_11 => ?_) (fun c_11 => ?_)
      · replace hF := itf c_11 hF
        refine lv_aload_n hx hb dX12_sways_51 rfl (lv_at hl 0 rfl) ?_
        obtain ⟨r_12, e_12, hF⟩ := bnd hF
        refine m_gR X hH e_12 gg_X12_71 dX12_sways_52 ?_
        refine lv_iload_n hx hb dX12_sways_55 rfl (lv_at hl 3 rfl) ?_
        obtain ⟨x_13, e_13, hF⟩ := bnd hF
        refine m_rdI X hH e_13 dX12_sways_56 ?_
        obtain ⟨w_14, e_14, hF⟩ := bnd hF
        refine m_wrI X hH hS e_14 dX12_sways_57 (fun H locs hH hS => ?_)
        refine lv_iload_n hx hb dX12_sways_58 rfl (lv_at hl 1 rfl) ?_
        refine lv_aload_n hx hb dX12_sways_59 rfl (lv_at hl 0 rfl) ?_
        obtain ⟨r_15, e_15, hF⟩ := bnd hF
        refine m_gR X hH e_15 gg_X12_62 dX12_sways_60 ?_
        refine lv_iload_n hx hb dX12_sways_63 rfl (lv_at hl 3 rfl) ?_
        obtain ⟨x_16, e_16, hF⟩ := bnd hF
        refine m_rdI X hH e_16 dX12_sways_64 ?_
        refine lv_aload_n hx hb dX12_sways_65 rfl (lv_at hl 0 rfl) ?_
        obtain ⟨r_17, e_17, hF⟩ := bnd hF
        refine m_gR X hH e_17 gg_X12_71 dX12_sways_66 ?_
        refine lv_iload_n hx hb dX12_sways_69 rfl (lv_at hl 3 rfl) ?_
        obtain ⟨x_18, e_18, hF⟩ := bnd hF
        refine m_rdI X hH e_18 dX12_sways_70 ?_
        refine lv_icmp_ne (tgt := 78) hx hb dX12_sways_71 (by decide) (fun c_19 => ?_) (fun c_19 => ?_)
        · replace hF := itf c_19 hF
          refine lv_iconst (v := (1 : Int32)) hx hb dX12_sways_78 (by decide) ?_
          refine lv_iload_n hx hb dX12_sways_79 rfl (lv_at hl 3 rfl) ?_
          refine lv_ishl hx hb dX12_sways_80 ?_
          refine lv_ior hx hb dX12_sways_81 ?_
          refine lv_istore_n (lv' := [(1, .int (v1 ||| ((1 : Int32) <<< (v3 &&& 31)))), (0, .ref (base + p0)), (2, .int v2), (3, .int v3)]) hx hb dX12_sways_82 rfl hl (by decide) rfl (fun ls hl => ?_)
          refine lv_iinc (v := v3 + (1 : Int32)) (lv' := [(3, .int (v3 + (1 : Int32))), (1, .int (v1 ||| ((1 : Int32) <<< (v3 &&& 31)))), (0, .ref (base + p0)), (2, .int v2)]) hx hb dX12_sways_83 hl (k := 3) rfl (congrArg (fun z => v3 + z) (by decide)) (by decide) rfl (fun ls hl => ?_)
          refine lv_goto (tgt := 25) hx hb dX12_sways_86 (by decide) ?_
          exact ih (v1 ||| ((1 : Int32) <<< (v3 &&& 31))) (v3 + (1 : Int32)) w_14 hF H locs ls hH hS (lv_sub hl [2, 1, 3, 0] rfl)
        · replace hF := itt c_19 hF
          refine lv_iconst (v := (0 : Int32)) hx hb dX12_sways_74 (by decide) ?_
          refine lv_goto (tgt := 81) hx hb dX12_sways_75 (by decide) ?_
          refine lv_ior hx hb dX12_sways_81 ?_
          refine lv_istore_n (lv' := [(1, .int (v1 ||| (0 : Int32))), (0, .ref (base + p0)), (2, .int v2), (3, .int v3)]) hx hb dX12_sways_82 rfl hl (by decide) rfl (fun ls hl => ?_)
          refine lv_iinc (v := v3 + (1 : Int32)) (lv' := [(3, .int (v3 + (1 : Int32))), (1, .int (v1 ||| (0 : Int32))), (0, .ref (base + p0)), (2, .int v2)]) hx hb dX12_sways_83 hl (k := 3) rfl (congrArg (fun z => v3 + z) (by decide)) (by decide) rfl (fun ls hl => ?_)
          refine lv_goto (tgt := 25) hx hb dX12_sways_86 (by decide) ?_
          exact ih (v1 ||| (0 : Int32)) (v3 + (1 : Int32)) w_14 hF H locs ls hH hS (lv_sub hl [2, 1, 3, 0] rfl)
      · replace hF := itt c_11 hF
        refine lv_aload_n hx hb dX12_sways_42 rfl (lv_at hl 0 rfl) ?_
        obtain ⟨r_20, e_20, hF⟩ := bnd hF
        refine m_gR X hH e_20 gg_X12_62 dX12_sways_43 ?_
        refine lv_iload_n hx hb dX12_sways_46 rfl (lv_at hl 3 rfl) ?_
        obtain ⟨x_21, e_21, hF⟩ := bnd hF
        refine m_rdI X hH e_21 dX12_sways_47 ?_
        refine lv_goto (tgt := 57) hx hb dX12_sways_48 (by decide) ?_
        obtain ⟨w_22, e_22, hF⟩ := bnd hF
        refine m_wrI X hH hS e_22 dX12_sways_57 (fun H locs hH hS => ?_)
        refine lv_iload_n hx hb dX12_sways_58 rfl (lv_at hl 1 rfl) ?_
        refine lv_aload_n hx hb dX12_sways_59 rfl (lv_at hl 0 rfl) ?_
        obtain ⟨r_23, e_23, hF⟩ := bnd hF
        refine m_gR X hH e_23 gg_X12_62 dX12_sways_60 ?_
        refine lv_iload_n hx hb dX12_sways_63 rfl (lv_at hl 3 rfl) ?_
        obtain ⟨x_24, e_24, hF⟩ := bnd hF
        refine m_rdI X hH e_24 dX12_sways_64 ?_
        refine lv_aload_n hx hb dX12_sways_65 rfl (lv_at hl 0 rfl) ?_
        obtain ⟨r_25, e_25, hF⟩ := bnd hF
        refine m_gR X hH e_25 gg_X12_71 dX12_sways_66 ?_
        refine lv_iload_n hx hb dX12_sways_69 rfl (lv_at hl 3 rfl) ?_
        obtain ⟨x_26, e_26, hF⟩ := bnd hF
        refine m_rdI X hH e_26 dX12_sways_70 ?_
        refine lv_icmp_ne (tgt := 78) hx hb dX12_sways_71 (by decide) (fun c_27 => ?_) (fun c_27 => ?_)
        · replace hF := itf c_27 hF
          refine lv_iconst (v := (1 : Int32)) hx hb dX12_sways_78 (by decide) ?_
          refine lv_iload_n hx hb dX12_sways_79 rfl (lv_at hl 3 rfl) ?_
          refine lv_ishl hx hb dX12_sways_80 ?_
          refine lv_ior hx hb dX12_sways_81 ?_
          refine lv_istore_n (lv' := [(1, .int (v1 ||| ((1 : Int32) <<< (v3 &&& 31)))), (0, .ref (base + p0)), (2, .int v2), (3, .int v3)]) hx hb dX12_sways_82 rfl hl (by decide) rfl (fun ls hl => ?_)
          refine lv_iinc (v := v3 + (1 : Int32)) (lv' := [(3, .int (v3 + (1 : Int32))), (1, .int (v1 ||| ((1 : Int32) <<< (v3 &&& 31)))), (0, .ref (base + p0)), (2, .int v2)]) hx hb dX12_sways_83 hl (k := 3) rfl (congrArg (fun z => v3 + z) (by decide)) (by decide) rfl (fun ls hl => ?_)
          refine lv_goto (tgt := 25) hx hb dX12_sways_86 (by decide) ?_
          exact ih (v1 ||| ((1 : Int32) <<< (v3 &&& 31))) (v3 + (1 : Int32)) w_22 hF H locs ls hH hS (lv_sub hl [2, 1, 3, 0] rfl)
        · replace hF := itt c_27 hF
          refine lv_iconst (v := (0 : Int32)) hx hb dX12_sways_74 (by decide) ?_
          refine lv_goto (tgt := 81) hx hb dX12_sways_75 (by decide) ?_
          refine lv_ior hx hb dX12_sways_81 ?_
          refine lv_istore_n (lv' := [(1, .int (v1 ||| (0 : Int32))), (0, .ref (base + p0)), (2, .int v2), (3, .int v3)]) hx hb dX12_sways_82 rfl hl (by decide) rfl (fun ls hl => ?_)
          refine lv_iinc (v := v3 + (1 : Int32)) (lv' := [(3, .int (v3 + (1 : Int32))), (1, .int (v1 ||| (0 : Int32))), (0, .ref (base + p0)), (2, .int v2)]) hx hb dX12_sways_83 hl (k := 3) rfl (congrArg (fun z => v3 + z) (by decide)) (by decide) rfl (fun ls hl => ?_)
          refine lv_goto (tgt := 25) hx hb dX12_sways_86 (by decide) ?_
          exact ih (v1 ||| (0 : Int32)) (v3 + (1 : Int32)) w_22 hF H locs ls hH hS (lv_sub hl [2, 1, 3, 0] rfl)
set_option maxHeartbeats 4000000 in
set_option maxRecDepth 100000 in
theorem l_X12_sways_8 (X : Cx p R s m args c cX12_sways 4 RX12 D cI cT cII 5 108) (hc : cells ≤ R.cells ∧ slots ≤ R.slots) (p0 : Nat) (K_95 : Int32 → Wd → Option (Int32 × Wd)) (res : Int32 × Wd)
    (hK_95 : ∀ (z1 : Int32) (w : Wd), K_95 z1 w = some res → ∀ (H : Heap) (locs : List Loc) (ls : Array Slot), Hd D cI cT cII base w H → va_S (fun q => base ≤ q) s.heap H locs → lv_has ls 4 [(1, .int z1)] → W p l e R s m args below meth c H locs cells slots Q (F0 m 95 ls [])) :
    ∀ (n : Nat) (v1 : Int32) (v2 : Int32) (w : Wd), fX12_sways_8 p0 K_95 n v1 v2 w = some res → ∀ (H : Heap) (locs : List Loc) (ls : Array Slot), Hd D cI cT cII base w H → va_S (fun q => base ≤ q) s.heap H locs → lv_has ls 4 [(0, .ref (base + p0)), (1, .int v1), (2, .int v2)] → W p l e R s m args below meth c H locs cells slots Q (F0 m 8 ls []) := by
  have hx := X.1
  have hb := X.2.1
  intro n
  induction n with
  | zero =>
    intro v1 v2 w hF
    rw [fX12_sways_8] at hF
    cases hF
  | succ n ih =>
    intro v1 v2 w hF H locs ls hH hS hl
    rw [fX12_sways_8] at hF
    refine lv_iload_n hx hb dX12_sways_8 rfl (lv_at hl 2 rfl) ?_
    refine lv_bipush (v := (30 : Int32)) hx hb dX12_sways_9 (by decide) ?_
    refine lv_icmp_gt (tgt := 95) hx hb dX12_sways_11 (by decide) (fun c_3 => ?_) (fun c_3 => ?_)
    · replace hF := itt c_3 hF
      exact hK_95 v1 w hF H locs ls hH hS (lv_sub hl [1] rfl)
    · replace hF := itf c_3 hF
      refine lv_aload_n hx hb dX12_sways_14 rfl (lv_at hl 0 rfl) ?_
      refine lv_iload_n hx hb dX12_sways_15 rfl (lv_at hl 2 rfl) ?_
      obtain ⟨u_4, ou_4, hF⟩ := bnd hF
      obtain ⟨q_5, e_5, hF⟩ := bnd hF
      refine m_callV (As := [.int v2]) (rest := []) X hH hS hl.1 ou_4 rfl (by decide) (k_X12_nightOf l D cI cT cII base p0 v2 w q_5 e_5) q_X12_nightOf kw_1044 kw_1046 kw_39 rfl rfl (Nat.le_of_ble_eq_true rfl) ⟨by decide, by decide⟩ hc dX12_sways_16 (fun H locs hH hS => W.eq (g2 := F0 m 19 ls []) rfl ?_)
      refine lv_aload_n hx hb dX12_sways_19 rfl (lv_at hl 0 rfl) ?_
      obtain ⟨u_6, ou_6, hF⟩ := bnd hF
      obtain ⟨q_7, e_7, hF⟩ := bnd hF
      refine m_callV (As := []) (rest := []) X hH hS hl.1 ou_6 rfl (by decide) (k_X12_morning l D cI cT cII base p0 q_5.2 q_7 e_7) q_X12_morning kw_1059 kw_1061 kw_42 rfl rfl (Nat.le_of_ble_eq_true rfl) ⟨by decide, by decide⟩ hc dX12_sways_20 (fun H locs hH hS => W.eq (g2 := F0 m 23 ls []) rfl ?_)
      refine lv_iconst (v := (0 : Int32)) hx hb dX12_sways_23 (by decide) ?_
      refine lv_istore_n (lv' := [(3, .int (0 : Int32)), (0, .ref (base + p0)), (1, .int v1), (2, .int v2)]) hx hb dX12_sways_24 rfl hl (by decide) rfl (fun ls hl => ?_)
      refine l_X12_sways_25 X hc p0 v2 _ res ?_ FV v1 (0 : Int32) q_7.2 hF H locs ls hH hS (lv_sub hl [1, 2, 3, 0] rfl)
      · intro v1_29 w_28 hF H locs ls hH hS hl
        refine lv_iinc (v := v2 + (1 : Int32)) (lv' := [(2, .int (v2 + (1 : Int32))), (0, .ref (base + p0)), (1, .int v1_29)]) hx hb dX12_sways_89 hl (k := 2) rfl (congrArg (fun z => v2 + z) (by decide)) (by decide) rfl (fun ls hl => ?_)
        refine lv_goto (tgt := 8) hx hb dX12_sways_92 (by decide) ?_
        exact ih v1_29 (v2 + (1 : Int32)) w_28 hF H locs ls hH hS (lv_sub hl [1, 2, 0] rfl)
set_option maxHeartbeats 4000000 in
set_option maxRecDepth 100000 in
theorem k_X12_sways (l : Launch) (D : va_G) (cI cT cII : ClassId) (base : Nat) (p0 : Nat) (w : Wd) (res : Int32 × Wd) (hF : fX12_sways p0 w = some res) : Ct l yX12_sways cX12_sways 4 (some .int) { frames := 5, cells := 0, slots := 0, locals := 108 } D cI cT cII base [.ref (base + p0)] w res.2 (some (.int res.1)) 0 0 := by
  unfold fX12_sways at hF
  refine m_enter (by decide) (Nat.le_of_ble_eq_true rfl) ?_
  intro p e s m below meth c ls X hr hlk hnm hH hS hl
  have hx := X.1
  have hb := X.2.1
  have hc : (0 : Nat) ≤ ({ frames := 5, cells := 0, slots := 0, locals := 108 } : Room).cells ∧ (0 : Nat) ≤ ({ frames := 5, cells := 0, slots := 0, locals := 108 } : Room).slots := ⟨Nat.zero_le _, Nat.zero_le _⟩
  obtain ⟨H, hHe⟩ : ∃ H : Heap, H = s.heap := ⟨_, rfl⟩
  obtain ⟨locs, hle⟩ : ∃ L : List Loc, L = [] := ⟨_, rfl⟩
  have hl : lv_has ls 4 [(0, .ref (base + p0))] := hl
  rw [← hHe] at hH
  have hS : va_S (fun q => base ≤ q) s.heap H locs := by rw [hHe, hle]; exact hS
  rw [← hle]
  show W p l e _ s m _ below meth c s.heap locs 0 0 _ _
  rw [← hHe]
  refine lv_iconst (v := (0 : Int32)) hx hb dX12_sways_0 (by decide) ?_
  refine lv_istore_n (lv' := [(1, .int (0 : Int32)), (0, .ref (base + p0))]) hx hb dX12_sways_1 rfl hl (by decide) rfl (fun ls hl => ?_)
  refine lv_aload_n hx hb dX12_sways_2 rfl (lv_at hl 1 rfl) ?_
  obtain ⟨u_1, ou_1, hF⟩ := bnd hF
  obtain ⟨q_2, e_2, hF⟩ := bnd hF
  refine m_callV (As := []) (rest := []) X hH hS hl.1 ou_1 rfl (by decide) (k_X12_begins l D cI cT cII base p0 w q_2 e_2) q_X12_begins kw_1040 kw_1042 kw_38 rfl rfl (Nat.le_of_ble_eq_true rfl) ⟨by decide, by decide⟩ hc dX12_sways_3 (fun H locs hH hS => W.eq (g2 := F0 m 6 ls []) rfl ?_)
  refine lv_iconst (v := (0 : Int32)) hx hb dX12_sways_6 (by decide) ?_
  refine lv_istore_n (lv' := [(2, .int (0 : Int32)), (1, .int (0 : Int32)), (0, .ref (base + p0))]) hx hb dX12_sways_7 rfl hl (by decide) rfl (fun ls hl => ?_)
  refine l_X12_sways_8 X hc p0 _ res ?_ FV (0 : Int32) (0 : Int32) q_2.2 hF H locs ls hH hS (lv_sub hl [2, 1, 0] rfl)
  · intro v1_31 w_30 hF H locs ls hH hS hl
    refine lv_iload_n hx hb dX12_sways_95 rfl (lv_at hl 0 rfl) ?_
    obtain ⟨q_32, e_32, hF⟩ := bnd hF
    refine m_callS (As := [.int v1_31]) (rest := []) X hH hS hl.1 (k_X12_bits l D cI cT cII base v1_31 w_30 q_32 e_32) q_X12_bits kw_1096 kw_1097 rfl rfl (Nat.le_of_ble_eq_true rfl) ⟨by decide, by decide⟩ hc dX12_sways_96 (fun H locs hH hS => W.eq (g2 := F0 m 99 ls [.int q_32.1]) rfl ?_)
    have hF := Option.some.inj hF
    subst hF
    exact m_iret X hr hlk hH hS dX12_sways_99
noncomputable def fX12_tempted_2 (p0 : Nat) (v1 : Int32) (K_29 : Int32 → Wd → Option (Int32 × Wd)) (K_56 : Wd → Option (Int32 × Wd)) : Nat → Int32 → Wd → Option (Int32 × Wd)
  | 0, _, _ => none
  | n + 1, v2, w => (gfI 11 0 p0 w).bind fun x_1 => if ((40 : Int32) * x_1) ≤ v2 then K_56  w else (isO 11 p0 w).bind fun u_3 => (fX12_tries p0 v2 w).bind fun q_4 => (gfI 11 28 p0 q_4.2).bind fun x_5 => (fX12_has x_5 v1 q_4.2).bind fun q_6 => if q_6.1 = 0 then fX12_tempted_2 p0 v1 K_29 K_56 n (v2 + (1 : Int32)) q_6.2 else K_29 v2 q_6.2
noncomputable def fX12_tempted (p0 : Nat) (v1 : Int32) (w : Wd) : Option (Int32 × Wd) := fX12_tempted_2 p0 v1 (fun (v2_9 : Int32) (w_8 : Wd) => (dvI v2_9 (2 : Int32)).bind fun x_10 => (gfI 11 0 p0 w_8).bind fun x_11 => (rmI x_10 x_11).bind fun x_12 => (isO 11 p0 w_8).bind fun u_13 => (fX12_byOf p0 v2_9 w_8).bind fun q_14 => some ((((100 : Int32) * x_12) + q_14.1) + (20 : Int32), q_14.2)) (fun  (w_15 : Wd) => some ((-4 : Int32), w_15)) FV (0 : Int32) w
set_option maxHeartbeats 4000000 in
set_option maxRecDepth 100000 in
theorem l_X12_tempted_2 (X : Cx p R s m args c cX12_tempted 3 RX12 D cI cT cII 6 129) (hc : cells ≤ R.cells ∧ slots ≤ R.slots) (p0 : Nat) (v1 : Int32) (K_29 : Int32 → Wd → Option (Int32 × Wd)) (K_56 : Wd → Option (Int32 × Wd)) (res : Int32 × Wd)
    (hK_29 : ∀ (z2 : Int32) (w : Wd), K_29 z2 w = some res → ∀ (H : Heap) (locs : List Loc) (ls : Array Slot), Hd D cI cT cII base w H → va_S (fun q => base ≤ q) s.heap H locs → lv_has ls 3 [(0, .ref (base + p0)), (2, .int z2)] → W p l e R s m args below meth c H locs cells slots Q (F0 m 29 ls []))
    (hK_56 : ∀  (w : Wd), K_56  w = some res → ∀ (H : Heap) (locs : List Loc) (ls : Array Slot), Hd D cI cT cII base w H → va_S (fun q => base ≤ q) s.heap H locs → lv_has ls 3 [] → W p l e R s m args below meth c H locs cells slots Q (F0 m 56 ls [])) :
    ∀ (n : Nat) (v2 : Int32) (w : Wd), fX12_tempted_2 p0 v1 K_29 K_56 n v2 w = some res → ∀ (H : Heap) (locs : List Loc) (ls : Array Slot), Hd D cI cT cII base w H → va_S (fun q => base ≤ q) s.heap H locs → lv_has ls 3 [(0, .ref (base + p0)), (1, .int v1), (2, .int v2)] → W p l e R s m args below meth c H locs cells slots Q (F0 m 2 ls []) := by
  have hx := X.1
  have hb := X.2.1
  intro n
  induction n with
  | zero =>
    intro v2 w hF
    rw [fX12_tempted_2] at hF
    cases hF
  | succ n ih =>
    intro v2 w hF H locs ls hH hS hl
    rw [fX12_tempted_2] at hF
    refine lv_iload_n hx hb dX12_tempted_2 rfl (lv_at hl 2 rfl) ?_
    refine lv_bipush (v := (40 : Int32)) hx hb dX12_tempted_3 (by decide) ?_
    refine lv_aload_n hx hb dX12_tempted_5 rfl (lv_at hl 0 rfl) ?_
    obtain ⟨x_1, e_1, hF⟩ := bnd hF
    refine m_gI X hH e_1 gg_X12_7 dX12_tempted_6 ?_
    refine lv_imul hx hb dX12_tempted_9 ?_
    refine lv_icmp_ge (tgt := 56) hx hb dX12_tempted_10 (by decide) (fun c_2 => ?_) (fun c_2 => ?_)
    · replace hF := itt c_2 hF
      exact hK_56  w hF H locs ls hH hS (lv_sub hl [] rfl)
    · replace hF := itf c_2 hF
      refine lv_aload_n hx hb dX12_tempted_13 rfl (lv_at hl 0 rfl) ?_
      refine lv_iload_n hx hb dX12_tempted_14 rfl (lv_at hl 2 rfl) ?_
      obtain ⟨u_3, ou_3, hF⟩ := bnd hF
      obtain ⟨q_4, e_4, hF⟩ := bnd hF
      refine m_callV (As := [.int v2]) (rest := []) X hH hS hl.1 ou_3 rfl (by decide) (k_X12_tries l D cI cT cII base p0 v2 w q_4 e_4) q_X12_tries kw_1127 kw_1129 kw_47 rfl rfl (Nat.le_of_ble_eq_true rfl) ⟨by decide, by decide⟩ hc dX12_tempted_15 (fun H locs hH hS => W.eq (g2 := F0 m 18 ls []) rfl ?_)
      refine lv_aload_n hx hb dX12_tempted_18 rfl (lv_at hl 0 rfl) ?_
      obtain ⟨x_5, e_5, hF⟩ := bnd hF
      refine m_gI X hH e_5 gg_X12_182 dX12_tempted_19 ?_
      refine lv_iload_n hx hb dX12_tempted_22 rfl (lv_at hl 1 rfl) ?_
      obtain ⟨q_6, e_6, hF⟩ := bnd hF
      refine m_callS (As := [.int x_5, .int v1]) (rest := []) X hH hS hl.1 (k_X12_has l D cI cT cII base x_5 v1 q_4.2 q_6 e_6) q_X12_has kw_1067 kw_1068 rfl rfl (Nat.le_of_ble_eq_true rfl) ⟨by decide, by decide⟩ hc dX12_tempted_23 (fun H locs hH hS => W.eq (g2 := F0 m 26 ls [.int q_6.1]) rfl ?_)
      refine lv_if_eq (tgt := 50) hx hb dX12_tempted_26 (by decide) (fun c_7 => ?_) (fun c_7 => ?_)
      · replace hF := itt c_7 hF
        refine lv_iinc (v := v2 + (1 : Int32)) (lv' := [(2, .int (v2 + (1 : Int32))), (0, .ref (base + p0)), (1, .int v1)]) hx hb dX12_tempted_50 hl (k := 2) rfl (congrArg (fun z => v2 + z) (by decide)) (by decide) rfl (fun ls hl => ?_)
        refine lv_goto (tgt := 2) hx hb dX12_tempted_53 (by decide) ?_
        exact ih (v2 + (1 : Int32)) q_6.2 hF H locs ls hH hS (lv_sub hl [1, 2, 0] rfl)
      · replace hF := itf c_7 hF
        exact hK_29 v2 q_6.2 hF H locs ls hH hS (lv_sub hl [0, 2] rfl)
set_option maxHeartbeats 4000000 in
set_option maxRecDepth 100000 in
theorem k_X12_tempted (l : Launch) (D : va_G) (cI cT cII : ClassId) (base : Nat) (p0 : Nat) (v1 : Int32) (w : Wd) (res : Int32 × Wd) (hF : fX12_tempted p0 v1 w = some res) : Ct l yX12_tempted cX12_tempted 3 (some .int) { frames := 6, cells := 0, slots := 0, locals := 129 } D cI cT cII base [.ref (base + p0), .int v1] w res.2 (some (.int res.1)) 0 0 := by
  unfold fX12_tempted at hF
  refine m_enter (by decide) (Nat.le_of_ble_eq_true rfl) ?_
  intro p e s m below meth c ls X hr hlk hnm hH hS hl
  have hx := X.1
  have hb := X.2.1
  have hc : (0 : Nat) ≤ ({ frames := 6, cells := 0, slots := 0, locals := 129 } : Room).cells ∧ (0 : Nat) ≤ ({ frames := 6, cells := 0, slots := 0, locals := 129 } : Room).slots := ⟨Nat.zero_le _, Nat.zero_le _⟩
  obtain ⟨H, hHe⟩ : ∃ H : Heap, H = s.heap := ⟨_, rfl⟩
  obtain ⟨locs, hle⟩ : ∃ L : List Loc, L = [] := ⟨_, rfl⟩
  have hl : lv_has ls 3 [(0, .ref (base + p0)), (1, .int v1)] := hl
  rw [← hHe] at hH
  have hS : va_S (fun q => base ≤ q) s.heap H locs := by rw [hHe, hle]; exact hS
  rw [← hle]
  show W p l e _ s m _ below meth c s.heap locs 0 0 _ _
  rw [← hHe]
  refine lv_iconst (v := (0 : Int32)) hx hb dX12_tempted_0 (by decide) ?_
  refine lv_istore_n (lv' := [(2, .int (0 : Int32)), (0, .ref (base + p0)), (1, .int v1)]) hx hb dX12_tempted_1 rfl hl (by decide) rfl (fun ls hl => ?_)
  refine l_X12_tempted_2 X hc p0 v1 _ _ res ?_ ?_ FV (0 : Int32) w hF H locs ls hH hS (lv_sub hl [1, 2, 0] rfl)
  · intro v2_9 w_8 hF H locs ls hH hS hl
    refine lv_bipush (v := (100 : Int32)) hx hb dX12_tempted_29 (by decide) ?_
    refine lv_iload_n hx hb dX12_tempted_31 rfl (lv_at hl 1 rfl) ?_
    refine lv_iconst (v := (2 : Int32)) hx hb dX12_tempted_32 (by decide) ?_
    obtain ⟨x_10, e_10, hF⟩ := bnd hF
    refine m_idiv X e_10 dX12_tempted_33 ?_
    refine lv_aload_n hx hb dX12_tempted_34 rfl (lv_at hl 0 rfl) ?_
    obtain ⟨x_11, e_11, hF⟩ := bnd hF
    refine m_gI X hH e_11 gg_X12_7 dX12_tempted_35 ?_
    obtain ⟨x_12, e_12, hF⟩ := bnd hF
    refine m_irem X e_12 dX12_tempted_38 ?_
    refine lv_imul hx hb dX12_tempted_39 ?_
    refine lv_aload_n hx hb dX12_tempted_40 rfl (lv_at hl 0 rfl) ?_
    refine lv_iload_n hx hb dX12_tempted_41 rfl (lv_at hl 1 rfl) ?_
    obtain ⟨u_13, ou_13, hF⟩ := bnd hF
    obtain ⟨q_14, e_14, hF⟩ := bnd hF
    refine m_callV (As := [.int v2_9]) (rest := [.int ((100 : Int32) * x_12)]) X hH hS hl.1 ou_13 rfl (by decide) (k_X12_byOf l D cI cT cII base p0 v2_9 w_8 q_14 e_14) q_X12_byOf kw_1135 kw_1137 kw_49 rfl rfl (Nat.le_of_ble_eq_true rfl) ⟨by decide, by decide⟩ hc dX12_tempted_42 (fun H locs hH hS => W.eq (g2 := F0 m 45 ls [.int q_14.1, .int ((100 : Int32) * x_12)]) rfl ?_)
    refine lv_iadd hx hb dX12_tempted_45 ?_
    refine lv_bipush (v := (20 : Int32)) hx hb dX12_tempted_46 (by decide) ?_
    refine lv_iadd hx hb dX12_tempted_48 ?_
    have hF := Option.some.inj hF
    subst hF
    exact m_iret X hr hlk hH hS dX12_tempted_49
  · intro  w_15 hF H locs ls hH hS hl
    refine lv_bipush (v := (-4 : Int32)) hx hb dX12_tempted_56 (by decide) ?_
    have hF := Option.some.inj hF
    subst hF
    exact m_iret X hr hlk hH hS dX12_tempted_58
noncomputable def fX12_tempt (p0 : Nat) (v1 : Int32) (v2 : Int32) (w : Wd) : Option (Int32 × Wd) := (isO 11 p0 w).bind fun u_1 => (fX12_isPerson p0 v1 w).bind fun q_2 => if q_2.1 = 0 then some ((-1 : Int32), q_2.2) else (fX12_isDay v2 q_2.2).bind fun q_4 => if q_4.1 = 0 then some ((-1 : Int32), q_4.2) else (isO 11 p0 q_4.2).bind fun u_6 => (fX12_goes p0 v2 q_4.2).bind fun q_7 => (isO 11 p0 q_7.2).bind fun u_8 => (fX12_tempted p0 v1 q_7.2).bind fun q_9 => some (q_9.1, q_9.2)
set_option maxHeartbeats 4000000 in
set_option maxRecDepth 100000 in
theorem k_X12_tempt (l : Launch) (D : va_G) (cI cT cII : ClassId) (base : Nat) (p0 : Nat) (v1 : Int32) (v2 : Int32) (w : Wd) (res : Int32 × Wd) (hF : fX12_tempt p0 v1 v2 w = some res) : Ct l yX12_tempt cX12_tempt 3 (some .int) { frames := 7, cells := 0, slots := 0, locals := 151 } D cI cT cII base [.ref (base + p0), .int v1, .int v2] w res.2 (some (.int res.1)) 0 0 := by
  unfold fX12_tempt at hF
  refine m_enter (by decide) (Nat.le_of_ble_eq_true rfl) ?_
  intro p e s m below meth c ls X hr hlk hnm hH hS hl
  have hx := X.1
  have hb := X.2.1
  have hc : (0 : Nat) ≤ ({ frames := 7, cells := 0, slots := 0, locals := 151 } : Room).cells ∧ (0 : Nat) ≤ ({ frames := 7, cells := 0, slots := 0, locals := 151 } : Room).slots := ⟨Nat.zero_le _, Nat.zero_le _⟩
  obtain ⟨H, hHe⟩ : ∃ H : Heap, H = s.heap := ⟨_, rfl⟩
  obtain ⟨locs, hle⟩ : ∃ L : List Loc, L = [] := ⟨_, rfl⟩
  have hl : lv_has ls 3 [(0, .ref (base + p0)), (1, .int v1), (2, .int v2)] := hl
  rw [← hHe] at hH
  have hS : va_S (fun q => base ≤ q) s.heap H locs := by rw [hHe, hle]; exact hS
  rw [← hle]
  show W p l e _ s m _ below meth c s.heap locs 0 0 _ _
  rw [← hHe]
  refine lv_aload_n hx hb dX12_tempt_0 rfl (lv_at hl 0 rfl) ?_
  refine lv_iload_n hx hb dX12_tempt_1 rfl (lv_at hl 1 rfl) ?_
  obtain ⟨u_1, ou_1, hF⟩ := bnd hF
  obtain ⟨q_2, e_2, hF⟩ := bnd hF
  refine m_callV (As := [.int v1]) (rest := []) X hH hS hl.1 ou_1 rfl (by decide) (k_X12_isPerson l D cI cT cII base p0 v1 w q_2 e_2) q_X12_isPerson kw_1025 kw_1027 kw_36 rfl rfl (Nat.le_of_ble_eq_true rfl) ⟨by decide, by decide⟩ hc dX12_tempt_2 (fun H locs hH hS => W.eq (g2 := F0 m 5 ls [.int q_2.1]) rfl ?_)
  refine lv_if_eq (tgt := 15) hx hb dX12_tempt_5 (by decide) (fun c_3 => ?_) (fun c_3 => ?_)
  · replace hF := itt c_3 hF
    refine lv_iconst (v := (-1 : Int32)) hx hb dX12_tempt_15 (by decide) ?_
    have hF := Option.some.inj hF
    subst hF
    exact m_iret X hr hlk hH hS dX12_tempt_16
  · replace hF := itf c_3 hF
    refine lv_iload_n hx hb dX12_tempt_8 rfl (lv_at hl 2 rfl) ?_
    obtain ⟨q_4, e_4, hF⟩ := bnd hF
    refine m_callS (As := [.int v2]) (rest := []) X hH hS hl.1 (k_X12_isDay l D cI cT cII base v2 q_2.2 q_4 e_4) q_X12_isDay kw_1033 kw_1034 rfl rfl (Nat.le_of_ble_eq_true rfl) ⟨by decide, by decide⟩ hc dX12_tempt_9 (fun H locs hH hS => W.eq (g2 := F0 m 12 ls [.int q_4.1]) rfl ?_)
    refine lv_if_ne (tgt := 17) hx hb dX12_tempt_12 (by decide) (fun c_5 => ?_) (fun c_5 => ?_)
    · replace hF := itf c_5 hF
      refine lv_aload_n hx hb dX12_tempt_17 rfl (lv_at hl 0 rfl) ?_
      refine lv_iload_n hx hb dX12_tempt_18 rfl (lv_at hl 2 rfl) ?_
      obtain ⟨u_6, ou_6, hF⟩ := bnd hF
      obtain ⟨q_7, e_7, hF⟩ := bnd hF
      refine m_callV (As := [.int v2]) (rest := []) X hH hS hl.1 ou_6 rfl (by decide) (k_X12_goes l D cI cT cII base p0 v2 q_4.2 q_7 e_7) q_X12_goes kw_1036 kw_1038 kw_37 rfl rfl (Nat.le_of_ble_eq_true rfl) ⟨by decide, by decide⟩ hc dX12_tempt_19 (fun H locs hH hS => W.eq (g2 := F0 m 22 ls []) rfl ?_)
      refine lv_aload_n hx hb dX12_tempt_22 rfl (lv_at hl 0 rfl) ?_
      refine lv_iload_n hx hb dX12_tempt_23 rfl (lv_at hl 1 rfl) ?_
      obtain ⟨u_8, ou_8, hF⟩ := bnd hF
      obtain ⟨q_9, e_9, hF⟩ := bnd hF
      refine m_callV (As := [.int v1]) (rest := []) X hH hS hl.1 ou_8 rfl (by decide) (k_X12_tempted l D cI cT cII base p0 v1 q_7.2 q_9 e_9) q_X12_tempted kw_1123 kw_1125 kw_46 rfl rfl (Nat.le_of_ble_eq_true rfl) ⟨by decide, by decide⟩ hc dX12_tempt_24 (fun H locs hH hS => W.eq (g2 := F0 m 27 ls [.int q_9.1]) rfl ?_)
      have hF := Option.some.inj hF
      subst hF
      exact m_iret X hr hlk hH hS dX12_tempt_27
    · replace hF := itt c_5 hF
      refine lv_iconst (v := (-1 : Int32)) hx hb dX12_tempt_15 (by decide) ?_
      have hF := Option.some.inj hF
      subst hF
      exact m_iret X hr hlk hH hS dX12_tempt_16
noncomputable def fX12_told (p0 : Nat) (v1 : Int32) (v2 : Int32) (w : Wd) : Option (Int32 × Wd) := (gfR 11 7 p0 w).bind fun r_1 => (rdI r_1 (0 : Int32) w).bind fun x_2 => (fX12_in v1 (0 : Int32) (x_2 - (1 : Int32)) w).bind fun q_3 => if q_3.1 = 0 then some ((-1 : Int32), q_3.2) else (fX12_in v2 (0 : Int32) (2 : Int32) q_3.2).bind fun q_5 => if q_5.1 = 0 then some ((-1 : Int32), q_5.2) else (gfR 11 7 p0 q_5.2).bind fun r_7 => (rdI r_7 (((1 : Int32) + ((3 : Int32) * v1)) + v2) q_5.2).bind fun x_8 => if v2 = (2 : Int32) then some (x_8 + (20 : Int32), q_5.2) else some (x_8 + (0 : Int32), q_5.2)
set_option maxHeartbeats 4000000 in
set_option maxRecDepth 100000 in
theorem k_X12_told (l : Launch) (D : va_G) (cI cT cII : ClassId) (base : Nat) (p0 : Nat) (v1 : Int32) (v2 : Int32) (w : Wd) (res : Int32 × Wd) (hF : fX12_told p0 v1 v2 w = some res) : Ct l yX12_told cX12_told 3 (some .int) { frames := 1, cells := 0, slots := 0, locals := 22 } D cI cT cII base [.ref (base + p0), .int v1, .int v2] w res.2 (some (.int res.1)) 0 0 := by
  unfold fX12_told at hF
  refine m_enter (by decide) (Nat.le_of_ble_eq_true rfl) ?_
  intro p e s m below meth c ls X hr hlk hnm hH hS hl
  have hx := X.1
  have hb := X.2.1
  have hc : (0 : Nat) ≤ ({ frames := 1, cells := 0, slots := 0, locals := 22 } : Room).cells ∧ (0 : Nat) ≤ ({ frames := 1, cells := 0, slots := 0, locals := 22 } : Room).slots := ⟨Nat.zero_le _, Nat.zero_le _⟩
  obtain ⟨H, hHe⟩ : ∃ H : Heap, H = s.heap := ⟨_, rfl⟩
  obtain ⟨locs, hle⟩ : ∃ L : List Loc, L = [] := ⟨_, rfl⟩
  have hl : lv_has ls 3 [(0, .ref (base + p0)), (1, .int v1), (2, .int v2)] := hl
  rw [← hHe] at hH
  have hS : va_S (fun q => base ≤ q) s.heap H locs := by rw [hHe, hle]; exact hS
  rw [← hle]
  show W p l e _ s m _ below meth c s.heap locs 0 0 _ _
  rw [← hHe]
  refine lv_iload_n hx hb dX12_told_0 rfl (lv_at hl 1 rfl) ?_
  refine lv_iconst (v := (0 : Int32)) hx hb dX12_told_1 (by decide) ?_
  refine lv_aload_n hx hb dX12_told_2 rfl (lv_at hl 0 rfl) ?_
  obtain ⟨r_1, e_1, hF⟩ := bnd hF
  refine m_gR X hH e_1 gg_X12_32 dX12_told_3 ?_
  refine lv_iconst (v := (0 : Int32)) hx hb dX12_told_6 (by decide) ?_
  obtain ⟨x_2, e_2, hF⟩ := bnd hF
  refine m_rdI X hH e_2 dX12_told_7 ?_
  refine lv_iconst (v := (1 : Int32)) hx hb dX12_told_8 (by decide) ?_
  refine lv_isub hx hb dX12_told_9 ?_
  obtain ⟨q_3, e_3, hF⟩ := bnd hF
  refine m_callS (As := [.int v1, .int (0 : Int32), .int (x_2 - (1 : Int32))]) (rest := []) X hH hS hl.1 (k_X12_in l D cI cT cII base v1 (0 : Int32) (x_2 - (1 : Int32)) w q_3 e_3) q_X12_in kw_951 kw_952 rfl rfl (Nat.le_of_ble_eq_true rfl) ⟨by decide, by decide⟩ hc dX12_told_10 (fun H locs hH hS => W.eq (g2 := F0 m 13 ls [.int q_3.1]) rfl ?_)
  refine lv_if_eq (tgt := 25) hx hb dX12_told_13 (by decide) (fun c_4 => ?_) (fun c_4 => ?_)
  · replace hF := itt c_4 hF
    refine lv_iconst (v := (-1 : Int32)) hx hb dX12_told_25 (by decide) ?_
    have hF := Option.some.inj hF
    subst hF
    exact m_iret X hr hlk hH hS dX12_told_26
  · replace hF := itf c_4 hF
    refine lv_iload_n hx hb dX12_told_16 rfl (lv_at hl 2 rfl) ?_
    refine lv_iconst (v := (0 : Int32)) hx hb dX12_told_17 (by decide) ?_
    refine lv_iconst (v := (2 : Int32)) hx hb dX12_told_18 (by decide) ?_
    obtain ⟨q_5, e_5, hF⟩ := bnd hF
    refine m_callS (As := [.int v2, .int (0 : Int32), .int (2 : Int32)]) (rest := []) X hH hS hl.1 (k_X12_in l D cI cT cII base v2 (0 : Int32) (2 : Int32) q_3.2 q_5 e_5) q_X12_in kw_951 kw_952 rfl rfl (Nat.le_of_ble_eq_true rfl) ⟨by decide, by decide⟩ hc dX12_told_19 (fun H locs hH hS => W.eq (g2 := F0 m 22 ls [.int q_5.1]) rfl ?_)
    refine lv_if_ne (tgt := 27) hx hb dX12_told_22 (by decide) (fun c_6 => ?_) (fun c_6 => ?_)
    · replace hF := itf c_6 hF
      refine lv_aload_n hx hb dX12_told_27 rfl (lv_at hl 0 rfl) ?_
      obtain ⟨r_7, e_7, hF⟩ := bnd hF
      refine m_gR X hH e_7 gg_X12_32 dX12_told_28 ?_
      refine lv_iconst (v := (1 : Int32)) hx hb dX12_told_31 (by decide) ?_
      refine lv_iconst (v := (3 : Int32)) hx hb dX12_told_32 (by decide) ?_
      refine lv_iload_n hx hb dX12_told_33 rfl (lv_at hl 1 rfl) ?_
      refine lv_imul hx hb dX12_told_34 ?_
      refine lv_iadd hx hb dX12_told_35 ?_
      refine lv_iload_n hx hb dX12_told_36 rfl (lv_at hl 2 rfl) ?_
      refine lv_iadd hx hb dX12_told_37 ?_
      obtain ⟨x_8, e_8, hF⟩ := bnd hF
      refine m_rdI X hH e_8 dX12_told_38 ?_
      refine lv_iload_n hx hb dX12_told_39 rfl (lv_at hl 2 rfl) ?_
      refine lv_iconst (v := (2 : Int32)) hx hb dX12_told_40 (by decide) ?_
      refine lv_icmp_ne (tgt := 49) hx hb dX12_told_41 (by decide) (fun c_9 => ?_) (fun c_9 => ?_)
      · replace hF := itf c_9 hF
        refine lv_iconst (v := (0 : Int32)) hx hb dX12_told_49 (by decide) ?_
        refine lv_iadd hx hb dX12_told_50 ?_
        have hF := Option.some.inj hF
        subst hF
        exact m_iret X hr hlk hH hS dX12_told_51
      · replace hF := itt c_9 hF
        refine lv_bipush (v := (20 : Int32)) hx hb dX12_told_44 (by decide) ?_
        refine lv_goto (tgt := 50) hx hb dX12_told_46 (by decide) ?_
        refine lv_iadd hx hb dX12_told_50 ?_
        have hF := Option.some.inj hF
        subst hF
        exact m_iret X hr hlk hH hS dX12_told_51
    · replace hF := itt c_6 hF
      refine lv_iconst (v := (-1 : Int32)) hx hb dX12_told_25 (by decide) ?_
      have hF := Option.some.inj hF
      subst hF
      exact m_iret X hr hlk hH hS dX12_told_26
noncomputable def fX12_turn (p0 : Nat) (v1 : Int32) (v2 : Int32) (v3 : Int32) (w : Wd) : Option (Int32 × Wd) := (fX12_isDay v1 w).bind fun q_1 => if q_1.1 = 0 then some ((-1 : Int32), q_1.2) else (isO 11 p0 q_1.2).bind fun u_3 => (fX12_isFrame p0 v2 q_1.2).bind fun q_4 => if q_4.1 = 0 then some ((-1 : Int32), q_4.2) else (fX12_in v3 (0 : Int32) (40 : Int32) q_4.2).bind fun q_6 => if q_6.1 = 0 then some ((-1 : Int32), q_6.2) else (gfR 11 7 p0 q_6.2).bind fun r_8 => (rdI r_8 (0 : Int32) q_6.2).bind fun x_9 => if x_9 = (8 : Int32) then some ((-3 : Int32), q_6.2) else (isO 11 p0 q_6.2).bind fun u_11 => (fX12_remembers p0 q_6.2).bind fun q_12 => (gfR 11 7 p0 q_12.2).bind fun r_13 => (gfR 11 7 p0 q_12.2).bind fun r_14 => (rdI r_14 (0 : Int32) q_12.2).bind fun x_15 => (fX12_lays r_13 ((1 : Int32) + ((3 : Int32) * x_15)) v1 v2 (v3 - (20 : Int32)) q_12.2).bind fun q_16 => (gfR 11 7 p0 q_16.2).bind fun r_17 => (rdI r_17 (0 : Int32) q_16.2).bind fun x_18 => (wrI r_17 (0 : Int32) (x_18 + (1 : Int32)) q_16.2).bind fun w_19 => (gfR 11 7 p0 w_19).bind fun r_20 => (rdI r_20 (0 : Int32) w_19).bind fun x_21 => some (x_21, w_19)
set_option maxHeartbeats 4000000 in
set_option maxRecDepth 100000 in
theorem k_X12_turn (l : Launch) (D : va_G) (cI cT cII : ClassId) (base : Nat) (p0 : Nat) (v1 : Int32) (v2 : Int32) (v3 : Int32) (w : Wd) (res : Int32 × Wd) (hF : fX12_turn p0 v1 v2 v3 w = some res) : Ct l yX12_turn cX12_turn 4 (some .int) { frames := 2, cells := 0, slots := 0, locals := 43 } D cI cT cII base [.ref (base + p0), .int v1, .int v2, .int v3] w res.2 (some (.int res.1)) 0 0 := by
  unfold fX12_turn at hF
  refine m_enter (by decide) (Nat.le_of_ble_eq_true rfl) ?_
  intro p e s m below meth c ls X hr hlk hnm hH hS hl
  have hx := X.1
  have hb := X.2.1
  have hc : (0 : Nat) ≤ ({ frames := 2, cells := 0, slots := 0, locals := 43 } : Room).cells ∧ (0 : Nat) ≤ ({ frames := 2, cells := 0, slots := 0, locals := 43 } : Room).slots := ⟨Nat.zero_le _, Nat.zero_le _⟩
  obtain ⟨H, hHe⟩ : ∃ H : Heap, H = s.heap := ⟨_, rfl⟩
  obtain ⟨locs, hle⟩ : ∃ L : List Loc, L = [] := ⟨_, rfl⟩
  have hl : lv_has ls 4 [(0, .ref (base + p0)), (1, .int v1), (2, .int v2), (3, .int v3)] := hl
  rw [← hHe] at hH
  have hS : va_S (fun q => base ≤ q) s.heap H locs := by rw [hHe, hle]; exact hS
  rw [← hle]
  show W p l e _ s m _ below meth c s.heap locs 0 0 _ _
  rw [← hHe]
  refine lv_iload_n hx hb dX12_turn_0 rfl (lv_at hl 1 rfl) ?_
  obtain ⟨q_1, e_1, hF⟩ := bnd hF
  refine m_callS (As := [.int v1]) (rest := []) X hH hS hl.1 (k_X12_isDay l D cI cT cII base v1 w q_1 e_1) q_X12_isDay kw_1033 kw_1034 rfl rfl (Nat.le_of_ble_eq_true rfl) ⟨by decide, by decide⟩ hc dX12_turn_1 (fun H locs hH hS => W.eq (g2 := F0 m 4 ls [.int q_1.1]) rfl ?_)
  refine lv_if_eq (tgt := 25) hx hb dX12_turn_4 (by decide) (fun c_2 => ?_) (fun c_2 => ?_)
  · replace hF := itt c_2 hF
    refine lv_iconst (v := (-1 : Int32)) hx hb dX12_turn_25 (by decide) ?_
    have hF := Option.some.inj hF
    subst hF
    exact m_iret X hr hlk hH hS dX12_turn_26
  · replace hF := itf c_2 hF
    refine lv_aload_n hx hb dX12_turn_7 rfl (lv_at hl 0 rfl) ?_
    refine lv_iload_n hx hb dX12_turn_8 rfl (lv_at hl 2 rfl) ?_
    obtain ⟨u_3, ou_3, hF⟩ := bnd hF
    obtain ⟨q_4, e_4, hF⟩ := bnd hF
    refine m_callV (As := [.int v2]) (rest := []) X hH hS hl.1 ou_3 rfl (by decide) (k_X12_isFrame l D cI cT cII base p0 v2 q_1.2 q_4 e_4) q_X12_isFrame kw_1017 kw_1019 kw_35 rfl rfl (Nat.le_of_ble_eq_true rfl) ⟨by decide, by decide⟩ hc dX12_turn_9 (fun H locs hH hS => W.eq (g2 := F0 m 12 ls [.int q_4.1]) rfl ?_)
    refine lv_if_eq (tgt := 25) hx hb dX12_turn_12 (by decide) (fun c_5 => ?_) (fun c_5 => ?_)
    · replace hF := itt c_5 hF
      refine lv_iconst (v := (-1 : Int32)) hx hb dX12_turn_25 (by decide) ?_
      have hF := Option.some.inj hF
      subst hF
      exact m_iret X hr hlk hH hS dX12_turn_26
    · replace hF := itf c_5 hF
      refine lv_iload_n hx hb dX12_turn_15 rfl (lv_at hl 3 rfl) ?_
      refine lv_iconst (v := (0 : Int32)) hx hb dX12_turn_16 (by decide) ?_
      refine lv_bipush (v := (40 : Int32)) hx hb dX12_turn_17 (by decide) ?_
      obtain ⟨q_6, e_6, hF⟩ := bnd hF
      refine m_callS (As := [.int v3, .int (0 : Int32), .int (40 : Int32)]) (rest := []) X hH hS hl.1 (k_X12_in l D cI cT cII base v3 (0 : Int32) (40 : Int32) q_4.2 q_6 e_6) q_X12_in kw_951 kw_952 rfl rfl (Nat.le_of_ble_eq_true rfl) ⟨by decide, by decide⟩ hc dX12_turn_19 (fun H locs hH hS => W.eq (g2 := F0 m 22 ls [.int q_6.1]) rfl ?_)
      refine lv_if_ne (tgt := 27) hx hb dX12_turn_22 (by decide) (fun c_7 => ?_) (fun c_7 => ?_)
      · replace hF := itf c_7 hF
        refine lv_aload_n hx hb dX12_turn_27 rfl (lv_at hl 0 rfl) ?_
        obtain ⟨r_8, e_8, hF⟩ := bnd hF
        refine m_gR X hH e_8 gg_X12_32 dX12_turn_28 ?_
        refine lv_iconst (v := (0 : Int32)) hx hb dX12_turn_31 (by decide) ?_
        obtain ⟨x_9, e_9, hF⟩ := bnd hF
        refine m_rdI X hH e_9 dX12_turn_32 ?_
        refine lv_bipush (v := (8 : Int32)) hx hb dX12_turn_33 (by decide) ?_
        refine lv_icmp_ne (tgt := 41) hx hb dX12_turn_35 (by decide) (fun c_10 => ?_) (fun c_10 => ?_)
        · replace hF := itf c_10 hF
          refine lv_aload_n hx hb dX12_turn_41 rfl (lv_at hl 0 rfl) ?_
          obtain ⟨u_11, ou_11, hF⟩ := bnd hF
          obtain ⟨q_12, e_12, hF⟩ := bnd hF
          refine m_callV (As := []) (rest := []) X hH hS hl.1 ou_11 rfl (by decide) (k_X12_remembers l D cI cT cII base p0 q_6.2 q_12 e_12) q_X12_remembers kw_1107 kw_1109 kw_45 rfl rfl (Nat.le_of_ble_eq_true rfl) ⟨by decide, by decide⟩ hc dX12_turn_42 (fun H locs hH hS => W.eq (g2 := F0 m 45 ls []) rfl ?_)
          refine lv_aload_n hx hb dX12_turn_45 rfl (lv_at hl 0 rfl) ?_
          obtain ⟨r_13, e_13, hF⟩ := bnd hF
          refine m_gR X hH e_13 gg_X12_32 dX12_turn_46 ?_
          refine lv_iconst (v := (1 : Int32)) hx hb dX12_turn_49 (by decide) ?_
          refine lv_iconst (v := (3 : Int32)) hx hb dX12_turn_50 (by decide) ?_
          refine lv_aload_n hx hb dX12_turn_51 rfl (lv_at hl 0 rfl) ?_
          obtain ⟨r_14, e_14, hF⟩ := bnd hF
          refine m_gR X hH e_14 gg_X12_32 dX12_turn_52 ?_
          refine lv_iconst (v := (0 : Int32)) hx hb dX12_turn_55 (by decide) ?_
          obtain ⟨x_15, e_15, hF⟩ := bnd hF
          refine m_rdI X hH e_15 dX12_turn_56 ?_
          refine lv_imul hx hb dX12_turn_57 ?_
          refine lv_iadd hx hb dX12_turn_58 ?_
          refine lv_iload_n hx hb dX12_turn_59 rfl (lv_at hl 1 rfl) ?_
          refine lv_iload_n hx hb dX12_turn_60 rfl (lv_at hl 2 rfl) ?_
          refine lv_iload_n hx hb dX12_turn_61 rfl (lv_at hl 3 rfl) ?_
          refine lv_bipush (v := (20 : Int32)) hx hb dX12_turn_62 (by decide) ?_
          refine lv_isub hx hb dX12_turn_64 ?_
          obtain ⟨q_16, e_16, hF⟩ := bnd hF
          refine m_callS (As := [.ref (base + r_13), .int ((1 : Int32) + ((3 : Int32) * x_15)), .int v1, .int v2, .int (v3 - (20 : Int32))]) (rest := []) X hH hS hl.1 (k_X12_lays l D cI cT cII base r_13 ((1 : Int32) + ((3 : Int32) * x_15)) v1 v2 (v3 - (20 : Int32)) q_12.2 q_16 e_16) q_X12_lays kw_843 kw_844 rfl rfl (Nat.le_of_ble_eq_true rfl) ⟨by decide, by decide⟩ hc dX12_turn_65 (fun H locs hH hS => W.eq (g2 := F0 m 68 ls []) rfl ?_)
          refine lv_aload_n hx hb dX12_turn_68 rfl (lv_at hl 0 rfl) ?_
          obtain ⟨r_17, e_17, hF⟩ := bnd hF
          refine m_gR X hH e_17 gg_X12_32 dX12_turn_69 ?_
          refine lv_iconst (v := (0 : Int32)) hx hb dX12_turn_72 (by decide) ?_
          refine lv_dup2_11 hx hb dX12_turn_73 rfl rfl ?_
          obtain ⟨x_18, e_18, hF⟩ := bnd hF
          refine m_rdI X hH e_18 dX12_turn_74 ?_
          refine lv_iconst (v := (1 : Int32)) hx hb dX12_turn_75 (by decide) ?_
          refine lv_iadd hx hb dX12_turn_76 ?_
          obtain ⟨w_19, e_19, hF⟩ := bnd hF
          refine m_wrI X hH hS e_19 dX12_turn_77 (fun H locs hH hS => ?_)
          refine lv_aload_n hx hb dX12_turn_78 rfl (lv_at hl 0 rfl) ?_
          obtain ⟨r_20, e_20, hF⟩ := bnd hF
          refine m_gR X hH e_20 gg_X12_32 dX12_turn_79 ?_
          refine lv_iconst (v := (0 : Int32)) hx hb dX12_turn_82 (by decide) ?_
          obtain ⟨x_21, e_21, hF⟩ := bnd hF
          refine m_rdI X hH e_21 dX12_turn_83 ?_
          have hF := Option.some.inj hF
          subst hF
          exact m_iret X hr hlk hH hS dX12_turn_84
        · replace hF := itt c_10 hF
          refine lv_bipush (v := (-3 : Int32)) hx hb dX12_turn_38 (by decide) ?_
          have hF := Option.some.inj hF
          subst hF
          exact m_iret X hr hlk hH hS dX12_turn_40
      · replace hF := itt c_7 hF
        refine lv_iconst (v := (-1 : Int32)) hx hb dX12_turn_25 (by decide) ?_
        have hF := Option.some.inj hF
        subst hF
        exact m_iret X hr hlk hH hS dX12_turn_26
noncomputable def fX12_undo_22 (p0 : Nat) (K_54 : Wd → Option (Int32 × Wd)) : Nat → Int32 → Wd → Option (Int32 × Wd)
  | 0, _, _ => none
  | n + 1, v1, w => if (25 : Int32) ≤ v1 then K_54  w else (gfR 11 7 p0 w).bind fun r_6 => (gfR 11 9 p0 w).bind fun r_7 => (gfI 11 8 p0 w).bind fun x_8 => (rdI r_7 (((25 : Int32) * x_8) + v1) w).bind fun x_9 => (wrI r_6 v1 x_9 w).bind fun w_10 => fX12_undo_22 p0 K_54 n (v1 + (1 : Int32)) w_10
noncomputable def fX12_undo (p0 : Nat) (w : Wd) : Option (Int32 × Wd) := (gfI 11 8 p0 w).bind fun x_1 => if x_1 = 0 then some ((-2 : Int32), w) else (gfI 11 8 p0 w).bind fun x_3 => (pfI 11 8 p0 (x_3 - (1 : Int32)) w).bind fun w_4 => fX12_undo_22 p0 (fun  (w_11 : Wd) => (gfI 11 8 p0 w_11).bind fun x_12 => some (x_12, w_11)) FV (0 : Int32) w_4
set_option maxHeartbeats 4000000 in
set_option maxRecDepth 100000 in
theorem l_X12_undo_22 (X : Cx p R s m args c cX12_undo 2 RX12 D cI cT cII 0 0) (hc : cells ≤ R.cells ∧ slots ≤ R.slots) (p0 : Nat) (K_54 : Wd → Option (Int32 × Wd)) (res : Int32 × Wd)
    (hK_54 : ∀  (w : Wd), K_54  w = some res → ∀ (H : Heap) (locs : List Loc) (ls : Array Slot), Hd D cI cT cII base w H → va_S (fun q => base ≤ q) s.heap H locs → lv_has ls 2 [(0, .ref (base + p0))] → W p l e R s m args below meth c H locs cells slots Q (F0 m 54 ls [])) :
    ∀ (n : Nat) (v1 : Int32) (w : Wd), fX12_undo_22 p0 K_54 n v1 w = some res → ∀ (H : Heap) (locs : List Loc) (ls : Array Slot), Hd D cI cT cII base w H → va_S (fun q => base ≤ q) s.heap H locs → lv_has ls 2 [(0, .ref (base + p0)), (1, .int v1)] → W p l e R s m args below meth c H locs cells slots Q (F0 m 22 ls []) := by
  have hx := X.1
  have hb := X.2.1
  intro n
  induction n with
  | zero =>
    intro v1 w hF
    rw [fX12_undo_22] at hF
    cases hF
  | succ n ih =>
    intro v1 w hF H locs ls hH hS hl
    rw [fX12_undo_22] at hF
    refine lv_iload_n hx hb dX12_undo_22 rfl (lv_at hl 1 rfl) ?_
    refine lv_bipush (v := (25 : Int32)) hx hb dX12_undo_23 (by decide) ?_
    refine lv_icmp_ge (tgt := 54) hx hb dX12_undo_25 (by decide) (fun c_5 => ?_) (fun c_5 => ?_)
    · replace hF := itt c_5 hF
      exact hK_54  w hF H locs ls hH hS (lv_sub hl [0] rfl)
    · replace hF := itf c_5 hF
      refine lv_aload_n hx hb dX12_undo_28 rfl (lv_at hl 0 rfl) ?_
      obtain ⟨r_6, e_6, hF⟩ := bnd hF
      refine m_gR X hH e_6 gg_X12_32 dX12_undo_29 ?_
      refine lv_iload_n hx hb dX12_undo_32 rfl (lv_at hl 1 rfl) ?_
      refine lv_aload_n hx hb dX12_undo_33 rfl (lv_at hl 0 rfl) ?_
      obtain ⟨r_7, e_7, hF⟩ := bnd hF
      refine m_gR X hH e_7 gg_X12_35 dX12_undo_34 ?_
      refine lv_bipush (v := (25 : Int32)) hx hb dX12_undo_37 (by decide) ?_
      refine lv_aload_n hx hb dX12_undo_39 rfl (lv_at hl 0 rfl) ?_
      obtain ⟨x_8, e_8, hF⟩ := bnd hF
      refine m_gI X hH e_8 gg_X12_150 dX12_undo_40 ?_
      refine lv_imul hx hb dX12_undo_43 ?_
      refine lv_iload_n hx hb dX12_undo_44 rfl (lv_at hl 1 rfl) ?_
      refine lv_iadd hx hb dX12_undo_45 ?_
      obtain ⟨x_9, e_9, hF⟩ := bnd hF
      refine m_rdI X hH e_9 dX12_undo_46 ?_
      obtain ⟨w_10, e_10, hF⟩ := bnd hF
      refine m_wrI X hH hS e_10 dX12_undo_47 (fun H locs hH hS => ?_)
      refine lv_iinc (v := v1 + (1 : Int32)) (lv' := [(1, .int (v1 + (1 : Int32))), (0, .ref (base + p0))]) hx hb dX12_undo_48 hl (k := 1) rfl (congrArg (fun z => v1 + z) (by decide)) (by decide) rfl (fun ls hl => ?_)
      refine lv_goto (tgt := 22) hx hb dX12_undo_51 (by decide) ?_
      exact ih (v1 + (1 : Int32)) w_10 hF H locs ls hH hS (lv_sub hl [1, 0] rfl)
set_option maxHeartbeats 4000000 in
set_option maxRecDepth 100000 in
theorem k_X12_undo (l : Launch) (D : va_G) (cI cT cII : ClassId) (base : Nat) (p0 : Nat) (w : Wd) (res : Int32 × Wd) (hF : fX12_undo p0 w = some res) : Ct l yX12_undo cX12_undo 2 (some .int) { frames := 0, cells := 0, slots := 0, locals := 0 } D cI cT cII base [.ref (base + p0)] w res.2 (some (.int res.1)) 0 0 := by
  unfold fX12_undo at hF
  refine m_enter (by decide) (Nat.le_of_ble_eq_true rfl) ?_
  intro p e s m below meth c ls X hr hlk hnm hH hS hl
  have hx := X.1
  have hb := X.2.1
  have hc : (0 : Nat) ≤ ({ frames := 0, cells := 0, slots := 0, locals := 0 } : Room).cells ∧ (0 : Nat) ≤ ({ frames := 0, cells := 0, slots := 0, locals := 0 } : Room).slots := ⟨Nat.zero_le _, Nat.zero_le _⟩
  obtain ⟨H, hHe⟩ : ∃ H : Heap, H = s.heap := ⟨_, rfl⟩
  obtain ⟨locs, hle⟩ : ∃ L : List Loc, L = [] := ⟨_, rfl⟩
  have hl : lv_has ls 2 [(0, .ref (base + p0))] := hl
  rw [← hHe] at hH
  have hS : va_S (fun q => base ≤ q) s.heap H locs := by rw [hHe, hle]; exact hS
  rw [← hle]
  show W p l e _ s m _ below meth c s.heap locs 0 0 _ _
  rw [← hHe]
  refine lv_aload_n hx hb dX12_undo_0 rfl (lv_at hl 0 rfl) ?_
  obtain ⟨x_1, e_1, hF⟩ := bnd hF
  refine m_gI X hH e_1 gg_X12_150 dX12_undo_1 ?_
  refine lv_if_ne (tgt := 10) hx hb dX12_undo_4 (by decide) (fun c_2 => ?_) (fun c_2 => ?_)
  · replace hF := itf c_2 hF
    refine lv_aload_n hx hb dX12_undo_10 rfl (lv_at hl 0 rfl) ?_
    refine lv_dup hx hb dX12_undo_11 rfl ?_
    obtain ⟨x_3, e_3, hF⟩ := bnd hF
    refine m_gI X hH e_3 gg_X12_150 dX12_undo_12 ?_
    refine lv_iconst (v := (1 : Int32)) hx hb dX12_undo_15 (by decide) ?_
    refine lv_isub hx hb dX12_undo_16 ?_
    obtain ⟨w_4, e_4, hF⟩ := bnd hF
    refine m_pI X hH hS e_4 gp_X12_150 rfl rfl dX12_undo_17 (fun H locs hH hS => ?_)
    refine lv_iconst (v := (0 : Int32)) hx hb dX12_undo_20 (by decide) ?_
    refine lv_istore_n (lv' := [(1, .int (0 : Int32)), (0, .ref (base + p0))]) hx hb dX12_undo_21 rfl hl (by decide) rfl (fun ls hl => ?_)
    refine l_X12_undo_22 X hc p0 _ res ?_ FV (0 : Int32) w_4 hF H locs ls hH hS (lv_sub hl [1, 0] rfl)
    · intro  w_11 hF H locs ls hH hS hl
      refine lv_aload_n hx hb dX12_undo_54 rfl (lv_at hl 0 rfl) ?_
      obtain ⟨x_12, e_12, hF⟩ := bnd hF
      refine m_gI X hH e_12 gg_X12_150 dX12_undo_55 ?_
      have hF := Option.some.inj hF
      subst hF
      exact m_iret X hr hlk hH hS dX12_undo_58
  · replace hF := itt c_2 hF
    refine lv_bipush (v := (-2 : Int32)) hx hb dX12_undo_7 (by decide) ?_
    have hF := Option.some.inj hF
    subst hF
    exact m_iret X hr hlk hH hS dX12_undo_9
end M10
