section M11
variable {p : Program} {l : Launch} {e : Env} {R : Room} {s : State} {m : MethodId} {args : Array Value} {below : List Frame} {meth : Method} {c : Code} {cells slots : Nat} {Q : State → Prop} {D : va_G} {cI cT cII : ClassId} {base : Nat}
noncomputable def fX12_who_32 (p0 : Nat) (v1 : Int32) (v2 : Int32) (K_75 : Int32 → Wd → Option (Int32 × Wd)) : Nat → Int32 → Int32 → Wd → Option (Int32 × Wd)
  | 0, _, _, _ => none
  | n + 1, v3, v4, w => (gfI 11 2 p0 w).bind fun x_6 => if x_6 ≤ v4 then K_75 v3 w else (isO 11 p0 w).bind fun u_8 => (fX12_madeBy p0 v4 (v1 - (20 : Int32)) w).bind fun q_9 => if q_9.1 = (v2 - (20 : Int32)) then fX12_who_32 p0 v1 v2 K_75 n (v3 ||| ((1 : Int32) <<< (v4 &&& 31))) (v4 + (1 : Int32)) q_9.2 else fX12_who_32 p0 v1 v2 K_75 n (v3 ||| (0 : Int32)) (v4 + (1 : Int32)) q_9.2
noncomputable def fX12_who (p0 : Nat) (v1 : Int32) (v2 : Int32) (w : Wd) : Option (Int32 × Wd) := (fX12_in v1 (0 : Int32) (40 : Int32) w).bind fun q_1 => if q_1.1 = 0 then some ((-1 : Int32), q_1.2) else (fX12_in v2 (0 : Int32) (40 : Int32) q_1.2).bind fun q_3 => if q_3.1 = 0 then some ((-1 : Int32), q_3.2) else if v1 = v2 then some ((-1 : Int32), q_3.2) else fX12_who_32 p0 v1 v2 (fun (v3_12 : Int32) (w_11 : Wd) => some (v3_12, w_11)) FV (0 : Int32) (0 : Int32) q_3.2
set_option maxHeartbeats 4000000 in
set_option maxRecDepth 100000 in
theorem l_X12_who_32 (X : Cx p R s m args c cX12_who 5 RX12 D cI cT cII 3 64) (hc : cells ≤ R.cells ∧ slots ≤ R.slots) (p0 : Nat) (v1 : Int32) (v2 : Int32) (K_75 : Int32 → Wd → Option (Int32 × Wd)) (res : Int32 × Wd)
    (hK_75 : ∀ (z3 : Int32) (w : Wd), K_75 z3 w = some res → ∀ (H : Heap) (locs : List Loc) (ls : Array Slot), Hd D cI cT cII base w H → va_S (fun q => base ≤ q) s.heap H locs → lv_has ls 5 [(3, .int z3)] → W p l e R s m args below meth c H locs cells slots Q (F0 m 75 ls [])) :
    ∀ (n : Nat) (v3 : Int32) (v4 : Int32) (w : Wd), fX12_who_32 p0 v1 v2 K_75 n v3 v4 w = some res → ∀ (H : Heap) (locs : List Loc) (ls : Array Slot), Hd D cI cT cII base w H → va_S (fun q => base ≤ q) s.heap H locs → lv_has ls 5 [(0, .ref (base + p0)), (1, .int v1), (2, .int v2), (3, .int v3), (4, .int v4)] → W p l e R s m args below meth c H locs cells slots Q (F0 m 32 ls []) := by
  have hx := X.1
  have hb := X.2.1
  intro n
  induction n with
  | zero =>
    intro v3 v4 w hF
    rw [fX12_who_32] at hF
    cases hF
  | succ n ih =>
    intro v3 v4 w hF H locs ls hH hS hl
    rw [fX12_who_32] at hF
    refine lv_iload hx hb dX12_who_32 (lv_at hl 4 rfl) ?_
    refine lv_aload_n hx hb dX12_who_34 rfl (lv_at hl 0 rfl) ?_
    obtain ⟨x_6, e_6, hF⟩ := bnd hF
    refine m_gI X hH e_6 gg_X12_17 dX12_who_35 ?_
    refine lv_icmp_ge (tgt := 75) hx hb dX12_who_38 (by decide) (fun c_7 => ?_) (fun c_7 => ?_)
    · replace hF := itt c_7 hF
      exact hK_75 v3 w hF H locs ls hH hS (lv_sub hl [3] rfl)
    · replace hF := itf c_7 hF
      refine lv_iload_n hx hb dX12_who_41 rfl (lv_at hl 3 rfl) ?_
      refine lv_aload_n hx hb dX12_who_42 rfl (lv_at hl 0 rfl) ?_
      refine lv_iload hx hb dX12_who_43 (lv_at hl 4 rfl) ?_
      refine lv_iload_n hx hb dX12_who_45 rfl (lv_at hl 1 rfl) ?_
      refine lv_bipush (v := (20 : Int32)) hx hb dX12_who_46 (by decide) ?_
      refine lv_isub hx hb dX12_who_48 ?_
      obtain ⟨u_8, ou_8, hF⟩ := bnd hF
      obtain ⟨q_9, e_9, hF⟩ := bnd hF
      refine m_callV (As := [.int v4, .int (v1 - (20 : Int32))]) (rest := [.int v3]) X hH hS hl.1 ou_8 rfl (by decide) (k_X12_madeBy l D cI cT cII base p0 v4 (v1 - (20 : Int32)) w q_9 e_9) q_X12_madeBy kw_1070 kw_1072 kw_44 rfl rfl (Nat.le_of_ble_eq_true rfl) ⟨by decide, by decide⟩ hc dX12_who_49 (fun H locs hH hS => W.eq (g2 := F0 m 52 ls [.int q_9.1, .int v3]) rfl ?_)
      refine lv_iload_n hx hb dX12_who_52 rfl (lv_at hl 2 rfl) ?_
      refine lv_bipush (v := (20 : Int32)) hx hb dX12_who_53 (by decide) ?_
      refine lv_isub hx hb dX12_who_55 ?_
      refine lv_icmp_ne (tgt := 66) hx hb dX12_who_56 (by decide) (fun c_10 => ?_) (fun c_10 => ?_)
      · replace hF := itf c_10 hF
        refine lv_iconst (v := (0 : Int32)) hx hb dX12_who_66 (by decide) ?_
        refine lv_ior hx hb dX12_who_67 ?_
        refine lv_istore_n (lv' := [(3, .int (v3 ||| (0 : Int32))), (0, .ref (base + p0)), (1, .int v1), (2, .int v2), (4, .int v4)]) hx hb dX12_who_68 rfl hl (by decide) rfl (fun ls hl => ?_)
        refine lv_iinc (v := v4 + (1 : Int32)) (lv' := [(4, .int (v4 + (1 : Int32))), (3, .int (v3 ||| (0 : Int32))), (0, .ref (base + p0)), (1, .int v1), (2, .int v2)]) hx hb dX12_who_69 hl (k := 4) rfl (congrArg (fun z => v4 + z) (by decide)) (by decide) rfl (fun ls hl => ?_)
        refine lv_goto (tgt := 32) hx hb dX12_who_72 (by decide) ?_
        exact ih (v3 ||| (0 : Int32)) (v4 + (1 : Int32)) q_9.2 hF H locs ls hH hS (lv_sub hl [2, 3, 4, 1, 0] rfl)
      · replace hF := itt c_10 hF
        refine lv_iconst (v := (1 : Int32)) hx hb dX12_who_59 (by decide) ?_
        refine lv_iload hx hb dX12_who_60 (lv_at hl 4 rfl) ?_
        refine lv_ishl hx hb dX12_who_62 ?_
        refine lv_goto (tgt := 67) hx hb dX12_who_63 (by decide) ?_
        refine lv_ior hx hb dX12_who_67 ?_
        refine lv_istore_n (lv' := [(3, .int (v3 ||| ((1 : Int32) <<< (v4 &&& 31)))), (0, .ref (base + p0)), (1, .int v1), (2, .int v2), (4, .int v4)]) hx hb dX12_who_68 rfl hl (by decide) rfl (fun ls hl => ?_)
        refine lv_iinc (v := v4 + (1 : Int32)) (lv' := [(4, .int (v4 + (1 : Int32))), (3, .int (v3 ||| ((1 : Int32) <<< (v4 &&& 31)))), (0, .ref (base + p0)), (1, .int v1), (2, .int v2)]) hx hb dX12_who_69 hl (k := 4) rfl (congrArg (fun z => v4 + z) (by decide)) (by decide) rfl (fun ls hl => ?_)
        refine lv_goto (tgt := 32) hx hb dX12_who_72 (by decide) ?_
        exact ih (v3 ||| ((1 : Int32) <<< (v4 &&& 31))) (v4 + (1 : Int32)) q_9.2 hF H locs ls hH hS (lv_sub hl [2, 3, 4, 1, 0] rfl)
set_option maxHeartbeats 4000000 in
set_option maxRecDepth 100000 in
theorem k_X12_who (l : Launch) (D : va_G) (cI cT cII : ClassId) (base : Nat) (p0 : Nat) (v1 : Int32) (v2 : Int32) (w : Wd) (res : Int32 × Wd) (hF : fX12_who p0 v1 v2 w = some res) : Ct l yX12_who cX12_who 5 (some .int) { frames := 3, cells := 0, slots := 0, locals := 64 } D cI cT cII base [.ref (base + p0), .int v1, .int v2] w res.2 (some (.int res.1)) 0 0 := by
  unfold fX12_who at hF
  refine m_enter (by decide) (Nat.le_of_ble_eq_true rfl) ?_
  intro p e s m below meth c ls X hr hlk hnm hH hS hl
  have hx := X.1
  have hb := X.2.1
  have hc : (0 : Nat) ≤ ({ frames := 3, cells := 0, slots := 0, locals := 64 } : Room).cells ∧ (0 : Nat) ≤ ({ frames := 3, cells := 0, slots := 0, locals := 64 } : Room).slots := ⟨Nat.zero_le _, Nat.zero_le _⟩
  obtain ⟨H, hHe⟩ : ∃ H : Heap, H = s.heap := ⟨_, rfl⟩
  obtain ⟨locs, hle⟩ : ∃ L : List Loc, L = [] := ⟨_, rfl⟩
  have hl : lv_has ls 5 [(0, .ref (base + p0)), (1, .int v1), (2, .int v2)] := hl
  rw [← hHe] at hH
  have hS : va_S (fun q => base ≤ q) s.heap H locs := by rw [hHe, hle]; exact hS
  rw [← hle]
  show W p l e _ s m _ below meth c s.heap locs 0 0 _ _
  rw [← hHe]
  refine lv_iload_n hx hb dX12_who_0 rfl (lv_at hl 1 rfl) ?_
  refine lv_iconst (v := (0 : Int32)) hx hb dX12_who_1 (by decide) ?_
  refine lv_bipush (v := (40 : Int32)) hx hb dX12_who_2 (by decide) ?_
  obtain ⟨q_1, e_1, hF⟩ := bnd hF
  refine m_callS (As := [.int v1, .int (0 : Int32), .int (40 : Int32)]) (rest := []) X hH hS hl.1 (k_X12_in l D cI cT cII base v1 (0 : Int32) (40 : Int32) w q_1 e_1) q_X12_in kw_951 kw_952 rfl rfl (Nat.le_of_ble_eq_true rfl) ⟨by decide, by decide⟩ hc dX12_who_4 (fun H locs hH hS => W.eq (g2 := F0 m 7 ls [.int q_1.1]) rfl ?_)
  refine lv_if_eq (tgt := 25) hx hb dX12_who_7 (by decide) (fun c_2 => ?_) (fun c_2 => ?_)
  · replace hF := itt c_2 hF
    refine lv_iconst (v := (-1 : Int32)) hx hb dX12_who_25 (by decide) ?_
    have hF := Option.some.inj hF
    subst hF
    exact m_iret X hr hlk hH hS dX12_who_26
  · replace hF := itf c_2 hF
    refine lv_iload_n hx hb dX12_who_10 rfl (lv_at hl 2 rfl) ?_
    refine lv_iconst (v := (0 : Int32)) hx hb dX12_who_11 (by decide) ?_
    refine lv_bipush (v := (40 : Int32)) hx hb dX12_who_12 (by decide) ?_
    obtain ⟨q_3, e_3, hF⟩ := bnd hF
    refine m_callS (As := [.int v2, .int (0 : Int32), .int (40 : Int32)]) (rest := []) X hH hS hl.1 (k_X12_in l D cI cT cII base v2 (0 : Int32) (40 : Int32) q_1.2 q_3 e_3) q_X12_in kw_951 kw_952 rfl rfl (Nat.le_of_ble_eq_true rfl) ⟨by decide, by decide⟩ hc dX12_who_14 (fun H locs hH hS => W.eq (g2 := F0 m 17 ls [.int q_3.1]) rfl ?_)
    refine lv_if_eq (tgt := 25) hx hb dX12_who_17 (by decide) (fun c_4 => ?_) (fun c_4 => ?_)
    · replace hF := itt c_4 hF
      refine lv_iconst (v := (-1 : Int32)) hx hb dX12_who_25 (by decide) ?_
      have hF := Option.some.inj hF
      subst hF
      exact m_iret X hr hlk hH hS dX12_who_26
    · replace hF := itf c_4 hF
      refine lv_iload_n hx hb dX12_who_20 rfl (lv_at hl 1 rfl) ?_
      refine lv_iload_n hx hb dX12_who_21 rfl (lv_at hl 2 rfl) ?_
      refine lv_icmp_ne (tgt := 27) hx hb dX12_who_22 (by decide) (fun c_5 => ?_) (fun c_5 => ?_)
      · replace hF := itf c_5 hF
        refine lv_iconst (v := (0 : Int32)) hx hb dX12_who_27 (by decide) ?_
        refine lv_istore_n (lv' := [(3, .int (0 : Int32)), (0, .ref (base + p0)), (1, .int v1), (2, .int v2)]) hx hb dX12_who_28 rfl hl (by decide) rfl (fun ls hl => ?_)
        refine lv_iconst (v := (0 : Int32)) hx hb dX12_who_29 (by decide) ?_
        refine lv_istore (lv' := [(4, .int (0 : Int32)), (3, .int (0 : Int32)), (0, .ref (base + p0)), (1, .int v1), (2, .int v2)]) hx hb dX12_who_30 hl (by decide) rfl (fun ls hl => ?_)
        refine l_X12_who_32 X hc p0 v1 v2 _ res ?_ FV (0 : Int32) (0 : Int32) q_3.2 hF H locs ls hH hS (lv_sub hl [2, 3, 4, 1, 0] rfl)
        · intro v3_12 w_11 hF H locs ls hH hS hl
          refine lv_iload_n hx hb dX12_who_75 rfl (lv_at hl 0 rfl) ?_
          have hF := Option.some.inj hF
          subst hF
          exact m_iret X hr hlk hH hS dX12_who_76
      · replace hF := itt c_5 hF
        refine lv_iconst (v := (-1 : Int32)) hx hb dX12_who_25 (by decide) ?_
        have hF := Option.some.inj hF
        subst hF
        exact m_iret X hr hlk hH hS dX12_who_26
noncomputable def fX12_wipe (p0 : Nat) (w : Wd) : Option (Int32 × Wd) := (gfI 11 15 p0 w).bind fun x_1 => (pfI 11 15 p0 (0 : Int32) w).bind fun w_2 => some (x_1, w_2)
set_option maxHeartbeats 4000000 in
set_option maxRecDepth 100000 in
theorem k_X12_wipe (l : Launch) (D : va_G) (cI cT cII : ClassId) (base : Nat) (p0 : Nat) (w : Wd) (res : Int32 × Wd) (hF : fX12_wipe p0 w = some res) : Ct l yX12_wipe cX12_wipe 2 (some .int) { frames := 0, cells := 0, slots := 0, locals := 0 } D cI cT cII base [.ref (base + p0)] w res.2 (some (.int res.1)) 0 0 := by
  unfold fX12_wipe at hF
  refine m_enter (by decide) (Nat.le_of_ble_eq_true rfl) ?_
  intro p e s m below meth c ls X hr hlk hnm hH hS hl
  have hx := X.1
  have hb := X.2.1
  have hc : (0 : Nat) ≤ ({ frames := 0, cells := 0, slots := 0, locals := 0 } : Room).cells ∧ (0 : Nat) ≤ ({ frames := 0, cells := 0, slots := 0, locals := 0 } : Room).slots := ⟨Nat.zero_le _, Nat.zero_le _⟩
  obtain ⟨H, hHe⟩ : ∃ H : Heap, H = s.heap := ⟨_, rfl⟩
  obtain ⟨locs, hle⟩ : ∃ L : List Loc, L = [] := ⟨_, rfl⟩
  have hl : lv_has ls 2 [(0, .ref (base + p0))] := hl
  rw [← hHe] at hH
  have hS : va_S (fun q => base ≤ q) s.heap H locs := by rw [hHe, hle]; exact hS
  rw [← hle]
  show W p l e _ s m _ below meth c s.heap locs 0 0 _ _
  rw [← hHe]
  refine lv_aload_n hx hb dX12_wipe_0 rfl (lv_at hl 0 rfl) ?_
  obtain ⟨x_1, e_1, hF⟩ := bnd hF
  refine m_gI X hH e_1 gg_X12_91 dX12_wipe_1 ?_
  refine lv_istore_n (lv' := [(1, .int x_1), (0, .ref (base + p0))]) hx hb dX12_wipe_4 rfl hl (by decide) rfl (fun ls hl => ?_)
  refine lv_aload_n hx hb dX12_wipe_5 rfl (lv_at hl 1 rfl) ?_
  refine lv_iconst (v := (0 : Int32)) hx hb dX12_wipe_6 (by decide) ?_
  obtain ⟨w_2, e_2, hF⟩ := bnd hF
  refine m_pI X hH hS e_2 gp_X12_91 rfl rfl dX12_wipe_7 (fun H locs hH hS => ?_)
  refine lv_iload_n hx hb dX12_wipe_10 rfl (lv_at hl 0 rfl) ?_
  have hF := Option.some.inj hF
  subst hF
  exact m_iret X hr hlk hH hS dX12_wipe_11
noncomputable def fX12_wire_80 (p0 : Nat) (v1 : Int32) (v2 : Int32) (v3 : Int32) (v4 : Int32) (v5 : Int32) (v6 : Int32) (v7 : Int32) (K_112 : Wd → Option (Int32 × Wd)) : Nat → Int32 → Wd → Option (Int32 × Wd)
  | 0, _, _ => none
  | n + 1, v8, w => if (13 : Int32) ≤ v8 then K_112  w else (gfR 11 30 p0 w).bind fun r_15 => if v8 = (6 : Int32) then (wrI r_15 v8 (1 : Int32) w).bind fun w_18 => fX12_wire_80 p0 v1 v2 v3 v4 v5 v6 v7 K_112 n (v8 + (1 : Int32)) w_18 else (wrI r_15 v8 (0 : Int32) w).bind fun w_17 => fX12_wire_80 p0 v1 v2 v3 v4 v5 v6 v7 K_112 n (v8 + (1 : Int32)) w_17
noncomputable def fX12_wire_134 (p0 : Nat) (v1 : Int32) (v2 : Int32) (v3 : Int32) (v4 : Int32) (v5 : Int32) (v6 : Int32) (v7 : Int32) (v8 : Int32) (K_212 : Wd → Option (Int32 × Wd)) : Nat → Int32 → Int32 → Wd → Option (Int32 × Wd)
  | 0, _, _, _ => none
  | n + 1, v9, v10, w => if (13 : Int32) ≤ v10 then K_212  w else if (12 : Int32) ≤ v10 then (gfR 11 30 p0 w).bind fun r_23 => (rdI r_23 v10 w).bind fun x_24 => (gfR 11 30 p0 w).bind fun r_25 => (wrI r_25 v10 (((v9 * v4) + (0 : Int32)) + (x_24 * (((10 : Int32) - v4) - v5))) w).bind fun w_26 => fX12_wire_134 p0 v1 v2 v3 v4 v5 v6 v7 v8 K_212 n x_24 (v10 + (1 : Int32)) w_26 else (gfR 11 30 p0 w).bind fun r_27 => (rdI r_27 (v10 + (1 : Int32)) w).bind fun x_28 => (gfR 11 30 p0 w).bind fun r_29 => (rdI r_29 v10 w).bind fun x_30 => (gfR 11 30 p0 w).bind fun r_31 => (wrI r_31 v10 (((v9 * v4) + (x_28 * v5)) + (x_30 * (((10 : Int32) - v4) - v5))) w).bind fun w_32 => fX12_wire_134 p0 v1 v2 v3 v4 v5 v6 v7 v8 K_212 n x_30 (v10 + (1 : Int32)) w_32
noncomputable def fX12_wire_115 (p0 : Nat) (v1 : Int32) (v2 : Int32) (v3 : Int32) (v4 : Int32) (v5 : Int32) (v6 : Int32) (K_218 : Int32 → Wd → Option (Int32 × Wd)) : Nat → Int32 → Int32 → Wd → Option (Int32 × Wd)
  | 0, _, _, _ => none
  | n + 1, v7, v8, w => if v3 ≤ v8 then K_218 v7 w else fX12_wire_134 p0 v1 v2 v3 v4 v5 v6 (v7 * (10 : Int32)) v8 (fun  (w_33 : Wd) => fX12_wire_115 p0 v1 v2 v3 v4 v5 v6 K_218 n (v7 * (10 : Int32)) (v8 + (1 : Int32)) w_33) FV (0 : Int32) (0 : Int32) w
noncomputable def fX12_wire_224 (p0 : Nat) (v1 : Int32) (v2 : Int32) (v6 : Int32) (v7 : Int32) (K_270 : Int32 → Wd → Option (Int32 × Wd)) : Nat → Int32 → Int32 → Wd → Option (Int32 × Wd)
  | 0, _, _, _ => none
  | n + 1, v8, v9, w => if (13 : Int32) ≤ v9 then K_270 v8 w else (fX12_size (((v1 - (20 : Int32)) + v9) - (6 : Int32)) w).bind fun q_37 => if v2 < q_37.1 then fX12_wire_224 p0 v1 v2 v6 v7 K_270 n (v8 + (0 : Int32)) (v9 + (1 : Int32)) q_37.2 else (gfR 11 30 p0 q_37.2).bind fun r_39 => (rdI r_39 v9 q_37.2).bind fun x_40 => fX12_wire_224 p0 v1 v2 v6 v7 K_270 n (v8 + x_40) (v9 + (1 : Int32)) q_37.2
noncomputable def fX12_wire_278 (v6 : Int32) (v7 : Int32) (v8 : Int32) (K_301 : Int32 → Wd → Option (Int32 × Wd)) : Nat → Int32 → Int32 → Wd → Option (Int32 × Wd)
  | 0, _, _, _ => none
  | n + 1, v9, v10, w => if v10 ≤ 0 then K_301 v9 w else (rmI v9 v10).bind fun x_44 => fX12_wire_278 v6 v7 v8 K_301 n v10 x_44 w
noncomputable def fX12_wire (p0 : Nat) (v1 : Int32) (v2 : Int32) (v3 : Int32) (v4 : Int32) (v5 : Int32) (v6 : Int32) (w : Wd) : Option (Int32 × Wd) := (fX12_in v1 (0 : Int32) (40 : Int32) w).bind fun q_1 => if q_1.1 = 0 then some ((-1 : Int32), q_1.2) else (fX12_in v2 (0 : Int32) (20 : Int32) q_1.2).bind fun q_3 => if q_3.1 = 0 then some ((-1 : Int32), q_3.2) else (fX12_in v3 (0 : Int32) (6 : Int32) q_3.2).bind fun q_5 => if q_5.1 = 0 then some ((-1 : Int32), q_5.2) else (fX12_in v4 (0 : Int32) (10 : Int32) q_5.2).bind fun q_7 => if q_7.1 = 0 then some ((-1 : Int32), q_7.2) else (fX12_in v5 (0 : Int32) (10 : Int32) q_7.2).bind fun q_9 => if q_9.1 = 0 then some ((-1 : Int32), q_9.2) else if (10 : Int32) < (v4 + v5) then some ((-1 : Int32), q_9.2) else (fX12_in v6 (0 : Int32) (1 : Int32) q_9.2).bind fun q_12 => if q_12.1 = 0 then some ((-1 : Int32), q_12.2) else fX12_wire_80 p0 v1 v2 v3 v4 v5 v6 (1 : Int32) (fun  (w_19 : Wd) => fX12_wire_115 p0 v1 v2 v3 v4 v5 v6 (fun (v7_35 : Int32) (w_34 : Wd) => fX12_wire_224 p0 v1 v2 v6 v7_35 (fun (v8_42 : Int32) (w_41 : Wd) => fX12_wire_278 v6 v7_35 v8_42 (fun (v9_46 : Int32) (w_45 : Wd) => if v6 = 0 then (dvI v8_42 v9_46).bind fun x_49 => some (x_49, w_45) else (dvI v7_35 v9_46).bind fun x_48 => some (x_48, w_45)) FV v8_42 v7_35 w_41) FV (0 : Int32) (0 : Int32) w_34) FV (1 : Int32) (0 : Int32) w_19) FV (0 : Int32) q_12.2
set_option maxHeartbeats 4000000 in
set_option maxRecDepth 100000 in
theorem l_X12_wire_80 (X : Cx p R s m args c cX12_wire 13 RX12 D cI cT cII 1 22) (hc : cells ≤ R.cells ∧ slots ≤ R.slots) (p0 : Nat) (v1 : Int32) (v2 : Int32) (v3 : Int32) (v4 : Int32) (v5 : Int32) (v6 : Int32) (v7 : Int32) (K_112 : Wd → Option (Int32 × Wd)) (res : Int32 × Wd)
    (hK_112 : ∀  (w : Wd), K_112  w = some res → ∀ (H : Heap) (locs : List Loc) (ls : Array Slot), Hd D cI cT cII base w H → va_S (fun q => base ≤ q) s.heap H locs → lv_has ls 13 [(0, .ref (base + p0)), (1, .int v1), (2, .int v2), (3, .int v3), (4, .int v4), (5, .int v5), (6, .int v6), (7, .int v7)] → W p l e R s m args below meth c H locs cells slots Q (F0 m 112 ls [])) :
    ∀ (n : Nat) (v8 : Int32) (w : Wd), fX12_wire_80 p0 v1 v2 v3 v4 v5 v6 v7 K_112 n v8 w = some res → ∀ (H : Heap) (locs : List Loc) (ls : Array Slot), Hd D cI cT cII base w H → va_S (fun q => base ≤ q) s.heap H locs → lv_has ls 13 [(0, .ref (base + p0)), (1, .int v1), (2, .int v2), (3, .int v3), (4, .int v4), (5, .int v5), (6, .int v6), (7, .int v7), (8, .int v8)] → W p l e R s m args below meth c H locs cells slots Q (F0 m 80 ls []) := by
  have hx := X.1
  have hb := X.2.1
  intro n
  induction n with
  | zero =>
    intro v8 w hF
    rw [fX12_wire_80] at hF
    cases hF
  | succ n ih =>
    intro v8 w hF H locs ls hH hS hl
    rw [fX12_wire_80] at hF
    refine lv_iload hx hb dX12_wire_80 (lv_at hl 8 rfl) ?_
    refine lv_bipush (v := (13 : Int32)) hx hb dX12_wire_82 (by decide) ?_
    refine lv_icmp_ge (tgt := 112) hx hb dX12_wire_84 (by decide) (fun c_14 => ?_) (fun c_14 => ?_)
    · replace hF := itt c_14 hF
      exact hK_112  w hF H locs ls hH hS (lv_sub hl [0, 1, 2, 3, 4, 5, 6, 7] rfl)
    · replace hF := itf c_14 hF
      refine lv_aload_n hx hb dX12_wire_87 rfl (lv_at hl 0 rfl) ?_
      obtain ⟨r_15, e_15, hF⟩ := bnd hF
      refine m_gR X hH e_15 gg_X12_74 dX12_wire_88 ?_
      refine lv_iload hx hb dX12_wire_91 (lv_at hl 8 rfl) ?_
      refine lv_iload hx hb dX12_wire_93 (lv_at hl 8 rfl) ?_
      refine lv_bipush (v := (6 : Int32)) hx hb dX12_wire_95 (by decide) ?_
      refine lv_icmp_ne (tgt := 104) hx hb dX12_wire_97 (by decide) (fun c_16 => ?_) (fun c_16 => ?_)
      · replace hF := itf c_16 hF
        refine lv_iconst (v := (0 : Int32)) hx hb dX12_wire_104 (by decide) ?_
        obtain ⟨w_17, e_17, hF⟩ := bnd hF
        refine m_wrI X hH hS e_17 dX12_wire_105 (fun H locs hH hS => ?_)
        refine lv_iinc (v := v8 + (1 : Int32)) (lv' := [(8, .int (v8 + (1 : Int32))), (0, .ref (base + p0)), (1, .int v1), (2, .int v2), (3, .int v3), (4, .int v4), (5, .int v5), (6, .int v6), (7, .int v7)]) hx hb dX12_wire_106 hl (k := 8) rfl (congrArg (fun z => v8 + z) (by decide)) (by decide) rfl (fun ls hl => ?_)
        refine lv_goto (tgt := 80) hx hb dX12_wire_109 (by decide) ?_
        exact ih (v8 + (1 : Int32)) w_17 hF H locs ls hH hS (lv_sub hl [1, 2, 3, 4, 5, 6, 7, 8, 0] rfl)
      · replace hF := itt c_16 hF
        refine lv_iconst (v := (1 : Int32)) hx hb dX12_wire_100 (by decide) ?_
        refine lv_goto (tgt := 105) hx hb dX12_wire_101 (by decide) ?_
        obtain ⟨w_18, e_18, hF⟩ := bnd hF
        refine m_wrI X hH hS e_18 dX12_wire_105 (fun H locs hH hS => ?_)
        refine lv_iinc (v := v8 + (1 : Int32)) (lv' := [(8, .int (v8 + (1 : Int32))), (0, .ref (base + p0)), (1, .int v1), (2, .int v2), (3, .int v3), (4, .int v4), (5, .int v5), (6, .int v6), (7, .int v7)]) hx hb dX12_wire_106 hl (k := 8) rfl (congrArg (fun z => v8 + z) (by decide)) (by decide) rfl (fun ls hl => ?_)
        refine lv_goto (tgt := 80) hx hb dX12_wire_109 (by decide) ?_
        exact ih (v8 + (1 : Int32)) w_18 hF H locs ls hH hS (lv_sub hl [1, 2, 3, 4, 5, 6, 7, 8, 0] rfl)
set_option maxHeartbeats 4000000 in
set_option maxRecDepth 100000 in
theorem l_X12_wire_134 (X : Cx p R s m args c cX12_wire 13 RX12 D cI cT cII 1 22) (hc : cells ≤ R.cells ∧ slots ≤ R.slots) (p0 : Nat) (v1 : Int32) (v2 : Int32) (v3 : Int32) (v4 : Int32) (v5 : Int32) (v6 : Int32) (v7 : Int32) (v8 : Int32) (K_212 : Wd → Option (Int32 × Wd)) (res : Int32 × Wd)
    (hK_212 : ∀  (w : Wd), K_212  w = some res → ∀ (H : Heap) (locs : List Loc) (ls : Array Slot), Hd D cI cT cII base w H → va_S (fun q => base ≤ q) s.heap H locs → lv_has ls 13 [(0, .ref (base + p0)), (1, .int v1), (2, .int v2), (3, .int v3), (4, .int v4), (5, .int v5), (6, .int v6), (7, .int v7), (8, .int v8)] → W p l e R s m args below meth c H locs cells slots Q (F0 m 212 ls [])) :
    ∀ (n : Nat) (v9 : Int32) (v10 : Int32) (w : Wd), fX12_wire_134 p0 v1 v2 v3 v4 v5 v6 v7 v8 K_212 n v9 v10 w = some res → ∀ (H : Heap) (locs : List Loc) (ls : Array Slot), Hd D cI cT cII base w H → va_S (fun q => base ≤ q) s.heap H locs → lv_has ls 13 [(0, .ref (base + p0)), (1, .int v1), (2, .int v2), (3, .int v3), (4, .int v4), (5, .int v5), (6, .int v6), (7, .int v7), (8, .int v8), (9, .int v9), (10, .int v10)] → W p l e R s m args below meth c H locs cells slots Q (F0 m 134 ls []) := by
  have hx := X.1
  have hb := X.2.1
  intro n
  induction n with
  | zero =>
    intro v9 v10 w hF
    rw [fX12_wire_134] at hF
    cases hF
  | succ n ih =>
    intro v9 v10 w hF H locs ls hH hS hl
    rw [fX12_wire_134] at hF
    refine lv_iload hx hb dX12_wire_134 (lv_at hl 10 rfl) ?_
    refine lv_bipush (v := (13 : Int32)) hx hb dX12_wire_136 (by decide) ?_
    refine lv_icmp_ge (tgt := 212) hx hb dX12_wire_138 (by decide) (fun c_21 => ?_) (fun c_21 => ?_)
    · replace hF := itt c_21 hF
      exact hK_212  w hF H locs ls hH hS (lv_sub hl [0, 1, 2, 3, 4, 5, 6, 7, 8] rfl)
    · replace hF := itf c_21 hF
      refine lv_iload hx hb dX12_wire_141 (lv_at hl 9 rfl) ?_
      refine lv_iload hx hb dX12_wire_143 (lv_at hl 4 rfl) ?_
      refine lv_imul hx hb dX12_wire_145 ?_
      refine lv_istore (lv' := [(11, .int (v9 * v4)), (0, .ref (base + p0)), (1, .int v1), (2, .int v2), (3, .int v3), (4, .int v4), (5, .int v5), (6, .int v6), (7, .int v7), (8, .int v8), (9, .int v9), (10, .int v10)]) hx hb dX12_wire_146 hl (by decide) rfl (fun ls hl => ?_)
      refine lv_iload hx hb dX12_wire_148 (lv_at hl 11 rfl) ?_
      refine lv_bipush (v := (12 : Int32)) hx hb dX12_wire_150 (by decide) ?_
      refine lv_icmp_ge (tgt := 170) hx hb dX12_wire_152 (by decide) (fun c_22 => ?_) (fun c_22 => ?_)
      · replace hF := itt c_22 hF
        refine lv_iconst (v := (0 : Int32)) hx hb dX12_wire_170 (by decide) ?_
        refine lv_istore (lv' := [(12, .int (0 : Int32)), (11, .int (v9 * v4)), (0, .ref (base + p0)), (1, .int v1), (2, .int v2), (3, .int v3), (4, .int v4), (5, .int v5), (6, .int v6), (7, .int v7), (8, .int v8), (9, .int v9), (10, .int v10)]) hx hb dX12_wire_171 hl (by decide) rfl (fun ls hl => ?_)
        refine lv_aload_n hx hb dX12_wire_173 rfl (lv_at hl 2 rfl) ?_
        obtain ⟨r_23, e_23, hF⟩ := bnd hF
        refine m_gR X hH e_23 gg_X12_74 dX12_wire_174 ?_
        refine lv_iload hx hb dX12_wire_177 (lv_at hl 12 rfl) ?_
        obtain ⟨x_24, e_24, hF⟩ := bnd hF
        refine m_rdI X hH e_24 dX12_wire_179 ?_
        refine lv_istore (lv' := [(9, .int x_24), (12, .int (0 : Int32)), (11, .int (v9 * v4)), (0, .ref (base + p0)), (1, .int v1), (2, .int v2), (3, .int v3), (4, .int v4), (5, .int v5), (6, .int v6), (7, .int v7), (8, .int v8), (10, .int v10)]) hx hb dX12_wire_180 hl (by decide) rfl (fun ls hl => ?_)
        refine lv_aload_n hx hb dX12_wire_182 rfl (lv_at hl 3 rfl) ?_
        obtain ⟨r_25, e_25, hF⟩ := bnd hF
        refine m_gR X hH e_25 gg_X12_74 dX12_wire_183 ?_
        refine lv_iload hx hb dX12_wire_186 (lv_at hl 12 rfl) ?_
        refine lv_iload hx hb dX12_wire_188 (lv_at hl 2 rfl) ?_
        refine lv_iload hx hb dX12_wire_190 (lv_at hl 1 rfl) ?_
        refine lv_iadd hx hb dX12_wire_192 ?_
        refine lv_iload hx hb dX12_wire_193 (lv_at hl 0 rfl) ?_
        refine lv_bipush (v := (10 : Int32)) hx hb dX12_wire_195 (by decide) ?_
        refine lv_iload hx hb dX12_wire_197 (lv_at hl 7 rfl) ?_
        refine lv_isub hx hb dX12_wire_199 ?_
        refine lv_iload hx hb dX12_wire_200 (lv_at hl 8 rfl) ?_
        refine lv_isub hx hb dX12_wire_202 ?_
        refine lv_imul hx hb dX12_wire_203 ?_
        refine lv_iadd hx hb dX12_wire_204 ?_
        obtain ⟨w_26, e_26, hF⟩ := bnd hF
        refine m_wrI X hH hS e_26 dX12_wire_205 (fun H locs hH hS => ?_)
        refine lv_iinc (v := v10 + (1 : Int32)) (lv' := [(10, .int (v10 + (1 : Int32))), (9, .int x_24), (12, .int (0 : Int32)), (11, .int (v9 * v4)), (0, .ref (base + p0)), (1, .int v1), (2, .int v2), (3, .int v3), (4, .int v4), (5, .int v5), (6, .int v6), (7, .int v7), (8, .int v8)]) hx hb dX12_wire_206 hl (k := 12) rfl (congrArg (fun z => v10 + z) (by decide)) (by decide) rfl (fun ls hl => ?_)
        refine lv_goto (tgt := 134) hx hb dX12_wire_209 (by decide) ?_
        exact ih x_24 (v10 + (1 : Int32)) w_26 hF H locs ls hH hS (lv_sub hl [4, 5, 6, 7, 8, 9, 10, 11, 12, 1, 0] rfl)
      · replace hF := itf c_22 hF
        refine lv_aload_n hx hb dX12_wire_155 rfl (lv_at hl 1 rfl) ?_
        obtain ⟨r_27, e_27, hF⟩ := bnd hF
        refine m_gR X hH e_27 gg_X12_74 dX12_wire_156 ?_
        refine lv_iload hx hb dX12_wire_159 (lv_at hl 11 rfl) ?_
        refine lv_iconst (v := (1 : Int32)) hx hb dX12_wire_161 (by decide) ?_
        refine lv_iadd hx hb dX12_wire_162 ?_
        obtain ⟨x_28, e_28, hF⟩ := bnd hF
        refine m_rdI X hH e_28 dX12_wire_163 ?_
        refine lv_iload hx hb dX12_wire_164 (lv_at hl 6 rfl) ?_
        refine lv_imul hx hb dX12_wire_166 ?_
        refine lv_goto (tgt := 171) hx hb dX12_wire_167 (by decide) ?_
        refine lv_istore (lv' := [(12, .int (x_28 * v5)), (11, .int (v9 * v4)), (0, .ref (base + p0)), (1, .int v1), (2, .int v2), (3, .int v3), (4, .int v4), (5, .int v5), (6, .int v6), (7, .int v7), (8, .int v8), (9, .int v9), (10, .int v10)]) hx hb dX12_wire_171 hl (by decide) rfl (fun ls hl => ?_)
        refine lv_aload_n hx hb dX12_wire_173 rfl (lv_at hl 2 rfl) ?_
        obtain ⟨r_29, e_29, hF⟩ := bnd hF
        refine m_gR X hH e_29 gg_X12_74 dX12_wire_174 ?_
        refine lv_iload hx hb dX12_wire_177 (lv_at hl 12 rfl) ?_
        obtain ⟨x_30, e_30, hF⟩ := bnd hF
        refine m_rdI X hH e_30 dX12_wire_179 ?_
        refine lv_istore (lv' := [(9, .int x_30), (12, .int (x_28 * v5)), (11, .int (v9 * v4)), (0, .ref (base + p0)), (1, .int v1), (2, .int v2), (3, .int v3), (4, .int v4), (5, .int v5), (6, .int v6), (7, .int v7), (8, .int v8), (10, .int v10)]) hx hb dX12_wire_180 hl (by decide) rfl (fun ls hl => ?_)
        refine lv_aload_n hx hb dX12_wire_182 rfl (lv_at hl 3 rfl) ?_
        obtain ⟨r_31, e_31, hF⟩ := bnd hF
        refine m_gR X hH e_31 gg_X12_74 dX12_wire_183 ?_
        refine lv_iload hx hb dX12_wire_186 (lv_at hl 12 rfl) ?_
        refine lv_iload hx hb dX12_wire_188 (lv_at hl 2 rfl) ?_
        refine lv_iload hx hb dX12_wire_190 (lv_at hl 1 rfl) ?_
        refine lv_iadd hx hb dX12_wire_192 ?_
        refine lv_iload hx hb dX12_wire_193 (lv_at hl 0 rfl) ?_
        refine lv_bipush (v := (10 : Int32)) hx hb dX12_wire_195 (by decide) ?_
        refine lv_iload hx hb dX12_wire_197 (lv_at hl 7 rfl) ?_
        refine lv_isub hx hb dX12_wire_199 ?_
        refine lv_iload hx hb dX12_wire_200 (lv_at hl 8 rfl) ?_
        refine lv_isub hx hb dX12_wire_202 ?_
        refine lv_imul hx hb dX12_wire_203 ?_
        refine lv_iadd hx hb dX12_wire_204 ?_
        obtain ⟨w_32, e_32, hF⟩ := bnd hF
        refine m_wrI X hH hS e_32 dX12_wire_205 (fun H locs hH hS => ?_)
        refine lv_iinc (v := v10 + (1 : Int32)) (lv' := [(10, .int (v10 + (1 : Int32))), (9, .int x_30), (12, .int (x_28 * v5)), (11, .int (v9 * v4)), (0, .ref (base + p0)), (1, .int v1), (2, .int v2), (3, .int v3), (4, .int v4), (5, .int v5), (6, .int v6), (7, .int v7), (8, .int v8)]) hx hb dX12_wire_206 hl (k := 12) rfl (congrArg (fun z => v10 + z) (by decide)) (by decide) rfl (fun ls hl => ?_)
        refine lv_goto (tgt := 134) hx hb dX12_wire_209 (by decide) ?_
        exact ih x_30 (v10 + (1 : Int32)) w_32 hF H locs ls hH hS (lv_sub hl [4, 5, 6, 7, 8, 9, 10, 11, 12, 1, 0] rfl)
set_option maxHeartbeats 4000000 in
set_option maxRecDepth 100000 in
theorem l_X12_wire_115 (X : Cx p R s m args c cX12_wire 13 RX12 D cI cT cII 1 22) (hc : cells ≤ R.cells ∧ slots ≤ R.slots) (p0 : Nat) (v1 : Int32) (v2 : Int32) (v3 : Int32) (v4 : Int32) (v5 : Int32) (v6 : Int32) (K_218 : Int32 → Wd → Option (Int32 × Wd)) (res : Int32 × Wd)
    (hK_218 : ∀ (z7 : Int32) (w : Wd), K_218 z7 w = some res → ∀ (H : Heap) (locs : List Loc) (ls : Array Slot), Hd D cI cT cII base w H → va_S (fun q => base ≤ q) s.heap H locs → lv_has ls 13 [(0, .ref (base + p0)), (1, .int v1), (2, .int v2), (6, .int v6), (7, .int z7)] → W p l e R s m args below meth c H locs cells slots Q (F0 m 218 ls [])) :
    ∀ (n : Nat) (v7 : Int32) (v8 : Int32) (w : Wd), fX12_wire_115 p0 v1 v2 v3 v4 v5 v6 K_218 n v7 v8 w = some res → ∀ (H : Heap) (locs : List Loc) (ls : Array Slot), Hd D cI cT cII base w H → va_S (fun q => base ≤ q) s.heap H locs → lv_has ls 13 [(0, .ref (base + p0)), (1, .int v1), (2, .int v2), (3, .int v3), (4, .int v4), (5, .int v5), (6, .int v6), (7, .int v7), (8, .int v8)] → W p l e R s m args below meth c H locs cells slots Q (F0 m 115 ls []) := by
  have hx := X.1
  have hb := X.2.1
  intro n
  induction n with
  | zero =>
    intro v7 v8 w hF
    rw [fX12_wire_115] at hF
    cases hF
  | succ n ih =>
    intro v7 v8 w hF H locs ls hH hS hl
    rw [fX12_wire_115] at hF
    refine lv_iload hx hb dX12_wire_115 (lv_at hl 8 rfl) ?_
    refine lv_iload_n hx hb dX12_wire_117 rfl (lv_at hl 3 rfl) ?_
    refine lv_icmp_ge (tgt := 218) hx hb dX12_wire_118 (by decide) (fun c_20 => ?_) (fun c_20 => ?_)
    · replace hF := itt c_20 hF
      exact hK_218 v7 w hF H locs ls hH hS (lv_sub hl [0, 1, 2, 6, 7] rfl)
    · replace hF := itf c_20 hF
      refine lv_iload hx hb dX12_wire_121 (lv_at hl 7 rfl) ?_
      refine lv_bipush (v := (10 : Int32)) hx hb dX12_wire_123 (by decide) ?_
      refine lv_imul hx hb dX12_wire_125 ?_
      refine lv_istore (lv' := [(7, .int (v7 * (10 : Int32))), (0, .ref (base + p0)), (1, .int v1), (2, .int v2), (3, .int v3), (4, .int v4), (5, .int v5), (6, .int v6), (8, .int v8)]) hx hb dX12_wire_126 hl (by decide) rfl (fun ls hl => ?_)
      refine lv_iconst (v := (0 : Int32)) hx hb dX12_wire_128 (by decide) ?_
      refine lv_istore (lv' := [(9, .int (0 : Int32)), (7, .int (v7 * (10 : Int32))), (0, .ref (base + p0)), (1, .int v1), (2, .int v2), (3, .int v3), (4, .int v4), (5, .int v5), (6, .int v6), (8, .int v8)]) hx hb dX12_wire_129 hl (by decide) rfl (fun ls hl => ?_)
      refine lv_iconst (v := (0 : Int32)) hx hb dX12_wire_131 (by decide) ?_
      refine lv_istore (lv' := [(10, .int (0 : Int32)), (9, .int (0 : Int32)), (7, .int (v7 * (10 : Int32))), (0, .ref (base + p0)), (1, .int v1), (2, .int v2), (3, .int v3), (4, .int v4), (5, .int v5), (6, .int v6), (8, .int v8)]) hx hb dX12_wire_132 hl (by decide) rfl (fun ls hl => ?_)
      refine l_X12_wire_134 X hc p0 v1 v2 v3 v4 v5 v6 (v7 * (10 : Int32)) v8 _ res ?_ FV (0 : Int32) (0 : Int32) w hF H locs ls hH hS (lv_sub hl [3, 4, 5, 6, 7, 8, 9, 2, 10, 1, 0] rfl)
      · intro  w_33 hF H locs ls hH hS hl
        refine lv_iinc (v := v8 + (1 : Int32)) (lv' := [(8, .int (v8 + (1 : Int32))), (0, .ref (base + p0)), (1, .int v1), (2, .int v2), (3, .int v3), (4, .int v4), (5, .int v5), (6, .int v6), (7, .int (v7 * (10 : Int32)))]) hx hb dX12_wire_212 hl (k := 8) rfl (congrArg (fun z => v8 + z) (by decide)) (by decide) rfl (fun ls hl => ?_)
        refine lv_goto (tgt := 115) hx hb dX12_wire_215 (by decide) ?_
        exact ih (v7 * (10 : Int32)) (v8 + (1 : Int32)) w_33 hF H locs ls hH hS (lv_sub hl [1, 2, 3, 4, 5, 6, 7, 8, 0] rfl)
set_option maxHeartbeats 4000000 in
set_option maxRecDepth 100000 in
theorem l_X12_wire_224 (X : Cx p R s m args c cX12_wire 13 RX12 D cI cT cII 1 22) (hc : cells ≤ R.cells ∧ slots ≤ R.slots) (p0 : Nat) (v1 : Int32) (v2 : Int32) (v6 : Int32) (v7 : Int32) (K_270 : Int32 → Wd → Option (Int32 × Wd)) (res : Int32 × Wd)
    (hK_270 : ∀ (z8 : Int32) (w : Wd), K_270 z8 w = some res → ∀ (H : Heap) (locs : List Loc) (ls : Array Slot), Hd D cI cT cII base w H → va_S (fun q => base ≤ q) s.heap H locs → lv_has ls 13 [(6, .int v6), (7, .int v7), (8, .int z8)] → W p l e R s m args below meth c H locs cells slots Q (F0 m 270 ls [])) :
    ∀ (n : Nat) (v8 : Int32) (v9 : Int32) (w : Wd), fX12_wire_224 p0 v1 v2 v6 v7 K_270 n v8 v9 w = some res → ∀ (H : Heap) (locs : List Loc) (ls : Array Slot), Hd D cI cT cII base w H → va_S (fun q => base ≤ q) s.heap H locs → lv_has ls 13 [(0, .ref (base + p0)), (1, .int v1), (2, .int v2), (6, .int v6), (7, .int v7), (8, .int v8), (9, .int v9)] → W p l e R s m args below meth c H locs cells slots Q (F0 m 224 ls []) := by
  have hx := X.1
  have hb := X.2.1
  intro n
  induction n with
  | zero =>
    intro v8 v9 w hF
    rw [fX12_wire_224] at hF
    cases hF
  | succ n ih =>
    intro v8 v9 w hF H locs ls hH hS hl
    rw [fX12_wire_224] at hF
    refine lv_iload hx hb dX12_wire_224 (lv_at hl 6 rfl) ?_
    refine lv_bipush (v := (13 : Int32)) hx hb dX12_wire_226 (by decide) ?_
    refine lv_icmp_ge (tgt := 270) hx hb dX12_wire_228 (by decide) (fun c_36 => ?_) (fun c_36 => ?_)
    · replace hF := itt c_36 hF
      exact hK_270 v8 w hF H locs ls hH hS (lv_sub hl [3, 4, 5] rfl)
    · replace hF := itf c_36 hF
      refine lv_iload hx hb dX12_wire_231 (lv_at hl 5 rfl) ?_
      refine lv_iload_n hx hb dX12_wire_233 rfl (lv_at hl 1 rfl) ?_
      refine lv_bipush (v := (20 : Int32)) hx hb dX12_wire_234 (by decide) ?_
      refine lv_isub hx hb dX12_wire_236 ?_
      refine lv_iload hx hb dX12_wire_237 (lv_at hl 6 rfl) ?_
      refine lv_iadd hx hb dX12_wire_239 ?_
      refine lv_bipush (v := (6 : Int32)) hx hb dX12_wire_240 (by decide) ?_
      refine lv_isub hx hb dX12_wire_242 ?_
      obtain ⟨q_37, e_37, hF⟩ := bnd hF
      refine m_callS (As := [.int (((v1 - (20 : Int32)) + v9) - (6 : Int32))]) (rest := [.int v8]) X hH hS hl.1 (k_X12_size l D cI cT cII base (((v1 - (20 : Int32)) + v9) - (6 : Int32)) w q_37 e_37) q_X12_size kw_1077 kw_1078 rfl rfl (Nat.le_of_ble_eq_true rfl) ⟨by decide, by decide⟩ hc dX12_wire_243 (fun H locs hH hS => W.eq (g2 := F0 m 246 ls [.int q_37.1, .int v8]) rfl ?_)
      refine lv_iload_n hx hb dX12_wire_246 rfl (lv_at hl 2 rfl) ?_
      refine lv_icmp_gt (tgt := 260) hx hb dX12_wire_247 (by decide) (fun c_38 => ?_) (fun c_38 => ?_)
      · replace hF := itt c_38 hF
        refine lv_iconst (v := (0 : Int32)) hx hb dX12_wire_260 (by decide) ?_
        refine lv_iadd hx hb dX12_wire_261 ?_
        refine lv_istore (lv' := [(8, .int (v8 + (0 : Int32))), (0, .ref (base + p0)), (1, .int v1), (2, .int v2), (6, .int v6), (7, .int v7), (9, .int v9)]) hx hb dX12_wire_262 hl (by decide) rfl (fun ls hl => ?_)
        refine lv_iinc (v := v9 + (1 : Int32)) (lv' := [(9, .int (v9 + (1 : Int32))), (8, .int (v8 + (0 : Int32))), (0, .ref (base + p0)), (1, .int v1), (2, .int v2), (6, .int v6), (7, .int v7)]) hx hb dX12_wire_264 hl (k := 6) rfl (congrArg (fun z => v9 + z) (by decide)) (by decide) rfl (fun ls hl => ?_)
        refine lv_goto (tgt := 224) hx hb dX12_wire_267 (by decide) ?_
        exact ih (v8 + (0 : Int32)) (v9 + (1 : Int32)) q_37.2 hF H locs ls hH hS (lv_sub hl [2, 3, 4, 5, 6, 1, 0] rfl)
      · replace hF := itf c_38 hF
        refine lv_aload_n hx hb dX12_wire_250 rfl (lv_at hl 0 rfl) ?_
        obtain ⟨r_39, e_39, hF⟩ := bnd hF
        refine m_gR X hH e_39 gg_X12_74 dX12_wire_251 ?_
        refine lv_iload hx hb dX12_wire_254 (lv_at hl 6 rfl) ?_
        obtain ⟨x_40, e_40, hF⟩ := bnd hF
        refine m_rdI X hH e_40 dX12_wire_256 ?_
        refine lv_goto (tgt := 261) hx hb dX12_wire_257 (by decide) ?_
        refine lv_iadd hx hb dX12_wire_261 ?_
        refine lv_istore (lv' := [(8, .int (v8 + x_40)), (0, .ref (base + p0)), (1, .int v1), (2, .int v2), (6, .int v6), (7, .int v7), (9, .int v9)]) hx hb dX12_wire_262 hl (by decide) rfl (fun ls hl => ?_)
        refine lv_iinc (v := v9 + (1 : Int32)) (lv' := [(9, .int (v9 + (1 : Int32))), (8, .int (v8 + x_40)), (0, .ref (base + p0)), (1, .int v1), (2, .int v2), (6, .int v6), (7, .int v7)]) hx hb dX12_wire_264 hl (k := 6) rfl (congrArg (fun z => v9 + z) (by decide)) (by decide) rfl (fun ls hl => ?_)
        refine lv_goto (tgt := 224) hx hb dX12_wire_267 (by decide) ?_
        exact ih (v8 + x_40) (v9 + (1 : Int32)) q_37.2 hF H locs ls hH hS (lv_sub hl [2, 3, 4, 5, 6, 1, 0] rfl)
set_option maxHeartbeats 4000000 in
set_option maxRecDepth 100000 in
theorem l_X12_wire_278 (X : Cx p R s m args c cX12_wire 13 RX12 D cI cT cII 1 22) (hc : cells ≤ R.cells ∧ slots ≤ R.slots) (v6 : Int32) (v7 : Int32) (v8 : Int32) (K_301 : Int32 → Wd → Option (Int32 × Wd)) (res : Int32 × Wd)
    (hK_301 : ∀ (z9 : Int32) (w : Wd), K_301 z9 w = some res → ∀ (H : Heap) (locs : List Loc) (ls : Array Slot), Hd D cI cT cII base w H → va_S (fun q => base ≤ q) s.heap H locs → lv_has ls 13 [(6, .int v6), (7, .int v7), (8, .int v8), (9, .int z9)] → W p l e R s m args below meth c H locs cells slots Q (F0 m 301 ls [])) :
    ∀ (n : Nat) (v9 : Int32) (v10 : Int32) (w : Wd), fX12_wire_278 v6 v7 v8 K_301 n v9 v10 w = some res → ∀ (H : Heap) (locs : List Loc) (ls : Array Slot), Hd D cI cT cII base w H → va_S (fun q => base ≤ q) s.heap H locs → lv_has ls 13 [(6, .int v6), (7, .int v7), (8, .int v8), (9, .int v9), (10, .int v10)] → W p l e R s m args below meth c H locs cells slots Q (F0 m 278 ls []) := by
  have hx := X.1
  have hb := X.2.1
  intro n
  induction n with
  | zero =>
    intro v9 v10 w hF
    rw [fX12_wire_278] at hF
    cases hF
  | succ n ih =>
    intro v9 v10 w hF H locs ls hH hS hl
    rw [fX12_wire_278] at hF
    refine lv_iload hx hb dX12_wire_278 (lv_at hl 4 rfl) ?_
    refine lv_if_le (tgt := 301) hx hb dX12_wire_280 (by decide) (fun c_43 => ?_) (fun c_43 => ?_)
    · replace hF := itt c_43 hF
      exact hK_301 v9 w hF H locs ls hH hS (lv_sub hl [0, 1, 2, 3] rfl)
    · replace hF := itf c_43 hF
      refine lv_iload hx hb dX12_wire_283 (lv_at hl 3 rfl) ?_
      refine lv_iload hx hb dX12_wire_285 (lv_at hl 4 rfl) ?_
      obtain ⟨x_44, e_44, hF⟩ := bnd hF
      refine m_irem X e_44 dX12_wire_287 ?_
      refine lv_istore (lv' := [(11, .int x_44), (6, .int v6), (7, .int v7), (8, .int v8), (9, .int v9), (10, .int v10)]) hx hb dX12_wire_288 hl (by decide) rfl (fun ls hl => ?_)
      refine lv_iload hx hb dX12_wire_290 (lv_at hl 5 rfl) ?_
      refine lv_istore (lv' := [(9, .int v10), (11, .int x_44), (6, .int v6), (7, .int v7), (8, .int v8), (10, .int v10)]) hx hb dX12_wire_292 hl (by decide) rfl (fun ls hl => ?_)
      refine lv_iload hx hb dX12_wire_294 (lv_at hl 1 rfl) ?_
      refine lv_istore (lv' := [(10, .int x_44), (9, .int v10), (11, .int x_44), (6, .int v6), (7, .int v7), (8, .int v8)]) hx hb dX12_wire_296 hl (by decide) rfl (fun ls hl => ?_)
      refine lv_goto (tgt := 278) hx hb dX12_wire_298 (by decide) ?_
      exact ih v10 x_44 w hF H locs ls hH hS (lv_sub hl [3, 4, 5, 1, 0] rfl)
set_option maxHeartbeats 4000000 in
set_option maxRecDepth 100000 in
theorem k_X12_wire (l : Launch) (D : va_G) (cI cT cII : ClassId) (base : Nat) (p0 : Nat) (v1 : Int32) (v2 : Int32) (v3 : Int32) (v4 : Int32) (v5 : Int32) (v6 : Int32) (w : Wd) (res : Int32 × Wd) (hF : fX12_wire p0 v1 v2 v3 v4 v5 v6 w = some res) : Ct l yX12_wire cX12_wire 13 (some .int) { frames := 1, cells := 0, slots := 0, locals := 22 } D cI cT cII base [.ref (base + p0), .int v1, .int v2, .int v3, .int v4, .int v5, .int v6] w res.2 (some (.int res.1)) 0 0 := by
  unfold fX12_wire at hF
  refine m_enter (by decide) (Nat.le_of_ble_eq_true rfl) ?_
  intro p e s m below meth c ls X hr hlk hnm hH hS hl
  have hx := X.1
  have hb := X.2.1
  have hc : (0 : Nat) ≤ ({ frames := 1, cells := 0, slots := 0, locals := 22 } : Room).cells ∧ (0 : Nat) ≤ ({ frames := 1, cells := 0, slots := 0, locals := 22 } : Room).slots := ⟨Nat.zero_le _, Nat.zero_le _⟩
  obtain ⟨H, hHe⟩ : ∃ H : Heap, H = s.heap := ⟨_, rfl⟩
  obtain ⟨locs, hle⟩ : ∃ L : List Loc, L = [] := ⟨_, rfl⟩
  have hl : lv_has ls 13 [(0, .ref (base + p0)), (1, .int v1), (2, .int v2), (3, .int v3), (4, .int v4), (5, .int v5), (6, .int v6)] := hl
  rw [← hHe] at hH
  have hS : va_S (fun q => base ≤ q) s.heap H locs := by rw [hHe, hle]; exact hS
  rw [← hle]
  show W p l e _ s m _ below meth c s.heap locs 0 0 _ _
  rw [← hHe]
  refine lv_iload_n hx hb dX12_wire_0 rfl (lv_at hl 1 rfl) ?_
  refine lv_iconst (v := (0 : Int32)) hx hb dX12_wire_1 (by decide) ?_
  refine lv_bipush (v := (40 : Int32)) hx hb dX12_wire_2 (by decide) ?_
  obtain ⟨q_1, e_1, hF⟩ := bnd hF
  refine m_callS (As := [.int v1, .int (0 : Int32), .int (40 : Int32)]) (rest := []) X hH hS hl.1 (k_X12_in l D cI cT cII base v1 (0 : Int32) (40 : Int32) w q_1 e_1) q_X12_in kw_951 kw_952 rfl rfl (Nat.le_of_ble_eq_true rfl) ⟨by decide, by decide⟩ hc dX12_wire_4 (fun H locs hH hS => W.eq (g2 := F0 m 7 ls [.int q_1.1]) rfl ?_)
  refine lv_if_eq (tgt := 72) hx hb dX12_wire_7 (by decide) (fun c_2 => ?_) (fun c_2 => ?_)
  · replace hF := itt c_2 hF
    refine lv_iconst (v := (-1 : Int32)) hx hb dX12_wire_72 (by decide) ?_
    have hF := Option.some.inj hF
    subst hF
    exact m_iret X hr hlk hH hS dX12_wire_73
  · replace hF := itf c_2 hF
    refine lv_iload_n hx hb dX12_wire_10 rfl (lv_at hl 2 rfl) ?_
    refine lv_iconst (v := (0 : Int32)) hx hb dX12_wire_11 (by decide) ?_
    refine lv_bipush (v := (20 : Int32)) hx hb dX12_wire_12 (by decide) ?_
    obtain ⟨q_3, e_3, hF⟩ := bnd hF
    refine m_callS (As := [.int v2, .int (0 : Int32), .int (20 : Int32)]) (rest := []) X hH hS hl.1 (k_X12_in l D cI cT cII base v2 (0 : Int32) (20 : Int32) q_1.2 q_3 e_3) q_X12_in kw_951 kw_952 rfl rfl (Nat.le_of_ble_eq_true rfl) ⟨by decide, by decide⟩ hc dX12_wire_14 (fun H locs hH hS => W.eq (g2 := F0 m 17 ls [.int q_3.1]) rfl ?_)
    refine lv_if_eq (tgt := 72) hx hb dX12_wire_17 (by decide) (fun c_4 => ?_) (fun c_4 => ?_)
    · replace hF := itt c_4 hF
      refine lv_iconst (v := (-1 : Int32)) hx hb dX12_wire_72 (by decide) ?_
      have hF := Option.some.inj hF
      subst hF
      exact m_iret X hr hlk hH hS dX12_wire_73
    · replace hF := itf c_4 hF
      refine lv_iload_n hx hb dX12_wire_20 rfl (lv_at hl 3 rfl) ?_
      refine lv_iconst (v := (0 : Int32)) hx hb dX12_wire_21 (by decide) ?_
      refine lv_bipush (v := (6 : Int32)) hx hb dX12_wire_22 (by decide) ?_
      obtain ⟨q_5, e_5, hF⟩ := bnd hF
      refine m_callS (As := [.int v3, .int (0 : Int32), .int (6 : Int32)]) (rest := []) X hH hS hl.1 (k_X12_in l D cI cT cII base v3 (0 : Int32) (6 : Int32) q_3.2 q_5 e_5) q_X12_in kw_951 kw_952 rfl rfl (Nat.le_of_ble_eq_true rfl) ⟨by decide, by decide⟩ hc dX12_wire_24 (fun H locs hH hS => W.eq (g2 := F0 m 27 ls [.int q_5.1]) rfl ?_)
      refine lv_if_eq (tgt := 72) hx hb dX12_wire_27 (by decide) (fun c_6 => ?_) (fun c_6 => ?_)
      · replace hF := itt c_6 hF
        refine lv_iconst (v := (-1 : Int32)) hx hb dX12_wire_72 (by decide) ?_
        have hF := Option.some.inj hF
        subst hF
        exact m_iret X hr hlk hH hS dX12_wire_73
      · replace hF := itf c_6 hF
        refine lv_iload hx hb dX12_wire_30 (lv_at hl 4 rfl) ?_
        refine lv_iconst (v := (0 : Int32)) hx hb dX12_wire_32 (by decide) ?_
        refine lv_bipush (v := (10 : Int32)) hx hb dX12_wire_33 (by decide) ?_
        obtain ⟨q_7, e_7, hF⟩ := bnd hF
        refine m_callS (As := [.int v4, .int (0 : Int32), .int (10 : Int32)]) (rest := []) X hH hS hl.1 (k_X12_in l D cI cT cII base v4 (0 : Int32) (10 : Int32) q_5.2 q_7 e_7) q_X12_in kw_951 kw_952 rfl rfl (Nat.le_of_ble_eq_true rfl) ⟨by decide, by decide⟩ hc dX12_wire_35 (fun H locs hH hS => W.eq (g2 := F0 m 38 ls [.int q_7.1]) rfl ?_)
        refine lv_if_eq (tgt := 72) hx hb dX12_wire_38 (by decide) (fun c_8 => ?_) (fun c_8 => ?_)
        · replace hF := itt c_8 hF
          refine lv_iconst (v := (-1 : Int32)) hx hb dX12_wire_72 (by decide) ?_
          have hF := Option.some.inj hF
          subst hF
          exact m_iret X hr hlk hH hS dX12_wire_73
        · replace hF := itf c_8 hF
          refine lv_iload hx hb dX12_wire_41 (lv_at hl 5 rfl) ?_
          refine lv_iconst (v := (0 : Int32)) hx hb dX12_wire_43 (by decide) ?_
          refine lv_bipush (v := (10 : Int32)) hx hb dX12_wire_44 (by decide) ?_
          obtain ⟨q_9, e_9, hF⟩ := bnd hF
          refine m_callS (As := [.int v5, .int (0 : Int32), .int (10 : Int32)]) (rest := []) X hH hS hl.1 (k_X12_in l D cI cT cII base v5 (0 : Int32) (10 : Int32) q_7.2 q_9 e_9) q_X12_in kw_951 kw_952 rfl rfl (Nat.le_of_ble_eq_true rfl) ⟨by decide, by decide⟩ hc dX12_wire_46 (fun H locs hH hS => W.eq (g2 := F0 m 49 ls [.int q_9.1]) rfl ?_)
          refine lv_if_eq (tgt := 72) hx hb dX12_wire_49 (by decide) (fun c_10 => ?_) (fun c_10 => ?_)
          · replace hF := itt c_10 hF
            refine lv_iconst (v := (-1 : Int32)) hx hb dX12_wire_72 (by decide) ?_
            have hF := Option.some.inj hF
            subst hF
            exact m_iret X hr hlk hH hS dX12_wire_73
          · replace hF := itf c_10 hF
            refine lv_iload hx hb dX12_wire_52 (lv_at hl 4 rfl) ?_
            refine lv_iload hx hb dX12_wire_54 (lv_at hl 5 rfl) ?_
            refine lv_iadd hx hb dX12_wire_56 ?_
            refine lv_bipush (v := (10 : Int32)) hx hb dX12_wire_57 (by decide) ?_
            refine lv_icmp_gt (tgt := 72) hx hb dX12_wire_59 (by decide) (fun c_11 => ?_) (fun c_11 => ?_)
            · replace hF := itt c_11 hF
              refine lv_iconst (v := (-1 : Int32)) hx hb dX12_wire_72 (by decide) ?_
              have hF := Option.some.inj hF
              subst hF
              exact m_iret X hr hlk hH hS dX12_wire_73
            · replace hF := itf c_11 hF
              refine lv_iload hx hb dX12_wire_62 (lv_at hl 6 rfl) ?_
              refine lv_iconst (v := (0 : Int32)) hx hb dX12_wire_64 (by decide) ?_
              refine lv_iconst (v := (1 : Int32)) hx hb dX12_wire_65 (by decide) ?_
              obtain ⟨q_12, e_12, hF⟩ := bnd hF
              refine m_callS (As := [.int v6, .int (0 : Int32), .int (1 : Int32)]) (rest := []) X hH hS hl.1 (k_X12_in l D cI cT cII base v6 (0 : Int32) (1 : Int32) q_9.2 q_12 e_12) q_X12_in kw_951 kw_952 rfl rfl (Nat.le_of_ble_eq_true rfl) ⟨by decide, by decide⟩ hc dX12_wire_66 (fun H locs hH hS => W.eq (g2 := F0 m 69 ls [.int q_12.1]) rfl ?_)
              refine lv_if_ne (tgt := 74) hx hb dX12_wire_69 (by decide) (fun c_13 => ?_) (fun c_13 => ?_)
              · replace hF := itf c_13 hF
                refine lv_iconst (v := (1 : Int32)) hx hb dX12_wire_74 (by decide) ?_
                refine lv_istore (lv' := [(7, .int (1 : Int32)), (0, .ref (base + p0)), (1, .int v1), (2, .int v2), (3, .int v3), (4, .int v4), (5, .int v5), (6, .int v6)]) hx hb dX12_wire_75 hl (by decide) rfl (fun ls hl => ?_)
                refine lv_iconst (v := (0 : Int32)) hx hb dX12_wire_77 (by decide) ?_
                refine lv_istore (lv' := [(8, .int (0 : Int32)), (7, .int (1 : Int32)), (0, .ref (base + p0)), (1, .int v1), (2, .int v2), (3, .int v3), (4, .int v4), (5, .int v5), (6, .int v6)]) hx hb dX12_wire_78 hl (by decide) rfl (fun ls hl => ?_)
                refine l_X12_wire_80 X hc p0 v1 v2 v3 v4 v5 v6 (1 : Int32) _ res ?_ FV (0 : Int32) q_12.2 hF H locs ls hH hS (lv_sub hl [2, 3, 4, 5, 6, 7, 8, 1, 0] rfl)
                · intro  w_19 hF H locs ls hH hS hl
                  refine lv_iconst (v := (0 : Int32)) hx hb dX12_wire_112 (by decide) ?_
                  refine lv_istore (lv' := [(8, .int (0 : Int32)), (0, .ref (base + p0)), (1, .int v1), (2, .int v2), (3, .int v3), (4, .int v4), (5, .int v5), (6, .int v6), (7, .int (1 : Int32))]) hx hb dX12_wire_113 hl (by decide) rfl (fun ls hl => ?_)
                  refine l_X12_wire_115 X hc p0 v1 v2 v3 v4 v5 v6 _ res ?_ FV (1 : Int32) (0 : Int32) w_19 hF H locs ls hH hS (lv_sub hl [1, 2, 3, 4, 5, 6, 7, 8, 0] rfl)
                  · intro v7_35 w_34 hF H locs ls hH hS hl
                    refine lv_iconst (v := (0 : Int32)) hx hb dX12_wire_218 (by decide) ?_
                    refine lv_istore (lv' := [(8, .int (0 : Int32)), (0, .ref (base + p0)), (1, .int v1), (2, .int v2), (6, .int v6), (7, .int v7_35)]) hx hb dX12_wire_219 hl (by decide) rfl (fun ls hl => ?_)
                    refine lv_iconst (v := (0 : Int32)) hx hb dX12_wire_221 (by decide) ?_
                    refine lv_istore (lv' := [(9, .int (0 : Int32)), (8, .int (0 : Int32)), (0, .ref (base + p0)), (1, .int v1), (2, .int v2), (6, .int v6), (7, .int v7_35)]) hx hb dX12_wire_222 hl (by decide) rfl (fun ls hl => ?_)
                    refine l_X12_wire_224 X hc p0 v1 v2 v6 v7_35 _ res ?_ FV (0 : Int32) (0 : Int32) w_34 hF H locs ls hH hS (lv_sub hl [2, 3, 4, 5, 6, 1, 0] rfl)
                    · intro v8_42 w_41 hF H locs ls hH hS hl
                      refine lv_iload hx hb dX12_wire_270 (lv_at hl 2 rfl) ?_
                      refine lv_istore (lv' := [(9, .int v8_42), (6, .int v6), (7, .int v7_35), (8, .int v8_42)]) hx hb dX12_wire_272 hl (by decide) rfl (fun ls hl => ?_)
                      refine lv_iload hx hb dX12_wire_274 (lv_at hl 2 rfl) ?_
                      refine lv_istore (lv' := [(10, .int v7_35), (9, .int v8_42), (6, .int v6), (7, .int v7_35), (8, .int v8_42)]) hx hb dX12_wire_276 hl (by decide) rfl (fun ls hl => ?_)
                      refine l_X12_wire_278 X hc v6 v7_35 v8_42 _ res ?_ FV v8_42 v7_35 w_41 hF H locs ls hH hS (lv_sub hl [2, 3, 4, 1, 0] rfl)
                      · intro v9_46 w_45 hF H locs ls hH hS hl
                        refine lv_iload hx hb dX12_wire_301 (lv_at hl 0 rfl) ?_
                        refine lv_if_ne (tgt := 311) hx hb dX12_wire_303 (by decide) (fun c_47 => ?_) (fun c_47 => ?_)
                        · replace hF := itf c_47 hF
                          refine lv_iload hx hb dX12_wire_311 (lv_at hl 1 rfl) ?_
                          refine lv_iload hx hb dX12_wire_313 (lv_at hl 3 rfl) ?_
                          obtain ⟨x_48, e_48, hF⟩ := bnd hF
                          refine m_idiv X e_48 dX12_wire_315 ?_
                          have hF := Option.some.inj hF
                          subst hF
                          exact m_iret X hr hlk hH hS dX12_wire_316
                        · replace hF := itt c_47 hF
                          refine lv_iload hx hb dX12_wire_306 (lv_at hl 2 rfl) ?_
                          refine lv_goto (tgt := 313) hx hb dX12_wire_308 (by decide) ?_
                          refine lv_iload hx hb dX12_wire_313 (lv_at hl 3 rfl) ?_
                          obtain ⟨x_49, e_49, hF⟩ := bnd hF
                          refine m_idiv X e_49 dX12_wire_315 ?_
                          have hF := Option.some.inj hF
                          subst hF
                          exact m_iret X hr hlk hH hS dX12_wire_316
              · replace hF := itt c_13 hF
                refine lv_iconst (v := (-1 : Int32)) hx hb dX12_wire_72 (by decide) ?_
                have hF := Option.some.inj hF
                subst hF
                exact m_iret X hr hlk hH hS dX12_wire_73
noncomputable def fX12_write (p0 : Nat) (v1 : Int32) (w : Wd) : Option (Int32 × Wd) := (fX12_in v1 (32 : Int32) (126 : Int32) w).bind fun q_1 => if q_1.1 = 0 then some ((-1 : Int32), q_1.2) else (gfI 11 15 p0 q_1.2).bind fun x_3 => if x_3 = (200 : Int32) then some ((-3 : Int32), q_1.2) else (gfR 11 14 p0 q_1.2).bind fun r_5 => (gfI 11 15 p0 q_1.2).bind fun x_6 => (wrI r_5 x_6 v1 q_1.2).bind fun w_7 => (gfI 11 15 p0 w_7).bind fun x_8 => (pfI 11 15 p0 (x_8 + (1 : Int32)) w_7).bind fun w_9 => (gfI 11 15 p0 w_9).bind fun x_10 => some (x_10, w_9)
set_option maxHeartbeats 4000000 in
set_option maxRecDepth 100000 in
theorem k_X12_write (l : Launch) (D : va_G) (cI cT cII : ClassId) (base : Nat) (p0 : Nat) (v1 : Int32) (w : Wd) (res : Int32 × Wd) (hF : fX12_write p0 v1 w = some res) : Ct l yX12_write cX12_write 2 (some .int) { frames := 1, cells := 0, slots := 0, locals := 22 } D cI cT cII base [.ref (base + p0), .int v1] w res.2 (some (.int res.1)) 0 0 := by
  unfold fX12_write at hF
  refine m_enter (by decide) (Nat.le_of_ble_eq_true rfl) ?_
  intro p e s m below meth c ls X hr hlk hnm hH hS hl
  have hx := X.1
  have hb := X.2.1
  have hc : (0 : Nat) ≤ ({ frames := 1, cells := 0, slots := 0, locals := 22 } : Room).cells ∧ (0 : Nat) ≤ ({ frames := 1, cells := 0, slots := 0, locals := 22 } : Room).slots := ⟨Nat.zero_le _, Nat.zero_le _⟩
  obtain ⟨H, hHe⟩ : ∃ H : Heap, H = s.heap := ⟨_, rfl⟩
  obtain ⟨locs, hle⟩ : ∃ L : List Loc, L = [] := ⟨_, rfl⟩
  have hl : lv_has ls 2 [(0, .ref (base + p0)), (1, .int v1)] := hl
  rw [← hHe] at hH
  have hS : va_S (fun q => base ≤ q) s.heap H locs := by rw [hHe, hle]; exact hS
  rw [← hle]
  show W p l e _ s m _ below meth c s.heap locs 0 0 _ _
  rw [← hHe]
  refine lv_iload_n hx hb dX12_write_0 rfl (lv_at hl 1 rfl) ?_
  refine lv_bipush (v := (32 : Int32)) hx hb dX12_write_1 (by decide) ?_
  refine lv_bipush (v := (126 : Int32)) hx hb dX12_write_3 (by decide) ?_
  obtain ⟨q_1, e_1, hF⟩ := bnd hF
  refine m_callS (As := [.int v1, .int (32 : Int32), .int (126 : Int32)]) (rest := []) X hH hS hl.1 (k_X12_in l D cI cT cII base v1 (32 : Int32) (126 : Int32) w q_1 e_1) q_X12_in kw_951 kw_952 rfl rfl (Nat.le_of_ble_eq_true rfl) ⟨by decide, by decide⟩ hc dX12_write_5 (fun H locs hH hS => W.eq (g2 := F0 m 8 ls [.int q_1.1]) rfl ?_)
  refine lv_if_ne (tgt := 13) hx hb dX12_write_8 (by decide) (fun c_2 => ?_) (fun c_2 => ?_)
  · replace hF := itf c_2 hF
    refine lv_aload_n hx hb dX12_write_13 rfl (lv_at hl 0 rfl) ?_
    obtain ⟨x_3, e_3, hF⟩ := bnd hF
    refine m_gI X hH e_3 gg_X12_91 dX12_write_14 ?_
    refine lv_sipush (v := (200 : Int32)) hx hb dX12_write_17 (by decide) ?_
    refine lv_icmp_ne (tgt := 26) hx hb dX12_write_20 (by decide) (fun c_4 => ?_) (fun c_4 => ?_)
    · replace hF := itf c_4 hF
      refine lv_aload_n hx hb dX12_write_26 rfl (lv_at hl 0 rfl) ?_
      obtain ⟨r_5, e_5, hF⟩ := bnd hF
      refine m_gR X hH e_5 gg_X12_44 dX12_write_27 ?_
      refine lv_aload_n hx hb dX12_write_30 rfl (lv_at hl 0 rfl) ?_
      obtain ⟨x_6, e_6, hF⟩ := bnd hF
      refine m_gI X hH e_6 gg_X12_91 dX12_write_31 ?_
      refine lv_iload_n hx hb dX12_write_34 rfl (lv_at hl 1 rfl) ?_
      obtain ⟨w_7, e_7, hF⟩ := bnd hF
      refine m_wrI X hH hS e_7 dX12_write_35 (fun H locs hH hS => ?_)
      refine lv_aload_n hx hb dX12_write_36 rfl (lv_at hl 0 rfl) ?_
      refine lv_dup hx hb dX12_write_37 rfl ?_
      obtain ⟨x_8, e_8, hF⟩ := bnd hF
      refine m_gI X hH e_8 gg_X12_91 dX12_write_38 ?_
      refine lv_iconst (v := (1 : Int32)) hx hb dX12_write_41 (by decide) ?_
      refine lv_iadd hx hb dX12_write_42 ?_
      obtain ⟨w_9, e_9, hF⟩ := bnd hF
      refine m_pI X hH hS e_9 gp_X12_91 rfl rfl dX12_write_43 (fun H locs hH hS => ?_)
      refine lv_aload_n hx hb dX12_write_46 rfl (lv_at hl 0 rfl) ?_
      obtain ⟨x_10, e_10, hF⟩ := bnd hF
      refine m_gI X hH e_10 gg_X12_91 dX12_write_47 ?_
      have hF := Option.some.inj hF
      subst hF
      exact m_iret X hr hlk hH hS dX12_write_50
    · replace hF := itt c_4 hF
      refine lv_bipush (v := (-3 : Int32)) hx hb dX12_write_23 (by decide) ?_
      have hF := Option.some.inj hF
      subst hF
      exact m_iret X hr hlk hH hS dX12_write_25
  · replace hF := itt c_2 hF
    refine lv_iconst (v := (-1 : Int32)) hx hb dX12_write_11 (by decide) ?_
    have hF := Option.some.inj hF
    subst hF
    exact m_iret X hr hlk hH hS dX12_write_12
end M11
