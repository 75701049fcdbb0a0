section M09
variable {p : Program} {l : Launch} {e : Env} {R : Room} {s : State} {m : MethodId} {args : Array Value} {below : List Frame} {meth : Method} {c : Code} {cells slots : Nat} {Q : State → Prop} {D : va_G} {cI cT cII : ClassId} {base : Nat}
noncomputable def fX12_hang_18 (p0 : Nat) (v1 : Int32) (K_90 : Int32 → Int32 → Wd → Option (Int32 × Wd)) : Nat → Int32 → Int32 → Int32 → Wd → Option (Int32 × Wd)
  | 0, _, _, _, _ => none
  | n + 1, v2, v3, v4, w => (gfI 11 0 p0 w).bind fun x_3 => if x_3 ≤ v4 then K_90 v2 v3 w else (gfR 11 1 p0 w).bind fun r_5 => (rdI r_5 (((4 : Int32) * v4) + (1 : Int32)) w).bind fun x_6 => (fX12_size x_6 w).bind fun q_7 => (gfR 11 1 p0 q_7.2).bind fun r_8 => (rdI r_8 ((4 : Int32) * v4) q_7.2).bind fun x_9 => (isO 11 p0 q_7.2).bind fun u_10 => (fX12_borne p0 x_9 q_7.2).bind fun q_11 => if (q_7.1 - q_11.1) ≤ 0 then if (q_7.1 - q_11.1) ≤ 0 then fX12_hang_18 p0 v1 K_90 n (v2 + (0 : Int32)) (v3 + (0 : Int32)) (v4 + (1 : Int32)) q_11.2 else fX12_hang_18 p0 v1 K_90 n (v2 + (0 : Int32)) (v3 + (1 : Int32)) (v4 + (1 : Int32)) q_11.2 else if (q_7.1 - q_11.1) ≤ 0 then fX12_hang_18 p0 v1 K_90 n (v2 + (q_7.1 - q_11.1)) (v3 + (0 : Int32)) (v4 + (1 : Int32)) q_11.2 else fX12_hang_18 p0 v1 K_90 n (v2 + (q_7.1 - q_11.1)) (v3 + (1 : Int32)) (v4 + (1 : Int32)) q_11.2
noncomputable def fX12_hang (p0 : Nat) (v1 : Int32) (w : Wd) : Option (Int32 × Wd) := (fX12_in v1 (0 : Int32) (1 : Int32) w).bind fun q_1 => if q_1.1 = 0 then some ((-1 : Int32), q_1.2) else fX12_hang_18 p0 v1 (fun (v2_16 : Int32) (v3_17 : Int32) (w_15 : Wd) => if v1 = 0 then some (v2_16, w_15) else some (v3_17, w_15)) FV (0 : Int32) (0 : Int32) (0 : Int32) q_1.2
set_option maxHeartbeats 4000000 in
set_option maxRecDepth 100000 in
theorem l_X12_hang_18 (X : Cx p R s m args c cX12_hang 6 RX12 D cI cT cII 1 25) (hc : cells ≤ R.cells ∧ slots ≤ R.slots) (p0 : Nat) (v1 : Int32) (K_90 : Int32 → Int32 → Wd → Option (Int32 × Wd)) (res : Int32 × Wd)
    (hK_90 : ∀ (z2 : Int32) (z3 : Int32) (w : Wd), K_90 z2 z3 w = some res → ∀ (H : Heap) (locs : List Loc) (ls : Array Slot), Hd D cI cT cII base w H → va_S (fun q => base ≤ q) s.heap H locs → lv_has ls 6 [(1, .int v1), (2, .int z2), (3, .int z3)] → W p l e R s m args below meth c H locs cells slots Q (F0 m 90 ls [])) :
    ∀ (n : Nat) (v2 : Int32) (v3 : Int32) (v4 : Int32) (w : Wd), fX12_hang_18 p0 v1 K_90 n v2 v3 v4 w = some res → ∀ (H : Heap) (locs : List Loc) (ls : Array Slot), Hd D cI cT cII base w H → va_S (fun q => base ≤ q) s.heap H locs → lv_has ls 6 [(0, .ref (base + p0)), (1, .int v1), (2, .int v2), (3, .int v3), (4, .int v4)] → W p l e R s m args below meth c H locs cells slots Q (F0 m 18 ls []) := by
  have hx := X.1
  have hb := X.2.1
  intro n
  induction n with
  | zero =>
    intro v2 v3 v4 w hF
    rw [fX12_hang_18] at hF
    cases hF
  | succ n ih =>
    intro v2 v3 v4 w hF H locs ls hH hS hl
    rw [fX12_hang_18] at hF
    refine lv_iload hx hb dX12_hang_18 (lv_at hl 4 rfl) ?_
    refine lv_aload_n hx hb dX12_hang_20 rfl (lv_at hl 0 rfl) ?_
    obtain ⟨x_3, e_3, hF⟩ := bnd hF
    refine m_gI X hH e_3 gg_X12_7 dX12_hang_21 ?_
    refine lv_icmp_ge (tgt := 90) hx hb dX12_hang_24 (by decide) (fun c_4 => ?_) (fun c_4 => ?_)
    · replace hF := itt c_4 hF
      exact hK_90 v2 v3 w hF H locs ls hH hS (lv_sub hl [1, 2, 3] rfl)
    · replace hF := itf c_4 hF
      refine lv_aload_n hx hb dX12_hang_27 rfl (lv_at hl 0 rfl) ?_
      obtain ⟨r_5, e_5, hF⟩ := bnd hF
      refine m_gR X hH e_5 gg_X12_13 dX12_hang_28 ?_
      refine lv_iconst (v := (4 : Int32)) hx hb dX12_hang_31 (by decide) ?_
      refine lv_iload hx hb dX12_hang_32 (lv_at hl 4 rfl) ?_
      refine lv_imul hx hb dX12_hang_34 ?_
      refine lv_iconst (v := (1 : Int32)) hx hb dX12_hang_35 (by decide) ?_
      refine lv_iadd hx hb dX12_hang_36 ?_
      obtain ⟨x_6, e_6, hF⟩ := bnd hF
      refine m_rdI X hH e_6 dX12_hang_37 ?_
      obtain ⟨q_7, e_7, hF⟩ := bnd hF
      refine m_callS (As := [.int x_6]) (rest := []) X hH hS hl.1 (k_X12_size l D cI cT cII base x_6 w q_7 e_7) q_X12_size kw_1077 kw_1078 rfl rfl (Nat.le_of_ble_eq_true rfl) ⟨by decide, by decide⟩ hc dX12_hang_38 (fun H locs hH hS => W.eq (g2 := F0 m 41 ls [.int q_7.1]) rfl ?_)
      refine lv_aload_n hx hb dX12_hang_41 rfl (lv_at hl 0 rfl) ?_
      refine lv_aload_n hx hb dX12_hang_42 rfl (lv_at hl 0 rfl) ?_
      obtain ⟨r_8, e_8, hF⟩ := bnd hF
      refine m_gR X hH e_8 gg_X12_13 dX12_hang_43 ?_
      refine lv_iconst (v := (4 : Int32)) hx hb dX12_hang_46 (by decide) ?_
      refine lv_iload hx hb dX12_hang_47 (lv_at hl 4 rfl) ?_
      refine lv_imul hx hb dX12_hang_49 ?_
      obtain ⟨x_9, e_9, hF⟩ := bnd hF
      refine m_rdI X hH e_9 dX12_hang_50 ?_
      obtain ⟨u_10, ou_10, hF⟩ := bnd hF
      obtain ⟨q_11, e_11, hF⟩ := bnd hF
      refine m_callV (As := [.int x_9]) (rest := [.int q_7.1]) X hH hS hl.1 ou_10 rfl (by decide) (k_X12_borne l D cI cT cII base p0 x_9 q_7.2 q_11 e_11) q_X12_borne kw_1151 kw_1153 kw_50 rfl rfl (Nat.le_of_ble_eq_true rfl) ⟨by decide, by decide⟩ hc dX12_hang_51 (fun H locs hH hS => W.eq (g2 := F0 m 54 ls [.int q_11.1, .int q_7.1]) rfl ?_)
      refine lv_isub hx hb dX12_hang_54 ?_
      refine lv_istore (lv' := [(5, .int (q_7.1 - q_11.1)), (0, .ref (base + p0)), (1, .int v1), (2, .int v2), (3, .int v3), (4, .int v4)]) hx hb dX12_hang_55 hl (by decide) rfl (fun ls hl => ?_)
      refine lv_iload_n hx hb dX12_hang_57 rfl (lv_at hl 3 rfl) ?_
      refine lv_iload hx hb dX12_hang_58 (lv_at hl 0 rfl) ?_
      refine lv_if_le (tgt := 68) hx hb dX12_hang_60 (by decide) (fun c_12 => ?_) (fun c_12 => ?_)
      · replace hF := itt c_12 hF
        refine lv_iconst (v := (0 : Int32)) hx hb dX12_hang_68 (by decide) ?_
        refine lv_iadd hx hb dX12_hang_69 ?_
        refine lv_istore_n (lv' := [(2, .int (v2 + (0 : Int32))), (5, .int (q_7.1 - q_11.1)), (0, .ref (base + p0)), (1, .int v1), (3, .int v3), (4, .int v4)]) hx hb dX12_hang_70 rfl hl (by decide) rfl (fun ls hl => ?_)
        refine lv_iload_n hx hb dX12_hang_71 rfl (lv_at hl 4 rfl) ?_
        refine lv_iload hx hb dX12_hang_72 (lv_at hl 1 rfl) ?_
        refine lv_if_le (tgt := 81) hx hb dX12_hang_74 (by decide) (fun c_13 => ?_) (fun c_13 => ?_)
        · replace hF := itt c_13 hF
          refine lv_iconst (v := (0 : Int32)) hx hb dX12_hang_81 (by decide) ?_
          refine lv_iadd hx hb dX12_hang_82 ?_
          refine lv_istore_n (lv' := [(3, .int (v3 + (0 : Int32))), (2, .int (v2 + (0 : Int32))), (5, .int (q_7.1 - q_11.1)), (0, .ref (base + p0)), (1, .int v1), (4, .int v4)]) hx hb dX12_hang_83 rfl hl (by decide) rfl (fun ls hl => ?_)
          refine lv_iinc (v := v4 + (1 : Int32)) (lv' := [(4, .int (v4 + (1 : Int32))), (3, .int (v3 + (0 : Int32))), (2, .int (v2 + (0 : Int32))), (5, .int (q_7.1 - q_11.1)), (0, .ref (base + p0)), (1, .int v1)]) hx hb dX12_hang_84 hl (k := 5) rfl (congrArg (fun z => v4 + z) (by decide)) (by decide) rfl (fun ls hl => ?_)
          refine lv_goto (tgt := 18) hx hb dX12_hang_87 (by decide) ?_
          exact ih (v2 + (0 : Int32)) (v3 + (0 : Int32)) (v4 + (1 : Int32)) q_11.2 hF H locs ls hH hS (lv_sub hl [4, 5, 2, 1, 0] rfl)
        · replace hF := itf c_13 hF
          refine lv_iconst (v := (1 : Int32)) hx hb dX12_hang_77 (by decide) ?_
          refine lv_goto (tgt := 82) hx hb dX12_hang_78 (by decide) ?_
          refine lv_iadd hx hb dX12_hang_82 ?_
          refine lv_istore_n (lv' := [(3, .int (v3 + (1 : Int32))), (2, .int (v2 + (0 : Int32))), (5, .int (q_7.1 - q_11.1)), (0, .ref (base + p0)), (1, .int v1), (4, .int v4)]) hx hb dX12_hang_83 rfl hl (by decide) rfl (fun ls hl => ?_)
          refine lv_iinc (v := v4 + (1 : Int32)) (lv' := [(4, .int (v4 + (1 : Int32))), (3, .int (v3 + (1 : Int32))), (2, .int (v2 + (0 : Int32))), (5, .int (q_7.1 - q_11.1)), (0, .ref (base + p0)), (1, .int v1)]) hx hb dX12_hang_84 hl (k := 5) rfl (congrArg (fun z => v4 + z) (by decide)) (by decide) rfl (fun ls hl => ?_)
          refine lv_goto (tgt := 18) hx hb dX12_hang_87 (by decide) ?_
          exact ih (v2 + (0 : Int32)) (v3 + (1 : Int32)) (v4 + (1 : Int32)) q_11.2 hF H locs ls hH hS (lv_sub hl [4, 5, 2, 1, 0] rfl)
      · replace hF := itf c_12 hF
        refine lv_iload hx hb dX12_hang_63 (lv_at hl 0 rfl) ?_
        refine lv_goto (tgt := 69) hx hb dX12_hang_65 (by decide) ?_
        refine lv_iadd hx hb dX12_hang_69 ?_
        refine lv_istore_n (lv' := [(2, .int (v2 + (q_7.1 - q_11.1))), (5, .int (q_7.1 - q_11.1)), (0, .ref (base + p0)), (1, .int v1), (3, .int v3), (4, .int v4)]) hx hb dX12_hang_70 rfl hl (by decide) rfl (fun ls hl => ?_)
        refine lv_iload_n hx hb dX12_hang_71 rfl (lv_at hl 4 rfl) ?_
        refine lv_iload hx hb dX12_hang_72 (lv_at hl 1 rfl) ?_
        refine lv_if_le (tgt := 81) hx hb dX12_hang_74 (by decide) (fun c_14 => ?_) (fun c_14 => ?_)
        · replace hF := itt c_14 hF
          refine lv_iconst (v := (0 : Int32)) hx hb dX12_hang_81 (by decide) ?_
          refine lv_iadd hx hb dX12_hang_82 ?_
          refine lv_istore_n (lv' := [(3, .int (v3 + (0 : Int32))), (2, .int (v2 + (q_7.1 - q_11.1))), (5, .int (q_7.1 - q_11.1)), (0, .ref (base + p0)), (1, .int v1), (4, .int v4)]) hx hb dX12_hang_83 rfl hl (by decide) rfl (fun ls hl => ?_)
          refine lv_iinc (v := v4 + (1 : Int32)) (lv' := [(4, .int (v4 + (1 : Int32))), (3, .int (v3 + (0 : Int32))), (2, .int (v2 + (q_7.1 - q_11.1))), (5, .int (q_7.1 - q_11.1)), (0, .ref (base + p0)), (1, .int v1)]) hx hb dX12_hang_84 hl (k := 5) rfl (congrArg (fun z => v4 + z) (by decide)) (by decide) rfl (fun ls hl => ?_)
          refine lv_goto (tgt := 18) hx hb dX12_hang_87 (by decide) ?_
          exact ih (v2 + (q_7.1 - q_11.1)) (v3 + (0 : Int32)) (v4 + (1 : Int32)) q_11.2 hF H locs ls hH hS (lv_sub hl [4, 5, 2, 1, 0] rfl)
        · replace hF := itf c_14 hF
          refine lv_iconst (v := (1 : Int32)) hx hb dX12_hang_77 (by decide) ?_
          refine lv_goto (tgt := 82) hx hb dX12_hang_78 (by decide) ?_
          refine lv_iadd hx hb dX12_hang_82 ?_
          refine lv_istore_n (lv' := [(3, .int (v3 + (1 : Int32))), (2, .int (v2 + (q_7.1 - q_11.1))), (5, .int (q_7.1 - q_11.1)), (0, .ref (base + p0)), (1, .int v1), (4, .int v4)]) hx hb dX12_hang_83 rfl hl (by decide) rfl (fun ls hl => ?_)
          refine lv_iinc (v := v4 + (1 : Int32)) (lv' := [(4, .int (v4 + (1 : Int32))), (3, .int (v3 + (1 : Int32))), (2, .int (v2 + (q_7.1 - q_11.1))), (5, .int (q_7.1 - q_11.1)), (0, .ref (base + p0)), (1, .int v1)]) hx hb dX12_hang_84 hl (k := 5) rfl (congrArg (fun z => v4 + z) (by decide)) (by decide) rfl (fun ls hl => ?_)
          refine lv_goto (tgt := 18) hx hb dX12_hang_87 (by decide) ?_
          exact ih (v2 + (q_7.1 - q_11.1)) (v3 + (1 : Int32)) (v4 + (1 : Int32)) q_11.2 hF H locs ls hH hS (lv_sub hl [4, 5, 2, 1, 0] rfl)
set_option maxHeartbeats 4000000 in
set_option maxRecDepth 100000 in
theorem k_X12_hang (l : Launch) (D : va_G) (cI cT cII : ClassId) (base : Nat) (p0 : Nat) (v1 : Int32) (w : Wd) (res : Int32 × Wd) (hF : fX12_hang p0 v1 w = some res) : Ct l yX12_hang cX12_hang 6 (some .int) { frames := 1, cells := 0, slots := 0, locals := 25 } D cI cT cII base [.ref (base + p0), .int v1] w res.2 (some (.int res.1)) 0 0 := by
  unfold fX12_hang at hF
  refine m_enter (by decide) (Nat.le_of_ble_eq_true rfl) ?_
  intro p e s m below meth c ls X hr hlk hnm hH hS hl
  have hx := X.1
  have hb := X.2.1
  have hc : (0 : Nat) ≤ ({ frames := 1, cells := 0, slots := 0, locals := 25 } : Room).cells ∧ (0 : Nat) ≤ ({ frames := 1, cells := 0, slots := 0, locals := 25 } : Room).slots := ⟨Nat.zero_le _, Nat.zero_le _⟩
  obtain ⟨H, hHe⟩ : ∃ H : Heap, H = s.heap := ⟨_, rfl⟩
  obtain ⟨locs, hle⟩ : ∃ L : List Loc, L = [] := ⟨_, rfl⟩
  have hl : lv_has ls 6 [(0, .ref (base + p0)), (1, .int v1)] := hl
  rw [← hHe] at hH
  have hS : va_S (fun q => base ≤ q) s.heap H locs := by rw [hHe, hle]; exact hS
  rw [← hle]
  show W p l e _ s m _ below meth c s.heap locs 0 0 _ _
  rw [← hHe]
  refine lv_iload_n hx hb dX12_hang_0 rfl (lv_at hl 1 rfl) ?_
  refine lv_iconst (v := (0 : Int32)) hx hb dX12_hang_1 (by decide) ?_
  refine lv_iconst (v := (1 : Int32)) hx hb dX12_hang_2 (by decide) ?_
  obtain ⟨q_1, e_1, hF⟩ := bnd hF
  refine m_callS (As := [.int v1, .int (0 : Int32), .int (1 : Int32)]) (rest := []) X hH hS hl.1 (k_X12_in l D cI cT cII base v1 (0 : Int32) (1 : Int32) w q_1 e_1) q_X12_in kw_951 kw_952 rfl rfl (Nat.le_of_ble_eq_true rfl) ⟨by decide, by decide⟩ hc dX12_hang_3 (fun H locs hH hS => W.eq (g2 := F0 m 6 ls [.int q_1.1]) rfl ?_)
  refine lv_if_ne (tgt := 11) hx hb dX12_hang_6 (by decide) (fun c_2 => ?_) (fun c_2 => ?_)
  · replace hF := itf c_2 hF
    refine lv_iconst (v := (0 : Int32)) hx hb dX12_hang_11 (by decide) ?_
    refine lv_istore_n (lv' := [(2, .int (0 : Int32)), (0, .ref (base + p0)), (1, .int v1)]) hx hb dX12_hang_12 rfl hl (by decide) rfl (fun ls hl => ?_)
    refine lv_iconst (v := (0 : Int32)) hx hb dX12_hang_13 (by decide) ?_
    refine lv_istore_n (lv' := [(3, .int (0 : Int32)), (2, .int (0 : Int32)), (0, .ref (base + p0)), (1, .int v1)]) hx hb dX12_hang_14 rfl hl (by decide) rfl (fun ls hl => ?_)
    refine lv_iconst (v := (0 : Int32)) hx hb dX12_hang_15 (by decide) ?_
    refine lv_istore (lv' := [(4, .int (0 : Int32)), (3, .int (0 : Int32)), (2, .int (0 : Int32)), (0, .ref (base + p0)), (1, .int v1)]) hx hb dX12_hang_16 hl (by decide) rfl (fun ls hl => ?_)
    refine l_X12_hang_18 X hc p0 v1 _ res ?_ FV (0 : Int32) (0 : Int32) (0 : Int32) q_1.2 hF H locs ls hH hS (lv_sub hl [3, 4, 2, 1, 0] rfl)
    · intro v2_16 v3_17 w_15 hF H locs ls hH hS hl
      refine lv_iload_n hx hb dX12_hang_90 rfl (lv_at hl 0 rfl) ?_
      refine lv_if_ne (tgt := 98) hx hb dX12_hang_91 (by decide) (fun c_18 => ?_) (fun c_18 => ?_)
      · replace hF := itf c_18 hF
        refine lv_iload_n hx hb dX12_hang_98 rfl (lv_at hl 2 rfl) ?_
        have hF := Option.some.inj hF
        subst hF
        exact m_iret X hr hlk hH hS dX12_hang_99
      · replace hF := itt c_18 hF
        refine lv_iload_n hx hb dX12_hang_94 rfl (lv_at hl 1 rfl) ?_
        refine lv_goto (tgt := 99) hx hb dX12_hang_95 (by decide) ?_
        have hF := Option.some.inj hF
        subst hF
        exact m_iret X hr hlk hH hS dX12_hang_99
  · replace hF := itt c_2 hF
    refine lv_iconst (v := (-1 : Int32)) hx hb dX12_hang_9 (by decide) ?_
    have hF := Option.some.inj hF
    subst hF
    exact m_iret X hr hlk hH hS dX12_hang_10
noncomputable def fX12_hers (p0 : Nat) (v1 : Int32) (w : Wd) : Option (Int32 × Wd) := (fX12_isDay v1 w).bind fun q_1 => if q_1.1 = 0 then some ((-1 : Int32), q_1.2) else (isO 11 p0 q_1.2).bind fun u_3 => (fX12_goes p0 v1 q_1.2).bind fun q_4 => (gfI 11 28 p0 q_4.2).bind fun x_5 => some (x_5, q_4.2)
set_option maxHeartbeats 4000000 in
set_option maxRecDepth 100000 in
theorem k_X12_hers (l : Launch) (D : va_G) (cI cT cII : ClassId) (base : Nat) (p0 : Nat) (v1 : Int32) (w : Wd) (res : Int32 × Wd) (hF : fX12_hers p0 v1 w = some res) : Ct l yX12_hers cX12_hers 2 (some .int) { frames := 6, cells := 0, slots := 0, locals := 131 } D cI cT cII base [.ref (base + p0), .int v1] w res.2 (some (.int res.1)) 0 0 := by
  unfold fX12_hers at hF
  refine m_enter (by decide) (Nat.le_of_ble_eq_true rfl) ?_
  intro p e s m below meth c ls X hr hlk hnm hH hS hl
  have hx := X.1
  have hb := X.2.1
  have hc : (0 : Nat) ≤ ({ frames := 6, cells := 0, slots := 0, locals := 131 } : Room).cells ∧ (0 : Nat) ≤ ({ frames := 6, cells := 0, slots := 0, locals := 131 } : Room).slots := ⟨Nat.zero_le _, Nat.zero_le _⟩
  obtain ⟨H, hHe⟩ : ∃ H : Heap, H = s.heap := ⟨_, rfl⟩
  obtain ⟨locs, hle⟩ : ∃ L : List Loc, L = [] := ⟨_, rfl⟩
  have hl : lv_has ls 2 [(0, .ref (base + p0)), (1, .int v1)] := hl
  rw [← hHe] at hH
  have hS : va_S (fun q => base ≤ q) s.heap H locs := by rw [hHe, hle]; exact hS
  rw [← hle]
  show W p l e _ s m _ below meth c s.heap locs 0 0 _ _
  rw [← hHe]
  refine lv_iload_n hx hb dX12_hers_0 rfl (lv_at hl 1 rfl) ?_
  obtain ⟨q_1, e_1, hF⟩ := bnd hF
  refine m_callS (As := [.int v1]) (rest := []) X hH hS hl.1 (k_X12_isDay l D cI cT cII base v1 w q_1 e_1) q_X12_isDay kw_1033 kw_1034 rfl rfl (Nat.le_of_ble_eq_true rfl) ⟨by decide, by decide⟩ hc dX12_hers_1 (fun H locs hH hS => W.eq (g2 := F0 m 4 ls [.int q_1.1]) rfl ?_)
  refine lv_if_ne (tgt := 9) hx hb dX12_hers_4 (by decide) (fun c_2 => ?_) (fun c_2 => ?_)
  · replace hF := itf c_2 hF
    refine lv_aload_n hx hb dX12_hers_9 rfl (lv_at hl 0 rfl) ?_
    refine lv_iload_n hx hb dX12_hers_10 rfl (lv_at hl 1 rfl) ?_
    obtain ⟨u_3, ou_3, hF⟩ := bnd hF
    obtain ⟨q_4, e_4, hF⟩ := bnd hF
    refine m_callV (As := [.int v1]) (rest := []) X hH hS hl.1 ou_3 rfl (by decide) (k_X12_goes l D cI cT cII base p0 v1 q_1.2 q_4 e_4) q_X12_goes kw_1036 kw_1038 kw_37 rfl rfl (Nat.le_of_ble_eq_true rfl) ⟨by decide, by decide⟩ hc dX12_hers_11 (fun H locs hH hS => W.eq (g2 := F0 m 14 ls []) rfl ?_)
    refine lv_aload_n hx hb dX12_hers_14 rfl (lv_at hl 0 rfl) ?_
    obtain ⟨x_5, e_5, hF⟩ := bnd hF
    refine m_gI X hH e_5 gg_X12_182 dX12_hers_15 ?_
    have hF := Option.some.inj hF
    subst hF
    exact m_iret X hr hlk hH hS dX12_hers_18
  · replace hF := itt c_2 hF
    refine lv_iconst (v := (-1 : Int32)) hx hb dX12_hers_7 (by decide) ?_
    have hF := Option.some.inj hF
    subst hF
    exact m_iret X hr hlk hH hS dX12_hers_8
noncomputable def fX12_orders_12 (p0 : Nat) (v2 : Int32) (K_50 : Int32 → Wd → Option (Unit × Wd)) : Nat → Int32 → Int32 → Wd → Option (Unit × Wd)
  | 0, _, _, _ => none
  | n + 1, v1, v3, w => (gfI 11 4 p0 w).bind fun x_2 => if x_2 ≤ v3 then K_50 v1 w else (gfR 11 5 p0 w).bind fun r_4 => (rdI r_4 (((3 : Int32) * v3) + (1 : Int32)) w).bind fun x_5 => if x_5 = v2 then (gfR 11 6 p0 w).bind fun r_7 => (wrI r_7 v1 v3 w).bind fun w_8 => fX12_orders_12 p0 v2 K_50 n (v1 + (1 : Int32)) (v3 + (1 : Int32)) w_8 else fX12_orders_12 p0 v2 K_50 n v1 (v3 + (1 : Int32)) w
noncomputable def fX12_orders_4 (p0 : Nat) (K_56 : Wd → Option (Unit × Wd)) : Nat → Int32 → Int32 → Wd → Option (Unit × Wd)
  | 0, _, _, _ => none
  | n + 1, v1, v2, w => if (24 : Int32) ≤ v2 then K_56  w else fX12_orders_12 p0 v2 (fun (v1_10 : Int32) (w_9 : Wd) => fX12_orders_4 p0 K_56 n v1_10 (v2 + (1 : Int32)) w_9) FV v1 (0 : Int32) w
noncomputable def fX12_orders (p0 : Nat) (w : Wd) : Option (Unit × Wd) := fX12_orders_4 p0 (fun  (w_11 : Wd) => some ((), w_11)) FV (0 : Int32) (0 : Int32) w
set_option maxHeartbeats 4000000 in
set_option maxRecDepth 100000 in
theorem l_X12_orders_12 (X : Cx p R s m args c cX12_orders 4 RX12 D cI cT cII 0 0) (hc : cells ≤ R.cells ∧ slots ≤ R.slots) (p0 : Nat) (v2 : Int32) (K_50 : Int32 → Wd → Option (Unit × Wd)) (res : Unit × Wd)
    (hK_50 : ∀ (z1 : Int32) (w : Wd), K_50 z1 w = some res → ∀ (H : Heap) (locs : List Loc) (ls : Array Slot), Hd D cI cT cII base w H → va_S (fun q => base ≤ q) s.heap H locs → lv_has ls 4 [(0, .ref (base + p0)), (1, .int z1), (2, .int v2)] → W p l e R s m args below meth c H locs cells slots Q (F0 m 50 ls [])) :
    ∀ (n : Nat) (v1 : Int32) (v3 : Int32) (w : Wd), fX12_orders_12 p0 v2 K_50 n v1 v3 w = some res → ∀ (H : Heap) (locs : List Loc) (ls : Array Slot), Hd D cI cT cII base w H → va_S (fun q => base ≤ q) s.heap H locs → lv_has ls 4 [(0, .ref (base + p0)), (1, .int v1), (2, .int v2), (3, .int v3)] → W p l e R s m args below meth c H locs cells slots Q (F0 m 12 ls []) := by
  have hx := X.1
  have hb := X.2.1
  intro n
  induction n with
  | zero =>
    intro v1 v3 w hF
    rw [fX12_orders_12] at hF
    cases hF
  | succ n ih =>
    intro v1 v3 w hF H locs ls hH hS hl
    rw [fX12_orders_12] at hF
    refine lv_iload_n hx hb dX12_orders_12 rfl (lv_at hl 3 rfl) ?_
    refine lv_aload_n hx hb dX12_orders_13 rfl (lv_at hl 0 rfl) ?_
    obtain ⟨x_2, e_2, hF⟩ := bnd hF
    refine m_gI X hH e_2 gg_X12_23 dX12_orders_14 ?_
    refine lv_icmp_ge (tgt := 50) hx hb dX12_orders_17 (by decide) (fun c_3 => ?_) (fun c_3 => ?_)
    · replace hF := itt c_3 hF
      exact hK_50 v1 w hF H locs ls hH hS (lv_sub hl [0, 1, 2] rfl)
    · replace hF := itf c_3 hF
      refine lv_aload_n hx hb dX12_orders_20 rfl (lv_at hl 0 rfl) ?_
      obtain ⟨r_4, e_4, hF⟩ := bnd hF
      refine m_gR X hH e_4 gg_X12_26 dX12_orders_21 ?_
      refine lv_iconst (v := (3 : Int32)) hx hb dX12_orders_24 (by decide) ?_
      refine lv_iload_n hx hb dX12_orders_25 rfl (lv_at hl 3 rfl) ?_
      refine lv_imul hx hb dX12_orders_26 ?_
      refine lv_iconst (v := (1 : Int32)) hx hb dX12_orders_27 (by decide) ?_
      refine lv_iadd hx hb dX12_orders_28 ?_
      obtain ⟨x_5, e_5, hF⟩ := bnd hF
      refine m_rdI X hH e_5 dX12_orders_29 ?_
      refine lv_iload_n hx hb dX12_orders_30 rfl (lv_at hl 2 rfl) ?_
      refine lv_icmp_ne (tgt := 44) hx hb dX12_orders_31 (by decide) (fun c_6 => ?_) (fun c_6 => ?_)
      · replace hF := itf c_6 hF
        refine lv_iinc (v := v3 + (1 : Int32)) (lv' := [(3, .int (v3 + (1 : Int32))), (0, .ref (base + p0)), (1, .int v1), (2, .int v2)]) hx hb dX12_orders_44 hl (k := 3) rfl (congrArg (fun z => v3 + z) (by decide)) (by decide) rfl (fun ls hl => ?_)
        refine lv_goto (tgt := 12) hx hb dX12_orders_47 (by decide) ?_
        exact ih v1 (v3 + (1 : Int32)) w hF H locs ls hH hS (lv_sub hl [1, 2, 3, 0] rfl)
      · replace hF := itt c_6 hF
        refine lv_aload_n hx hb dX12_orders_34 rfl (lv_at hl 0 rfl) ?_
        obtain ⟨r_7, e_7, hF⟩ := bnd hF
        refine m_gR X hH e_7 gg_X12_29 dX12_orders_35 ?_
        refine lv_iload_n hx hb dX12_orders_38 rfl (lv_at hl 1 rfl) ?_
        refine lv_iload_n hx hb dX12_orders_39 rfl (lv_at hl 3 rfl) ?_
        obtain ⟨w_8, e_8, hF⟩ := bnd hF
        refine m_wrI X hH hS e_8 dX12_orders_40 (fun H locs hH hS => ?_)
        refine lv_iinc (v := v1 + (1 : Int32)) (lv' := [(1, .int (v1 + (1 : Int32))), (0, .ref (base + p0)), (2, .int v2), (3, .int v3)]) hx hb dX12_orders_41 hl (k := 1) rfl (congrArg (fun z => v1 + z) (by decide)) (by decide) rfl (fun ls hl => ?_)
        refine lv_iinc (v := v3 + (1 : Int32)) (lv' := [(3, .int (v3 + (1 : Int32))), (1, .int (v1 + (1 : Int32))), (0, .ref (base + p0)), (2, .int v2)]) hx hb dX12_orders_44 hl (k := 3) rfl (congrArg (fun z => v3 + z) (by decide)) (by decide) rfl (fun ls hl => ?_)
        refine lv_goto (tgt := 12) hx hb dX12_orders_47 (by decide) ?_
        exact ih (v1 + (1 : Int32)) (v3 + (1 : Int32)) w_8 hF H locs ls hH hS (lv_sub hl [2, 1, 3, 0] rfl)
set_option maxHeartbeats 4000000 in
set_option maxRecDepth 100000 in
theorem l_X12_orders_4 (X : Cx p R s m args c cX12_orders 4 RX12 D cI cT cII 0 0) (hc : cells ≤ R.cells ∧ slots ≤ R.slots) (p0 : Nat) (K_56 : Wd → Option (Unit × Wd)) (res : Unit × Wd)
    (hK_56 : ∀  (w : Wd), K_56  w = some res → ∀ (H : Heap) (locs : List Loc) (ls : Array Slot), Hd D cI cT cII base w H → va_S (fun q => base ≤ q) s.heap H locs → lv_has ls 4 [] → W p l e R s m args below meth c H locs cells slots Q (F0 m 56 ls [])) :
    ∀ (n : Nat) (v1 : Int32) (v2 : Int32) (w : Wd), fX12_orders_4 p0 K_56 n v1 v2 w = some res → ∀ (H : Heap) (locs : List Loc) (ls : Array Slot), Hd D cI cT cII base w H → va_S (fun q => base ≤ q) s.heap H locs → lv_has ls 4 [(0, .ref (base + p0)), (1, .int v1), (2, .int v2)] → W p l e R s m args below meth c H locs cells slots Q (F0 m 4 ls []) := by
  have hx := X.1
  have hb := X.2.1
  intro n
  induction n with
  | zero =>
    intro v1 v2 w hF
    rw [fX12_orders_4] at hF
    cases hF
  | succ n ih =>
    intro v1 v2 w hF H locs ls hH hS hl
    rw [fX12_orders_4] at hF
    refine lv_iload_n hx hb dX12_orders_4 rfl (lv_at hl 2 rfl) ?_
    refine lv_bipush (v := (24 : Int32)) hx hb dX12_orders_5 (by decide) ?_
    refine lv_icmp_ge (tgt := 56) hx hb dX12_orders_7 (by decide) (fun c_1 => ?_) (fun c_1 => ?_)
    · replace hF := itt c_1 hF
      exact hK_56  w hF H locs ls hH hS (lv_sub hl [] rfl)
    · replace hF := itf c_1 hF
      refine lv_iconst (v := (0 : Int32)) hx hb dX12_orders_10 (by decide) ?_
      refine lv_istore_n (lv' := [(3, .int (0 : Int32)), (0, .ref (base + p0)), (1, .int v1), (2, .int v2)]) hx hb dX12_orders_11 rfl hl (by decide) rfl (fun ls hl => ?_)
      refine l_X12_orders_12 X hc p0 v2 _ res ?_ FV v1 (0 : Int32) w hF H locs ls hH hS (lv_sub hl [1, 2, 3, 0] rfl)
      · intro v1_10 w_9 hF H locs ls hH hS hl
        refine lv_iinc (v := v2 + (1 : Int32)) (lv' := [(2, .int (v2 + (1 : Int32))), (0, .ref (base + p0)), (1, .int v1_10)]) hx hb dX12_orders_50 hl (k := 2) rfl (congrArg (fun z => v2 + z) (by decide)) (by decide) rfl (fun ls hl => ?_)
        refine lv_goto (tgt := 4) hx hb dX12_orders_53 (by decide) ?_
        exact ih v1_10 (v2 + (1 : Int32)) w_9 hF H locs ls hH hS (lv_sub hl [1, 2, 0] rfl)
set_option maxHeartbeats 4000000 in
set_option maxRecDepth 100000 in
theorem k_X12_orders (l : Launch) (D : va_G) (cI cT cII : ClassId) (base : Nat) (p0 : Nat) (w : Wd) (res : Unit × Wd) (hF : fX12_orders p0 w = some res) : Ct l yX12_orders cX12_orders 4 none { frames := 0, cells := 0, slots := 0, locals := 0 } D cI cT cII base [.ref (base + p0)] w res.2 none 0 0 := by
  unfold fX12_orders at hF
  refine m_enter (by decide) (Nat.le_of_ble_eq_true rfl) ?_
  intro p e s m below meth c ls X hr hlk hnm hH hS hl
  have hx := X.1
  have hb := X.2.1
  have hc : (0 : Nat) ≤ ({ frames := 0, cells := 0, slots := 0, locals := 0 } : Room).cells ∧ (0 : Nat) ≤ ({ frames := 0, cells := 0, slots := 0, locals := 0 } : Room).slots := ⟨Nat.zero_le _, Nat.zero_le _⟩
  obtain ⟨H, hHe⟩ : ∃ H : Heap, H = s.heap := ⟨_, rfl⟩
  obtain ⟨locs, hle⟩ : ∃ L : List Loc, L = [] := ⟨_, rfl⟩
  have hl : lv_has ls 4 [(0, .ref (base + p0))] := hl
  rw [← hHe] at hH
  have hS : va_S (fun q => base ≤ q) s.heap H locs := by rw [hHe, hle]; exact hS
  rw [← hle]
  show W p l e _ s m _ below meth c s.heap locs 0 0 _ _
  rw [← hHe]
  refine lv_iconst (v := (0 : Int32)) hx hb dX12_orders_0 (by decide) ?_
  refine lv_istore_n (lv' := [(1, .int (0 : Int32)), (0, .ref (base + p0))]) hx hb dX12_orders_1 rfl hl (by decide) rfl (fun ls hl => ?_)
  refine lv_iconst (v := (0 : Int32)) hx hb dX12_orders_2 (by decide) ?_
  refine lv_istore_n (lv' := [(2, .int (0 : Int32)), (1, .int (0 : Int32)), (0, .ref (base + p0))]) hx hb dX12_orders_3 rfl hl (by decide) rfl (fun ls hl => ?_)
  refine l_X12_orders_4 X hc p0 _ res ?_ FV (0 : Int32) (0 : Int32) w hF H locs ls hH hS (lv_sub hl [2, 1, 0] rfl)
  · intro  w_11 hF H locs ls hH hS hl
    have hF := Option.some.inj hF
    subst hF
    exact m_vret X hr hlk hH hS dX12_orders_56
noncomputable def fX12_keep_13 (p0 : Nat) (K_45 : Wd → Option (Int32 × Wd)) : Nat → Int32 → Wd → Option (Int32 × Wd)
  | 0, _, _ => none
  | n + 1, v1, w => if (25 : Int32) ≤ v1 then K_45  w else (gfR 11 11 p0 w).bind fun r_4 => (gfI 11 10 p0 w).bind fun x_5 => (gfR 11 7 p0 w).bind fun r_6 => (rdI r_6 v1 w).bind fun x_7 => (wrI r_4 (((25 : Int32) * x_5) + v1) x_7 w).bind fun w_8 => fX12_keep_13 p0 K_45 n (v1 + (1 : Int32)) w_8
noncomputable def fX12_keep (p0 : Nat) (w : Wd) : Option (Int32 × Wd) := (gfI 11 10 p0 w).bind fun x_1 => if x_1 = (2 : Int32) then some ((-3 : Int32), w) else fX12_keep_13 p0 (fun  (w_9 : Wd) => (gfI 11 10 p0 w_9).bind fun x_10 => (pfI 11 10 p0 (x_10 + (1 : Int32)) w_9).bind fun w_11 => (gfI 11 10 p0 w_11).bind fun x_12 => some (x_12, w_11)) FV (0 : Int32) w
set_option maxHeartbeats 4000000 in
set_option maxRecDepth 100000 in
theorem l_X12_keep_13 (X : Cx p R s m args c cX12_keep 2 RX12 D cI cT cII 0 0) (hc : cells ≤ R.cells ∧ slots ≤ R.slots) (p0 : Nat) (K_45 : Wd → Option (Int32 × Wd)) (res : Int32 × Wd)
    (hK_45 : ∀  (w : Wd), K_45  w = some res → ∀ (H : Heap) (locs : List Loc) (ls : Array Slot), Hd D cI cT cII base w H → va_S (fun q => base ≤ q) s.heap H locs → lv_has ls 2 [(0, .ref (base + p0))] → W p l e R s m args below meth c H locs cells slots Q (F0 m 45 ls [])) :
    ∀ (n : Nat) (v1 : Int32) (w : Wd), fX12_keep_13 p0 K_45 n v1 w = some res → ∀ (H : Heap) (locs : List Loc) (ls : Array Slot), Hd D cI cT cII base w H → va_S (fun q => base ≤ q) s.heap H locs → lv_has ls 2 [(0, .ref (base + p0)), (1, .int v1)] → W p l e R s m args below meth c H locs cells slots Q (F0 m 13 ls []) := by
  have hx := X.1
  have hb := X.2.1
  intro n
  induction n with
  | zero =>
    intro v1 w hF
    rw [fX12_keep_13] at hF
    cases hF
  | succ n ih =>
    intro v1 w hF H locs ls hH hS hl
    rw [fX12_keep_13] at hF
    refine lv_iload_n hx hb dX12_keep_13 rfl (lv_at hl 1 rfl) ?_
    refine lv_bipush (v := (25 : Int32)) hx hb dX12_keep_14 (by decide) ?_
    refine lv_icmp_ge (tgt := 45) hx hb dX12_keep_16 (by decide) (fun c_3 => ?_) (fun c_3 => ?_)
    · replace hF := itt c_3 hF
      exact hK_45  w hF H locs ls hH hS (lv_sub hl [0] rfl)
    · replace hF := itf c_3 hF
      refine lv_aload_n hx hb dX12_keep_19 rfl (lv_at hl 0 rfl) ?_
      obtain ⟨r_4, e_4, hF⟩ := bnd hF
      refine m_gR X hH e_4 gg_X12_38 dX12_keep_20 ?_
      refine lv_bipush (v := (25 : Int32)) hx hb dX12_keep_23 (by decide) ?_
      refine lv_aload_n hx hb dX12_keep_25 rfl (lv_at hl 0 rfl) ?_
      obtain ⟨x_5, e_5, hF⟩ := bnd hF
      refine m_gI X hH e_5 gg_X12_153 dX12_keep_26 ?_
      refine lv_imul hx hb dX12_keep_29 ?_
      refine lv_iload_n hx hb dX12_keep_30 rfl (lv_at hl 1 rfl) ?_
      refine lv_iadd hx hb dX12_keep_31 ?_
      refine lv_aload_n hx hb dX12_keep_32 rfl (lv_at hl 0 rfl) ?_
      obtain ⟨r_6, e_6, hF⟩ := bnd hF
      refine m_gR X hH e_6 gg_X12_32 dX12_keep_33 ?_
      refine lv_iload_n hx hb dX12_keep_36 rfl (lv_at hl 1 rfl) ?_
      obtain ⟨x_7, e_7, hF⟩ := bnd hF
      refine m_rdI X hH e_7 dX12_keep_37 ?_
      obtain ⟨w_8, e_8, hF⟩ := bnd hF
      refine m_wrI X hH hS e_8 dX12_keep_38 (fun H locs hH hS => ?_)
      refine lv_iinc (v := v1 + (1 : Int32)) (lv' := [(1, .int (v1 + (1 : Int32))), (0, .ref (base + p0))]) hx hb dX12_keep_39 hl (k := 1) rfl (congrArg (fun z => v1 + z) (by decide)) (by decide) rfl (fun ls hl => ?_)
      refine lv_goto (tgt := 13) hx hb dX12_keep_42 (by decide) ?_
      exact ih (v1 + (1 : Int32)) w_8 hF H locs ls hH hS (lv_sub hl [1, 0] rfl)
set_option maxHeartbeats 4000000 in
set_option maxRecDepth 100000 in
theorem k_X12_keep (l : Launch) (D : va_G) (cI cT cII : ClassId) (base : Nat) (p0 : Nat) (w : Wd) (res : Int32 × Wd) (hF : fX12_keep p0 w = some res) : Ct l yX12_keep cX12_keep 2 (some .int) { frames := 0, cells := 0, slots := 0, locals := 0 } D cI cT cII base [.ref (base + p0)] w res.2 (some (.int res.1)) 0 0 := by
  unfold fX12_keep at hF
  refine m_enter (by decide) (Nat.le_of_ble_eq_true rfl) ?_
  intro p e s m below meth c ls X hr hlk hnm hH hS hl
  have hx := X.1
  have hb := X.2.1
  have hc : (0 : Nat) ≤ ({ frames := 0, cells := 0, slots := 0, locals := 0 } : Room).cells ∧ (0 : Nat) ≤ ({ frames := 0, cells := 0, slots := 0, locals := 0 } : Room).slots := ⟨Nat.zero_le _, Nat.zero_le _⟩
  obtain ⟨H, hHe⟩ : ∃ H : Heap, H = s.heap := ⟨_, rfl⟩
  obtain ⟨locs, hle⟩ : ∃ L : List Loc, L = [] := ⟨_, rfl⟩
  have hl : lv_has ls 2 [(0, .ref (base + p0))] := hl
  rw [← hHe] at hH
  have hS : va_S (fun q => base ≤ q) s.heap H locs := by rw [hHe, hle]; exact hS
  rw [← hle]
  show W p l e _ s m _ below meth c s.heap locs 0 0 _ _
  rw [← hHe]
  refine lv_aload_n hx hb dX12_keep_0 rfl (lv_at hl 0 rfl) ?_
  obtain ⟨x_1, e_1, hF⟩ := bnd hF
  refine m_gI X hH e_1 gg_X12_153 dX12_keep_1 ?_
  refine lv_iconst (v := (2 : Int32)) hx hb dX12_keep_4 (by decide) ?_
  refine lv_icmp_ne (tgt := 11) hx hb dX12_keep_5 (by decide) (fun c_2 => ?_) (fun c_2 => ?_)
  · replace hF := itf c_2 hF
    refine lv_iconst (v := (0 : Int32)) hx hb dX12_keep_11 (by decide) ?_
    refine lv_istore_n (lv' := [(1, .int (0 : Int32)), (0, .ref (base + p0))]) hx hb dX12_keep_12 rfl hl (by decide) rfl (fun ls hl => ?_)
    refine l_X12_keep_13 X hc p0 _ res ?_ FV (0 : Int32) w hF H locs ls hH hS (lv_sub hl [1, 0] rfl)
    · intro  w_9 hF H locs ls hH hS hl
      refine lv_aload_n hx hb dX12_keep_45 rfl (lv_at hl 0 rfl) ?_
      refine lv_dup hx hb dX12_keep_46 rfl ?_
      obtain ⟨x_10, e_10, hF⟩ := bnd hF
      refine m_gI X hH e_10 gg_X12_153 dX12_keep_47 ?_
      refine lv_iconst (v := (1 : Int32)) hx hb dX12_keep_50 (by decide) ?_
      refine lv_iadd hx hb dX12_keep_51 ?_
      obtain ⟨w_11, e_11, hF⟩ := bnd hF
      refine m_pI X hH hS e_11 gp_X12_153 rfl rfl dX12_keep_52 (fun H locs hH hS => ?_)
      refine lv_aload_n hx hb dX12_keep_55 rfl (lv_at hl 0 rfl) ?_
      obtain ⟨x_12, e_12, hF⟩ := bnd hF
      refine m_gI X hH e_12 gg_X12_153 dX12_keep_56 ?_
      have hF := Option.some.inj hF
      subst hF
      exact m_iret X hr hlk hH hS dX12_keep_59
  · replace hF := itt c_2 hF
    refine lv_bipush (v := (-3 : Int32)) hx hb dX12_keep_8 (by decide) ?_
    have hF := Option.some.inj hF
    subst hF
    exact m_iret X hr hlk hH hS dX12_keep_10
noncomputable def fX12_lay (p0 : Nat) (w : Wd) : Option (Int32 × Wd) := (isO 11 p0 w).bind fun u_1 => (fX12_fault p0 w).bind fun q_2 => if q_2.1 = (-4 : Int32) then (gfI 11 18 p0 q_2.2).bind fun x_4 => if x_4 = 0 then some ((-2 : Int32), q_2.2) else (gfI 11 18 p0 q_2.2).bind fun x_6 => (pfI 11 0 p0 x_6 q_2.2).bind fun w_7 => (gfI 11 20 p0 w_7).bind fun x_8 => (pfI 11 2 p0 x_8 w_7).bind fun w_9 => (gfI 11 22 p0 w_9).bind fun x_10 => (pfI 11 4 p0 x_10 w_9).bind fun w_11 => (gfR 11 1 p0 w_11).bind fun r_12 => (gfR 11 19 p0 w_11).bind fun r_13 => (fX12_put r_12 (0 : Int32) r_13 (28 : Int32) w_11).bind fun q_14 => (gfR 11 3 p0 q_14.2).bind fun r_15 => (gfR 11 21 p0 q_14.2).bind fun r_16 => (fX12_put r_15 (0 : Int32) r_16 (10 : Int32) q_14.2).bind fun q_17 => (gfR 11 5 p0 q_17.2).bind fun r_18 => (gfR 11 23 p0 q_17.2).bind fun r_19 => (fX12_put r_18 (0 : Int32) r_19 (30 : Int32) q_17.2).bind fun q_20 => (gfR 11 7 p0 q_20.2).bind fun r_21 => (gfR 11 24 p0 q_20.2).bind fun r_22 => (fX12_put r_21 (0 : Int32) r_22 (25 : Int32) q_20.2).bind fun q_23 => (isO 11 p0 q_23.2).bind fun u_24 => (fX12_orders p0 q_23.2).bind fun q_25 => (pfI 11 8 p0 (0 : Int32) q_25.2).bind fun w_26 => (pfI 11 10 p0 (0 : Int32) w_26).bind fun w_27 => (pfI 11 12 p0 (0 : Int32) w_27).bind fun w_28 => (gfI 11 0 p0 w_28).bind fun x_29 => some (x_29, w_28) else some ((-2 : Int32), q_2.2)
set_option maxHeartbeats 4000000 in
set_option maxRecDepth 100000 in
theorem k_X12_lay (l : Launch) (D : va_G) (cI cT cII : ClassId) (base : Nat) (p0 : Nat) (w : Wd) (res : Int32 × Wd) (hF : fX12_lay p0 w = some res) : Ct l yX12_lay cX12_lay 1 (some .int) { frames := 6, cells := 0, slots := 0, locals := 127 } D cI cT cII base [.ref (base + p0)] w res.2 (some (.int res.1)) 0 0 := by
  unfold fX12_lay at hF
  refine m_enter (by decide) (Nat.le_of_ble_eq_true rfl) ?_
  intro p e s m below meth c ls X hr hlk hnm hH hS hl
  have hx := X.1
  have hb := X.2.1
  have hc : (0 : Nat) ≤ ({ frames := 6, cells := 0, slots := 0, locals := 127 } : Room).cells ∧ (0 : Nat) ≤ ({ frames := 6, cells := 0, slots := 0, locals := 127 } : Room).slots := ⟨Nat.zero_le _, Nat.zero_le _⟩
  obtain ⟨H, hHe⟩ : ∃ H : Heap, H = s.heap := ⟨_, rfl⟩
  obtain ⟨locs, hle⟩ : ∃ L : List Loc, L = [] := ⟨_, rfl⟩
  have hl : lv_has ls 1 [(0, .ref (base + p0))] := hl
  rw [← hHe] at hH
  have hS : va_S (fun q => base ≤ q) s.heap H locs := by rw [hHe, hle]; exact hS
  rw [← hle]
  show W p l e _ s m _ below meth c s.heap locs 0 0 _ _
  rw [← hHe]
  refine lv_aload_n hx hb dX12_lay_0 rfl (lv_at hl 0 rfl) ?_
  obtain ⟨u_1, ou_1, hF⟩ := bnd hF
  obtain ⟨q_2, e_2, hF⟩ := bnd hF
  refine m_callV (As := []) (rest := []) X hH hS hl.1 ou_1 rfl (by decide) (k_X12_fault l D cI cT cII base p0 w q_2 e_2) q_X12_fault kw_1012 kw_959 kw_960 rfl rfl (Nat.le_of_ble_eq_true rfl) ⟨by decide, by decide⟩ hc dX12_lay_1 (fun H locs hH hS => W.eq (g2 := F0 m 4 ls [.int q_2.1]) rfl ?_)
  refine lv_bipush (v := (-4 : Int32)) hx hb dX12_lay_4 (by decide) ?_
  refine lv_icmp_ne (tgt := 16) hx hb dX12_lay_6 (by decide) (fun c_3 => ?_) (fun c_3 => ?_)
  · replace hF := itf c_3 hF
    refine lv_bipush (v := (-2 : Int32)) hx hb dX12_lay_16 (by decide) ?_
    have hF := Option.some.inj hF
    subst hF
    exact m_iret X hr hlk hH hS dX12_lay_18
  · replace hF := itt c_3 hF
    refine lv_aload_n hx hb dX12_lay_9 rfl (lv_at hl 0 rfl) ?_
    obtain ⟨x_4, e_4, hF⟩ := bnd hF
    refine m_gI X hH e_4 gg_X12_105 dX12_lay_10 ?_
    refine lv_if_ne (tgt := 19) hx hb dX12_lay_13 (by decide) (fun c_5 => ?_) (fun c_5 => ?_)
    · replace hF := itf c_5 hF
      refine lv_aload_n hx hb dX12_lay_19 rfl (lv_at hl 0 rfl) ?_
      refine lv_aload_n hx hb dX12_lay_20 rfl (lv_at hl 0 rfl) ?_
      obtain ⟨x_6, e_6, hF⟩ := bnd hF
      refine m_gI X hH e_6 gg_X12_105 dX12_lay_21 ?_
      obtain ⟨w_7, e_7, hF⟩ := bnd hF
      refine m_pI X hH hS e_7 gp_X12_7 rfl rfl dX12_lay_24 (fun H locs hH hS => ?_)
      refine lv_aload_n hx hb dX12_lay_27 rfl (lv_at hl 0 rfl) ?_
      refine lv_aload_n hx hb dX12_lay_28 rfl (lv_at hl 0 rfl) ?_
      obtain ⟨x_8, e_8, hF⟩ := bnd hF
      refine m_gI X hH e_8 gg_X12_114 dX12_lay_29 ?_
      obtain ⟨w_9, e_9, hF⟩ := bnd hF
      refine m_pI X hH hS e_9 gp_X12_17 rfl rfl dX12_lay_32 (fun H locs hH hS => ?_)
      refine lv_aload_n hx hb dX12_lay_35 rfl (lv_at hl 0 rfl) ?_
      refine lv_aload_n hx hb dX12_lay_36 rfl (lv_at hl 0 rfl) ?_
      obtain ⟨x_10, e_10, hF⟩ := bnd hF
      refine m_gI X hH e_10 gg_X12_121 dX12_lay_37 ?_
      obtain ⟨w_11, e_11, hF⟩ := bnd hF
      refine m_pI X hH hS e_11 gp_X12_23 rfl rfl dX12_lay_40 (fun H locs hH hS => ?_)
      refine lv_aload_n hx hb dX12_lay_43 rfl (lv_at hl 0 rfl) ?_
      obtain ⟨r_12, e_12, hF⟩ := bnd hF
      refine m_gR X hH e_12 gg_X12_13 dX12_lay_44 ?_
      refine lv_iconst (v := (0 : Int32)) hx hb dX12_lay_47 (by decide) ?_
      refine lv_aload_n hx hb dX12_lay_48 rfl (lv_at hl 0 rfl) ?_
      obtain ⟨r_13, e_13, hF⟩ := bnd hF
      refine m_gR X hH e_13 gg_X12_50 dX12_lay_49 ?_
      refine lv_bipush (v := (28 : Int32)) hx hb dX12_lay_52 (by decide) ?_
      obtain ⟨q_14, e_14, hF⟩ := bnd hF
      refine m_callS (As := [.ref (base + r_12), .int (0 : Int32), .ref (base + r_13), .int (28 : Int32)]) (rest := []) X hH hS hl.1 (k_X12_put l D cI cT cII base r_12 (0 : Int32) r_13 (28 : Int32) w_11 q_14 e_14) q_X12_put kw_993 kw_994 rfl rfl (Nat.le_of_ble_eq_true rfl) ⟨by decide, by decide⟩ hc dX12_lay_54 (fun H locs hH hS => W.eq (g2 := F0 m 57 ls []) rfl ?_)
      refine lv_aload_n hx hb dX12_lay_57 rfl (lv_at hl 0 rfl) ?_
      obtain ⟨r_15, e_15, hF⟩ := bnd hF
      refine m_gR X hH e_15 gg_X12_20 dX12_lay_58 ?_
      refine lv_iconst (v := (0 : Int32)) hx hb dX12_lay_61 (by decide) ?_
      refine lv_aload_n hx hb dX12_lay_62 rfl (lv_at hl 0 rfl) ?_
      obtain ⟨r_16, e_16, hF⟩ := bnd hF
      refine m_gR X hH e_16 gg_X12_53 dX12_lay_63 ?_
      refine lv_bipush (v := (10 : Int32)) hx hb dX12_lay_66 (by decide) ?_
      obtain ⟨q_17, e_17, hF⟩ := bnd hF
      refine m_callS (As := [.ref (base + r_15), .int (0 : Int32), .ref (base + r_16), .int (10 : Int32)]) (rest := []) X hH hS hl.1 (k_X12_put l D cI cT cII base r_15 (0 : Int32) r_16 (10 : Int32) q_14.2 q_17 e_17) q_X12_put kw_993 kw_994 rfl rfl (Nat.le_of_ble_eq_true rfl) ⟨by decide, by decide⟩ hc dX12_lay_68 (fun H locs hH hS => W.eq (g2 := F0 m 71 ls []) rfl ?_)
      refine lv_aload_n hx hb dX12_lay_71 rfl (lv_at hl 0 rfl) ?_
      obtain ⟨r_18, e_18, hF⟩ := bnd hF
      refine m_gR X hH e_18 gg_X12_26 dX12_lay_72 ?_
      refine lv_iconst (v := (0 : Int32)) hx hb dX12_lay_75 (by decide) ?_
      refine lv_aload_n hx hb dX12_lay_76 rfl (lv_at hl 0 rfl) ?_
      obtain ⟨r_19, e_19, hF⟩ := bnd hF
      refine m_gR X hH e_19 gg_X12_56 dX12_lay_77 ?_
      refine lv_bipush (v := (30 : Int32)) hx hb dX12_lay_80 (by decide) ?_
      obtain ⟨q_20, e_20, hF⟩ := bnd hF
      refine m_callS (As := [.ref (base + r_18), .int (0 : Int32), .ref (base + r_19), .int (30 : Int32)]) (rest := []) X hH hS hl.1 (k_X12_put l D cI cT cII base r_18 (0 : Int32) r_19 (30 : Int32) q_17.2 q_20 e_20) q_X12_put kw_993 kw_994 rfl rfl (Nat.le_of_ble_eq_true rfl) ⟨by decide, by decide⟩ hc dX12_lay_82 (fun H locs hH hS => W.eq (g2 := F0 m 85 ls []) rfl ?_)
      refine lv_aload_n hx hb dX12_lay_85 rfl (lv_at hl 0 rfl) ?_
      obtain ⟨r_21, e_21, hF⟩ := bnd hF
      refine m_gR X hH e_21 gg_X12_32 dX12_lay_86 ?_
      refine lv_iconst (v := (0 : Int32)) hx hb dX12_lay_89 (by decide) ?_
      refine lv_aload_n hx hb dX12_lay_90 rfl (lv_at hl 0 rfl) ?_
      obtain ⟨r_22, e_22, hF⟩ := bnd hF
      refine m_gR X hH e_22 gg_X12_59 dX12_lay_91 ?_
      refine lv_bipush (v := (25 : Int32)) hx hb dX12_lay_94 (by decide) ?_
      obtain ⟨q_23, e_23, hF⟩ := bnd hF
      refine m_callS (As := [.ref (base + r_21), .int (0 : Int32), .ref (base + r_22), .int (25 : Int32)]) (rest := []) X hH hS hl.1 (k_X12_put l D cI cT cII base r_21 (0 : Int32) r_22 (25 : Int32) q_20.2 q_23 e_23) q_X12_put kw_993 kw_994 rfl rfl (Nat.le_of_ble_eq_true rfl) ⟨by decide, by decide⟩ hc dX12_lay_96 (fun H locs hH hS => W.eq (g2 := F0 m 99 ls []) rfl ?_)
      refine lv_aload_n hx hb dX12_lay_99 rfl (lv_at hl 0 rfl) ?_
      obtain ⟨u_24, ou_24, hF⟩ := bnd hF
      obtain ⟨q_25, e_25, hF⟩ := bnd hF
      refine m_callV (As := []) (rest := []) X hH hS hl.1 ou_24 rfl (by decide) (k_X12_orders l D cI cT cII base p0 q_23.2 q_25 e_25) q_X12_orders kw_846 kw_848 kw_24 rfl rfl (Nat.le_of_ble_eq_true rfl) ⟨by decide, by decide⟩ hc dX12_lay_100 (fun H locs hH hS => W.eq (g2 := F0 m 103 ls []) rfl ?_)
      refine lv_aload_n hx hb dX12_lay_103 rfl (lv_at hl 0 rfl) ?_
      refine lv_iconst (v := (0 : Int32)) hx hb dX12_lay_104 (by decide) ?_
      obtain ⟨w_26, e_26, hF⟩ := bnd hF
      refine m_pI X hH hS e_26 gp_X12_150 rfl rfl dX12_lay_105 (fun H locs hH hS => ?_)
      refine lv_aload_n hx hb dX12_lay_108 rfl (lv_at hl 0 rfl) ?_
      refine lv_iconst (v := (0 : Int32)) hx hb dX12_lay_109 (by decide) ?_
      obtain ⟨w_27, e_27, hF⟩ := bnd hF
      refine m_pI X hH hS e_27 gp_X12_153 rfl rfl dX12_lay_110 (fun H locs hH hS => ?_)
      refine lv_aload_n hx hb dX12_lay_113 rfl (lv_at hl 0 rfl) ?_
      refine lv_iconst (v := (0 : Int32)) hx hb dX12_lay_114 (by decide) ?_
      obtain ⟨w_28, e_28, hF⟩ := bnd hF
      refine m_pI X hH hS e_28 gp_X12_156 rfl rfl dX12_lay_115 (fun H locs hH hS => ?_)
      refine lv_aload_n hx hb dX12_lay_118 rfl (lv_at hl 0 rfl) ?_
      obtain ⟨x_29, e_29, hF⟩ := bnd hF
      refine m_gI X hH e_29 gg_X12_7 dX12_lay_119 ?_
      have hF := Option.some.inj hF
      subst hF
      exact m_iret X hr hlk hH hS dX12_lay_122
    · replace hF := itt c_5 hF
      refine lv_bipush (v := (-2 : Int32)) hx hb dX12_lay_16 (by decide) ?_
      have hF := Option.some.inj hF
      subst hF
      exact m_iret X hr hlk hH hS dX12_lay_18
noncomputable def fX12_remembers_51 (p0 : Nat) (K_83 : Wd → Option (Unit × Wd)) : Nat → Int32 → Wd → Option (Unit × Wd)
  | 0, _, _ => none
  | n + 1, v1, w => if (25 : Int32) ≤ v1 then K_83  w else (gfR 11 9 p0 w).bind fun r_4 => (gfI 11 8 p0 w).bind fun x_5 => (gfR 11 7 p0 w).bind fun r_6 => (rdI r_6 v1 w).bind fun x_7 => (wrI r_4 (((25 : Int32) * x_5) + v1) x_7 w).bind fun w_8 => fX12_remembers_51 p0 K_83 n (v1 + (1 : Int32)) w_8
noncomputable def fX12_remembers_11 (p0 : Nat) (K_39 : Wd → Option (Unit × Wd)) : Nat → Int32 → Wd → Option (Unit × Wd)
  | 0, _, _ => none
  | n + 1, v1, w => if (175 : Int32) ≤ v1 then K_39  w else (gfR 11 9 p0 w).bind fun r_13 => (gfR 11 9 p0 w).bind fun r_14 => (rdI r_14 (v1 + (25 : Int32)) w).bind fun x_15 => (wrI r_13 v1 x_15 w).bind fun w_16 => fX12_remembers_11 p0 K_39 n (v1 + (1 : Int32)) w_16
noncomputable def fX12_remembers (p0 : Nat) (w : Wd) : Option (Unit × Wd) := (gfI 11 8 p0 w).bind fun x_1 => if x_1 = (8 : Int32) then fX12_remembers_11 p0 (fun  (w_17 : Wd) => (gfI 11 8 p0 w_17).bind fun x_18 => (pfI 11 8 p0 (x_18 - (1 : Int32)) w_17).bind fun w_19 => fX12_remembers_51 p0 (fun  (w_20 : Wd) => (gfI 11 8 p0 w_20).bind fun x_21 => (pfI 11 8 p0 (x_21 + (1 : Int32)) w_20).bind fun w_22 => some ((), w_22)) FV (0 : Int32) w_19) FV (0 : Int32) w else fX12_remembers_51 p0 (fun  (w_9 : Wd) => (gfI 11 8 p0 w_9).bind fun x_10 => (pfI 11 8 p0 (x_10 + (1 : Int32)) w_9).bind fun w_11 => some ((), w_11)) FV (0 : Int32) w
set_option maxHeartbeats 4000000 in
set_option maxRecDepth 100000 in
theorem l_X12_remembers_51 (X : Cx p R s m args c cX12_remembers 2 RX12 D cI cT cII 0 0) (hc : cells ≤ R.cells ∧ slots ≤ R.slots) (p0 : Nat) (K_83 : Wd → Option (Unit × Wd)) (res : Unit × Wd)
    (hK_83 : ∀  (w : Wd), K_83  w = some res → ∀ (H : Heap) (locs : List Loc) (ls : Array Slot), Hd D cI cT cII base w H → va_S (fun q => base ≤ q) s.heap H locs → lv_has ls 2 [(0, .ref (base + p0))] → W p l e R s m args below meth c H locs cells slots Q (F0 m 83 ls [])) :
    ∀ (n : Nat) (v1 : Int32) (w : Wd), fX12_remembers_51 p0 K_83 n v1 w = some res → ∀ (H : Heap) (locs : List Loc) (ls : Array Slot), Hd D cI cT cII base w H → va_S (fun q => base ≤ q) s.heap H locs → lv_has ls 2 [(0, .ref (base + p0)), (1, .int v1)] → W p l e R s m args below meth c H locs cells slots Q (F0 m 51 ls []) := by
  have hx := X.1
  have hb := X.2.1
  intro n
  induction n with
  | zero =>
    intro v1 w hF
    rw [fX12_remembers_51] at hF
    cases hF
  | succ n ih =>
    intro v1 w hF H locs ls hH hS hl
    rw [fX12_remembers_51] at hF
    refine lv_iload_n hx hb dX12_remembers_51 rfl (lv_at hl 1 rfl) ?_
    refine lv_bipush (v := (25 : Int32)) hx hb dX12_remembers_52 (by decide) ?_
    refine lv_icmp_ge (tgt := 83) hx hb dX12_remembers_54 (by decide) (fun c_3 => ?_) (fun c_3 => ?_)
    · replace hF := itt c_3 hF
      exact hK_83  w hF H locs ls hH hS (lv_sub hl [0] rfl)
    · replace hF := itf c_3 hF
      refine lv_aload_n hx hb dX12_remembers_57 rfl (lv_at hl 0 rfl) ?_
      obtain ⟨r_4, e_4, hF⟩ := bnd hF
      refine m_gR X hH e_4 gg_X12_35 dX12_remembers_58 ?_
      refine lv_bipush (v := (25 : Int32)) hx hb dX12_remembers_61 (by decide) ?_
      refine lv_aload_n hx hb dX12_remembers_63 rfl (lv_at hl 0 rfl) ?_
      obtain ⟨x_5, e_5, hF⟩ := bnd hF
      refine m_gI X hH e_5 gg_X12_150 dX12_remembers_64 ?_
      refine lv_imul hx hb dX12_remembers_67 ?_
      refine lv_iload_n hx hb dX12_remembers_68 rfl (lv_at hl 1 rfl) ?_
      refine lv_iadd hx hb dX12_remembers_69 ?_
      refine lv_aload_n hx hb dX12_remembers_70 rfl (lv_at hl 0 rfl) ?_
      obtain ⟨r_6, e_6, hF⟩ := bnd hF
      refine m_gR X hH e_6 gg_X12_32 dX12_remembers_71 ?_
      refine lv_iload_n hx hb dX12_remembers_74 rfl (lv_at hl 1 rfl) ?_
      obtain ⟨x_7, e_7, hF⟩ := bnd hF
      refine m_rdI X hH e_7 dX12_remembers_75 ?_
      obtain ⟨w_8, e_8, hF⟩ := bnd hF
      refine m_wrI X hH hS e_8 dX12_remembers_76 (fun H locs hH hS => ?_)
      refine lv_iinc (v := v1 + (1 : Int32)) (lv' := [(1, .int (v1 + (1 : Int32))), (0, .ref (base + p0))]) hx hb dX12_remembers_77 hl (k := 1) rfl (congrArg (fun z => v1 + z) (by decide)) (by decide) rfl (fun ls hl => ?_)
      refine lv_goto (tgt := 51) hx hb dX12_remembers_80 (by decide) ?_
      exact ih (v1 + (1 : Int32)) w_8 hF H locs ls hH hS (lv_sub hl [1, 0] rfl)
set_option maxHeartbeats 4000000 in
set_option maxRecDepth 100000 in
theorem l_X12_remembers_11 (X : Cx p R s m args c cX12_remembers 2 RX12 D cI cT cII 0 0) (hc : cells ≤ R.cells ∧ slots ≤ R.slots) (p0 : Nat) (K_39 : Wd → Option (Unit × Wd)) (res : Unit × Wd)
    (hK_39 : ∀  (w : Wd), K_39  w = some res → ∀ (H : Heap) (locs : List Loc) (ls : Array Slot), Hd D cI cT cII base w H → va_S (fun q => base ≤ q) s.heap H locs → lv_has ls 2 [(0, .ref (base + p0))] → W p l e R s m args below meth c H locs cells slots Q (F0 m 39 ls [])) :
    ∀ (n : Nat) (v1 : Int32) (w : Wd), fX12_remembers_11 p0 K_39 n v1 w = some res → ∀ (H : Heap) (locs : List Loc) (ls : Array Slot), Hd D cI cT cII base w H → va_S (fun q => base ≤ q) s.heap H locs → lv_has ls 2 [(0, .ref (base + p0)), (1, .int v1)] → W p l e R s m args below meth c H locs cells slots Q (F0 m 11 ls []) := by
  have hx := X.1
  have hb := X.2.1
  intro n
  induction n with
  | zero =>
    intro v1 w hF
    rw [fX12_remembers_11] at hF
    cases hF
  | succ n ih =>
    intro v1 w hF H locs ls hH hS hl
    rw [fX12_remembers_11] at hF
    refine lv_iload_n hx hb dX12_remembers_11 rfl (lv_at hl 1 rfl) ?_
    refine lv_sipush (v := (175 : Int32)) hx hb dX12_remembers_12 (by decide) ?_
    refine lv_icmp_ge (tgt := 39) hx hb dX12_remembers_15 (by decide) (fun c_12 => ?_) (fun c_12 => ?_)
    · replace hF := itt c_12 hF
      exact hK_39  w hF H locs ls hH hS (lv_sub hl [0] rfl)
    · replace hF := itf c_12 hF
      refine lv_aload_n hx hb dX12_remembers_18 rfl (lv_at hl 0 rfl) ?_
      obtain ⟨r_13, e_13, hF⟩ := bnd hF
      refine m_gR X hH e_13 gg_X12_35 dX12_remembers_19 ?_
      refine lv_iload_n hx hb dX12_remembers_22 rfl (lv_at hl 1 rfl) ?_
      refine lv_aload_n hx hb dX12_remembers_23 rfl (lv_at hl 0 rfl) ?_
      obtain ⟨r_14, e_14, hF⟩ := bnd hF
      refine m_gR X hH e_14 gg_X12_35 dX12_remembers_24 ?_
      refine lv_iload_n hx hb dX12_remembers_27 rfl (lv_at hl 1 rfl) ?_
      refine lv_bipush (v := (25 : Int32)) hx hb dX12_remembers_28 (by decide) ?_
      refine lv_iadd hx hb dX12_remembers_30 ?_
      obtain ⟨x_15, e_15, hF⟩ := bnd hF
      refine m_rdI X hH e_15 dX12_remembers_31 ?_
      obtain ⟨w_16, e_16, hF⟩ := bnd hF
      refine m_wrI X hH hS e_16 dX12_remembers_32 (fun H locs hH hS => ?_)
      refine lv_iinc (v := v1 + (1 : Int32)) (lv' := [(1, .int (v1 + (1 : Int32))), (0, .ref (base + p0))]) hx hb dX12_remembers_33 hl (k := 1) rfl (congrArg (fun z => v1 + z) (by decide)) (by decide) rfl (fun ls hl => ?_)
      refine lv_goto (tgt := 11) hx hb dX12_remembers_36 (by decide) ?_
      exact ih (v1 + (1 : Int32)) w_16 hF H locs ls hH hS (lv_sub hl [1, 0] rfl)
set_option maxHeartbeats 4000000 in
set_option maxRecDepth 100000 in
theorem k_X12_remembers (l : Launch) (D : va_G) (cI cT cII : ClassId) (base : Nat) (p0 : Nat) (w : Wd) (res : Unit × Wd) (hF : fX12_remembers p0 w = some res) : Ct l yX12_remembers cX12_remembers 2 none { frames := 0, cells := 0, slots := 0, locals := 0 } D cI cT cII base [.ref (base + p0)] w res.2 none 0 0 := by
  unfold fX12_remembers at hF
  refine m_enter (by decide) (Nat.le_of_ble_eq_true rfl) ?_
  intro p e s m below meth c ls X hr hlk hnm hH hS hl
  have hx := X.1
  have hb := X.2.1
  have hc : (0 : Nat) ≤ ({ frames := 0, cells := 0, slots := 0, locals := 0 } : Room).cells ∧ (0 : Nat) ≤ ({ frames := 0, cells := 0, slots := 0, locals := 0 } : Room).slots := ⟨Nat.zero_le _, Nat.zero_le _⟩
  obtain ⟨H, hHe⟩ : ∃ H : Heap, H = s.heap := ⟨_, rfl⟩
  obtain ⟨locs, hle⟩ : ∃ L : List Loc, L = [] := ⟨_, rfl⟩
  have hl : lv_has ls 2 [(0, .ref (base + p0))] := hl
  rw [← hHe] at hH
  have hS : va_S (fun q => base ≤ q) s.heap H locs := by rw [hHe, hle]; exact hS
  rw [← hle]
  show W p l e _ s m _ below meth c s.heap locs 0 0 _ _
  rw [← hHe]
  refine lv_aload_n hx hb dX12_remembers_0 rfl (lv_at hl 0 rfl) ?_
  obtain ⟨x_1, e_1, hF⟩ := bnd hF
  refine m_gI X hH e_1 gg_X12_150 dX12_remembers_1 ?_
  refine lv_bipush (v := (8 : Int32)) hx hb dX12_remembers_4 (by decide) ?_
  refine lv_icmp_ne (tgt := 49) hx hb dX12_remembers_6 (by decide) (fun c_2 => ?_) (fun c_2 => ?_)
  · replace hF := itf c_2 hF
    refine lv_iconst (v := (0 : Int32)) hx hb dX12_remembers_49 (by decide) ?_
    refine lv_istore_n (lv' := [(1, .int (0 : Int32)), (0, .ref (base + p0))]) hx hb dX12_remembers_50 rfl hl (by decide) rfl (fun ls hl => ?_)
    refine l_X12_remembers_51 X hc p0 _ res ?_ FV (0 : Int32) w hF H locs ls hH hS (lv_sub hl [1, 0] rfl)
    · intro  w_9 hF H locs ls hH hS hl
      refine lv_aload_n hx hb dX12_remembers_83 rfl (lv_at hl 0 rfl) ?_
      refine lv_dup hx hb dX12_remembers_84 rfl ?_
      obtain ⟨x_10, e_10, hF⟩ := bnd hF
      refine m_gI X hH e_10 gg_X12_150 dX12_remembers_85 ?_
      refine lv_iconst (v := (1 : Int32)) hx hb dX12_remembers_88 (by decide) ?_
      refine lv_iadd hx hb dX12_remembers_89 ?_
      obtain ⟨w_11, e_11, hF⟩ := bnd hF
      refine m_pI X hH hS e_11 gp_X12_150 rfl rfl dX12_remembers_90 (fun H locs hH hS => ?_)
      have hF := Option.some.inj hF
      subst hF
      exact m_vret X hr hlk hH hS dX12_remembers_93
  · replace hF := itt c_2 hF
    refine lv_iconst (v := (0 : Int32)) hx hb dX12_remembers_9 (by decide) ?_
    refine lv_istore_n (lv' := [(1, .int (0 : Int32)), (0, .ref (base + p0))]) hx hb dX12_remembers_10 rfl hl (by decide) rfl (fun ls hl => ?_)
    refine l_X12_remembers_11 X hc p0 _ res ?_ FV (0 : Int32) w hF H locs ls hH hS (lv_sub hl [1, 0] rfl)
    · intro  w_17 hF H locs ls hH hS hl
      refine lv_aload_n hx hb dX12_remembers_39 rfl (lv_at hl 0 rfl) ?_
      refine lv_dup hx hb dX12_remembers_40 rfl ?_
      obtain ⟨x_18, e_18, hF⟩ := bnd hF
      refine m_gI X hH e_18 gg_X12_150 dX12_remembers_41 ?_
      refine lv_iconst (v := (1 : Int32)) hx hb dX12_remembers_44 (by decide) ?_
      refine lv_isub hx hb dX12_remembers_45 ?_
      obtain ⟨w_19, e_19, hF⟩ := bnd hF
      refine m_pI X hH hS e_19 gp_X12_150 rfl rfl dX12_remembers_46 (fun H locs hH hS => ?_)
      refine lv_iconst (v := (0 : Int32)) hx hb dX12_remembers_49 (by decide) ?_
      refine lv_istore_n (lv' := [(1, .int (0 : Int32)), (0, .ref (base + p0))]) hx hb dX12_remembers_50 rfl hl (by decide) rfl (fun ls hl => ?_)
      refine l_X12_remembers_51 X hc p0 _ res ?_ FV (0 : Int32) w_19 hF H locs ls hH hS (lv_sub hl [1, 0] rfl)
      · intro  w_20 hF H locs ls hH hS hl
        refine lv_aload_n hx hb dX12_remembers_83 rfl (lv_at hl 0 rfl) ?_
        refine lv_dup hx hb dX12_remembers_84 rfl ?_
        obtain ⟨x_21, e_21, hF⟩ := bnd hF
        refine m_gI X hH e_21 gg_X12_150 dX12_remembers_85 ?_
        refine lv_iconst (v := (1 : Int32)) hx hb dX12_remembers_88 (by decide) ?_
        refine lv_iadd hx hb dX12_remembers_89 ?_
        obtain ⟨w_22, e_22, hF⟩ := bnd hF
        refine m_pI X hH hS e_22 gp_X12_150 rfl rfl dX12_remembers_90 (fun H locs hH hS => ?_)
        have hF := Option.some.inj hF
        subst hF
        exact m_vret X hr hlk hH hS dX12_remembers_93
noncomputable def fX12_leave_28 (p0 : Nat) (K_54 : Wd → Option (Int32 × Wd)) : Nat → Int32 → Wd → Option (Int32 × Wd)
  | 0, _, _ => none
  | n + 1, v2, w => if (22 : Int32) ≤ v2 then K_54  w else (gfR 11 7 p0 w).bind fun r_8 => (gfR 11 7 p0 w).bind fun r_9 => (rdI r_9 (v2 + (3 : Int32)) w).bind fun x_10 => (wrI r_8 v2 x_10 w).bind fun w_11 => fX12_leave_28 p0 K_54 n (v2 + (1 : Int32)) w_11
noncomputable def fX12_leave (p0 : Nat) (v1 : Int32) (w : Wd) : Option (Int32 × Wd) := (gfR 11 7 p0 w).bind fun r_1 => (rdI r_1 (0 : Int32) w).bind fun x_2 => (fX12_in v1 (0 : Int32) (x_2 - (1 : Int32)) w).bind fun q_3 => if q_3.1 = 0 then some ((-1 : Int32), q_3.2) else (isO 11 p0 q_3.2).bind fun u_5 => (fX12_remembers p0 q_3.2).bind fun q_6 => fX12_leave_28 p0 (fun  (w_12 : Wd) => (gfR 11 7 p0 w_12).bind fun r_13 => (rdI r_13 (0 : Int32) w_12).bind fun x_14 => (wrI r_13 (0 : Int32) (x_14 - (1 : Int32)) w_12).bind fun w_15 => (gfR 11 7 p0 w_15).bind fun r_16 => (rdI r_16 (0 : Int32) w_15).bind fun x_17 => some (x_17, w_15)) FV ((1 : Int32) + ((3 : Int32) * v1)) q_6.2
set_option maxHeartbeats 4000000 in
set_option maxRecDepth 100000 in
theorem l_X12_leave_28 (X : Cx p R s m args c cX12_leave 3 RX12 D cI cT cII 1 22) (hc : cells ≤ R.cells ∧ slots ≤ R.slots) (p0 : Nat) (K_54 : Wd → Option (Int32 × Wd)) (res : Int32 × Wd)
    (hK_54 : ∀  (w : Wd), K_54  w = some res → ∀ (H : Heap) (locs : List Loc) (ls : Array Slot), Hd D cI cT cII base w H → va_S (fun q => base ≤ q) s.heap H locs → lv_has ls 3 [(0, .ref (base + p0))] → W p l e R s m args below meth c H locs cells slots Q (F0 m 54 ls [])) :
    ∀ (n : Nat) (v2 : Int32) (w : Wd), fX12_leave_28 p0 K_54 n v2 w = some res → ∀ (H : Heap) (locs : List Loc) (ls : Array Slot), Hd D cI cT cII base w H → va_S (fun q => base ≤ q) s.heap H locs → lv_has ls 3 [(0, .ref (base + p0)), (2, .int v2)] → W p l e R s m args below meth c H locs cells slots Q (F0 m 28 ls []) := by
  have hx := X.1
  have hb := X.2.1
  intro n
  induction n with
  | zero =>
    intro v2 w hF
    rw [fX12_leave_28] at hF
    cases hF
  | succ n ih =>
    intro v2 w hF H locs ls hH hS hl
    rw [fX12_leave_28] at hF
    refine lv_iload_n hx hb dX12_leave_28 rfl (lv_at hl 1 rfl) ?_
    refine lv_bipush (v := (22 : Int32)) hx hb dX12_leave_29 (by decide) ?_
    refine lv_icmp_ge (tgt := 54) hx hb dX12_leave_31 (by decide) (fun c_7 => ?_) (fun c_7 => ?_)
    · replace hF := itt c_7 hF
      exact hK_54  w hF H locs ls hH hS (lv_sub hl [0] rfl)
    · replace hF := itf c_7 hF
      refine lv_aload_n hx hb dX12_leave_34 rfl (lv_at hl 0 rfl) ?_
      obtain ⟨r_8, e_8, hF⟩ := bnd hF
      refine m_gR X hH e_8 gg_X12_32 dX12_leave_35 ?_
      refine lv_iload_n hx hb dX12_leave_38 rfl (lv_at hl 1 rfl) ?_
      refine lv_aload_n hx hb dX12_leave_39 rfl (lv_at hl 0 rfl) ?_
      obtain ⟨r_9, e_9, hF⟩ := bnd hF
      refine m_gR X hH e_9 gg_X12_32 dX12_leave_40 ?_
      refine lv_iload_n hx hb dX12_leave_43 rfl (lv_at hl 1 rfl) ?_
      refine lv_iconst (v := (3 : Int32)) hx hb dX12_leave_44 (by decide) ?_
      refine lv_iadd hx hb dX12_leave_45 ?_
      obtain ⟨x_10, e_10, hF⟩ := bnd hF
      refine m_rdI X hH e_10 dX12_leave_46 ?_
      obtain ⟨w_11, e_11, hF⟩ := bnd hF
      refine m_wrI X hH hS e_11 dX12_leave_47 (fun H locs hH hS => ?_)
      refine lv_iinc (v := v2 + (1 : Int32)) (lv' := [(2, .int (v2 + (1 : Int32))), (0, .ref (base + p0))]) hx hb dX12_leave_48 hl (k := 1) rfl (congrArg (fun z => v2 + z) (by decide)) (by decide) rfl (fun ls hl => ?_)
      refine lv_goto (tgt := 28) hx hb dX12_leave_51 (by decide) ?_
      exact ih (v2 + (1 : Int32)) w_11 hF H locs ls hH hS (lv_sub hl [1, 0] rfl)
set_option maxHeartbeats 4000000 in
set_option maxRecDepth 100000 in
theorem k_X12_leave (l : Launch) (D : va_G) (cI cT cII : ClassId) (base : Nat) (p0 : Nat) (v1 : Int32) (w : Wd) (res : Int32 × Wd) (hF : fX12_leave p0 v1 w = some res) : Ct l yX12_leave cX12_leave 3 (some .int) { frames := 1, cells := 0, slots := 0, locals := 22 } D cI cT cII base [.ref (base + p0), .int v1] w res.2 (some (.int res.1)) 0 0 := by
  unfold fX12_leave at hF
  refine m_enter (by decide) (Nat.le_of_ble_eq_true rfl) ?_
  intro p e s m below meth c ls X hr hlk hnm hH hS hl
  have hx := X.1
  have hb := X.2.1
  have hc : (0 : Nat) ≤ ({ frames := 1, cells := 0, slots := 0, locals := 22 } : Room).cells ∧ (0 : Nat) ≤ ({ frames := 1, cells := 0, slots := 0, locals := 22 } : Room).slots := ⟨Nat.zero_le _, Nat.zero_le _⟩
  obtain ⟨H, hHe⟩ : ∃ H : Heap, H = s.heap := ⟨_, rfl⟩
  obtain ⟨locs, hle⟩ : ∃ L : List Loc, L = [] := ⟨_, rfl⟩
  have hl : lv_has ls 3 [(0, .ref (base + p0)), (1, .int v1)] := hl
  rw [← hHe] at hH
  have hS : va_S (fun q => base ≤ q) s.heap H locs := by rw [hHe, hle]; exact hS
  rw [← hle]
  show W p l e _ s m _ below meth c s.heap locs 0 0 _ _
  rw [← hHe]
  refine lv_iload_n hx hb dX12_leave_0 rfl (lv_at hl 1 rfl) ?_
  refine lv_iconst (v := (0 : Int32)) hx hb dX12_leave_1 (by decide) ?_
  refine lv_aload_n hx hb dX12_leave_2 rfl (lv_at hl 0 rfl) ?_
  obtain ⟨r_1, e_1, hF⟩ := bnd hF
  refine m_gR X hH e_1 gg_X12_32 dX12_leave_3 ?_
  refine lv_iconst (v := (0 : Int32)) hx hb dX12_leave_6 (by decide) ?_
  obtain ⟨x_2, e_2, hF⟩ := bnd hF
  refine m_rdI X hH e_2 dX12_leave_7 ?_
  refine lv_iconst (v := (1 : Int32)) hx hb dX12_leave_8 (by decide) ?_
  refine lv_isub hx hb dX12_leave_9 ?_
  obtain ⟨q_3, e_3, hF⟩ := bnd hF
  refine m_callS (As := [.int v1, .int (0 : Int32), .int (x_2 - (1 : Int32))]) (rest := []) X hH hS hl.1 (k_X12_in l D cI cT cII base v1 (0 : Int32) (x_2 - (1 : Int32)) w q_3 e_3) q_X12_in kw_951 kw_952 rfl rfl (Nat.le_of_ble_eq_true rfl) ⟨by decide, by decide⟩ hc dX12_leave_10 (fun H locs hH hS => W.eq (g2 := F0 m 13 ls [.int q_3.1]) rfl ?_)
  refine lv_if_ne (tgt := 18) hx hb dX12_leave_13 (by decide) (fun c_4 => ?_) (fun c_4 => ?_)
  · replace hF := itf c_4 hF
    refine lv_aload_n hx hb dX12_leave_18 rfl (lv_at hl 0 rfl) ?_
    obtain ⟨u_5, ou_5, hF⟩ := bnd hF
    obtain ⟨q_6, e_6, hF⟩ := bnd hF
    refine m_callV (As := []) (rest := []) X hH hS hl.1 ou_5 rfl (by decide) (k_X12_remembers l D cI cT cII base p0 q_3.2 q_6 e_6) q_X12_remembers kw_1107 kw_1109 kw_45 rfl rfl (Nat.le_of_ble_eq_true rfl) ⟨by decide, by decide⟩ hc dX12_leave_19 (fun H locs hH hS => W.eq (g2 := F0 m 22 ls []) rfl ?_)
    refine lv_iconst (v := (1 : Int32)) hx hb dX12_leave_22 (by decide) ?_
    refine lv_iconst (v := (3 : Int32)) hx hb dX12_leave_23 (by decide) ?_
    refine lv_iload_n hx hb dX12_leave_24 rfl (lv_at hl 1 rfl) ?_
    refine lv_imul hx hb dX12_leave_25 ?_
    refine lv_iadd hx hb dX12_leave_26 ?_
    refine lv_istore_n (lv' := [(2, .int ((1 : Int32) + ((3 : Int32) * v1))), (0, .ref (base + p0)), (1, .int v1)]) hx hb dX12_leave_27 rfl hl (by decide) rfl (fun ls hl => ?_)
    refine l_X12_leave_28 X hc p0 _ res ?_ FV ((1 : Int32) + ((3 : Int32) * v1)) q_6.2 hF H locs ls hH hS (lv_sub hl [1, 0] rfl)
    · intro  w_12 hF H locs ls hH hS hl
      refine lv_aload_n hx hb dX12_leave_54 rfl (lv_at hl 0 rfl) ?_
      obtain ⟨r_13, e_13, hF⟩ := bnd hF
      refine m_gR X hH e_13 gg_X12_32 dX12_leave_55 ?_
      refine lv_iconst (v := (0 : Int32)) hx hb dX12_leave_58 (by decide) ?_
      refine lv_dup2_11 hx hb dX12_leave_59 rfl rfl ?_
      obtain ⟨x_14, e_14, hF⟩ := bnd hF
      refine m_rdI X hH e_14 dX12_leave_60 ?_
      refine lv_iconst (v := (1 : Int32)) hx hb dX12_leave_61 (by decide) ?_
      refine lv_isub hx hb dX12_leave_62 ?_
      obtain ⟨w_15, e_15, hF⟩ := bnd hF
      refine m_wrI X hH hS e_15 dX12_leave_63 (fun H locs hH hS => ?_)
      refine lv_aload_n hx hb dX12_leave_64 rfl (lv_at hl 0 rfl) ?_
      obtain ⟨r_16, e_16, hF⟩ := bnd hF
      refine m_gR X hH e_16 gg_X12_32 dX12_leave_65 ?_
      refine lv_iconst (v := (0 : Int32)) hx hb dX12_leave_68 (by decide) ?_
      obtain ⟨x_17, e_17, hF⟩ := bnd hF
      refine m_rdI X hH e_17 dX12_leave_69 ?_
      have hF := Option.some.inj hF
      subst hF
      exact m_iret X hr hlk hH hS dX12_leave_70
  · replace hF := itt c_4 hF
    refine lv_iconst (v := (-1 : Int32)) hx hb dX12_leave_16 (by decide) ?_
    have hF := Option.some.inj hF
    subst hF
    exact m_iret X hr hlk hH hS dX12_leave_17
noncomputable def fX12_look_39 (v1 : Int32) (v2 : Int32) (v3 : Int32) (K_78 : Int32 → Wd → Option (Int32 × Wd)) : Nat → Int32 → Int32 → Wd → Option (Int32 × Wd)
  | 0, _, _, _ => none
  | n + 1, v4, v5, w => if (20 : Int32) < v5 then K_78 v4 w else (fX12_alike v3 v1 v5 w).bind fun q_9 => (fX12_alike v3 v1 v4 q_9.2).bind fun q_10 => if q_10.1 ≤ q_9.1 then fX12_look_39 v1 v2 v3 K_78 n v4 (v5 + (1 : Int32)) q_10.2 else fX12_look_39 v1 v2 v3 K_78 n v5 (v5 + (1 : Int32)) q_10.2
noncomputable def fX12_look (p0 : Nat) (v1 : Int32) (v2 : Int32) (w : Wd) : Option (Int32 × Wd) := (fX12_in v1 (0 : Int32) (3 : Int32) w).bind fun q_1 => if q_1.1 = 0 then some ((-1 : Int32), q_1.2) else (fX12_in v2 (0 : Int32) (1 : Int32) q_1.2).bind fun q_3 => if q_3.1 = 0 then some ((-1 : Int32), q_3.2) else (isO 11 p0 q_3.2).bind fun u_5 => (fX12_bearsBy p0 v1 q_3.2).bind fun q_6 => if q_6.1 = 0 then some ((-4 : Int32), q_6.2) else fX12_look_39 v1 v2 q_6.1 (fun (v4_13 : Int32) (w_12 : Wd) => if v2 = 0 then some (v4_13, w_12) else (fX12_alike q_6.1 v1 v4_13 w_12).bind fun q_15 => some (q_15.1, q_15.2)) FV (0 : Int32) (1 : Int32) q_6.2
set_option maxHeartbeats 4000000 in
set_option maxRecDepth 100000 in
theorem l_X12_look_39 (X : Cx p R s m args c cX12_look 6 RX12 D cI cT cII 3 68) (hc : cells ≤ R.cells ∧ slots ≤ R.slots) (v1 : Int32) (v2 : Int32) (v3 : Int32) (K_78 : Int32 → Wd → Option (Int32 × Wd)) (res : Int32 × Wd)
    (hK_78 : ∀ (z4 : Int32) (w : Wd), K_78 z4 w = some res → ∀ (H : Heap) (locs : List Loc) (ls : Array Slot), Hd D cI cT cII base w H → va_S (fun q => base ≤ q) s.heap H locs → lv_has ls 6 [(1, .int v1), (2, .int v2), (3, .int v3), (4, .int z4)] → W p l e R s m args below meth c H locs cells slots Q (F0 m 78 ls [])) :
    ∀ (n : Nat) (v4 : Int32) (v5 : Int32) (w : Wd), fX12_look_39 v1 v2 v3 K_78 n v4 v5 w = some res → ∀ (H : Heap) (locs : List Loc) (ls : Array Slot), Hd D cI cT cII base w H → va_S (fun q => base ≤ q) s.heap H locs → lv_has ls 6 [(1, .int v1), (2, .int v2), (3, .int v3), (4, .int v4), (5, .int v5)] → W p l e R s m args below meth c H locs cells slots Q (F0 m 39 ls []) := by
  have hx := X.1
  have hb := X.2.1
  intro n
  induction n with
  | zero =>
    intro v4 v5 w hF
    rw [fX12_look_39] at hF
    cases hF
  | succ n ih =>
    intro v4 v5 w hF H locs ls hH hS hl
    rw [fX12_look_39] at hF
    refine lv_iload hx hb dX12_look_39 (lv_at hl 4 rfl) ?_
    refine lv_bipush (v := (20 : Int32)) hx hb dX12_look_41 (by decide) ?_
    refine lv_icmp_gt (tgt := 78) hx hb dX12_look_43 (by decide) (fun c_8 => ?_) (fun c_8 => ?_)
    · replace hF := itt c_8 hF
      exact hK_78 v4 w hF H locs ls hH hS (lv_sub hl [0, 1, 2, 3] rfl)
    · replace hF := itf c_8 hF
      refine lv_iload_n hx hb dX12_look_46 rfl (lv_at hl 2 rfl) ?_
      refine lv_iload_n hx hb dX12_look_47 rfl (lv_at hl 0 rfl) ?_
      refine lv_iload hx hb dX12_look_48 (lv_at hl 4 rfl) ?_
      obtain ⟨q_9, e_9, hF⟩ := bnd hF
      refine m_callS (As := [.int v3, .int v1, .int v5]) (rest := []) X hH hS hl.1 (k_X12_alike l D cI cT cII base v3 v1 v5 w q_9 e_9) q_X12_alike kw_1175 kw_1176 rfl rfl (Nat.le_of_ble_eq_true rfl) ⟨by decide, by decide⟩ hc dX12_look_50 (fun H locs hH hS => W.eq (g2 := F0 m 53 ls [.int q_9.1]) rfl ?_)
      refine lv_iload_n hx hb dX12_look_53 rfl (lv_at hl 2 rfl) ?_
      refine lv_iload_n hx hb dX12_look_54 rfl (lv_at hl 0 rfl) ?_
      refine lv_iload hx hb dX12_look_55 (lv_at hl 3 rfl) ?_
      obtain ⟨q_10, e_10, hF⟩ := bnd hF
      refine m_callS (As := [.int v3, .int v1, .int v4]) (rest := [.int q_9.1]) X hH hS hl.1 (k_X12_alike l D cI cT cII base v3 v1 v4 q_9.2 q_10 e_10) q_X12_alike kw_1175 kw_1176 rfl rfl (Nat.le_of_ble_eq_true rfl) ⟨by decide, by decide⟩ hc dX12_look_57 (fun H locs hH hS => W.eq (g2 := F0 m 60 ls [.int q_10.1, .int q_9.1]) rfl ?_)
      refine lv_icmp_ge (tgt := 68) hx hb dX12_look_60 (by decide) (fun c_11 => ?_) (fun c_11 => ?_)
      · replace hF := itt c_11 hF
        refine lv_iload hx hb dX12_look_68 (lv_at hl 3 rfl) ?_
        refine lv_istore (lv' := [(4, .int v4), (1, .int v1), (2, .int v2), (3, .int v3), (5, .int v5)]) hx hb dX12_look_70 hl (by decide) rfl (fun ls hl => ?_)
        refine lv_iinc (v := v5 + (1 : Int32)) (lv' := [(5, .int (v5 + (1 : Int32))), (4, .int v4), (1, .int v1), (2, .int v2), (3, .int v3)]) hx hb dX12_look_72 hl (k := 4) rfl (congrArg (fun z => v5 + z) (by decide)) (by decide) rfl (fun ls hl => ?_)
        refine lv_goto (tgt := 39) hx hb dX12_look_75 (by decide) ?_
        exact ih v4 (v5 + (1 : Int32)) q_10.2 hF H locs ls hH hS (lv_sub hl [2, 3, 4, 1, 0] rfl)
      · replace hF := itf c_11 hF
        refine lv_iload hx hb dX12_look_63 (lv_at hl 4 rfl) ?_
        refine lv_goto (tgt := 70) hx hb dX12_look_65 (by decide) ?_
        refine lv_istore (lv' := [(4, .int v5), (1, .int v1), (2, .int v2), (3, .int v3), (5, .int v5)]) hx hb dX12_look_70 hl (by decide) rfl (fun ls hl => ?_)
        refine lv_iinc (v := v5 + (1 : Int32)) (lv' := [(5, .int (v5 + (1 : Int32))), (4, .int v5), (1, .int v1), (2, .int v2), (3, .int v3)]) hx hb dX12_look_72 hl (k := 4) rfl (congrArg (fun z => v5 + z) (by decide)) (by decide) rfl (fun ls hl => ?_)
        refine lv_goto (tgt := 39) hx hb dX12_look_75 (by decide) ?_
        exact ih v5 (v5 + (1 : Int32)) q_10.2 hF H locs ls hH hS (lv_sub hl [2, 3, 4, 1, 0] rfl)
set_option maxHeartbeats 4000000 in
set_option maxRecDepth 100000 in
theorem k_X12_look (l : Launch) (D : va_G) (cI cT cII : ClassId) (base : Nat) (p0 : Nat) (v1 : Int32) (v2 : Int32) (w : Wd) (res : Int32 × Wd) (hF : fX12_look p0 v1 v2 w = some res) : Ct l yX12_look cX12_look 6 (some .int) { frames := 3, cells := 0, slots := 0, locals := 68 } D cI cT cII base [.ref (base + p0), .int v1, .int v2] w res.2 (some (.int res.1)) 0 0 := by
  unfold fX12_look at hF
  refine m_enter (by decide) (Nat.le_of_ble_eq_true rfl) ?_
  intro p e s m below meth c ls X hr hlk hnm hH hS hl
  have hx := X.1
  have hb := X.2.1
  have hc : (0 : Nat) ≤ ({ frames := 3, cells := 0, slots := 0, locals := 68 } : Room).cells ∧ (0 : Nat) ≤ ({ frames := 3, cells := 0, slots := 0, locals := 68 } : Room).slots := ⟨Nat.zero_le _, Nat.zero_le _⟩
  obtain ⟨H, hHe⟩ : ∃ H : Heap, H = s.heap := ⟨_, rfl⟩
  obtain ⟨locs, hle⟩ : ∃ L : List Loc, L = [] := ⟨_, rfl⟩
  have hl : lv_has ls 6 [(0, .ref (base + p0)), (1, .int v1), (2, .int v2)] := hl
  rw [← hHe] at hH
  have hS : va_S (fun q => base ≤ q) s.heap H locs := by rw [hHe, hle]; exact hS
  rw [← hle]
  show W p l e _ s m _ below meth c s.heap locs 0 0 _ _
  rw [← hHe]
  refine lv_iload_n hx hb dX12_look_0 rfl (lv_at hl 1 rfl) ?_
  refine lv_iconst (v := (0 : Int32)) hx hb dX12_look_1 (by decide) ?_
  refine lv_iconst (v := (3 : Int32)) hx hb dX12_look_2 (by decide) ?_
  obtain ⟨q_1, e_1, hF⟩ := bnd hF
  refine m_callS (As := [.int v1, .int (0 : Int32), .int (3 : Int32)]) (rest := []) X hH hS hl.1 (k_X12_in l D cI cT cII base v1 (0 : Int32) (3 : Int32) w q_1 e_1) q_X12_in kw_951 kw_952 rfl rfl (Nat.le_of_ble_eq_true rfl) ⟨by decide, by decide⟩ hc dX12_look_3 (fun H locs hH hS => W.eq (g2 := F0 m 6 ls [.int q_1.1]) rfl ?_)
  refine lv_if_eq (tgt := 18) hx hb dX12_look_6 (by decide) (fun c_2 => ?_) (fun c_2 => ?_)
  · replace hF := itt c_2 hF
    refine lv_iconst (v := (-1 : Int32)) hx hb dX12_look_18 (by decide) ?_
    have hF := Option.some.inj hF
    subst hF
    exact m_iret X hr hlk hH hS dX12_look_19
  · replace hF := itf c_2 hF
    refine lv_iload_n hx hb dX12_look_9 rfl (lv_at hl 2 rfl) ?_
    refine lv_iconst (v := (0 : Int32)) hx hb dX12_look_10 (by decide) ?_
    refine lv_iconst (v := (1 : Int32)) hx hb dX12_look_11 (by decide) ?_
    obtain ⟨q_3, e_3, hF⟩ := bnd hF
    refine m_callS (As := [.int v2, .int (0 : Int32), .int (1 : Int32)]) (rest := []) X hH hS hl.1 (k_X12_in l D cI cT cII base v2 (0 : Int32) (1 : Int32) q_1.2 q_3 e_3) q_X12_in kw_951 kw_952 rfl rfl (Nat.le_of_ble_eq_true rfl) ⟨by decide, by decide⟩ hc dX12_look_12 (fun H locs hH hS => W.eq (g2 := F0 m 15 ls [.int q_3.1]) rfl ?_)
    refine lv_if_ne (tgt := 20) hx hb dX12_look_15 (by decide) (fun c_4 => ?_) (fun c_4 => ?_)
    · replace hF := itf c_4 hF
      refine lv_aload_n hx hb dX12_look_20 rfl (lv_at hl 0 rfl) ?_
      refine lv_iload_n hx hb dX12_look_21 rfl (lv_at hl 1 rfl) ?_
      obtain ⟨u_5, ou_5, hF⟩ := bnd hF
      obtain ⟨q_6, e_6, hF⟩ := bnd hF
      refine m_callV (As := [.int v1]) (rest := []) X hH hS hl.1 ou_5 rfl (by decide) (k_X12_bearsBy l D cI cT cII base p0 v1 q_3.2 q_6 e_6) q_X12_bearsBy kw_1167 kw_1169 kw_51 rfl rfl (Nat.le_of_ble_eq_true rfl) ⟨by decide, by decide⟩ hc dX12_look_22 (fun H locs hH hS => W.eq (g2 := F0 m 25 ls [.int q_6.1]) rfl ?_)
      refine lv_istore_n (lv' := [(3, .int q_6.1), (0, .ref (base + p0)), (1, .int v1), (2, .int v2)]) hx hb dX12_look_25 rfl hl (by decide) rfl (fun ls hl => ?_)
      refine lv_iload_n hx hb dX12_look_26 rfl (lv_at hl 0 rfl) ?_
      refine lv_if_ne (tgt := 33) hx hb dX12_look_27 (by decide) (fun c_7 => ?_) (fun c_7 => ?_)
      · replace hF := itf c_7 hF
        refine lv_iconst (v := (0 : Int32)) hx hb dX12_look_33 (by decide) ?_
        refine lv_istore (lv' := [(4, .int (0 : Int32)), (3, .int q_6.1), (0, .ref (base + p0)), (1, .int v1), (2, .int v2)]) hx hb dX12_look_34 hl (by decide) rfl (fun ls hl => ?_)
        refine lv_iconst (v := (1 : Int32)) hx hb dX12_look_36 (by decide) ?_
        refine lv_istore (lv' := [(5, .int (1 : Int32)), (4, .int (0 : Int32)), (3, .int q_6.1), (0, .ref (base + p0)), (1, .int v1), (2, .int v2)]) hx hb dX12_look_37 hl (by decide) rfl (fun ls hl => ?_)
        refine l_X12_look_39 X hc v1 v2 q_6.1 _ res ?_ FV (0 : Int32) (1 : Int32) q_6.2 hF H locs ls hH hS (lv_sub hl [4, 5, 2, 1, 0] rfl)
        · intro v4_13 w_12 hF H locs ls hH hS hl
          refine lv_iload_n hx hb dX12_look_78 rfl (lv_at hl 1 rfl) ?_
          refine lv_if_ne (tgt := 87) hx hb dX12_look_79 (by decide) (fun c_14 => ?_) (fun c_14 => ?_)
          · replace hF := itf c_14 hF
            refine lv_iload_n hx hb dX12_look_87 rfl (lv_at hl 2 rfl) ?_
            refine lv_iload_n hx hb dX12_look_88 rfl (lv_at hl 0 rfl) ?_
            refine lv_iload hx hb dX12_look_89 (lv_at hl 3 rfl) ?_
            obtain ⟨q_15, e_15, hF⟩ := bnd hF
            refine m_callS (As := [.int q_6.1, .int v1, .int v4_13]) (rest := []) X hH hS hl.1 (k_X12_alike l D cI cT cII base q_6.1 v1 v4_13 w_12 q_15 e_15) q_X12_alike kw_1175 kw_1176 rfl rfl (Nat.le_of_ble_eq_true rfl) ⟨by decide, by decide⟩ hc dX12_look_91 (fun H locs hH hS => W.eq (g2 := F0 m 94 ls [.int q_15.1]) rfl ?_)
            have hF := Option.some.inj hF
            subst hF
            exact m_iret X hr hlk hH hS dX12_look_94
          · replace hF := itt c_14 hF
            refine lv_iload hx hb dX12_look_82 (lv_at hl 3 rfl) ?_
            refine lv_goto (tgt := 94) hx hb dX12_look_84 (by decide) ?_
            have hF := Option.some.inj hF
            subst hF
            exact m_iret X hr hlk hH hS dX12_look_94
      · replace hF := itt c_7 hF
        refine lv_bipush (v := (-4 : Int32)) hx hb dX12_look_30 (by decide) ?_
        have hF := Option.some.inj hF
        subst hF
        exact m_iret X hr hlk hH hS dX12_look_32
    · replace hF := itt c_4 hF
      refine lv_iconst (v := (-1 : Int32)) hx hb dX12_look_18 (by decide) ?_
      have hF := Option.some.inj hF
      subst hF
      exact m_iret X hr hlk hH hS dX12_look_19
noncomputable def fX12_most_23 (p0 : Nat) (v1 : Int32) (K_41 : Wd → Option (Int32 × Wd)) : Nat → Int32 → Wd → Option (Int32 × Wd)
  | 0, _, _ => none
  | n + 1, v2, w => if (5 : Int32) ≤ v2 then K_41  w else (gfR 11 31 p0 w).bind fun r_6 => (wrI r_6 v2 (0 : Int32) w).bind fun w_7 => fX12_most_23 p0 v1 K_41 n (v2 + (1 : Int32)) w_7
noncomputable def fX12_most_64 (p0 : Nat) (v1 : Int32) (v2 : Int32) (K_103 : Wd → Option (Int32 × Wd)) : Nat → Int32 → Wd → Option (Int32 × Wd)
  | 0, _, _ => none
  | n + 1, v3, w => (gfI 11 2 p0 w).bind fun x_16 => if x_16 ≤ v3 then K_103  w else (gfR 11 31 p0 w).bind fun r_18 => (rdI r_18 v3 w).bind fun x_19 => (gfI 11 28 p0 w).bind fun x_20 => (fX12_has x_20 v3 w).bind fun q_21 => if q_21.1 = 0 then (wrI r_18 v3 (x_19 + (0 : Int32)) q_21.2).bind fun w_23 => fX12_most_64 p0 v1 v2 K_103 n (v3 + (1 : Int32)) w_23 else (wrI r_18 v3 (x_19 + (1 : Int32)) q_21.2).bind fun w_24 => fX12_most_64 p0 v1 v2 K_103 n (v3 + (1 : Int32)) w_24
noncomputable def fX12_most_47 (p0 : Nat) (v1 : Int32) (K_109 : Wd → Option (Int32 × Wd)) : Nat → Int32 → Wd → Option (Int32 × Wd)
  | 0, _, _ => none
  | n + 1, v2, w => if (30 : Int32) < v2 then K_109  w else (isO 11 p0 w).bind fun u_12 => (fX12_nightOf p0 v2 w).bind fun q_13 => (isO 11 p0 q_13.2).bind fun u_14 => (fX12_morning p0 q_13.2).bind fun q_15 => fX12_most_64 p0 v1 v2 (fun  (w_25 : Wd) => fX12_most_47 p0 v1 K_109 n (v2 + (1 : Int32)) w_25) FV (0 : Int32) q_15.2
noncomputable def fX12_most_113 (p0 : Nat) (v1 : Int32) (K_148 : Int32 → Wd → Option (Int32 × Wd)) : Nat → Int32 → Int32 → Wd → Option (Int32 × Wd)
  | 0, _, _, _ => none
  | n + 1, v2, v3, w => (gfI 11 2 p0 w).bind fun x_27 => if x_27 ≤ v3 then K_148 v2 w else (gfR 11 31 p0 w).bind fun r_29 => (rdI r_29 v3 w).bind fun x_30 => (gfR 11 31 p0 w).bind fun r_31 => (rdI r_31 v2 w).bind fun x_32 => if x_30 ≤ x_32 then fX12_most_113 p0 v1 K_148 n v2 (v3 + (1 : Int32)) w else fX12_most_113 p0 v1 K_148 n v3 (v3 + (1 : Int32)) w
noncomputable def fX12_most (p0 : Nat) (v1 : Int32) (w : Wd) : Option (Int32 × Wd) := (fX12_in v1 (0 : Int32) (1 : Int32) w).bind fun q_1 => if q_1.1 = 0 then some ((-1 : Int32), q_1.2) else (gfI 11 2 p0 q_1.2).bind fun x_3 => if x_3 = 0 then some ((-4 : Int32), q_1.2) else fX12_most_23 p0 v1 (fun  (w_8 : Wd) => (isO 11 p0 w_8).bind fun u_9 => (fX12_begins p0 w_8).bind fun q_10 => fX12_most_47 p0 v1 (fun  (w_26 : Wd) => fX12_most_113 p0 v1 (fun (v2_35 : Int32) (w_34 : Wd) => if v1 = 0 then some (v2_35, w_34) else (gfR 11 31 p0 w_34).bind fun r_37 => (rdI r_37 v2_35 w_34).bind fun x_38 => some (x_38, w_34)) FV (0 : Int32) (1 : Int32) w_26) FV (0 : Int32) q_10.2) FV (0 : Int32) q_1.2
set_option maxHeartbeats 4000000 in
set_option maxRecDepth 100000 in
theorem l_X12_most_23 (X : Cx p R s m args c cX12_most 4 RX12 D cI cT cII 5 108) (hc : cells ≤ R.cells ∧ slots ≤ R.slots) (p0 : Nat) (v1 : Int32) (K_41 : Wd → Option (Int32 × Wd)) (res : Int32 × Wd)
    (hK_41 : ∀  (w : Wd), K_41  w = some res → ∀ (H : Heap) (locs : List Loc) (ls : Array Slot), Hd D cI cT cII base w H → va_S (fun q => base ≤ q) s.heap H locs → lv_has ls 4 [(0, .ref (base + p0)), (1, .int v1)] → W p l e R s m args below meth c H locs cells slots Q (F0 m 41 ls [])) :
    ∀ (n : Nat) (v2 : Int32) (w : Wd), fX12_most_23 p0 v1 K_41 n v2 w = some res → ∀ (H : Heap) (locs : List Loc) (ls : Array Slot), Hd D cI cT cII base w H → va_S (fun q => base ≤ q) s.heap H locs → lv_has ls 4 [(0, .ref (base + p0)), (1, .int v1), (2, .int v2)] → W p l e R s m args below meth c H locs cells slots Q (F0 m 23 ls []) := by
  have hx := X.1
  have hb := X.2.1
  intro n
  induction n with
  | zero =>
    intro v2 w hF
    rw [fX12_most_23] at hF
    cases hF
  | succ n ih =>
    intro v2 w hF H locs ls hH hS hl
    rw [fX12_most_23] at hF
    refine lv_iload_n hx hb dX12_most_23 rfl (lv_at hl 2 rfl) ?_
    refine lv_iconst (v := (5 : Int32)) hx hb dX12_most_24 (by decide) ?_
    refine lv_icmp_ge (tgt := 41) hx hb dX12_most_25 (by decide) (fun c_5 => ?_) (fun c_5 => ?_)
    · replace hF := itt c_5 hF
      exact hK_41  w hF H locs ls hH hS (lv_sub hl [0, 1] rfl)
    · replace hF := itf c_5 hF
      refine lv_aload_n hx hb dX12_most_28 rfl (lv_at hl 0 rfl) ?_
      obtain ⟨r_6, e_6, hF⟩ := bnd hF
      refine m_gR X hH e_6 gg_X12_77 dX12_most_29 ?_
      refine lv_iload_n hx hb dX12_most_32 rfl (lv_at hl 2 rfl) ?_
      refine lv_iconst (v := (0 : Int32)) hx hb dX12_most_33 (by decide) ?_
      obtain ⟨w_7, e_7, hF⟩ := bnd hF
      refine m_wrI X hH hS e_7 dX12_most_34 (fun H locs hH hS => ?_)
      refine lv_iinc (v := v2 + (1 : Int32)) (lv' := [(2, .int (v2 + (1 : Int32))), (0, .ref (base + p0)), (1, .int v1)]) hx hb dX12_most_35 hl (k := 2) rfl (congrArg (fun z => v2 + z) (by decide)) (by decide) rfl (fun ls hl => ?_)
      refine lv_goto (tgt := 23) hx hb dX12_most_38 (by decide) ?_
      exact ih (v2 + (1 : Int32)) w_7 hF H locs ls hH hS (lv_sub hl [1, 2, 0] rfl)
set_option maxHeartbeats 4000000 in
set_option maxRecDepth 100000 in
theorem l_X12_most_64 (X : Cx p R s m args c cX12_most 4 RX12 D cI cT cII 5 108) (hc : cells ≤ R.cells ∧ slots ≤ R.slots) (p0 : Nat) (v1 : Int32) (v2 : Int32) (K_103 : Wd → Option (Int32 × Wd)) (res : Int32 × Wd)
    (hK_103 : ∀  (w : Wd), K_103  w = some res → ∀ (H : Heap) (locs : List Loc) (ls : Array Slot), Hd D cI cT cII base w H → va_S (fun q => base ≤ q) s.heap H locs → lv_has ls 4 [(0, .ref (base + p0)), (1, .int v1), (2, .int v2)] → W p l e R s m args below meth c H locs cells slots Q (F0 m 103 ls [])) :
    ∀ (n : Nat) (v3 : Int32) (w : Wd), fX12_most_64 p0 v1 v2 K_103 n v3 w = some res → ∀ (H : Heap) (locs : List Loc) (ls : Array Slot), Hd D cI cT cII base w H → va_S (fun q => base ≤ q) s.heap H locs → lv_has ls 4 [(0, .ref (base + p0)), (1, .int v1), (2, .int v2), (3, .int v3)] → W p l e R s m args below meth c H locs cells slots Q (F0 m 64 ls []) := by
  have hx := X.1
  have hb := X.2.1
  intro n
  induction n with
  | zero =>
    intro v3 w hF
    rw [fX12_most_64] at hF
    cases hF
  | succ n ih =>
    intro v3 w hF H locs ls hH hS hl
    rw [fX12_most_64] at hF
    refine lv_iload_n hx hb dX12_most_64 rfl (lv_at hl 3 rfl) ?_
    refine lv_aload_n hx hb dX12_most_65 rfl (lv_at hl 0 rfl) ?_
    obtain ⟨x_16, e_16, hF⟩ := bnd hF
    refine m_gI X hH e_16 gg_X12_17 dX12_most_66 ?_
    refine lv_icmp_ge (tgt := 103) hx hb dX12_most_69 (by decide) (fun c_17 => ?_) (fun c_17 => ?_)
    · replace hF := itt c_17 hF
      exact hK_103  w hF H locs ls hH hS (lv_sub hl [0, 1, 2] rfl)
    · replace hF := itf c_17 hF
      refine lv_aload_n hx hb dX12_most_72 rfl (lv_at hl 0 rfl) ?_
      obtain ⟨r_18, e_18, hF⟩ := bnd hF
      refine m_gR X hH e_18 gg_X12_77 dX12_most_73 ?_
      refine lv_iload_n hx hb dX12_most_76 rfl (lv_at hl 3 rfl) ?_
      refine lv_dup2_11 hx hb dX12_most_77 rfl rfl ?_
      obtain ⟨x_19, e_19, hF⟩ := bnd hF
      refine m_rdI X hH e_19 dX12_most_78 ?_
      refine lv_aload_n hx hb dX12_most_79 rfl (lv_at hl 0 rfl) ?_
      obtain ⟨x_20, e_20, hF⟩ := bnd hF
      refine m_gI X hH e_20 gg_X12_182 dX12_most_80 ?_
      refine lv_iload_n hx hb dX12_most_83 rfl (lv_at hl 3 rfl) ?_
      obtain ⟨q_21, e_21, hF⟩ := bnd hF
      refine m_callS (As := [.int x_20, .int v3]) (rest := [.int x_19, .int v3, .ref (base + r_18)]) X hH hS hl.1 (k_X12_has l D cI cT cII base x_20 v3 w q_21 e_21) q_X12_has kw_1067 kw_1068 rfl rfl (Nat.le_of_ble_eq_true rfl) ⟨by decide, by decide⟩ hc dX12_most_84 (fun H locs hH hS => W.eq (g2 := F0 m 87 ls [.int q_21.1, .int x_19, .int v3, .ref (base + r_18)]) rfl ?_)
      refine lv_if_eq (tgt := 94) hx hb dX12_most_87 (by decide) (fun c_22 => ?_) (fun c_22 => ?_)
      · replace hF := itt c_22 hF
        refine lv_iconst (v := (0 : Int32)) hx hb dX12_most_94 (by decide) ?_
        refine lv_iadd hx hb dX12_most_95 ?_
        obtain ⟨w_23, e_23, hF⟩ := bnd hF
        refine m_wrI X hH hS e_23 dX12_most_96 (fun H locs hH hS => ?_)
        refine lv_iinc (v := v3 + (1 : Int32)) (lv' := [(3, .int (v3 + (1 : Int32))), (0, .ref (base + p0)), (1, .int v1), (2, .int v2)]) hx hb dX12_most_97 hl (k := 3) rfl (congrArg (fun z => v3 + z) (by decide)) (by decide) rfl (fun ls hl => ?_)
        refine lv_goto (tgt := 64) hx hb dX12_most_100 (by decide) ?_
        exact ih (v3 + (1 : Int32)) w_23 hF H locs ls hH hS (lv_sub hl [1, 2, 3, 0] rfl)
      · replace hF := itf c_22 hF
        refine lv_iconst (v := (1 : Int32)) hx hb dX12_most_90 (by decide) ?_
        refine lv_goto (tgt := 95) hx hb dX12_most_91 (by decide) ?_
        refine lv_iadd hx hb dX12_most_95 ?_
        obtain ⟨w_24, e_24, hF⟩ := bnd hF
        refine m_wrI X hH hS e_24 dX12_most_96 (fun H locs hH hS => ?_)
        refine lv_iinc (v := v3 + (1 : Int32)) (lv' := [(3, .int (v3 + (1 : Int32))), (0, .ref (base + p0)), (1, .int v1), (2, .int v2)]) hx hb dX12_most_97 hl (k := 3) rfl (congrArg (fun z => v3 + z) (by decide)) (by decide) rfl (fun ls hl => ?_)
        refine lv_goto (tgt := 64) hx hb dX12_most_100 (by decide) ?_
        exact ih (v3 + (1 : Int32)) w_24 hF H locs ls hH hS (lv_sub hl [1, 2, 3, 0] rfl)
set_option maxHeartbeats 4000000 in
set_option maxRecDepth 100000 in
theorem l_X12_most_47 (X : Cx p R s m args c cX12_most 4 RX12 D cI cT cII 5 108) (hc : cells ≤ R.cells ∧ slots ≤ R.slots) (p0 : Nat) (v1 : Int32) (K_109 : Wd → Option (Int32 × Wd)) (res : Int32 × Wd)
    (hK_109 : ∀  (w : Wd), K_109  w = some res → ∀ (H : Heap) (locs : List Loc) (ls : Array Slot), Hd D cI cT cII base w H → va_S (fun q => base ≤ q) s.heap H locs → lv_has ls 4 [(0, .ref (base + p0)), (1, .int v1)] → W p l e R s m args below meth c H locs cells slots Q (F0 m 109 ls [])) :
    ∀ (n : Nat) (v2 : Int32) (w : Wd), fX12_most_47 p0 v1 K_109 n v2 w = some res → ∀ (H : Heap) (locs : List Loc) (ls : Array Slot), Hd D cI cT cII base w H → va_S (fun q => base ≤ q) s.heap H locs → lv_has ls 4 [(0, .ref (base + p0)), (1, .int v1), (2, .int v2)] → W p l e R s m args below meth c H locs cells slots Q (F0 m 47 ls []) := by
  have hx := X.1
  have hb := X.2.1
  intro n
  induction n with
  | zero =>
    intro v2 w hF
    rw [fX12_most_47] at hF
    cases hF
  | succ n ih =>
    intro v2 w hF H locs ls hH hS hl
    rw [fX12_most_47] at hF
    refine lv_iload_n hx hb dX12_most_47 rfl (lv_at hl 2 rfl) ?_
    refine lv_bipush (v := (30 : Int32)) hx hb dX12_most_48 (by decide) ?_
    refine lv_icmp_gt (tgt := 109) hx hb dX12_most_50 (by decide) (fun c_11 => ?_) (fun c_11 => ?_)
    · replace hF := itt c_11 hF
      exact hK_109  w hF H locs ls hH hS (lv_sub hl [0, 1] rfl)
    · replace hF := itf c_11 hF
      refine lv_aload_n hx hb dX12_most_53 rfl (lv_at hl 0 rfl) ?_
      refine lv_iload_n hx hb dX12_most_54 rfl (lv_at hl 2 rfl) ?_
      obtain ⟨u_12, ou_12, hF⟩ := bnd hF
      obtain ⟨q_13, e_13, hF⟩ := bnd hF
      refine m_callV (As := [.int v2]) (rest := []) X hH hS hl.1 ou_12 rfl (by decide) (k_X12_nightOf l D cI cT cII base p0 v2 w q_13 e_13) q_X12_nightOf kw_1044 kw_1046 kw_39 rfl rfl (Nat.le_of_ble_eq_true rfl) ⟨by decide, by decide⟩ hc dX12_most_55 (fun H locs hH hS => W.eq (g2 := F0 m 58 ls []) rfl ?_)
      refine lv_aload_n hx hb dX12_most_58 rfl (lv_at hl 0 rfl) ?_
      obtain ⟨u_14, ou_14, hF⟩ := bnd hF
      obtain ⟨q_15, e_15, hF⟩ := bnd hF
      refine m_callV (As := []) (rest := []) X hH hS hl.1 ou_14 rfl (by decide) (k_X12_morning l D cI cT cII base p0 q_13.2 q_15 e_15) q_X12_morning kw_1059 kw_1061 kw_42 rfl rfl (Nat.le_of_ble_eq_true rfl) ⟨by decide, by decide⟩ hc dX12_most_59 (fun H locs hH hS => W.eq (g2 := F0 m 62 ls []) rfl ?_)
      refine lv_iconst (v := (0 : Int32)) hx hb dX12_most_62 (by decide) ?_
      refine lv_istore_n (lv' := [(3, .int (0 : Int32)), (0, .ref (base + p0)), (1, .int v1), (2, .int v2)]) hx hb dX12_most_63 rfl hl (by decide) rfl (fun ls hl => ?_)
      refine l_X12_most_64 X hc p0 v1 v2 _ res ?_ FV (0 : Int32) q_15.2 hF H locs ls hH hS (lv_sub hl [1, 2, 3, 0] rfl)
      · intro  w_25 hF H locs ls hH hS hl
        refine lv_iinc (v := v2 + (1 : Int32)) (lv' := [(2, .int (v2 + (1 : Int32))), (0, .ref (base + p0)), (1, .int v1)]) hx hb dX12_most_103 hl (k := 2) rfl (congrArg (fun z => v2 + z) (by decide)) (by decide) rfl (fun ls hl => ?_)
        refine lv_goto (tgt := 47) hx hb dX12_most_106 (by decide) ?_
        exact ih (v2 + (1 : Int32)) w_25 hF H locs ls hH hS (lv_sub hl [1, 2, 0] rfl)
set_option maxHeartbeats 4000000 in
set_option maxRecDepth 100000 in
theorem l_X12_most_113 (X : Cx p R s m args c cX12_most 4 RX12 D cI cT cII 5 108) (hc : cells ≤ R.cells ∧ slots ≤ R.slots) (p0 : Nat) (v1 : Int32) (K_148 : Int32 → Wd → Option (Int32 × Wd)) (res : Int32 × Wd)
    (hK_148 : ∀ (z2 : Int32) (w : Wd), K_148 z2 w = some res → ∀ (H : Heap) (locs : List Loc) (ls : Array Slot), Hd D cI cT cII base w H → va_S (fun q => base ≤ q) s.heap H locs → lv_has ls 4 [(0, .ref (base + p0)), (1, .int v1), (2, .int z2)] → W p l e R s m args below meth c H locs cells slots Q (F0 m 148 ls [])) :
    ∀ (n : Nat) (v2 : Int32) (v3 : Int32) (w : Wd), fX12_most_113 p0 v1 K_148 n v2 v3 w = some res → ∀ (H : Heap) (locs : List Loc) (ls : Array Slot), Hd D cI cT cII base w H → va_S (fun q => base ≤ q) s.heap H locs → lv_has ls 4 [(0, .ref (base + p0)), (1, .int v1), (2, .int v2), (3, .int v3)] → W p l e R s m args below meth c H locs cells slots Q (F0 m 113 ls []) := by
  have hx := X.1
  have hb := X.2.1
  intro n
  induction n with
  | zero =>
    intro v2 v3 w hF
    rw [fX12_most_113] at hF
    cases hF
  | succ n ih =>
    intro v2 v3 w hF H locs ls hH hS hl
    rw [fX12_most_113] at hF
    refine lv_iload_n hx hb dX12_most_113 rfl (lv_at hl 3 rfl) ?_
    refine lv_aload_n hx hb dX12_most_114 rfl (lv_at hl 0 rfl) ?_
    obtain ⟨x_27, e_27, hF⟩ := bnd hF
    refine m_gI X hH e_27 gg_X12_17 dX12_most_115 ?_
    refine lv_icmp_ge (tgt := 148) hx hb dX12_most_118 (by decide) (fun c_28 => ?_) (fun c_28 => ?_)
    · replace hF := itt c_28 hF
      exact hK_148 v2 w hF H locs ls hH hS (lv_sub hl [0, 1, 2] rfl)
    · replace hF := itf c_28 hF
      refine lv_aload_n hx hb dX12_most_121 rfl (lv_at hl 0 rfl) ?_
      obtain ⟨r_29, e_29, hF⟩ := bnd hF
      refine m_gR X hH e_29 gg_X12_77 dX12_most_122 ?_
      refine lv_iload_n hx hb dX12_most_125 rfl (lv_at hl 3 rfl) ?_
      obtain ⟨x_30, e_30, hF⟩ := bnd hF
      refine m_rdI X hH e_30 dX12_most_126 ?_
      refine lv_aload_n hx hb dX12_most_127 rfl (lv_at hl 0 rfl) ?_
      obtain ⟨r_31, e_31, hF⟩ := bnd hF
      refine m_gR X hH e_31 gg_X12_77 dX12_most_128 ?_
      refine lv_iload_n hx hb dX12_most_131 rfl (lv_at hl 2 rfl) ?_
      obtain ⟨x_32, e_32, hF⟩ := bnd hF
      refine m_rdI X hH e_32 dX12_most_132 ?_
      refine lv_icmp_le (tgt := 140) hx hb dX12_most_133 (by decide) (fun c_33 => ?_) (fun c_33 => ?_)
      · replace hF := itt c_33 hF
        refine lv_iload_n hx hb dX12_most_140 rfl (lv_at hl 2 rfl) ?_
        refine lv_istore_n (lv' := [(2, .int v2), (0, .ref (base + p0)), (1, .int v1), (3, .int v3)]) hx hb dX12_most_141 rfl hl (by decide) rfl (fun ls hl => ?_)
        refine lv_iinc (v := v3 + (1 : Int32)) (lv' := [(3, .int (v3 + (1 : Int32))), (2, .int v2), (0, .ref (base + p0)), (1, .int v1)]) hx hb dX12_most_142 hl (k := 3) rfl (congrArg (fun z => v3 + z) (by decide)) (by decide) rfl (fun ls hl => ?_)
        refine lv_goto (tgt := 113) hx hb dX12_most_145 (by decide) ?_
        exact ih v2 (v3 + (1 : Int32)) w hF H locs ls hH hS (lv_sub hl [2, 3, 1, 0] rfl)
      · replace hF := itf c_33 hF
        refine lv_iload_n hx hb dX12_most_136 rfl (lv_at hl 3 rfl) ?_
        refine lv_goto (tgt := 141) hx hb dX12_most_137 (by decide) ?_
        refine lv_istore_n (lv' := [(2, .int v3), (0, .ref (base + p0)), (1, .int v1), (3, .int v3)]) hx hb dX12_most_141 rfl hl (by decide) rfl (fun ls hl => ?_)
        refine lv_iinc (v := v3 + (1 : Int32)) (lv' := [(3, .int (v3 + (1 : Int32))), (2, .int v3), (0, .ref (base + p0)), (1, .int v1)]) hx hb dX12_most_142 hl (k := 3) rfl (congrArg (fun z => v3 + z) (by decide)) (by decide) rfl (fun ls hl => ?_)
        refine lv_goto (tgt := 113) hx hb dX12_most_145 (by decide) ?_
        exact ih v3 (v3 + (1 : Int32)) w hF H locs ls hH hS (lv_sub hl [2, 3, 1, 0] rfl)
set_option maxHeartbeats 4000000 in
set_option maxRecDepth 100000 in
theorem k_X12_most (l : Launch) (D : va_G) (cI cT cII : ClassId) (base : Nat) (p0 : Nat) (v1 : Int32) (w : Wd) (res : Int32 × Wd) (hF : fX12_most p0 v1 w = some res) : Ct l yX12_most cX12_most 4 (some .int) { frames := 5, cells := 0, slots := 0, locals := 108 } D cI cT cII base [.ref (base + p0), .int v1] w res.2 (some (.int res.1)) 0 0 := by
  unfold fX12_most at hF
  refine m_enter (by decide) (Nat.le_of_ble_eq_true rfl) ?_
  intro p e s m below meth c ls X hr hlk hnm hH hS hl
  have hx := X.1
  have hb := X.2.1
  have hc : (0 : Nat) ≤ ({ frames := 5, cells := 0, slots := 0, locals := 108 } : Room).cells ∧ (0 : Nat) ≤ ({ frames := 5, cells := 0, slots := 0, locals := 108 } : Room).slots := ⟨Nat.zero_le _, Nat.zero_le _⟩
  obtain ⟨H, hHe⟩ : ∃ H : Heap, H = s.heap := ⟨_, rfl⟩
  obtain ⟨locs, hle⟩ : ∃ L : List Loc, L = [] := ⟨_, rfl⟩
  have hl : lv_has ls 4 [(0, .ref (base + p0)), (1, .int v1)] := hl
  rw [← hHe] at hH
  have hS : va_S (fun q => base ≤ q) s.heap H locs := by rw [hHe, hle]; exact hS
  rw [← hle]
  show W p l e _ s m _ below meth c s.heap locs 0 0 _ _
  rw [← hHe]
  refine lv_iload_n hx hb dX12_most_0 rfl (lv_at hl 1 rfl) ?_
  refine lv_iconst (v := (0 : Int32)) hx hb dX12_most_1 (by decide) ?_
  refine lv_iconst (v := (1 : Int32)) hx hb dX12_most_2 (by decide) ?_
  obtain ⟨q_1, e_1, hF⟩ := bnd hF
  refine m_callS (As := [.int v1, .int (0 : Int32), .int (1 : Int32)]) (rest := []) X hH hS hl.1 (k_X12_in l D cI cT cII base v1 (0 : Int32) (1 : Int32) w q_1 e_1) q_X12_in kw_951 kw_952 rfl rfl (Nat.le_of_ble_eq_true rfl) ⟨by decide, by decide⟩ hc dX12_most_3 (fun H locs hH hS => W.eq (g2 := F0 m 6 ls [.int q_1.1]) rfl ?_)
  refine lv_if_ne (tgt := 11) hx hb dX12_most_6 (by decide) (fun c_2 => ?_) (fun c_2 => ?_)
  · replace hF := itf c_2 hF
    refine lv_aload_n hx hb dX12_most_11 rfl (lv_at hl 0 rfl) ?_
    obtain ⟨x_3, e_3, hF⟩ := bnd hF
    refine m_gI X hH e_3 gg_X12_17 dX12_most_12 ?_
    refine lv_if_ne (tgt := 21) hx hb dX12_most_15 (by decide) (fun c_4 => ?_) (fun c_4 => ?_)
    · replace hF := itf c_4 hF
      refine lv_iconst (v := (0 : Int32)) hx hb dX12_most_21 (by decide) ?_
      refine lv_istore_n (lv' := [(2, .int (0 : Int32)), (0, .ref (base + p0)), (1, .int v1)]) hx hb dX12_most_22 rfl hl (by decide) rfl (fun ls hl => ?_)
      refine l_X12_most_23 X hc p0 v1 _ res ?_ FV (0 : Int32) q_1.2 hF H locs ls hH hS (lv_sub hl [1, 2, 0] rfl)
      · intro  w_8 hF H locs ls hH hS hl
        refine lv_aload_n hx hb dX12_most_41 rfl (lv_at hl 0 rfl) ?_
        obtain ⟨u_9, ou_9, hF⟩ := bnd hF
        obtain ⟨q_10, e_10, hF⟩ := bnd hF
        refine m_callV (As := []) (rest := []) X hH hS hl.1 ou_9 rfl (by decide) (k_X12_begins l D cI cT cII base p0 w_8 q_10 e_10) q_X12_begins kw_1040 kw_1042 kw_38 rfl rfl (Nat.le_of_ble_eq_true rfl) ⟨by decide, by decide⟩ hc dX12_most_42 (fun H locs hH hS => W.eq (g2 := F0 m 45 ls []) rfl ?_)
        refine lv_iconst (v := (0 : Int32)) hx hb dX12_most_45 (by decide) ?_
        refine lv_istore_n (lv' := [(2, .int (0 : Int32)), (0, .ref (base + p0)), (1, .int v1)]) hx hb dX12_most_46 rfl hl (by decide) rfl (fun ls hl => ?_)
        refine l_X12_most_47 X hc p0 v1 _ res ?_ FV (0 : Int32) q_10.2 hF H locs ls hH hS (lv_sub hl [1, 2, 0] rfl)
        · intro  w_26 hF H locs ls hH hS hl
          refine lv_iconst (v := (0 : Int32)) hx hb dX12_most_109 (by decide) ?_
          refine lv_istore_n (lv' := [(2, .int (0 : Int32)), (0, .ref (base + p0)), (1, .int v1)]) hx hb dX12_most_110 rfl hl (by decide) rfl (fun ls hl => ?_)
          refine lv_iconst (v := (1 : Int32)) hx hb dX12_most_111 (by decide) ?_
          refine lv_istore_n (lv' := [(3, .int (1 : Int32)), (2, .int (0 : Int32)), (0, .ref (base + p0)), (1, .int v1)]) hx hb dX12_most_112 rfl hl (by decide) rfl (fun ls hl => ?_)
          refine l_X12_most_113 X hc p0 v1 _ res ?_ FV (0 : Int32) (1 : Int32) w_26 hF H locs ls hH hS (lv_sub hl [2, 3, 1, 0] rfl)
          · intro v2_35 w_34 hF H locs ls hH hS hl
            refine lv_iload_n hx hb dX12_most_148 rfl (lv_at hl 1 rfl) ?_
            refine lv_if_ne (tgt := 156) hx hb dX12_most_149 (by decide) (fun c_36 => ?_) (fun c_36 => ?_)
            · replace hF := itf c_36 hF
              refine lv_aload_n hx hb dX12_most_156 rfl (lv_at hl 0 rfl) ?_
              obtain ⟨r_37, e_37, hF⟩ := bnd hF
              refine m_gR X hH e_37 gg_X12_77 dX12_most_157 ?_
              refine lv_iload_n hx hb dX12_most_160 rfl (lv_at hl 2 rfl) ?_
              obtain ⟨x_38, e_38, hF⟩ := bnd hF
              refine m_rdI X hH e_38 dX12_most_161 ?_
              have hF := Option.some.inj hF
              subst hF
              exact m_iret X hr hlk hH hS dX12_most_162
            · replace hF := itt c_36 hF
              refine lv_iload_n hx hb dX12_most_152 rfl (lv_at hl 2 rfl) ?_
              refine lv_goto (tgt := 162) hx hb dX12_most_153 (by decide) ?_
              have hF := Option.some.inj hF
              subst hF
              exact m_iret X hr hlk hH hS dX12_most_162
    · replace hF := itt c_4 hF
      refine lv_bipush (v := (-4 : Int32)) hx hb dX12_most_18 (by decide) ?_
      have hF := Option.some.inj hF
      subst hF
      exact m_iret X hr hlk hH hS dX12_most_20
  · replace hF := itt c_2 hF
    refine lv_iconst (v := (-1 : Int32)) hx hb dX12_most_9 (by decide) ?_
    have hF := Option.some.inj hF
    subst hF
    exact m_iret X hr hlk hH hS dX12_most_10
noncomputable def fX12_night_31 (p0 : Nat) (v1 : Int32) (v2 : Int32) (K_114 : Int32 → Wd → Option (Int32 × Wd)) : Nat → Int32 → Int32 → Wd → Option (Int32 × Wd)
  | 0, _, _, _ => none
  | n + 1, v3, v4, w => if (30 : Int32) < v4 then K_114 v3 w else (isO 11 p0 w).bind fun u_8 => (fX12_twists p0 w).bind fun q_9 => (gfI 11 0 p0 q_9.2).bind fun x_10 => (rmI (Int64.toInt32 ((((((7919 : Int64) * (Int32.toInt64 v1)) + ((6151 : Int64) * (Int32.toInt64 v4))) + (1 : Int64)) * ((((7919 : Int64) * (Int32.toInt64 v1)) + ((6151 : Int64) * (Int32.toInt64 v4))) + (1 : Int64))) - (((((7919 : Int64) * (Int32.toInt64 v1)) + ((6151 : Int64) * (Int32.toInt64 v4))) + (1 : Int64)) * ((((7919 : Int64) * (Int32.toInt64 v1)) + ((6151 : Int64) * (Int32.toInt64 v4))) + (1 : Int64))) / (65521 : Int64) * (65521 : Int64))) x_10).bind fun x_11 => (dvI (Int64.toInt32 ((((((7919 : Int64) * (Int32.toInt64 v1)) + ((6151 : Int64) * (Int32.toInt64 v4))) + (1 : Int64)) * ((((7919 : Int64) * (Int32.toInt64 v1)) + ((6151 : Int64) * (Int32.toInt64 v4))) + (1 : Int64))) - (((((7919 : Int64) * (Int32.toInt64 v1)) + ((6151 : Int64) * (Int32.toInt64 v4))) + (1 : Int64)) * ((((7919 : Int64) * (Int32.toInt64 v1)) + ((6151 : Int64) * (Int32.toInt64 v4))) + (1 : Int64))) / (65521 : Int64) * (65521 : Int64))) (8 : Int32)).bind fun x_12 => (rmI x_12 (41 : Int32)).bind fun x_13 => (isO 11 p0 q_9.2).bind fun u_14 => (fX12_turnsBy p0 x_11 (x_13 - (20 : Int32)) q_9.2).bind fun q_15 => (isO 11 p0 q_15.2).bind fun u_16 => (fX12_morning p0 q_15.2).bind fun q_17 => (gfI 11 28 p0 q_17.2).bind fun x_18 => (fX12_bits x_18 q_17.2).bind fun q_19 => fX12_night_31 p0 v1 v2 K_114 n (v3 + q_19.1) (v4 + (1 : Int32)) q_19.2
noncomputable def fX12_night (p0 : Nat) (v1 : Int32) (v2 : Int32) (w : Wd) : Option (Int32 × Wd) := (fX12_in v1 (0 : Int32) (9999 : Int32) w).bind fun q_1 => if q_1.1 = 0 then some ((-1 : Int32), q_1.2) else (fX12_in v2 (0 : Int32) (1 : Int32) q_1.2).bind fun q_3 => if q_3.1 = 0 then some ((-1 : Int32), q_3.2) else (isO 11 p0 q_3.2).bind fun u_5 => (fX12_begins p0 q_3.2).bind fun q_6 => fX12_night_31 p0 v1 v2 (fun (v3_21 : Int32) (w_20 : Wd) => if v2 = 0 then some (v3_21, w_20) else (gfR 11 25 p0 w_20).bind fun r_23 => (rdI r_23 (0 : Int32) w_20).bind fun x_24 => some (x_24 + (40 : Int32), w_20)) FV (0 : Int32) (0 : Int32) q_6.2
set_option maxHeartbeats 4000000 in
set_option maxRecDepth 100000 in
theorem l_X12_night_31 (X : Cx p R s m args c cX12_night 8 RX12 D cI cT cII 5 108) (hc : cells ≤ R.cells ∧ slots ≤ R.slots) (p0 : Nat) (v1 : Int32) (v2 : Int32) (K_114 : Int32 → Wd → Option (Int32 × Wd)) (res : Int32 × Wd)
    (hK_114 : ∀ (z3 : Int32) (w : Wd), K_114 z3 w = some res → ∀ (H : Heap) (locs : List Loc) (ls : Array Slot), Hd D cI cT cII base w H → va_S (fun q => base ≤ q) s.heap H locs → lv_has ls 8 [(0, .ref (base + p0)), (2, .int v2), (3, .int z3)] → W p l e R s m args below meth c H locs cells slots Q (F0 m 114 ls [])) :
    ∀ (n : Nat) (v3 : Int32) (v4 : Int32) (w : Wd), fX12_night_31 p0 v1 v2 K_114 n v3 v4 w = some res → ∀ (H : Heap) (locs : List Loc) (ls : Array Slot), Hd D cI cT cII base w H → va_S (fun q => base ≤ q) s.heap H locs → lv_has ls 8 [(0, .ref (base + p0)), (1, .int v1), (2, .int v2), (3, .int v3), (4, .int v4)] → W p l e R s m args below meth c H locs cells slots Q (F0 m 31 ls []) := by
  have hx := X.1
  have hb := X.2.1
  intro n
  induction n with
  | zero =>
    intro v3 v4 w hF
    rw [fX12_night_31] at hF
    cases hF
  | succ n ih =>
    intro v3 v4 w hF H locs ls hH hS hl
    rw [fX12_night_31] at hF
    refine lv_iload hx hb dX12_night_31 (lv_at hl 4 rfl) ?_
    refine lv_bipush (v := (30 : Int32)) hx hb dX12_night_33 (by decide) ?_
    refine lv_icmp_gt (tgt := 114) hx hb dX12_night_35 (by decide) (fun c_7 => ?_) (fun c_7 => ?_)
    · replace hF := itt c_7 hF
      exact hK_114 v3 w hF H locs ls hH hS (lv_sub hl [0, 2, 3] rfl)
    · replace hF := itf c_7 hF
      refine lv_ldc2 (own := RX12) (v := 7919) hx hb X.2.2.2.1 (X.2.2.2.2.1 _ kw_1202) dX12_night_38 ?_
      refine lv_iload_n hx hb dX12_night_41 rfl (lv_at hl 1 rfl) ?_
      refine lv_i2l hx hb dX12_night_42 rfl ?_
      refine lv_lmul hx hb dX12_night_43 ?_
      refine lv_ldc2 (own := RX12) (v := 6151) hx hb X.2.2.2.1 (X.2.2.2.2.1 _ kw_1203) dX12_night_44 ?_
      refine lv_iload hx hb dX12_night_47 (lv_at hl 4 rfl) ?_
      refine lv_i2l hx hb dX12_night_49 rfl ?_
      refine lv_lmul hx hb dX12_night_50 ?_
      refine lv_ladd hx hb dX12_night_51 ?_
      refine lv_lconst (v := 1) hx hb dX12_night_52 (by decide) ?_
      refine lv_ladd hx hb dX12_night_53 ?_
      refine lv_lstore (lv' := [(5, .long ((((7919 : Int64) * (Int32.toInt64 v1)) + ((6151 : Int64) * (Int32.toInt64 v4))) + (1 : Int64))), (0, .ref (base + p0)), (1, .int v1), (2, .int v2), (3, .int v3), (4, .int v4)]) hx hb dX12_night_54 hl (by decide) rfl (fun ls hl => ?_)
      refine lv_lload hx hb dX12_night_56 (lv_at hl 0 rfl) ?_
      refine lv_lload hx hb dX12_night_58 (lv_at hl 0 rfl) ?_
      refine lv_lmul hx hb dX12_night_60 ?_
      refine lv_ldc2 (own := RX12) (v := 65521) hx hb X.2.2.2.1 (X.2.2.2.2.1 _ kw_1204) dX12_night_61 ?_
      refine lv_lrem hx hb dX12_night_64 (by decide) ?_
      refine lv_l2i hx hb dX12_night_65 rfl ?_
      refine lv_istore (lv' := [(7, .int (Int64.toInt32 ((((((7919 : Int64) * (Int32.toInt64 v1)) + ((6151 : Int64) * (Int32.toInt64 v4))) + (1 : Int64)) * ((((7919 : Int64) * (Int32.toInt64 v1)) + ((6151 : Int64) * (Int32.toInt64 v4))) + (1 : Int64))) - (((((7919 : Int64) * (Int32.toInt64 v1)) + ((6151 : Int64) * (Int32.toInt64 v4))) + (1 : Int64)) * ((((7919 : Int64) * (Int32.toInt64 v1)) + ((6151 : Int64) * (Int32.toInt64 v4))) + (1 : Int64))) / (65521 : Int64) * (65521 : Int64)))), (5, .long ((((7919 : Int64) * (Int32.toInt64 v1)) + ((6151 : Int64) * (Int32.toInt64 v4))) + (1 : Int64))), (0, .ref (base + p0)), (1, .int v1), (2, .int v2), (3, .int v3), (4, .int v4)]) hx hb dX12_night_66 hl (by decide) rfl (fun ls hl => ?_)
      refine lv_aload_n hx hb dX12_night_68 rfl (lv_at hl 2 rfl) ?_
      obtain ⟨u_8, ou_8, hF⟩ := bnd hF
      obtain ⟨q_9, e_9, hF⟩ := bnd hF
      refine m_callV (As := []) (rest := []) X hH hS hl.1 ou_8 rfl (by decide) (k_X12_twists l D cI cT cII base p0 w q_9 e_9) q_X12_twists kw_1048 kw_1050 kw_40 rfl rfl (Nat.le_of_ble_eq_true rfl) ⟨by decide, by decide⟩ hc dX12_night_69 (fun H locs hH hS => W.eq (g2 := F0 m 72 ls []) rfl ?_)
      refine lv_aload_n hx hb dX12_night_72 rfl (lv_at hl 2 rfl) ?_
      refine lv_iload hx hb dX12_night_73 (lv_at hl 0 rfl) ?_
      refine lv_aload_n hx hb dX12_night_75 rfl (lv_at hl 2 rfl) ?_
      obtain ⟨x_10, e_10, hF⟩ := bnd hF
      refine m_gI X hH e_10 gg_X12_7 dX12_night_76 ?_
      obtain ⟨x_11, e_11, hF⟩ := bnd hF
      refine m_irem X e_11 dX12_night_79 ?_
      refine lv_iload hx hb dX12_night_80 (lv_at hl 0 rfl) ?_
      refine lv_bipush (v := (8 : Int32)) hx hb dX12_night_82 (by decide) ?_
      obtain ⟨x_12, e_12, hF⟩ := bnd hF
      refine m_idiv X e_12 dX12_night_84 ?_
      refine lv_bipush (v := (41 : Int32)) hx hb dX12_night_85 (by decide) ?_
      obtain ⟨x_13, e_13, hF⟩ := bnd hF
      refine m_irem X e_13 dX12_night_87 ?_
      refine lv_bipush (v := (20 : Int32)) hx hb dX12_night_88 (by decide) ?_
      refine lv_isub hx hb dX12_night_90 ?_
      obtain ⟨u_14, ou_14, hF⟩ := bnd hF
      obtain ⟨q_15, e_15, hF⟩ := bnd hF
      refine m_callV (As := [.int x_11, .int (x_13 - (20 : Int32))]) (rest := []) X hH hS hl.1 ou_14 rfl (by decide) (k_X12_turnsBy l D cI cT cII base p0 x_11 (x_13 - (20 : Int32)) q_9.2 q_15 e_15) q_X12_turnsBy kw_1055 kw_1057 kw_41 rfl rfl (Nat.le_of_ble_eq_true rfl) ⟨by decide, by decide⟩ hc dX12_night_91 (fun H locs hH hS => W.eq (g2 := F0 m 94 ls []) rfl ?_)
      refine lv_aload_n hx hb dX12_night_94 rfl (lv_at hl 2 rfl) ?_
      obtain ⟨u_16, ou_16, hF⟩ := bnd hF
      obtain ⟨q_17, e_17, hF⟩ := bnd hF
      refine m_callV (As := []) (rest := []) X hH hS hl.1 ou_16 rfl (by decide) (k_X12_morning l D cI cT cII base p0 q_15.2 q_17 e_17) q_X12_morning kw_1059 kw_1061 kw_42 rfl rfl (Nat.le_of_ble_eq_true rfl) ⟨by decide, by decide⟩ hc dX12_night_95 (fun H locs hH hS => W.eq (g2 := F0 m 98 ls []) rfl ?_)
      refine lv_iload_n hx hb dX12_night_98 rfl (lv_at hl 5 rfl) ?_
      refine lv_aload_n hx hb dX12_night_99 rfl (lv_at hl 2 rfl) ?_
      obtain ⟨x_18, e_18, hF⟩ := bnd hF
      refine m_gI X hH e_18 gg_X12_182 dX12_night_100 ?_
      obtain ⟨q_19, e_19, hF⟩ := bnd hF
      refine m_callS (As := [.int x_18]) (rest := [.int v3]) X hH hS hl.1 (k_X12_bits l D cI cT cII base x_18 q_17.2 q_19 e_19) q_X12_bits kw_1096 kw_1097 rfl rfl (Nat.le_of_ble_eq_true rfl) ⟨by decide, by decide⟩ hc dX12_night_103 (fun H locs hH hS => W.eq (g2 := F0 m 106 ls [.int q_19.1, .int v3]) rfl ?_)
      refine lv_iadd hx hb dX12_night_106 ?_
      refine lv_istore_n (lv' := [(3, .int (v3 + q_19.1)), (7, .int (Int64.toInt32 ((((((7919 : Int64) * (Int32.toInt64 v1)) + ((6151 : Int64) * (Int32.toInt64 v4))) + (1 : Int64)) * ((((7919 : Int64) * (Int32.toInt64 v1)) + ((6151 : Int64) * (Int32.toInt64 v4))) + (1 : Int64))) - (((((7919 : Int64) * (Int32.toInt64 v1)) + ((6151 : Int64) * (Int32.toInt64 v4))) + (1 : Int64)) * ((((7919 : Int64) * (Int32.toInt64 v1)) + ((6151 : Int64) * (Int32.toInt64 v4))) + (1 : Int64))) / (65521 : Int64) * (65521 : Int64)))), (5, .long ((((7919 : Int64) * (Int32.toInt64 v1)) + ((6151 : Int64) * (Int32.toInt64 v4))) + (1 : Int64))), (0, .ref (base + p0)), (1, .int v1), (2, .int v2), (4, .int v4)]) hx hb dX12_night_107 rfl hl (by decide) rfl (fun ls hl => ?_)
      refine lv_iinc (v := v4 + (1 : Int32)) (lv' := [(4, .int (v4 + (1 : Int32))), (3, .int (v3 + q_19.1)), (7, .int (Int64.toInt32 ((((((7919 : Int64) * (Int32.toInt64 v1)) + ((6151 : Int64) * (Int32.toInt64 v4))) + (1 : Int64)) * ((((7919 : Int64) * (Int32.toInt64 v1)) + ((6151 : Int64) * (Int32.toInt64 v4))) + (1 : Int64))) - (((((7919 : Int64) * (Int32.toInt64 v1)) + ((6151 : Int64) * (Int32.toInt64 v4))) + (1 : Int64)) * ((((7919 : Int64) * (Int32.toInt64 v1)) + ((6151 : Int64) * (Int32.toInt64 v4))) + (1 : Int64))) / (65521 : Int64) * (65521 : Int64)))), (5, .long ((((7919 : Int64) * (Int32.toInt64 v1)) + ((6151 : Int64) * (Int32.toInt64 v4))) + (1 : Int64))), (0, .ref (base + p0)), (1, .int v1), (2, .int v2)]) hx hb dX12_night_108 hl (k := 6) rfl (congrArg (fun z => v4 + z) (by decide)) (by decide) rfl (fun ls hl => ?_)
      refine lv_goto (tgt := 31) hx hb dX12_night_111 (by decide) ?_
      exact ih (v3 + q_19.1) (v4 + (1 : Int32)) q_19.2 hF H locs ls hH hS (lv_sub hl [4, 5, 6, 1, 0] rfl)
set_option maxHeartbeats 4000000 in
set_option maxRecDepth 100000 in
theorem k_X12_night (l : Launch) (D : va_G) (cI cT cII : ClassId) (base : Nat) (p0 : Nat) (v1 : Int32) (v2 : Int32) (w : Wd) (res : Int32 × Wd) (hF : fX12_night p0 v1 v2 w = some res) : Ct l yX12_night cX12_night 8 (some .int) { frames := 5, cells := 0, slots := 0, locals := 108 } D cI cT cII base [.ref (base + p0), .int v1, .int v2] w res.2 (some (.int res.1)) 0 0 := by
  unfold fX12_night at hF
  refine m_enter (by decide) (Nat.le_of_ble_eq_true rfl) ?_
  intro p e s m below meth c ls X hr hlk hnm hH hS hl
  have hx := X.1
  have hb := X.2.1
  have hc : (0 : Nat) ≤ ({ frames := 5, cells := 0, slots := 0, locals := 108 } : Room).cells ∧ (0 : Nat) ≤ ({ frames := 5, cells := 0, slots := 0, locals := 108 } : Room).slots := ⟨Nat.zero_le _, Nat.zero_le _⟩
  obtain ⟨H, hHe⟩ : ∃ H : Heap, H = s.heap := ⟨_, rfl⟩
  obtain ⟨locs, hle⟩ : ∃ L : List Loc, L = [] := ⟨_, rfl⟩
  have hl : lv_has ls 8 [(0, .ref (base + p0)), (1, .int v1), (2, .int v2)] := hl
  rw [← hHe] at hH
  have hS : va_S (fun q => base ≤ q) s.heap H locs := by rw [hHe, hle]; exact hS
  rw [← hle]
  show W p l e _ s m _ below meth c s.heap locs 0 0 _ _
  rw [← hHe]
  refine lv_iload_n hx hb dX12_night_0 rfl (lv_at hl 1 rfl) ?_
  refine lv_iconst (v := (0 : Int32)) hx hb dX12_night_1 (by decide) ?_
  refine lv_sipush (v := (9999 : Int32)) hx hb dX12_night_2 (by decide) ?_
  obtain ⟨q_1, e_1, hF⟩ := bnd hF
  refine m_callS (As := [.int v1, .int (0 : Int32), .int (9999 : Int32)]) (rest := []) X hH hS hl.1 (k_X12_in l D cI cT cII base v1 (0 : Int32) (9999 : Int32) w q_1 e_1) q_X12_in kw_951 kw_952 rfl rfl (Nat.le_of_ble_eq_true rfl) ⟨by decide, by decide⟩ hc dX12_night_5 (fun H locs hH hS => W.eq (g2 := F0 m 8 ls [.int q_1.1]) rfl ?_)
  refine lv_if_eq (tgt := 20) hx hb dX12_night_8 (by decide) (fun c_2 => ?_) (fun c_2 => ?_)
  · replace hF := itt c_2 hF
    refine lv_iconst (v := (-1 : Int32)) hx hb dX12_night_20 (by decide) ?_
    have hF := Option.some.inj hF
    subst hF
    exact m_iret X hr hlk hH hS dX12_night_21
  · replace hF := itf c_2 hF
    refine lv_iload_n hx hb dX12_night_11 rfl (lv_at hl 2 rfl) ?_
    refine lv_iconst (v := (0 : Int32)) hx hb dX12_night_12 (by decide) ?_
    refine lv_iconst (v := (1 : Int32)) hx hb dX12_night_13 (by decide) ?_
    obtain ⟨q_3, e_3, hF⟩ := bnd hF
    refine m_callS (As := [.int v2, .int (0 : Int32), .int (1 : Int32)]) (rest := []) X hH hS hl.1 (k_X12_in l D cI cT cII base v2 (0 : Int32) (1 : Int32) q_1.2 q_3 e_3) q_X12_in kw_951 kw_952 rfl rfl (Nat.le_of_ble_eq_true rfl) ⟨by decide, by decide⟩ hc dX12_night_14 (fun H locs hH hS => W.eq (g2 := F0 m 17 ls [.int q_3.1]) rfl ?_)
    refine lv_if_ne (tgt := 22) hx hb dX12_night_17 (by decide) (fun c_4 => ?_) (fun c_4 => ?_)
    · replace hF := itf c_4 hF
      refine lv_iconst (v := (0 : Int32)) hx hb dX12_night_22 (by decide) ?_
      refine lv_istore_n (lv' := [(3, .int (0 : Int32)), (0, .ref (base + p0)), (1, .int v1), (2, .int v2)]) hx hb dX12_night_23 rfl hl (by decide) rfl (fun ls hl => ?_)
      refine lv_aload_n hx hb dX12_night_24 rfl (lv_at hl 1 rfl) ?_
      obtain ⟨u_5, ou_5, hF⟩ := bnd hF
      obtain ⟨q_6, e_6, hF⟩ := bnd hF
      refine m_callV (As := []) (rest := []) X hH hS hl.1 ou_5 rfl (by decide) (k_X12_begins l D cI cT cII base p0 q_3.2 q_6 e_6) q_X12_begins kw_1040 kw_1042 kw_38 rfl rfl (Nat.le_of_ble_eq_true rfl) ⟨by decide, by decide⟩ hc dX12_night_25 (fun H locs hH hS => W.eq (g2 := F0 m 28 ls []) rfl ?_)
      refine lv_iconst (v := (0 : Int32)) hx hb dX12_night_28 (by decide) ?_
      refine lv_istore (lv' := [(4, .int (0 : Int32)), (3, .int (0 : Int32)), (0, .ref (base + p0)), (1, .int v1), (2, .int v2)]) hx hb dX12_night_29 hl (by decide) rfl (fun ls hl => ?_)
      refine l_X12_night_31 X hc p0 v1 v2 _ res ?_ FV (0 : Int32) (0 : Int32) q_6.2 hF H locs ls hH hS (lv_sub hl [2, 3, 4, 1, 0] rfl)
      · intro v3_21 w_20 hF H locs ls hH hS hl
        refine lv_iload_n hx hb dX12_night_114 rfl (lv_at hl 1 rfl) ?_
        refine lv_if_ne (tgt := 122) hx hb dX12_night_115 (by decide) (fun c_22 => ?_) (fun c_22 => ?_)
        · replace hF := itf c_22 hF
          refine lv_aload_n hx hb dX12_night_122 rfl (lv_at hl 0 rfl) ?_
          obtain ⟨r_23, e_23, hF⟩ := bnd hF
          refine m_gR X hH e_23 gg_X12_62 dX12_night_123 ?_
          refine lv_iconst (v := (0 : Int32)) hx hb dX12_night_126 (by decide) ?_
          obtain ⟨x_24, e_24, hF⟩ := bnd hF
          refine m_rdI X hH e_24 dX12_night_127 ?_
          refine lv_bipush (v := (40 : Int32)) hx hb dX12_night_128 (by decide) ?_
          refine lv_iadd hx hb dX12_night_130 ?_
          have hF := Option.some.inj hF
          subst hF
          exact m_iret X hr hlk hH hS dX12_night_131
        · replace hF := itt c_22 hF
          refine lv_iload_n hx hb dX12_night_118 rfl (lv_at hl 2 rfl) ?_
          refine lv_goto (tgt := 131) hx hb dX12_night_119 (by decide) ?_
          have hF := Option.some.inj hF
          subst hF
          exact m_iret X hr hlk hH hS dX12_night_131
    · replace hF := itt c_4 hF
      refine lv_iconst (v := (-1 : Int32)) hx hb dX12_night_20 (by decide) ?_
      have hF := Option.some.inj hF
      subst hF
      exact m_iret X hr hlk hH hS dX12_night_21
end M09
