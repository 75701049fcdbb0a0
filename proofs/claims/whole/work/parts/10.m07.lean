section M07
variable {p : Program} {l : Launch} {e : Env} {R : Room} {s : State} {m : MethodId} {args : Array Value} {below : List Frame} {meth : Method} {c : Code} {cells slots : Nat} {Q : State → Prop} {D : va_G} {cI cT cII : ClassId} {base : Nat}
noncomputable def fX12_bearsBy_16 (p0 : Nat) (v1 : Int32) (v2 : Int32) (v3 : Int32) (K_71 : Int32 → Wd → Option (Int32 × Wd)) : Nat → Int32 → Int32 → Wd → Option (Int32 × Wd)
  | 0, _, _, _ => none
  | n + 1, v4, v5, w => (gfI 11 12 p0 w).bind fun x_2 => if x_2 ≤ v5 then K_71 v4 w else if v4 = 0 then fX12_bearsBy_16 p0 v1 v2 v3 K_71 n (0 : Int32) (v5 + (1 : Int32)) w else (gfR 11 13 p0 w).bind fun r_5 => (rdI r_5 ((2 : Int32) * v5) w).bind fun x_6 => (fX12_madeOf v1 v3 x_6 w).bind fun q_7 => (gfR 11 13 p0 q_7.2).bind fun r_8 => (rdI r_8 (((2 : Int32) * v5) + (1 : Int32)) q_7.2).bind fun x_9 => if q_7.1 = x_9 then fX12_bearsBy_16 p0 v1 v2 v3 K_71 n (1 : Int32) (v5 + (1 : Int32)) q_7.2 else fX12_bearsBy_16 p0 v1 v2 v3 K_71 n (0 : Int32) (v5 + (1 : Int32)) q_7.2
noncomputable def fX12_bearsBy_4 (p0 : Nat) (v1 : Int32) (K_92 : Int32 → Wd → Option (Int32 × Wd)) : Nat → Int32 → Int32 → Wd → Option (Int32 × Wd)
  | 0, _, _, _ => none
  | n + 1, v2, v3, w => if (20 : Int32) < v3 then K_92 v2 w else fX12_bearsBy_16 p0 v1 v2 v3 (fun (v4_12 : Int32) (w_11 : Wd) => if v4_12 = 0 then fX12_bearsBy_4 p0 v1 K_92 n (v2 ||| (0 : Int32)) (v3 + (1 : Int32)) w_11 else fX12_bearsBy_4 p0 v1 K_92 n (v2 ||| ((1 : Int32) <<< (v3 &&& 31))) (v3 + (1 : Int32)) w_11) FV (1 : Int32) (0 : Int32) w
noncomputable def fX12_bearsBy (p0 : Nat) (v1 : Int32) (w : Wd) : Option (Int32 × Wd) := fX12_bearsBy_4 p0 v1 (fun (v2_15 : Int32) (w_14 : Wd) => some (v2_15, w_14)) FV (0 : Int32) (0 : Int32) w
set_option maxHeartbeats 4000000 in
set_option maxRecDepth 100000 in
theorem l_X12_bearsBy_16 (X : Cx p R s m args c cX12_bearsBy 6 RX12 D cI cT cII 2 42) (hc : cells ≤ R.cells ∧ slots ≤ R.slots) (p0 : Nat) (v1 : Int32) (v2 : Int32) (v3 : Int32) (K_71 : Int32 → Wd → Option (Int32 × Wd)) (res : Int32 × Wd)
    (hK_71 : ∀ (z4 : Int32) (w : Wd), K_71 z4 w = some res → ∀ (H : Heap) (locs : List Loc) (ls : Array Slot), Hd D cI cT cII base w H → va_S (fun q => base ≤ q) s.heap H locs → lv_has ls 6 [(0, .ref (base + p0)), (1, .int v1), (2, .int v2), (3, .int v3), (4, .int z4)] → W p l e R s m args below meth c H locs cells slots Q (F0 m 71 ls [])) :
    ∀ (n : Nat) (v4 : Int32) (v5 : Int32) (w : Wd), fX12_bearsBy_16 p0 v1 v2 v3 K_71 n v4 v5 w = some res → ∀ (H : Heap) (locs : List Loc) (ls : Array Slot), Hd D cI cT cII base w H → va_S (fun q => base ≤ q) s.heap H locs → lv_has ls 6 [(0, .ref (base + p0)), (1, .int v1), (2, .int v2), (3, .int v3), (4, .int v4), (5, .int v5)] → W p l e R s m args below meth c H locs cells slots Q (F0 m 16 ls []) := by
  have hx := X.1
  have hb := X.2.1
  intro n
  induction n with
  | zero =>
    intro v4 v5 w hF
    rw [fX12_bearsBy_16] at hF
    cases hF
  | succ n ih =>
    intro v4 v5 w hF H locs ls hH hS hl
    rw [fX12_bearsBy_16] at hF
    refine lv_iload hx hb dX12_bearsBy_16 (lv_at hl 5 rfl) ?_
    refine lv_aload_n hx hb dX12_bearsBy_18 rfl (lv_at hl 0 rfl) ?_
    obtain ⟨x_2, e_2, hF⟩ := bnd hF
    refine m_gI X hH e_2 gg_X12_156 dX12_bearsBy_19 ?_
    refine lv_icmp_ge (tgt := 71) hx hb dX12_bearsBy_22 (by decide) (fun c_3 => ?_) (fun c_3 => ?_)
    · replace hF := itt c_3 hF
      exact hK_71 v4 w hF H locs ls hH hS (lv_sub hl [0, 1, 2, 3, 4] rfl)
    · replace hF := itf c_3 hF
      refine lv_iload hx hb dX12_bearsBy_25 (lv_at hl 4 rfl) ?_
      refine lv_if_eq (tgt := 62) hx hb dX12_bearsBy_27 (by decide) (fun c_4 => ?_) (fun c_4 => ?_)
      · replace hF := itt c_4 hF
        refine lv_iconst (v := (0 : Int32)) hx hb dX12_bearsBy_62 (by decide) ?_
        refine lv_istore (lv' := [(4, .int (0 : Int32)), (0, .ref (base + p0)), (1, .int v1), (2, .int v2), (3, .int v3), (5, .int v5)]) hx hb dX12_bearsBy_63 hl (by decide) rfl (fun ls hl => ?_)
        refine lv_iinc (v := v5 + (1 : Int32)) (lv' := [(5, .int (v5 + (1 : Int32))), (4, .int (0 : Int32)), (0, .ref (base + p0)), (1, .int v1), (2, .int v2), (3, .int v3)]) hx hb dX12_bearsBy_65 hl (k := 5) rfl (congrArg (fun z => v5 + z) (by decide)) (by decide) rfl (fun ls hl => ?_)
        refine lv_goto (tgt := 16) hx hb dX12_bearsBy_68 (by decide) ?_
        exact ih (0 : Int32) (v5 + (1 : Int32)) w hF H locs ls hH hS (lv_sub hl [2, 3, 4, 5, 1, 0] rfl)
      · replace hF := itf c_4 hF
        refine lv_iload_n hx hb dX12_bearsBy_30 rfl (lv_at hl 1 rfl) ?_
        refine lv_iload_n hx hb dX12_bearsBy_31 rfl (lv_at hl 3 rfl) ?_
        refine lv_aload_n hx hb dX12_bearsBy_32 rfl (lv_at hl 0 rfl) ?_
        obtain ⟨r_5, e_5, hF⟩ := bnd hF
        refine m_gR X hH e_5 gg_X12_41 dX12_bearsBy_33 ?_
        refine lv_iconst (v := (2 : Int32)) hx hb dX12_bearsBy_36 (by decide) ?_
        refine lv_iload hx hb dX12_bearsBy_37 (lv_at hl 5 rfl) ?_
        refine lv_imul hx hb dX12_bearsBy_39 ?_
        obtain ⟨x_6, e_6, hF⟩ := bnd hF
        refine m_rdI X hH e_6 dX12_bearsBy_40 ?_
        obtain ⟨q_7, e_7, hF⟩ := bnd hF
        refine m_callS (As := [.int v1, .int v3, .int x_6]) (rest := []) X hH hS hl.1 (k_X12_madeOf l D cI cT cII base v1 v3 x_6 w q_7 e_7) q_X12_madeOf kw_1074 kw_1075 rfl rfl (Nat.le_of_ble_eq_true rfl) ⟨by decide, by decide⟩ hc dX12_bearsBy_41 (fun H locs hH hS => W.eq (g2 := F0 m 44 ls [.int q_7.1]) rfl ?_)
        refine lv_aload_n hx hb dX12_bearsBy_44 rfl (lv_at hl 0 rfl) ?_
        obtain ⟨r_8, e_8, hF⟩ := bnd hF
        refine m_gR X hH e_8 gg_X12_41 dX12_bearsBy_45 ?_
        refine lv_iconst (v := (2 : Int32)) hx hb dX12_bearsBy_48 (by decide) ?_
        refine lv_iload hx hb dX12_bearsBy_49 (lv_at hl 5 rfl) ?_
        refine lv_imul hx hb dX12_bearsBy_51 ?_
        refine lv_iconst (v := (1 : Int32)) hx hb dX12_bearsBy_52 (by decide) ?_
        refine lv_iadd hx hb dX12_bearsBy_53 ?_
        obtain ⟨x_9, e_9, hF⟩ := bnd hF
        refine m_rdI X hH e_9 dX12_bearsBy_54 ?_
        refine lv_icmp_ne (tgt := 62) hx hb dX12_bearsBy_55 (by decide) (fun c_10 => ?_) (fun c_10 => ?_)
        · replace hF := itf c_10 hF
          refine lv_iconst (v := (0 : Int32)) hx hb dX12_bearsBy_62 (by decide) ?_
          refine lv_istore (lv' := [(4, .int (0 : Int32)), (0, .ref (base + p0)), (1, .int v1), (2, .int v2), (3, .int v3), (5, .int v5)]) hx hb dX12_bearsBy_63 hl (by decide) rfl (fun ls hl => ?_)
          refine lv_iinc (v := v5 + (1 : Int32)) (lv' := [(5, .int (v5 + (1 : Int32))), (4, .int (0 : Int32)), (0, .ref (base + p0)), (1, .int v1), (2, .int v2), (3, .int v3)]) hx hb dX12_bearsBy_65 hl (k := 5) rfl (congrArg (fun z => v5 + z) (by decide)) (by decide) rfl (fun ls hl => ?_)
          refine lv_goto (tgt := 16) hx hb dX12_bearsBy_68 (by decide) ?_
          exact ih (0 : Int32) (v5 + (1 : Int32)) q_7.2 hF H locs ls hH hS (lv_sub hl [2, 3, 4, 5, 1, 0] rfl)
        · replace hF := itt c_10 hF
          refine lv_iconst (v := (1 : Int32)) hx hb dX12_bearsBy_58 (by decide) ?_
          refine lv_goto (tgt := 63) hx hb dX12_bearsBy_59 (by decide) ?_
          refine lv_istore (lv' := [(4, .int (1 : Int32)), (0, .ref (base + p0)), (1, .int v1), (2, .int v2), (3, .int v3), (5, .int v5)]) hx hb dX12_bearsBy_63 hl (by decide) rfl (fun ls hl => ?_)
          refine lv_iinc (v := v5 + (1 : Int32)) (lv' := [(5, .int (v5 + (1 : Int32))), (4, .int (1 : Int32)), (0, .ref (base + p0)), (1, .int v1), (2, .int v2), (3, .int v3)]) hx hb dX12_bearsBy_65 hl (k := 5) rfl (congrArg (fun z => v5 + z) (by decide)) (by decide) rfl (fun ls hl => ?_)
          refine lv_goto (tgt := 16) hx hb dX12_bearsBy_68 (by decide) ?_
          exact ih (1 : Int32) (v5 + (1 : Int32)) q_7.2 hF H locs ls hH hS (lv_sub hl [2, 3, 4, 5, 1, 0] rfl)
set_option maxHeartbeats 4000000 in
set_option maxRecDepth 100000 in
theorem l_X12_bearsBy_4 (X : Cx p R s m args c cX12_bearsBy 6 RX12 D cI cT cII 2 42) (hc : cells ≤ R.cells ∧ slots ≤ R.slots) (p0 : Nat) (v1 : Int32) (K_92 : Int32 → Wd → Option (Int32 × Wd)) (res : Int32 × Wd)
    (hK_92 : ∀ (z2 : Int32) (w : Wd), K_92 z2 w = some res → ∀ (H : Heap) (locs : List Loc) (ls : Array Slot), Hd D cI cT cII base w H → va_S (fun q => base ≤ q) s.heap H locs → lv_has ls 6 [(2, .int z2)] → W p l e R s m args below meth c H locs cells slots Q (F0 m 92 ls [])) :
    ∀ (n : Nat) (v2 : Int32) (v3 : Int32) (w : Wd), fX12_bearsBy_4 p0 v1 K_92 n v2 v3 w = some res → ∀ (H : Heap) (locs : List Loc) (ls : Array Slot), Hd D cI cT cII base w H → va_S (fun q => base ≤ q) s.heap H locs → lv_has ls 6 [(0, .ref (base + p0)), (1, .int v1), (2, .int v2), (3, .int v3)] → W p l e R s m args below meth c H locs cells slots Q (F0 m 4 ls []) := by
  have hx := X.1
  have hb := X.2.1
  intro n
  induction n with
  | zero =>
    intro v2 v3 w hF
    rw [fX12_bearsBy_4] at hF
    cases hF
  | succ n ih =>
    intro v2 v3 w hF H locs ls hH hS hl
    rw [fX12_bearsBy_4] at hF
    refine lv_iload_n hx hb dX12_bearsBy_4 rfl (lv_at hl 3 rfl) ?_
    refine lv_bipush (v := (20 : Int32)) hx hb dX12_bearsBy_5 (by decide) ?_
    refine lv_icmp_gt (tgt := 92) hx hb dX12_bearsBy_7 (by decide) (fun c_1 => ?_) (fun c_1 => ?_)
    · replace hF := itt c_1 hF
      exact hK_92 v2 w hF H locs ls hH hS (lv_sub hl [2] rfl)
    · replace hF := itf c_1 hF
      refine lv_iconst (v := (1 : Int32)) hx hb dX12_bearsBy_10 (by decide) ?_
      refine lv_istore (lv' := [(4, .int (1 : Int32)), (0, .ref (base + p0)), (1, .int v1), (2, .int v2), (3, .int v3)]) hx hb dX12_bearsBy_11 hl (by decide) rfl (fun ls hl => ?_)
      refine lv_iconst (v := (0 : Int32)) hx hb dX12_bearsBy_13 (by decide) ?_
      refine lv_istore (lv' := [(5, .int (0 : Int32)), (4, .int (1 : Int32)), (0, .ref (base + p0)), (1, .int v1), (2, .int v2), (3, .int v3)]) hx hb dX12_bearsBy_14 hl (by decide) rfl (fun ls hl => ?_)
      refine l_X12_bearsBy_16 X hc p0 v1 v2 v3 _ res ?_ FV (1 : Int32) (0 : Int32) w hF H locs ls hH hS (lv_sub hl [2, 3, 4, 5, 1, 0] rfl)
      · intro v4_12 w_11 hF H locs ls hH hS hl
        refine lv_iload_n hx hb dX12_bearsBy_71 rfl (lv_at hl 2 rfl) ?_
        refine lv_iload hx hb dX12_bearsBy_72 (lv_at hl 4 rfl) ?_
        refine lv_if_eq (tgt := 83) hx hb dX12_bearsBy_74 (by decide) (fun c_13 => ?_) (fun c_13 => ?_)
        · replace hF := itt c_13 hF
          refine lv_iconst (v := (0 : Int32)) hx hb dX12_bearsBy_83 (by decide) ?_
          refine lv_ior hx hb dX12_bearsBy_84 ?_
          refine lv_istore_n (lv' := [(2, .int (v2 ||| (0 : Int32))), (0, .ref (base + p0)), (1, .int v1), (3, .int v3), (4, .int v4_12)]) hx hb dX12_bearsBy_85 rfl hl (by decide) rfl (fun ls hl => ?_)
          refine lv_iinc (v := v3 + (1 : Int32)) (lv' := [(3, .int (v3 + (1 : Int32))), (2, .int (v2 ||| (0 : Int32))), (0, .ref (base + p0)), (1, .int v1), (4, .int v4_12)]) hx hb dX12_bearsBy_86 hl (k := 3) rfl (congrArg (fun z => v3 + z) (by decide)) (by decide) rfl (fun ls hl => ?_)
          refine lv_goto (tgt := 4) hx hb dX12_bearsBy_89 (by decide) ?_
          exact ih (v2 ||| (0 : Int32)) (v3 + (1 : Int32)) w_11 hF H locs ls hH hS (lv_sub hl [2, 3, 1, 0] rfl)
        · replace hF := itf c_13 hF
          refine lv_iconst (v := (1 : Int32)) hx hb dX12_bearsBy_77 (by decide) ?_
          refine lv_iload_n hx hb dX12_bearsBy_78 rfl (lv_at hl 3 rfl) ?_
          refine lv_ishl hx hb dX12_bearsBy_79 ?_
          refine lv_goto (tgt := 84) hx hb dX12_bearsBy_80 (by decide) ?_
          refine lv_ior hx hb dX12_bearsBy_84 ?_
          refine lv_istore_n (lv' := [(2, .int (v2 ||| ((1 : Int32) <<< (v3 &&& 31)))), (0, .ref (base + p0)), (1, .int v1), (3, .int v3), (4, .int v4_12)]) hx hb dX12_bearsBy_85 rfl hl (by decide) rfl (fun ls hl => ?_)
          refine lv_iinc (v := v3 + (1 : Int32)) (lv' := [(3, .int (v3 + (1 : Int32))), (2, .int (v2 ||| ((1 : Int32) <<< (v3 &&& 31)))), (0, .ref (base + p0)), (1, .int v1), (4, .int v4_12)]) hx hb dX12_bearsBy_86 hl (k := 3) rfl (congrArg (fun z => v3 + z) (by decide)) (by decide) rfl (fun ls hl => ?_)
          refine lv_goto (tgt := 4) hx hb dX12_bearsBy_89 (by decide) ?_
          exact ih (v2 ||| ((1 : Int32) <<< (v3 &&& 31))) (v3 + (1 : Int32)) w_11 hF H locs ls hH hS (lv_sub hl [2, 3, 1, 0] rfl)
set_option maxHeartbeats 4000000 in
set_option maxRecDepth 100000 in
theorem k_X12_bearsBy (l : Launch) (D : va_G) (cI cT cII : ClassId) (base : Nat) (p0 : Nat) (v1 : Int32) (w : Wd) (res : Int32 × Wd) (hF : fX12_bearsBy p0 v1 w = some res) : Ct l yX12_bearsBy cX12_bearsBy 6 (some .int) { frames := 2, cells := 0, slots := 0, locals := 42 } D cI cT cII base [.ref (base + p0), .int v1] w res.2 (some (.int res.1)) 0 0 := by
  unfold fX12_bearsBy at hF
  refine m_enter (by decide) (Nat.le_of_ble_eq_true rfl) ?_
  intro p e s m below meth c ls X hr hlk hnm hH hS hl
  have hx := X.1
  have hb := X.2.1
  have hc : (0 : Nat) ≤ ({ frames := 2, cells := 0, slots := 0, locals := 42 } : Room).cells ∧ (0 : Nat) ≤ ({ frames := 2, cells := 0, slots := 0, locals := 42 } : Room).slots := ⟨Nat.zero_le _, Nat.zero_le _⟩
  obtain ⟨H, hHe⟩ : ∃ H : Heap, H = s.heap := ⟨_, rfl⟩
  obtain ⟨locs, hle⟩ : ∃ L : List Loc, L = [] := ⟨_, rfl⟩
  have hl : lv_has ls 6 [(0, .ref (base + p0)), (1, .int v1)] := hl
  rw [← hHe] at hH
  have hS : va_S (fun q => base ≤ q) s.heap H locs := by rw [hHe, hle]; exact hS
  rw [← hle]
  show W p l e _ s m _ below meth c s.heap locs 0 0 _ _
  rw [← hHe]
  refine lv_iconst (v := (0 : Int32)) hx hb dX12_bearsBy_0 (by decide) ?_
  refine lv_istore_n (lv' := [(2, .int (0 : Int32)), (0, .ref (base + p0)), (1, .int v1)]) hx hb dX12_bearsBy_1 rfl hl (by decide) rfl (fun ls hl => ?_)
  refine lv_iconst (v := (0 : Int32)) hx hb dX12_bearsBy_2 (by decide) ?_
  refine lv_istore_n (lv' := [(3, .int (0 : Int32)), (2, .int (0 : Int32)), (0, .ref (base + p0)), (1, .int v1)]) hx hb dX12_bearsBy_3 rfl hl (by decide) rfl (fun ls hl => ?_)
  refine l_X12_bearsBy_4 X hc p0 v1 _ res ?_ FV (0 : Int32) (0 : Int32) w hF H locs ls hH hS (lv_sub hl [2, 3, 1, 0] rfl)
  · intro v2_15 w_14 hF H locs ls hH hS hl
    refine lv_iload_n hx hb dX12_bearsBy_92 rfl (lv_at hl 0 rfl) ?_
    have hF := Option.some.inj hF
    subst hF
    exact m_iret X hr hlk hH hS dX12_bearsBy_93
noncomputable def fX12_bears (p0 : Nat) (v1 : Int32) (w : Wd) : Option (Int32 × Wd) := (fX12_in v1 (0 : Int32) (3 : Int32) w).bind fun q_1 => if q_1.1 = 0 then some ((-1 : Int32), q_1.2) else (isO 11 p0 q_1.2).bind fun u_3 => (fX12_bearsBy p0 v1 q_1.2).bind fun q_4 => some (q_4.1, q_4.2)
set_option maxHeartbeats 4000000 in
set_option maxRecDepth 100000 in
theorem k_X12_bears (l : Launch) (D : va_G) (cI cT cII : ClassId) (base : Nat) (p0 : Nat) (v1 : Int32) (w : Wd) (res : Int32 × Wd) (hF : fX12_bears p0 v1 w = some res) : Ct l yX12_bears cX12_bears 2 (some .int) { frames := 3, cells := 0, slots := 0, locals := 67 } D cI cT cII base [.ref (base + p0), .int v1] w res.2 (some (.int res.1)) 0 0 := by
  unfold fX12_bears at hF
  refine m_enter (by decide) (Nat.le_of_ble_eq_true rfl) ?_
  intro p e s m below meth c ls X hr hlk hnm hH hS hl
  have hx := X.1
  have hb := X.2.1
  have hc : (0 : Nat) ≤ ({ frames := 3, cells := 0, slots := 0, locals := 67 } : Room).cells ∧ (0 : Nat) ≤ ({ frames := 3, cells := 0, slots := 0, locals := 67 } : Room).slots := ⟨Nat.zero_le _, Nat.zero_le _⟩
  obtain ⟨H, hHe⟩ : ∃ H : Heap, H = s.heap := ⟨_, rfl⟩
  obtain ⟨locs, hle⟩ : ∃ L : List Loc, L = [] := ⟨_, rfl⟩
  have hl : lv_has ls 2 [(0, .ref (base + p0)), (1, .int v1)] := hl
  rw [← hHe] at hH
  have hS : va_S (fun q => base ≤ q) s.heap H locs := by rw [hHe, hle]; exact hS
  rw [← hle]
  show W p l e _ s m _ below meth c s.heap locs 0 0 _ _
  rw [← hHe]
  refine lv_iload_n hx hb dX12_bears_0 rfl (lv_at hl 1 rfl) ?_
  refine lv_iconst (v := (0 : Int32)) hx hb dX12_bears_1 (by decide) ?_
  refine lv_iconst (v := (3 : Int32)) hx hb dX12_bears_2 (by decide) ?_
  obtain ⟨q_1, e_1, hF⟩ := bnd hF
  refine m_callS (As := [.int v1, .int (0 : Int32), .int (3 : Int32)]) (rest := []) X hH hS hl.1 (k_X12_in l D cI cT cII base v1 (0 : Int32) (3 : Int32) w q_1 e_1) q_X12_in kw_951 kw_952 rfl rfl (Nat.le_of_ble_eq_true rfl) ⟨by decide, by decide⟩ hc dX12_bears_3 (fun H locs hH hS => W.eq (g2 := F0 m 6 ls [.int q_1.1]) rfl ?_)
  refine lv_if_eq (tgt := 17) hx hb dX12_bears_6 (by decide) (fun c_2 => ?_) (fun c_2 => ?_)
  · replace hF := itt c_2 hF
    refine lv_iconst (v := (-1 : Int32)) hx hb dX12_bears_17 (by decide) ?_
    have hF := Option.some.inj hF
    subst hF
    exact m_iret X hr hlk hH hS dX12_bears_18
  · replace hF := itf c_2 hF
    refine lv_aload_n hx hb dX12_bears_9 rfl (lv_at hl 0 rfl) ?_
    refine lv_iload_n hx hb dX12_bears_10 rfl (lv_at hl 1 rfl) ?_
    obtain ⟨u_3, ou_3, hF⟩ := bnd hF
    obtain ⟨q_4, e_4, hF⟩ := bnd hF
    refine m_callV (As := [.int v1]) (rest := []) X hH hS hl.1 ou_3 rfl (by decide) (k_X12_bearsBy l D cI cT cII base p0 v1 q_1.2 q_4 e_4) q_X12_bearsBy kw_1167 kw_1169 kw_51 rfl rfl (Nat.le_of_ble_eq_true rfl) ⟨by decide, by decide⟩ hc dX12_bears_11 (fun H locs hH hS => W.eq (g2 := F0 m 14 ls [.int q_4.1]) rfl ?_)
    refine lv_goto (tgt := 18) hx hb dX12_bears_14 (by decide) ?_
    have hF := Option.some.inj hF
    subst hF
    exact m_iret X hr hlk hH hS dX12_bears_18
noncomputable def fX12_bits_4  (K_20 : Int32 → Wd → Option (Int32 × Wd)) : Nat → Int32 → Int32 → Wd → Option (Int32 × Wd)
  | 0, _, _, _ => none
  | n + 1, v1, v2, w => if v2 ≤ 0 then K_20 v1 w else fX12_bits_4 K_20 n (v1 + (1 : Int32)) (v2 &&& (v2 - (1 : Int32))) w
noncomputable def fX12_bits (v0 : Int32) (w : Wd) : Option (Int32 × Wd) := fX12_bits_4  (fun (v1_3 : Int32) (w_2 : Wd) => some (v1_3, w_2)) FV (0 : Int32) v0 w
set_option maxHeartbeats 4000000 in
set_option maxRecDepth 100000 in
theorem l_X12_bits_4 (X : Cx p R s m args c cX12_bits 3 RX12 D cI cT cII 0 0) (hc : cells ≤ R.cells ∧ slots ≤ R.slots)  (K_20 : Int32 → Wd → Option (Int32 × Wd)) (res : Int32 × Wd)
    (hK_20 : ∀ (z1 : Int32) (w : Wd), K_20 z1 w = some res → ∀ (H : Heap) (locs : List Loc) (ls : Array Slot), Hd D cI cT cII base w H → va_S (fun q => base ≤ q) s.heap H locs → lv_has ls 3 [(1, .int z1)] → W p l e R s m args below meth c H locs cells slots Q (F0 m 20 ls [])) :
    ∀ (n : Nat) (v1 : Int32) (v2 : Int32) (w : Wd), fX12_bits_4  K_20 n v1 v2 w = some res → ∀ (H : Heap) (locs : List Loc) (ls : Array Slot), Hd D cI cT cII base w H → va_S (fun q => base ≤ q) s.heap H locs → lv_has ls 3 [(1, .int v1), (2, .int v2)] → W p l e R s m args below meth c H locs cells slots Q (F0 m 4 ls []) := by
  have hx := X.1
  have hb := X.2.1
  intro n
  induction n with
  | zero =>
    intro v1 v2 w hF
    rw [fX12_bits_4] at hF
    cases hF
  | succ n ih =>
    intro v1 v2 w hF H locs ls hH hS hl
    rw [fX12_bits_4] at hF
    refine lv_iload_n hx hb dX12_bits_4 rfl (lv_at hl 1 rfl) ?_
    refine lv_if_le (tgt := 20) hx hb dX12_bits_5 (by decide) (fun c_1 => ?_) (fun c_1 => ?_)
    · replace hF := itt c_1 hF
      exact hK_20 v1 w hF H locs ls hH hS (lv_sub hl [0] rfl)
    · replace hF := itf c_1 hF
      refine lv_iinc (v := v1 + (1 : Int32)) (lv' := [(1, .int (v1 + (1 : Int32))), (2, .int v2)]) hx hb dX12_bits_8 hl (k := 0) rfl (congrArg (fun z => v1 + z) (by decide)) (by decide) rfl (fun ls hl => ?_)
      refine lv_iload_n hx hb dX12_bits_11 rfl (lv_at hl 1 rfl) ?_
      refine lv_iload_n hx hb dX12_bits_12 rfl (lv_at hl 1 rfl) ?_
      refine lv_iconst (v := (1 : Int32)) hx hb dX12_bits_13 (by decide) ?_
      refine lv_isub hx hb dX12_bits_14 ?_
      refine lv_iand hx hb dX12_bits_15 ?_
      refine lv_istore_n (lv' := [(2, .int (v2 &&& (v2 - (1 : Int32)))), (1, .int (v1 + (1 : Int32)))]) hx hb dX12_bits_16 rfl hl (by decide) rfl (fun ls hl => ?_)
      refine lv_goto (tgt := 4) hx hb dX12_bits_17 (by decide) ?_
      exact ih (v1 + (1 : Int32)) (v2 &&& (v2 - (1 : Int32))) w hF H locs ls hH hS (lv_sub hl [1, 0] rfl)
set_option maxHeartbeats 4000000 in
set_option maxRecDepth 100000 in
theorem k_X12_bits (l : Launch) (D : va_G) (cI cT cII : ClassId) (base : Nat) (v0 : Int32) (w : Wd) (res : Int32 × Wd) (hF : fX12_bits v0 w = some res) : Ct l yX12_bits cX12_bits 3 (some .int) { frames := 0, cells := 0, slots := 0, locals := 0 } D cI cT cII base [.int v0] w res.2 (some (.int res.1)) 0 0 := by
  unfold fX12_bits at hF
  refine m_enter (by decide) (Nat.le_of_ble_eq_true rfl) ?_
  intro p e s m below meth c ls X hr hlk hnm hH hS hl
  have hx := X.1
  have hb := X.2.1
  have hc : (0 : Nat) ≤ ({ frames := 0, cells := 0, slots := 0, locals := 0 } : Room).cells ∧ (0 : Nat) ≤ ({ frames := 0, cells := 0, slots := 0, locals := 0 } : Room).slots := ⟨Nat.zero_le _, Nat.zero_le _⟩
  obtain ⟨H, hHe⟩ : ∃ H : Heap, H = s.heap := ⟨_, rfl⟩
  obtain ⟨locs, hle⟩ : ∃ L : List Loc, L = [] := ⟨_, rfl⟩
  have hl : lv_has ls 3 [(0, .int v0)] := hl
  rw [← hHe] at hH
  have hS : va_S (fun q => base ≤ q) s.heap H locs := by rw [hHe, hle]; exact hS
  rw [← hle]
  show W p l e _ s m _ below meth c s.heap locs 0 0 _ _
  rw [← hHe]
  refine lv_iconst (v := (0 : Int32)) hx hb dX12_bits_0 (by decide) ?_
  refine lv_istore_n (lv' := [(1, .int (0 : Int32)), (0, .int v0)]) hx hb dX12_bits_1 rfl hl (by decide) rfl (fun ls hl => ?_)
  refine lv_iload_n hx hb dX12_bits_2 rfl (lv_at hl 1 rfl) ?_
  refine lv_istore_n (lv' := [(2, .int v0), (1, .int (0 : Int32)), (0, .int v0)]) hx hb dX12_bits_3 rfl hl (by decide) rfl (fun ls hl => ?_)
  refine l_X12_bits_4 X hc  _ res ?_ FV (0 : Int32) v0 w hF H locs ls hH hS (lv_sub hl [1, 0] rfl)
  · intro v1_3 w_2 hF H locs ls hH hS hl
    refine lv_iload_n hx hb dX12_bits_20 rfl (lv_at hl 0 rfl) ?_
    have hF := Option.some.inj hF
    subst hF
    exact m_iret X hr hlk hH hS dX12_bits_21
noncomputable def fX12_borne_5 (p0 : Nat) (v1 : Int32) (K_98 : Int32 → Wd → Option (Int32 × Wd)) : Nat → Int32 → Int32 → Wd → Option (Int32 × Wd)
  | 0, _, _, _ => none
  | n + 1, v2, v3, w => (gfI 11 4 p0 w).bind fun x_1 => if x_1 ≤ v3 then K_98 v2 w else (gfR 11 5 p0 w).bind fun r_3 => (rdI r_3 ((3 : Int32) * v3) w).bind fun x_4 => (gfR 11 3 p0 w).bind fun r_5 => (rdI r_5 ((2 : Int32) * x_4) w).bind fun x_6 => if x_6 = (3 : Int32) then (gfR 11 3 p0 w).bind fun r_14 => (rdI r_14 (((2 : Int32) * x_4) + (1 : Int32)) w).bind fun x_15 => (gfR 11 5 p0 w).bind fun r_16 => (rdI r_16 (((3 : Int32) * v3) + (2 : Int32)) w).bind fun x_17 => if x_17 = v1 then if v2 ≤ ((2 : Int32) * x_15) then fX12_borne_5 p0 v1 K_98 n v2 (v3 + (1 : Int32)) w else fX12_borne_5 p0 v1 K_98 n ((2 : Int32) * x_15) (v3 + (1 : Int32)) w else fX12_borne_5 p0 v1 K_98 n v2 (v3 + (1 : Int32)) w else (gfR 11 3 p0 w).bind fun r_8 => (rdI r_8 (((2 : Int32) * x_4) + (1 : Int32)) w).bind fun x_9 => (gfR 11 5 p0 w).bind fun r_10 => (rdI r_10 (((3 : Int32) * v3) + (2 : Int32)) w).bind fun x_11 => if x_11 = v1 then if v2 ≤ x_9 then fX12_borne_5 p0 v1 K_98 n v2 (v3 + (1 : Int32)) w else fX12_borne_5 p0 v1 K_98 n x_9 (v3 + (1 : Int32)) w else fX12_borne_5 p0 v1 K_98 n v2 (v3 + (1 : Int32)) w
noncomputable def fX12_borne (p0 : Nat) (v1 : Int32) (w : Wd) : Option (Int32 × Wd) := fX12_borne_5 p0 v1 (fun (v2_21 : Int32) (w_20 : Wd) => some (v2_21, w_20)) FV (100 : Int32) (0 : Int32) w
set_option maxHeartbeats 4000000 in
set_option maxRecDepth 100000 in
theorem l_X12_borne_5 (X : Cx p R s m args c cX12_borne 6 RX12 D cI cT cII 0 0) (hc : cells ≤ R.cells ∧ slots ≤ R.slots) (p0 : Nat) (v1 : Int32) (K_98 : Int32 → Wd → Option (Int32 × Wd)) (res : Int32 × Wd)
    (hK_98 : ∀ (z2 : Int32) (w : Wd), K_98 z2 w = some res → ∀ (H : Heap) (locs : List Loc) (ls : Array Slot), Hd D cI cT cII base w H → va_S (fun q => base ≤ q) s.heap H locs → lv_has ls 6 [(2, .int z2)] → W p l e R s m args below meth c H locs cells slots Q (F0 m 98 ls [])) :
    ∀ (n : Nat) (v2 : Int32) (v3 : Int32) (w : Wd), fX12_borne_5 p0 v1 K_98 n v2 v3 w = some res → ∀ (H : Heap) (locs : List Loc) (ls : Array Slot), Hd D cI cT cII base w H → va_S (fun q => base ≤ q) s.heap H locs → lv_has ls 6 [(0, .ref (base + p0)), (1, .int v1), (2, .int v2), (3, .int v3)] → W p l e R s m args below meth c H locs cells slots Q (F0 m 5 ls []) := by
  have hx := X.1
  have hb := X.2.1
  intro n
  induction n with
  | zero =>
    intro v2 v3 w hF
    rw [fX12_borne_5] at hF
    cases hF
  | succ n ih =>
    intro v2 v3 w hF H locs ls hH hS hl
    rw [fX12_borne_5] at hF
    refine lv_iload_n hx hb dX12_borne_5 rfl (lv_at hl 3 rfl) ?_
    refine lv_aload_n hx hb dX12_borne_6 rfl (lv_at hl 0 rfl) ?_
    obtain ⟨x_1, e_1, hF⟩ := bnd hF
    refine m_gI X hH e_1 gg_X12_23 dX12_borne_7 ?_
    refine lv_icmp_ge (tgt := 98) hx hb dX12_borne_10 (by decide) (fun c_2 => ?_) (fun c_2 => ?_)
    · replace hF := itt c_2 hF
      exact hK_98 v2 w hF H locs ls hH hS (lv_sub hl [2] rfl)
    · replace hF := itf c_2 hF
      refine lv_aload_n hx hb dX12_borne_13 rfl (lv_at hl 0 rfl) ?_
      obtain ⟨r_3, e_3, hF⟩ := bnd hF
      refine m_gR X hH e_3 gg_X12_26 dX12_borne_14 ?_
      refine lv_iconst (v := (3 : Int32)) hx hb dX12_borne_17 (by decide) ?_
      refine lv_iload_n hx hb dX12_borne_18 rfl (lv_at hl 3 rfl) ?_
      refine lv_imul hx hb dX12_borne_19 ?_
      obtain ⟨x_4, e_4, hF⟩ := bnd hF
      refine m_rdI X hH e_4 dX12_borne_20 ?_
      refine lv_istore (lv' := [(4, .int x_4), (0, .ref (base + p0)), (1, .int v1), (2, .int v2), (3, .int v3)]) hx hb dX12_borne_21 hl (by decide) rfl (fun ls hl => ?_)
      refine lv_aload_n hx hb dX12_borne_23 rfl (lv_at hl 1 rfl) ?_
      obtain ⟨r_5, e_5, hF⟩ := bnd hF
      refine m_gR X hH e_5 gg_X12_20 dX12_borne_24 ?_
      refine lv_iconst (v := (2 : Int32)) hx hb dX12_borne_27 (by decide) ?_
      refine lv_iload hx hb dX12_borne_28 (lv_at hl 0 rfl) ?_
      refine lv_imul hx hb dX12_borne_30 ?_
      obtain ⟨x_6, e_6, hF⟩ := bnd hF
      refine m_rdI X hH e_6 dX12_borne_31 ?_
      refine lv_iconst (v := (3 : Int32)) hx hb dX12_borne_32 (by decide) ?_
      refine lv_icmp_ne (tgt := 52) hx hb dX12_borne_33 (by decide) (fun c_7 => ?_) (fun c_7 => ?_)
      · replace hF := itf c_7 hF
        refine lv_aload_n hx hb dX12_borne_52 rfl (lv_at hl 1 rfl) ?_
        obtain ⟨r_8, e_8, hF⟩ := bnd hF
        refine m_gR X hH e_8 gg_X12_20 dX12_borne_53 ?_
        refine lv_iconst (v := (2 : Int32)) hx hb dX12_borne_56 (by decide) ?_
        refine lv_iload hx hb dX12_borne_57 (lv_at hl 0 rfl) ?_
        refine lv_imul hx hb dX12_borne_59 ?_
        refine lv_iconst (v := (1 : Int32)) hx hb dX12_borne_60 (by decide) ?_
        refine lv_iadd hx hb dX12_borne_61 ?_
        obtain ⟨x_9, e_9, hF⟩ := bnd hF
        refine m_rdI X hH e_9 dX12_borne_62 ?_
        refine lv_istore (lv' := [(5, .int x_9), (4, .int x_4), (0, .ref (base + p0)), (1, .int v1), (2, .int v2), (3, .int v3)]) hx hb dX12_borne_63 hl (by decide) rfl (fun ls hl => ?_)
        refine lv_aload_n hx hb dX12_borne_65 rfl (lv_at hl 2 rfl) ?_
        obtain ⟨r_10, e_10, hF⟩ := bnd hF
        refine m_gR X hH e_10 gg_X12_26 dX12_borne_66 ?_
        refine lv_iconst (v := (3 : Int32)) hx hb dX12_borne_69 (by decide) ?_
        refine lv_iload_n hx hb dX12_borne_70 rfl (lv_at hl 5 rfl) ?_
        refine lv_imul hx hb dX12_borne_71 ?_
        refine lv_iconst (v := (2 : Int32)) hx hb dX12_borne_72 (by decide) ?_
        refine lv_iadd hx hb dX12_borne_73 ?_
        obtain ⟨x_11, e_11, hF⟩ := bnd hF
        refine m_rdI X hH e_11 dX12_borne_74 ?_
        refine lv_iload_n hx hb dX12_borne_75 rfl (lv_at hl 3 rfl) ?_
        refine lv_icmp_ne (tgt := 90) hx hb dX12_borne_76 (by decide) (fun c_12 => ?_) (fun c_12 => ?_)
        · replace hF := itf c_12 hF
          refine lv_iload_n hx hb dX12_borne_90 rfl (lv_at hl 4 rfl) ?_
          refine lv_istore_n (lv' := [(2, .int v2), (5, .int x_9), (4, .int x_4), (0, .ref (base + p0)), (1, .int v1), (3, .int v3)]) hx hb dX12_borne_91 rfl hl (by decide) rfl (fun ls hl => ?_)
          refine lv_iinc (v := v3 + (1 : Int32)) (lv' := [(3, .int (v3 + (1 : Int32))), (2, .int v2), (5, .int x_9), (4, .int x_4), (0, .ref (base + p0)), (1, .int v1)]) hx hb dX12_borne_92 hl (k := 5) rfl (congrArg (fun z => v3 + z) (by decide)) (by decide) rfl (fun ls hl => ?_)
          refine lv_goto (tgt := 5) hx hb dX12_borne_95 (by decide) ?_
          exact ih v2 (v3 + (1 : Int32)) w hF H locs ls hH hS (lv_sub hl [4, 5, 1, 0] rfl)
        · replace hF := itt c_12 hF
          refine lv_iload hx hb dX12_borne_79 (lv_at hl 0 rfl) ?_
          refine lv_iload_n hx hb dX12_borne_81 rfl (lv_at hl 4 rfl) ?_
          refine lv_icmp_ge (tgt := 90) hx hb dX12_borne_82 (by decide) (fun c_13 => ?_) (fun c_13 => ?_)
          · replace hF := itt c_13 hF
            refine lv_iload_n hx hb dX12_borne_90 rfl (lv_at hl 4 rfl) ?_
            refine lv_istore_n (lv' := [(2, .int v2), (5, .int x_9), (4, .int x_4), (0, .ref (base + p0)), (1, .int v1), (3, .int v3)]) hx hb dX12_borne_91 rfl hl (by decide) rfl (fun ls hl => ?_)
            refine lv_iinc (v := v3 + (1 : Int32)) (lv' := [(3, .int (v3 + (1 : Int32))), (2, .int v2), (5, .int x_9), (4, .int x_4), (0, .ref (base + p0)), (1, .int v1)]) hx hb dX12_borne_92 hl (k := 5) rfl (congrArg (fun z => v3 + z) (by decide)) (by decide) rfl (fun ls hl => ?_)
            refine lv_goto (tgt := 5) hx hb dX12_borne_95 (by decide) ?_
            exact ih v2 (v3 + (1 : Int32)) w hF H locs ls hH hS (lv_sub hl [4, 5, 1, 0] rfl)
          · replace hF := itf c_13 hF
            refine lv_iload hx hb dX12_borne_85 (lv_at hl 0 rfl) ?_
            refine lv_goto (tgt := 91) hx hb dX12_borne_87 (by decide) ?_
            refine lv_istore_n (lv' := [(2, .int x_9), (5, .int x_9), (4, .int x_4), (0, .ref (base + p0)), (1, .int v1), (3, .int v3)]) hx hb dX12_borne_91 rfl hl (by decide) rfl (fun ls hl => ?_)
            refine lv_iinc (v := v3 + (1 : Int32)) (lv' := [(3, .int (v3 + (1 : Int32))), (2, .int x_9), (5, .int x_9), (4, .int x_4), (0, .ref (base + p0)), (1, .int v1)]) hx hb dX12_borne_92 hl (k := 5) rfl (congrArg (fun z => v3 + z) (by decide)) (by decide) rfl (fun ls hl => ?_)
            refine lv_goto (tgt := 5) hx hb dX12_borne_95 (by decide) ?_
            exact ih x_9 (v3 + (1 : Int32)) w hF H locs ls hH hS (lv_sub hl [4, 5, 1, 0] rfl)
      · replace hF := itt c_7 hF
        refine lv_iconst (v := (2 : Int32)) hx hb dX12_borne_36 (by decide) ?_
        refine lv_aload_n hx hb dX12_borne_37 rfl (lv_at hl 1 rfl) ?_
        obtain ⟨r_14, e_14, hF⟩ := bnd hF
        refine m_gR X hH e_14 gg_X12_20 dX12_borne_38 ?_
        refine lv_iconst (v := (2 : Int32)) hx hb dX12_borne_41 (by decide) ?_
        refine lv_iload hx hb dX12_borne_42 (lv_at hl 0 rfl) ?_
        refine lv_imul hx hb dX12_borne_44 ?_
        refine lv_iconst (v := (1 : Int32)) hx hb dX12_borne_45 (by decide) ?_
        refine lv_iadd hx hb dX12_borne_46 ?_
        obtain ⟨x_15, e_15, hF⟩ := bnd hF
        refine m_rdI X hH e_15 dX12_borne_47 ?_
        refine lv_imul hx hb dX12_borne_48 ?_
        refine lv_goto (tgt := 63) hx hb dX12_borne_49 (by decide) ?_
        refine lv_istore (lv' := [(5, .int ((2 : Int32) * x_15)), (4, .int x_4), (0, .ref (base + p0)), (1, .int v1), (2, .int v2), (3, .int v3)]) hx hb dX12_borne_63 hl (by decide) rfl (fun ls hl => ?_)
        refine lv_aload_n hx hb dX12_borne_65 rfl (lv_at hl 2 rfl) ?_
        obtain ⟨r_16, e_16, hF⟩ := bnd hF
        refine m_gR X hH e_16 gg_X12_26 dX12_borne_66 ?_
        refine lv_iconst (v := (3 : Int32)) hx hb dX12_borne_69 (by decide) ?_
        refine lv_iload_n hx hb dX12_borne_70 rfl (lv_at hl 5 rfl) ?_
        refine lv_imul hx hb dX12_borne_71 ?_
        refine lv_iconst (v := (2 : Int32)) hx hb dX12_borne_72 (by decide) ?_
        refine lv_iadd hx hb dX12_borne_73 ?_
        obtain ⟨x_17, e_17, hF⟩ := bnd hF
        refine m_rdI X hH e_17 dX12_borne_74 ?_
        refine lv_iload_n hx hb dX12_borne_75 rfl (lv_at hl 3 rfl) ?_
        refine lv_icmp_ne (tgt := 90) hx hb dX12_borne_76 (by decide) (fun c_18 => ?_) (fun c_18 => ?_)
        · replace hF := itf c_18 hF
          refine lv_iload_n hx hb dX12_borne_90 rfl (lv_at hl 4 rfl) ?_
          refine lv_istore_n (lv' := [(2, .int v2), (5, .int ((2 : Int32) * x_15)), (4, .int x_4), (0, .ref (base + p0)), (1, .int v1), (3, .int v3)]) hx hb dX12_borne_91 rfl hl (by decide) rfl (fun ls hl => ?_)
          refine lv_iinc (v := v3 + (1 : Int32)) (lv' := [(3, .int (v3 + (1 : Int32))), (2, .int v2), (5, .int ((2 : Int32) * x_15)), (4, .int x_4), (0, .ref (base + p0)), (1, .int v1)]) hx hb dX12_borne_92 hl (k := 5) rfl (congrArg (fun z => v3 + z) (by decide)) (by decide) rfl (fun ls hl => ?_)
          refine lv_goto (tgt := 5) hx hb dX12_borne_95 (by decide) ?_
          exact ih v2 (v3 + (1 : Int32)) w hF H locs ls hH hS (lv_sub hl [4, 5, 1, 0] rfl)
        · replace hF := itt c_18 hF
          refine lv_iload hx hb dX12_borne_79 (lv_at hl 0 rfl) ?_
          refine lv_iload_n hx hb dX12_borne_81 rfl (lv_at hl 4 rfl) ?_
          refine lv_icmp_ge (tgt := 90) hx hb dX12_borne_82 (by decide) (fun c_19 => ?_) (fun c_19 => ?_)
          · replace hF := itt c_19 hF
            refine lv_iload_n hx hb dX12_borne_90 rfl (lv_at hl 4 rfl) ?_
            refine lv_istore_n (lv' := [(2, .int v2), (5, .int ((2 : Int32) * x_15)), (4, .int x_4), (0, .ref (base + p0)), (1, .int v1), (3, .int v3)]) hx hb dX12_borne_91 rfl hl (by decide) rfl (fun ls hl => ?_)
            refine lv_iinc (v := v3 + (1 : Int32)) (lv' := [(3, .int (v3 + (1 : Int32))), (2, .int v2), (5, .int ((2 : Int32) * x_15)), (4, .int x_4), (0, .ref (base + p0)), (1, .int v1)]) hx hb dX12_borne_92 hl (k := 5) rfl (congrArg (fun z => v3 + z) (by decide)) (by decide) rfl (fun ls hl => ?_)
            refine lv_goto (tgt := 5) hx hb dX12_borne_95 (by decide) ?_
            exact ih v2 (v3 + (1 : Int32)) w hF H locs ls hH hS (lv_sub hl [4, 5, 1, 0] rfl)
          · replace hF := itf c_19 hF
            refine lv_iload hx hb dX12_borne_85 (lv_at hl 0 rfl) ?_
            refine lv_goto (tgt := 91) hx hb dX12_borne_87 (by decide) ?_
            refine lv_istore_n (lv' := [(2, .int ((2 : Int32) * x_15)), (5, .int ((2 : Int32) * x_15)), (4, .int x_4), (0, .ref (base + p0)), (1, .int v1), (3, .int v3)]) hx hb dX12_borne_91 rfl hl (by decide) rfl (fun ls hl => ?_)
            refine lv_iinc (v := v3 + (1 : Int32)) (lv' := [(3, .int (v3 + (1 : Int32))), (2, .int ((2 : Int32) * x_15)), (5, .int ((2 : Int32) * x_15)), (4, .int x_4), (0, .ref (base + p0)), (1, .int v1)]) hx hb dX12_borne_92 hl (k := 5) rfl (congrArg (fun z => v3 + z) (by decide)) (by decide) rfl (fun ls hl => ?_)
            refine lv_goto (tgt := 5) hx hb dX12_borne_95 (by decide) ?_
            exact ih ((2 : Int32) * x_15) (v3 + (1 : Int32)) w hF H locs ls hH hS (lv_sub hl [4, 5, 1, 0] rfl)
set_option maxHeartbeats 4000000 in
set_option maxRecDepth 100000 in
theorem k_X12_borne (l : Launch) (D : va_G) (cI cT cII : ClassId) (base : Nat) (p0 : Nat) (v1 : Int32) (w : Wd) (res : Int32 × Wd) (hF : fX12_borne p0 v1 w = some res) : Ct l yX12_borne cX12_borne 6 (some .int) { frames := 0, cells := 0, slots := 0, locals := 0 } D cI cT cII base [.ref (base + p0), .int v1] w res.2 (some (.int res.1)) 0 0 := by
  unfold fX12_borne at hF
  refine m_enter (by decide) (Nat.le_of_ble_eq_true rfl) ?_
  intro p e s m below meth c ls X hr hlk hnm hH hS hl
  have hx := X.1
  have hb := X.2.1
  have hc : (0 : Nat) ≤ ({ frames := 0, cells := 0, slots := 0, locals := 0 } : Room).cells ∧ (0 : Nat) ≤ ({ frames := 0, cells := 0, slots := 0, locals := 0 } : Room).slots := ⟨Nat.zero_le _, Nat.zero_le _⟩
  obtain ⟨H, hHe⟩ : ∃ H : Heap, H = s.heap := ⟨_, rfl⟩
  obtain ⟨locs, hle⟩ : ∃ L : List Loc, L = [] := ⟨_, rfl⟩
  have hl : lv_has ls 6 [(0, .ref (base + p0)), (1, .int v1)] := hl
  rw [← hHe] at hH
  have hS : va_S (fun q => base ≤ q) s.heap H locs := by rw [hHe, hle]; exact hS
  rw [← hle]
  show W p l e _ s m _ below meth c s.heap locs 0 0 _ _
  rw [← hHe]
  refine lv_bipush (v := (100 : Int32)) hx hb dX12_borne_0 (by decide) ?_
  refine lv_istore_n (lv' := [(2, .int (100 : Int32)), (0, .ref (base + p0)), (1, .int v1)]) hx hb dX12_borne_2 rfl hl (by decide) rfl (fun ls hl => ?_)
  refine lv_iconst (v := (0 : Int32)) hx hb dX12_borne_3 (by decide) ?_
  refine lv_istore_n (lv' := [(3, .int (0 : Int32)), (2, .int (100 : Int32)), (0, .ref (base + p0)), (1, .int v1)]) hx hb dX12_borne_4 rfl hl (by decide) rfl (fun ls hl => ?_)
  refine l_X12_borne_5 X hc p0 v1 _ res ?_ FV (100 : Int32) (0 : Int32) w hF H locs ls hH hS (lv_sub hl [2, 3, 1, 0] rfl)
  · intro v2_21 w_20 hF H locs ls hH hS hl
    refine lv_iload_n hx hb dX12_borne_98 rfl (lv_at hl 0 rfl) ?_
    have hF := Option.some.inj hF
    subst hF
    exact m_iret X hr hlk hH hS dX12_borne_99
noncomputable def fX12_byOf (p0 : Nat) (v1 : Int32) (w : Wd) : Option (Int32 × Wd) := (gfI 11 0 p0 w).bind fun x_1 => (dvI v1 ((2 : Int32) * x_1)).bind fun x_2 => (rmI v1 (2 : Int32)).bind fun x_3 => if x_3 = 0 then some ((1 : Int32) + x_2, w) else some (-((1 : Int32) + x_2), w)
set_option maxHeartbeats 4000000 in
set_option maxRecDepth 100000 in
theorem k_X12_byOf (l : Launch) (D : va_G) (cI cT cII : ClassId) (base : Nat) (p0 : Nat) (v1 : Int32) (w : Wd) (res : Int32 × Wd) (hF : fX12_byOf p0 v1 w = some res) : Ct l yX12_byOf cX12_byOf 3 (some .int) { frames := 0, cells := 0, slots := 0, locals := 0 } D cI cT cII base [.ref (base + p0), .int v1] w res.2 (some (.int res.1)) 0 0 := by
  unfold fX12_byOf at hF
  refine m_enter (by decide) (Nat.le_of_ble_eq_true rfl) ?_
  intro p e s m below meth c ls X hr hlk hnm hH hS hl
  have hx := X.1
  have hb := X.2.1
  have hc : (0 : Nat) ≤ ({ frames := 0, cells := 0, slots := 0, locals := 0 } : Room).cells ∧ (0 : Nat) ≤ ({ frames := 0, cells := 0, slots := 0, locals := 0 } : Room).slots := ⟨Nat.zero_le _, Nat.zero_le _⟩
  obtain ⟨H, hHe⟩ : ∃ H : Heap, H = s.heap := ⟨_, rfl⟩
  obtain ⟨locs, hle⟩ : ∃ L : List Loc, L = [] := ⟨_, rfl⟩
  have hl : lv_has ls 3 [(0, .ref (base + p0)), (1, .int v1)] := hl
  rw [← hHe] at hH
  have hS : va_S (fun q => base ≤ q) s.heap H locs := by rw [hHe, hle]; exact hS
  rw [← hle]
  show W p l e _ s m _ below meth c s.heap locs 0 0 _ _
  rw [← hHe]
  refine lv_iconst (v := (1 : Int32)) hx hb dX12_byOf_0 (by decide) ?_
  refine lv_iload_n hx hb dX12_byOf_1 rfl (lv_at hl 1 rfl) ?_
  refine lv_iconst (v := (2 : Int32)) hx hb dX12_byOf_2 (by decide) ?_
  refine lv_aload_n hx hb dX12_byOf_3 rfl (lv_at hl 0 rfl) ?_
  obtain ⟨x_1, e_1, hF⟩ := bnd hF
  refine m_gI X hH e_1 gg_X12_7 dX12_byOf_4 ?_
  refine lv_imul hx hb dX12_byOf_7 ?_
  obtain ⟨x_2, e_2, hF⟩ := bnd hF
  refine m_idiv X e_2 dX12_byOf_8 ?_
  refine lv_iadd hx hb dX12_byOf_9 ?_
  refine lv_istore_n (lv' := [(2, .int ((1 : Int32) + x_2)), (0, .ref (base + p0)), (1, .int v1)]) hx hb dX12_byOf_10 rfl hl (by decide) rfl (fun ls hl => ?_)
  refine lv_iload_n hx hb dX12_byOf_11 rfl (lv_at hl 2 rfl) ?_
  refine lv_iconst (v := (2 : Int32)) hx hb dX12_byOf_12 (by decide) ?_
  obtain ⟨x_3, e_3, hF⟩ := bnd hF
  refine m_irem X e_3 dX12_byOf_13 ?_
  refine lv_if_ne (tgt := 21) hx hb dX12_byOf_14 (by decide) (fun c_4 => ?_) (fun c_4 => ?_)
  · replace hF := itf c_4 hF
    refine lv_iload_n hx hb dX12_byOf_21 rfl (lv_at hl 0 rfl) ?_
    refine lv_ineg hx hb dX12_byOf_22 ?_
    have hF := Option.some.inj hF
    subst hF
    exact m_iret X hr hlk hH hS dX12_byOf_23
  · replace hF := itt c_4 hF
    refine lv_iload_n hx hb dX12_byOf_17 rfl (lv_at hl 0 rfl) ?_
    refine lv_goto (tgt := 23) hx hb dX12_byOf_18 (by decide) ?_
    have hF := Option.some.inj hF
    subst hF
    exact m_iret X hr hlk hH hS dX12_byOf_23
noncomputable def fX12_count (p0 : Nat) (v1 : Int32) (w : Wd) : Option (Int32 × Wd) := if v1 = (0 : Int32) then (gfI 11 0 p0 w).bind fun x_9 => some (x_9, w) else if v1 = (1 : Int32) then (gfI 11 2 p0 w).bind fun x_10 => some (x_10, w) else if v1 = (2 : Int32) then (gfI 11 4 p0 w).bind fun x_11 => some (x_11, w) else if v1 = (3 : Int32) then (gfR 11 7 p0 w).bind fun r_12 => (rdI r_12 (0 : Int32) w).bind fun x_13 => some (x_13, w) else if v1 = (4 : Int32) then (gfI 11 12 p0 w).bind fun x_14 => some (x_14, w) else if v1 = (5 : Int32) then (gfI 11 8 p0 w).bind fun x_15 => some (x_15, w) else if v1 = (6 : Int32) then (gfI 11 10 p0 w).bind fun x_16 => some (x_16, w) else if v1 = (7 : Int32) then (gfI 11 15 p0 w).bind fun x_17 => some (x_17, w) else some ((-1 : Int32), w)
set_option maxHeartbeats 4000000 in
set_option maxRecDepth 100000 in
theorem k_X12_count (l : Launch) (D : va_G) (cI cT cII : ClassId) (base : Nat) (p0 : Nat) (v1 : Int32) (w : Wd) (res : Int32 × Wd) (hF : fX12_count p0 v1 w = some res) : Ct l yX12_count cX12_count 2 (some .int) { frames := 0, cells := 0, slots := 0, locals := 0 } D cI cT cII base [.ref (base + p0), .int v1] w res.2 (some (.int res.1)) 0 0 := by
  unfold fX12_count at hF
  refine m_enter (by decide) (Nat.le_of_ble_eq_true rfl) ?_
  intro p e s m below meth c ls X hr hlk hnm hH hS hl
  have hx := X.1
  have hb := X.2.1
  have hc : (0 : Nat) ≤ ({ frames := 0, cells := 0, slots := 0, locals := 0 } : Room).cells ∧ (0 : Nat) ≤ ({ frames := 0, cells := 0, slots := 0, locals := 0 } : Room).slots := ⟨Nat.zero_le _, Nat.zero_le _⟩
  obtain ⟨H, hHe⟩ : ∃ H : Heap, H = s.heap := ⟨_, rfl⟩
  obtain ⟨locs, hle⟩ : ∃ L : List Loc, L = [] := ⟨_, rfl⟩
  have hl : lv_has ls 2 [(0, .ref (base + p0)), (1, .int v1)] := hl
  rw [← hHe] at hH
  have hS : va_S (fun q => base ≤ q) s.heap H locs := by rw [hHe, hle]; exact hS
  rw [← hle]
  show W p l e _ s m _ below meth c s.heap locs 0 0 _ _
  rw [← hHe]
  refine lv_iload_n hx hb dX12_count_0 rfl (lv_at hl 1 rfl) ?_
  by_cases c_1 : v1 = (0 : Int32)
  · replace hF := itt c_1 hF
    refine lv_tableIn (tgt := 48) hx hb dX12_count_1 (by rw [c_1]; decide) (by rw [c_1]; decide) (by rw [c_1]; rfl) (by decide) ?_
    refine lv_aload_n hx hb dX12_count_48 rfl (lv_at hl 0 rfl) ?_
    obtain ⟨x_9, e_9, hF⟩ := bnd hF
    refine m_gI X hH e_9 gg_X12_7 dX12_count_49 ?_
    have hF := Option.some.inj hF
    subst hF
    exact m_iret X hr hlk hH hS dX12_count_52
  · replace hF := itf c_1 hF
    by_cases c_2 : v1 = (1 : Int32)
    · replace hF := itt c_2 hF
      refine lv_tableIn (tgt := 53) hx hb dX12_count_1 (by rw [c_2]; decide) (by rw [c_2]; decide) (by rw [c_2]; rfl) (by decide) ?_
      refine lv_aload_n hx hb dX12_count_53 rfl (lv_at hl 0 rfl) ?_
      obtain ⟨x_10, e_10, hF⟩ := bnd hF
      refine m_gI X hH e_10 gg_X12_17 dX12_count_54 ?_
      have hF := Option.some.inj hF
      subst hF
      exact m_iret X hr hlk hH hS dX12_count_57
    · replace hF := itf c_2 hF
      by_cases c_3 : v1 = (2 : Int32)
      · replace hF := itt c_3 hF
        refine lv_tableIn (tgt := 58) hx hb dX12_count_1 (by rw [c_3]; decide) (by rw [c_3]; decide) (by rw [c_3]; rfl) (by decide) ?_
        refine lv_aload_n hx hb dX12_count_58 rfl (lv_at hl 0 rfl) ?_
        obtain ⟨x_11, e_11, hF⟩ := bnd hF
        refine m_gI X hH e_11 gg_X12_23 dX12_count_59 ?_
        have hF := Option.some.inj hF
        subst hF
        exact m_iret X hr hlk hH hS dX12_count_62
      · replace hF := itf c_3 hF
        by_cases c_4 : v1 = (3 : Int32)
        · replace hF := itt c_4 hF
          refine lv_tableIn (tgt := 63) hx hb dX12_count_1 (by rw [c_4]; decide) (by rw [c_4]; decide) (by rw [c_4]; rfl) (by decide) ?_
          refine lv_aload_n hx hb dX12_count_63 rfl (lv_at hl 0 rfl) ?_
          obtain ⟨r_12, e_12, hF⟩ := bnd hF
          refine m_gR X hH e_12 gg_X12_32 dX12_count_64 ?_
          refine lv_iconst (v := (0 : Int32)) hx hb dX12_count_67 (by decide) ?_
          obtain ⟨x_13, e_13, hF⟩ := bnd hF
          refine m_rdI X hH e_13 dX12_count_68 ?_
          have hF := Option.some.inj hF
          subst hF
          exact m_iret X hr hlk hH hS dX12_count_69
        · replace hF := itf c_4 hF
          by_cases c_5 : v1 = (4 : Int32)
          · replace hF := itt c_5 hF
            refine lv_tableIn (tgt := 70) hx hb dX12_count_1 (by rw [c_5]; decide) (by rw [c_5]; decide) (by rw [c_5]; rfl) (by decide) ?_
            refine lv_aload_n hx hb dX12_count_70 rfl (lv_at hl 0 rfl) ?_
            obtain ⟨x_14, e_14, hF⟩ := bnd hF
            refine m_gI X hH e_14 gg_X12_156 dX12_count_71 ?_
            have hF := Option.some.inj hF
            subst hF
            exact m_iret X hr hlk hH hS dX12_count_74
          · replace hF := itf c_5 hF
            by_cases c_6 : v1 = (5 : Int32)
            · replace hF := itt c_6 hF
              refine lv_tableIn (tgt := 75) hx hb dX12_count_1 (by rw [c_6]; decide) (by rw [c_6]; decide) (by rw [c_6]; rfl) (by decide) ?_
              refine lv_aload_n hx hb dX12_count_75 rfl (lv_at hl 0 rfl) ?_
              obtain ⟨x_15, e_15, hF⟩ := bnd hF
              refine m_gI X hH e_15 gg_X12_150 dX12_count_76 ?_
              have hF := Option.some.inj hF
              subst hF
              exact m_iret X hr hlk hH hS dX12_count_79
            · replace hF := itf c_6 hF
              by_cases c_7 : v1 = (6 : Int32)
              · replace hF := itt c_7 hF
                refine lv_tableIn (tgt := 80) hx hb dX12_count_1 (by rw [c_7]; decide) (by rw [c_7]; decide) (by rw [c_7]; rfl) (by decide) ?_
                refine lv_aload_n hx hb dX12_count_80 rfl (lv_at hl 0 rfl) ?_
                obtain ⟨x_16, e_16, hF⟩ := bnd hF
                refine m_gI X hH e_16 gg_X12_153 dX12_count_81 ?_
                have hF := Option.some.inj hF
                subst hF
                exact m_iret X hr hlk hH hS dX12_count_84
              · replace hF := itf c_7 hF
                by_cases c_8 : v1 = (7 : Int32)
                · replace hF := itt c_8 hF
                  refine lv_tableIn (tgt := 85) hx hb dX12_count_1 (by rw [c_8]; decide) (by rw [c_8]; decide) (by rw [c_8]; rfl) (by decide) ?_
                  refine lv_aload_n hx hb dX12_count_85 rfl (lv_at hl 0 rfl) ?_
                  obtain ⟨x_17, e_17, hF⟩ := bnd hF
                  refine m_gI X hH e_17 gg_X12_91 dX12_count_86 ?_
                  have hF := Option.some.inj hF
                  subst hF
                  exact m_iret X hr hlk hH hS dX12_count_89
                · replace hF := itf c_8 hF
                  have z_c_1 := lv_neT c_1 (show Int32.toInt (0 : Int32) = 0 by decide)
                  have z_c_2 := lv_neT c_2 (show Int32.toInt (1 : Int32) = 1 by decide)
                  have z_c_3 := lv_neT c_3 (show Int32.toInt (2 : Int32) = 2 by decide)
                  have z_c_4 := lv_neT c_4 (show Int32.toInt (3 : Int32) = 3 by decide)
                  have z_c_5 := lv_neT c_5 (show Int32.toInt (4 : Int32) = 4 by decide)
                  have z_c_6 := lv_neT c_6 (show Int32.toInt (5 : Int32) = 5 by decide)
                  have z_c_7 := lv_neT c_7 (show Int32.toInt (6 : Int32) = 6 by decide)
                  have z_c_8 := lv_neT c_8 (show Int32.toInt (7 : Int32) = 7 by decide)
                  refine lv_tableOut (tgt := 90) hx hb dX12_count_1 (by omega) (by decide) ?_
                  refine lv_iconst (v := (-1 : Int32)) hx hb dX12_count_90 (by decide) ?_
                  have hF := Option.some.inj hF
                  subst hF
                  exact m_iret X hr hlk hH hS dX12_count_91
noncomputable def fX12_isPerson (p0 : Nat) (v1 : Int32) (w : Wd) : Option (Int32 × Wd) := (gfI 11 2 p0 w).bind fun x_1 => (fX12_in v1 (0 : Int32) (x_1 - (1 : Int32)) w).bind fun q_2 => (bz q_2.1).bind fun x_3 => some (x_3, q_2.2)
set_option maxHeartbeats 4000000 in
set_option maxRecDepth 100000 in
theorem k_X12_isPerson (l : Launch) (D : va_G) (cI cT cII : ClassId) (base : Nat) (p0 : Nat) (v1 : Int32) (w : Wd) (res : Int32 × Wd) (hF : fX12_isPerson p0 v1 w = some res) : Ct l yX12_isPerson cX12_isPerson 2 (some .boolean) { frames := 1, cells := 0, slots := 0, locals := 22 } D cI cT cII base [.ref (base + p0), .int v1] w res.2 (some (.int res.1)) 0 0 := by
  unfold fX12_isPerson at hF
  refine m_enter (by decide) (Nat.le_of_ble_eq_true rfl) ?_
  intro p e s m below meth c ls X hr hlk hnm hH hS hl
  have hx := X.1
  have hb := X.2.1
  have hc : (0 : Nat) ≤ ({ frames := 1, cells := 0, slots := 0, locals := 22 } : Room).cells ∧ (0 : Nat) ≤ ({ frames := 1, cells := 0, slots := 0, locals := 22 } : Room).slots := ⟨Nat.zero_le _, Nat.zero_le _⟩
  obtain ⟨H, hHe⟩ : ∃ H : Heap, H = s.heap := ⟨_, rfl⟩
  obtain ⟨locs, hle⟩ : ∃ L : List Loc, L = [] := ⟨_, rfl⟩
  have hl : lv_has ls 2 [(0, .ref (base + p0)), (1, .int v1)] := hl
  rw [← hHe] at hH
  have hS : va_S (fun q => base ≤ q) s.heap H locs := by rw [hHe, hle]; exact hS
  rw [← hle]
  show W p l e _ s m _ below meth c s.heap locs 0 0 _ _
  rw [← hHe]
  refine lv_iload_n hx hb dX12_isPerson_0 rfl (lv_at hl 1 rfl) ?_
  refine lv_iconst (v := (0 : Int32)) hx hb dX12_isPerson_1 (by decide) ?_
  refine lv_aload_n hx hb dX12_isPerson_2 rfl (lv_at hl 0 rfl) ?_
  obtain ⟨x_1, e_1, hF⟩ := bnd hF
  refine m_gI X hH e_1 gg_X12_17 dX12_isPerson_3 ?_
  refine lv_iconst (v := (1 : Int32)) hx hb dX12_isPerson_6 (by decide) ?_
  refine lv_isub hx hb dX12_isPerson_7 ?_
  obtain ⟨q_2, e_2, hF⟩ := bnd hF
  refine m_callS (As := [.int v1, .int (0 : Int32), .int (x_1 - (1 : Int32))]) (rest := []) X hH hS hl.1 (k_X12_in l D cI cT cII base v1 (0 : Int32) (x_1 - (1 : Int32)) w q_2 e_2) q_X12_in kw_951 kw_952 rfl rfl (Nat.le_of_ble_eq_true rfl) ⟨by decide, by decide⟩ hc dX12_isPerson_8 (fun H locs hH hS => W.eq (g2 := F0 m 11 ls [.int q_2.1]) rfl ?_)
  obtain ⟨x_3, e_3, hF⟩ := bnd hF
  obtain ⟨z_x_3, rfl⟩ := isn e_3
  have hF := Option.some.inj hF
  subst hF
  exact m_zret X hr hlk (if_pos z_x_3) hH hS dX12_isPerson_11
noncomputable def fX12_ends_47 (p0 : Nat) (v1 : Int32) (v2 : Int32) (v4 : Int32) (K_79 : Int32 → Int32 → Wd → Option (Int32 × Wd)) (K_121 : Wd → Option (Int32 × Wd)) : Nat → Int32 → Int32 → Wd → Option (Int32 × Wd)
  | 0, _, _, _ => none
  | n + 1, v5, v6, w => if (200 : Int32) ≤ v6 then K_121  w else (isO 11 p0 w).bind fun u_12 => (fX12_madeBy p0 v1 v5 w).bind fun q_13 => if q_13.1 = v5 then (isO 11 p0 q_13.2).bind fun u_21 => (fX12_madeBy p0 v2 v5 q_13.2).bind fun q_22 => if q_22.1 = v5 then K_79 v5 v6 q_22.2 else (rmI v6 (2 : Int32)).bind fun x_24 => if x_24 = 0 then (isO 11 p0 q_22.2).bind fun u_28 => (fX12_madeBy p0 v1 v5 q_22.2).bind fun q_29 => fX12_ends_47 p0 v1 v2 v4 K_79 K_121 n q_29.1 (v6 + (1 : Int32)) q_29.2 else (isO 11 p0 q_22.2).bind fun u_26 => (fX12_madeBy p0 v2 v5 q_22.2).bind fun q_27 => fX12_ends_47 p0 v1 v2 v4 K_79 K_121 n q_27.1 (v6 + (1 : Int32)) q_27.2 else (rmI v6 (2 : Int32)).bind fun x_15 => if x_15 = 0 then (isO 11 p0 q_13.2).bind fun u_19 => (fX12_madeBy p0 v1 v5 q_13.2).bind fun q_20 => fX12_ends_47 p0 v1 v2 v4 K_79 K_121 n q_20.1 (v6 + (1 : Int32)) q_20.2 else (isO 11 p0 q_13.2).bind fun u_17 => (fX12_madeBy p0 v2 v5 q_13.2).bind fun q_18 => fX12_ends_47 p0 v1 v2 v4 K_79 K_121 n q_18.1 (v6 + (1 : Int32)) q_18.2
noncomputable def fX12_ends (p0 : Nat) (v1 : Int32) (v2 : Int32) (v3 : Int32) (v4 : Int32) (w : Wd) : Option (Int32 × Wd) := (isO 11 p0 w).bind fun u_1 => (fX12_isPerson p0 v1 w).bind fun q_2 => if q_2.1 = 0 then some ((-1 : Int32), q_2.2) else (isO 11 p0 q_2.2).bind fun u_4 => (fX12_isPerson p0 v2 q_2.2).bind fun q_5 => if q_5.1 = 0 then some ((-1 : Int32), q_5.2) else (fX12_in v3 (0 : Int32) (40 : Int32) q_5.2).bind fun q_7 => if q_7.1 = 0 then some ((-1 : Int32), q_7.2) else (fX12_in v4 (0 : Int32) (1 : Int32) q_7.2).bind fun q_9 => if q_9.1 = 0 then some ((-1 : Int32), q_9.2) else fX12_ends_47 p0 v1 v2 v4 (fun (v5_31 : Int32) (v6_32 : Int32) (w_30 : Wd) => if v4 = 0 then some (v5_31 + (40 : Int32), w_30) else some (v6_32, w_30)) (fun  (w_34 : Wd) => some ((-4 : Int32), w_34)) FV (v3 - (20 : Int32)) (0 : Int32) q_9.2
set_option maxHeartbeats 4000000 in
set_option maxRecDepth 100000 in
theorem l_X12_ends_47 (X : Cx p R s m args c cX12_ends 7 RX12 D cI cT cII 3 64) (hc : cells ≤ R.cells ∧ slots ≤ R.slots) (p0 : Nat) (v1 : Int32) (v2 : Int32) (v4 : Int32) (K_79 : Int32 → Int32 → Wd → Option (Int32 × Wd)) (K_121 : Wd → Option (Int32 × Wd)) (res : Int32 × Wd)
    (hK_79 : ∀ (z5 : Int32) (z6 : Int32) (w : Wd), K_79 z5 z6 w = some res → ∀ (H : Heap) (locs : List Loc) (ls : Array Slot), Hd D cI cT cII base w H → va_S (fun q => base ≤ q) s.heap H locs → lv_has ls 7 [(4, .int v4), (5, .int z5), (6, .int z6)] → W p l e R s m args below meth c H locs cells slots Q (F0 m 79 ls []))
    (hK_121 : ∀  (w : Wd), K_121  w = some res → ∀ (H : Heap) (locs : List Loc) (ls : Array Slot), Hd D cI cT cII base w H → va_S (fun q => base ≤ q) s.heap H locs → lv_has ls 7 [] → W p l e R s m args below meth c H locs cells slots Q (F0 m 121 ls [])) :
    ∀ (n : Nat) (v5 : Int32) (v6 : Int32) (w : Wd), fX12_ends_47 p0 v1 v2 v4 K_79 K_121 n v5 v6 w = some res → ∀ (H : Heap) (locs : List Loc) (ls : Array Slot), Hd D cI cT cII base w H → va_S (fun q => base ≤ q) s.heap H locs → lv_has ls 7 [(0, .ref (base + p0)), (1, .int v1), (2, .int v2), (4, .int v4), (5, .int v5), (6, .int v6)] → W p l e R s m args below meth c H locs cells slots Q (F0 m 47 ls []) := by
  have hx := X.1
  have hb := X.2.1
  intro n
  induction n with
  | zero =>
    intro v5 v6 w hF
    rw [fX12_ends_47] at hF
    cases hF
  | succ n ih =>
    intro v5 v6 w hF H locs ls hH hS hl
    rw [fX12_ends_47] at hF
    refine lv_iload hx hb dX12_ends_47 (lv_at hl 5 rfl) ?_
    refine lv_sipush (v := (200 : Int32)) hx hb dX12_ends_49 (by decide) ?_
    refine lv_icmp_ge (tgt := 121) hx hb dX12_ends_52 (by decide) (fun c_11 => ?_) (fun c_11 => ?_)
    · replace hF := itt c_11 hF
      exact hK_121  w hF H locs ls hH hS (lv_sub hl [] rfl)
    · replace hF := itf c_11 hF
      refine lv_aload_n hx hb dX12_ends_55 rfl (lv_at hl 0 rfl) ?_
      refine lv_iload_n hx hb dX12_ends_56 rfl (lv_at hl 1 rfl) ?_
      refine lv_iload hx hb dX12_ends_57 (lv_at hl 4 rfl) ?_
      obtain ⟨u_12, ou_12, hF⟩ := bnd hF
      obtain ⟨q_13, e_13, hF⟩ := bnd hF
      refine m_callV (As := [.int v1, .int v5]) (rest := []) X hH hS hl.1 ou_12 rfl (by decide) (k_X12_madeBy l D cI cT cII base p0 v1 v5 w q_13 e_13) q_X12_madeBy kw_1070 kw_1072 kw_44 rfl rfl (Nat.le_of_ble_eq_true rfl) ⟨by decide, by decide⟩ hc dX12_ends_59 (fun H locs hH hS => W.eq (g2 := F0 m 62 ls [.int q_13.1]) rfl ?_)
      refine lv_iload hx hb dX12_ends_62 (lv_at hl 4 rfl) ?_
      refine lv_icmp_ne (tgt := 95) hx hb dX12_ends_64 (by decide) (fun c_14 => ?_) (fun c_14 => ?_)
      · replace hF := itf c_14 hF
        refine lv_aload_n hx hb dX12_ends_95 rfl (lv_at hl 0 rfl) ?_
        refine lv_iload hx hb dX12_ends_96 (lv_at hl 5 rfl) ?_
        refine lv_iconst (v := (2 : Int32)) hx hb dX12_ends_98 (by decide) ?_
        obtain ⟨x_15, e_15, hF⟩ := bnd hF
        refine m_irem X e_15 dX12_ends_99 ?_
        refine lv_if_ne (tgt := 107) hx hb dX12_ends_100 (by decide) (fun c_16 => ?_) (fun c_16 => ?_)
        · replace hF := itf c_16 hF
          refine lv_iload_n hx hb dX12_ends_107 rfl (lv_at hl 2 rfl) ?_
          refine lv_iload hx hb dX12_ends_108 (lv_at hl 4 rfl) ?_
          obtain ⟨u_17, ou_17, hF⟩ := bnd hF
          obtain ⟨q_18, e_18, hF⟩ := bnd hF
          refine m_callV (As := [.int v2, .int v5]) (rest := []) X hH hS hl.1 ou_17 rfl (by decide) (k_X12_madeBy l D cI cT cII base p0 v2 v5 q_13.2 q_18 e_18) q_X12_madeBy kw_1070 kw_1072 kw_44 rfl rfl (Nat.le_of_ble_eq_true rfl) ⟨by decide, by decide⟩ hc dX12_ends_110 (fun H locs hH hS => W.eq (g2 := F0 m 113 ls [.int q_18.1]) rfl ?_)
          refine lv_istore (lv' := [(5, .int q_18.1), (0, .ref (base + p0)), (1, .int v1), (2, .int v2), (4, .int v4), (6, .int v6)]) hx hb dX12_ends_113 hl (by decide) rfl (fun ls hl => ?_)
          refine lv_iinc (v := v6 + (1 : Int32)) (lv' := [(6, .int (v6 + (1 : Int32))), (5, .int q_18.1), (0, .ref (base + p0)), (1, .int v1), (2, .int v2), (4, .int v4)]) hx hb dX12_ends_115 hl (k := 5) rfl (congrArg (fun z => v6 + z) (by decide)) (by decide) rfl (fun ls hl => ?_)
          refine lv_goto (tgt := 47) hx hb dX12_ends_118 (by decide) ?_
          exact ih q_18.1 (v6 + (1 : Int32)) q_18.2 hF H locs ls hH hS (lv_sub hl [2, 3, 4, 5, 1, 0] rfl)
        · replace hF := itt c_16 hF
          refine lv_iload_n hx hb dX12_ends_103 rfl (lv_at hl 1 rfl) ?_
          refine lv_goto (tgt := 108) hx hb dX12_ends_104 (by decide) ?_
          refine lv_iload hx hb dX12_ends_108 (lv_at hl 4 rfl) ?_
          obtain ⟨u_19, ou_19, hF⟩ := bnd hF
          obtain ⟨q_20, e_20, hF⟩ := bnd hF
          refine m_callV (As := [.int v1, .int v5]) (rest := []) X hH hS hl.1 ou_19 rfl (by decide) (k_X12_madeBy l D cI cT cII base p0 v1 v5 q_13.2 q_20 e_20) q_X12_madeBy kw_1070 kw_1072 kw_44 rfl rfl (Nat.le_of_ble_eq_true rfl) ⟨by decide, by decide⟩ hc dX12_ends_110 (fun H locs hH hS => W.eq (g2 := F0 m 113 ls [.int q_20.1]) rfl ?_)
          refine lv_istore (lv' := [(5, .int q_20.1), (0, .ref (base + p0)), (1, .int v1), (2, .int v2), (4, .int v4), (6, .int v6)]) hx hb dX12_ends_113 hl (by decide) rfl (fun ls hl => ?_)
          refine lv_iinc (v := v6 + (1 : Int32)) (lv' := [(6, .int (v6 + (1 : Int32))), (5, .int q_20.1), (0, .ref (base + p0)), (1, .int v1), (2, .int v2), (4, .int v4)]) hx hb dX12_ends_115 hl (k := 5) rfl (congrArg (fun z => v6 + z) (by decide)) (by decide) rfl (fun ls hl => ?_)
          refine lv_goto (tgt := 47) hx hb dX12_ends_118 (by decide) ?_
          exact ih q_20.1 (v6 + (1 : Int32)) q_20.2 hF H locs ls hH hS (lv_sub hl [2, 3, 4, 5, 1, 0] rfl)
      · replace hF := itt c_14 hF
        refine lv_aload_n hx hb dX12_ends_67 rfl (lv_at hl 0 rfl) ?_
        refine lv_iload_n hx hb dX12_ends_68 rfl (lv_at hl 2 rfl) ?_
        refine lv_iload hx hb dX12_ends_69 (lv_at hl 4 rfl) ?_
        obtain ⟨u_21, ou_21, hF⟩ := bnd hF
        obtain ⟨q_22, e_22, hF⟩ := bnd hF
        refine m_callV (As := [.int v2, .int v5]) (rest := []) X hH hS hl.1 ou_21 rfl (by decide) (k_X12_madeBy l D cI cT cII base p0 v2 v5 q_13.2 q_22 e_22) q_X12_madeBy kw_1070 kw_1072 kw_44 rfl rfl (Nat.le_of_ble_eq_true rfl) ⟨by decide, by decide⟩ hc dX12_ends_71 (fun H locs hH hS => W.eq (g2 := F0 m 74 ls [.int q_22.1]) rfl ?_)
        refine lv_iload hx hb dX12_ends_74 (lv_at hl 4 rfl) ?_
        refine lv_icmp_ne (tgt := 95) hx hb dX12_ends_76 (by decide) (fun c_23 => ?_) (fun c_23 => ?_)
        · replace hF := itf c_23 hF
          refine lv_aload_n hx hb dX12_ends_95 rfl (lv_at hl 0 rfl) ?_
          refine lv_iload hx hb dX12_ends_96 (lv_at hl 5 rfl) ?_
          refine lv_iconst (v := (2 : Int32)) hx hb dX12_ends_98 (by decide) ?_
          obtain ⟨x_24, e_24, hF⟩ := bnd hF
          refine m_irem X e_24 dX12_ends_99 ?_
          refine lv_if_ne (tgt := 107) hx hb dX12_ends_100 (by decide) (fun c_25 => ?_) (fun c_25 => ?_)
          · replace hF := itf c_25 hF
            refine lv_iload_n hx hb dX12_ends_107 rfl (lv_at hl 2 rfl) ?_
            refine lv_iload hx hb dX12_ends_108 (lv_at hl 4 rfl) ?_
            obtain ⟨u_26, ou_26, hF⟩ := bnd hF
            obtain ⟨q_27, e_27, hF⟩ := bnd hF
            refine m_callV (As := [.int v2, .int v5]) (rest := []) X hH hS hl.1 ou_26 rfl (by decide) (k_X12_madeBy l D cI cT cII base p0 v2 v5 q_22.2 q_27 e_27) q_X12_madeBy kw_1070 kw_1072 kw_44 rfl rfl (Nat.le_of_ble_eq_true rfl) ⟨by decide, by decide⟩ hc dX12_ends_110 (fun H locs hH hS => W.eq (g2 := F0 m 113 ls [.int q_27.1]) rfl ?_)
            refine lv_istore (lv' := [(5, .int q_27.1), (0, .ref (base + p0)), (1, .int v1), (2, .int v2), (4, .int v4), (6, .int v6)]) hx hb dX12_ends_113 hl (by decide) rfl (fun ls hl => ?_)
            refine lv_iinc (v := v6 + (1 : Int32)) (lv' := [(6, .int (v6 + (1 : Int32))), (5, .int q_27.1), (0, .ref (base + p0)), (1, .int v1), (2, .int v2), (4, .int v4)]) hx hb dX12_ends_115 hl (k := 5) rfl (congrArg (fun z => v6 + z) (by decide)) (by decide) rfl (fun ls hl => ?_)
            refine lv_goto (tgt := 47) hx hb dX12_ends_118 (by decide) ?_
            exact ih q_27.1 (v6 + (1 : Int32)) q_27.2 hF H locs ls hH hS (lv_sub hl [2, 3, 4, 5, 1, 0] rfl)
          · replace hF := itt c_25 hF
            refine lv_iload_n hx hb dX12_ends_103 rfl (lv_at hl 1 rfl) ?_
            refine lv_goto (tgt := 108) hx hb dX12_ends_104 (by decide) ?_
            refine lv_iload hx hb dX12_ends_108 (lv_at hl 4 rfl) ?_
            obtain ⟨u_28, ou_28, hF⟩ := bnd hF
            obtain ⟨q_29, e_29, hF⟩ := bnd hF
            refine m_callV (As := [.int v1, .int v5]) (rest := []) X hH hS hl.1 ou_28 rfl (by decide) (k_X12_madeBy l D cI cT cII base p0 v1 v5 q_22.2 q_29 e_29) q_X12_madeBy kw_1070 kw_1072 kw_44 rfl rfl (Nat.le_of_ble_eq_true rfl) ⟨by decide, by decide⟩ hc dX12_ends_110 (fun H locs hH hS => W.eq (g2 := F0 m 113 ls [.int q_29.1]) rfl ?_)
            refine lv_istore (lv' := [(5, .int q_29.1), (0, .ref (base + p0)), (1, .int v1), (2, .int v2), (4, .int v4), (6, .int v6)]) hx hb dX12_ends_113 hl (by decide) rfl (fun ls hl => ?_)
            refine lv_iinc (v := v6 + (1 : Int32)) (lv' := [(6, .int (v6 + (1 : Int32))), (5, .int q_29.1), (0, .ref (base + p0)), (1, .int v1), (2, .int v2), (4, .int v4)]) hx hb dX12_ends_115 hl (k := 5) rfl (congrArg (fun z => v6 + z) (by decide)) (by decide) rfl (fun ls hl => ?_)
            refine lv_goto (tgt := 47) hx hb dX12_ends_118 (by decide) ?_
            exact ih q_29.1 (v6 + (1 : Int32)) q_29.2 hF H locs ls hH hS (lv_sub hl [2, 3, 4, 5, 1, 0] rfl)
        · replace hF := itt c_23 hF
          exact hK_79 v5 v6 q_22.2 hF H locs ls hH hS (lv_sub hl [3, 4, 5] rfl)
set_option maxHeartbeats 4000000 in
set_option maxRecDepth 100000 in
theorem k_X12_ends (l : Launch) (D : va_G) (cI cT cII : ClassId) (base : Nat) (p0 : Nat) (v1 : Int32) (v2 : Int32) (v3 : Int32) (v4 : Int32) (w : Wd) (res : Int32 × Wd) (hF : fX12_ends p0 v1 v2 v3 v4 w = some res) : Ct l yX12_ends cX12_ends 7 (some .int) { frames := 3, cells := 0, slots := 0, locals := 64 } D cI cT cII base [.ref (base + p0), .int v1, .int v2, .int v3, .int v4] w res.2 (some (.int res.1)) 0 0 := by
  unfold fX12_ends at hF
  refine m_enter (by decide) (Nat.le_of_ble_eq_true rfl) ?_
  intro p e s m below meth c ls X hr hlk hnm hH hS hl
  have hx := X.1
  have hb := X.2.1
  have hc : (0 : Nat) ≤ ({ frames := 3, cells := 0, slots := 0, locals := 64 } : Room).cells ∧ (0 : Nat) ≤ ({ frames := 3, cells := 0, slots := 0, locals := 64 } : Room).slots := ⟨Nat.zero_le _, Nat.zero_le _⟩
  obtain ⟨H, hHe⟩ : ∃ H : Heap, H = s.heap := ⟨_, rfl⟩
  obtain ⟨locs, hle⟩ : ∃ L : List Loc, L = [] := ⟨_, rfl⟩
  have hl : lv_has ls 7 [(0, .ref (base + p0)), (1, .int v1), (2, .int v2), (3, .int v3), (4, .int v4)] := hl
  rw [← hHe] at hH
  have hS : va_S (fun q => base ≤ q) s.heap H locs := by rw [hHe, hle]; exact hS
  rw [← hle]
  show W p l e _ s m _ below meth c s.heap locs 0 0 _ _
  rw [← hHe]
  refine lv_aload_n hx hb dX12_ends_0 rfl (lv_at hl 0 rfl) ?_
  refine lv_iload_n hx hb dX12_ends_1 rfl (lv_at hl 1 rfl) ?_
  obtain ⟨u_1, ou_1, hF⟩ := bnd hF
  obtain ⟨q_2, e_2, hF⟩ := bnd hF
  refine m_callV (As := [.int v1]) (rest := []) X hH hS hl.1 ou_1 rfl (by decide) (k_X12_isPerson l D cI cT cII base p0 v1 w q_2 e_2) q_X12_isPerson kw_1025 kw_1027 kw_36 rfl rfl (Nat.le_of_ble_eq_true rfl) ⟨by decide, by decide⟩ hc dX12_ends_2 (fun H locs hH hS => W.eq (g2 := F0 m 5 ls [.int q_2.1]) rfl ?_)
  refine lv_if_eq (tgt := 36) hx hb dX12_ends_5 (by decide) (fun c_3 => ?_) (fun c_3 => ?_)
  · replace hF := itt c_3 hF
    refine lv_iconst (v := (-1 : Int32)) hx hb dX12_ends_36 (by decide) ?_
    have hF := Option.some.inj hF
    subst hF
    exact m_iret X hr hlk hH hS dX12_ends_37
  · replace hF := itf c_3 hF
    refine lv_aload_n hx hb dX12_ends_8 rfl (lv_at hl 0 rfl) ?_
    refine lv_iload_n hx hb dX12_ends_9 rfl (lv_at hl 2 rfl) ?_
    obtain ⟨u_4, ou_4, hF⟩ := bnd hF
    obtain ⟨q_5, e_5, hF⟩ := bnd hF
    refine m_callV (As := [.int v2]) (rest := []) X hH hS hl.1 ou_4 rfl (by decide) (k_X12_isPerson l D cI cT cII base p0 v2 q_2.2 q_5 e_5) q_X12_isPerson kw_1025 kw_1027 kw_36 rfl rfl (Nat.le_of_ble_eq_true rfl) ⟨by decide, by decide⟩ hc dX12_ends_10 (fun H locs hH hS => W.eq (g2 := F0 m 13 ls [.int q_5.1]) rfl ?_)
    refine lv_if_eq (tgt := 36) hx hb dX12_ends_13 (by decide) (fun c_6 => ?_) (fun c_6 => ?_)
    · replace hF := itt c_6 hF
      refine lv_iconst (v := (-1 : Int32)) hx hb dX12_ends_36 (by decide) ?_
      have hF := Option.some.inj hF
      subst hF
      exact m_iret X hr hlk hH hS dX12_ends_37
    · replace hF := itf c_6 hF
      refine lv_iload_n hx hb dX12_ends_16 rfl (lv_at hl 3 rfl) ?_
      refine lv_iconst (v := (0 : Int32)) hx hb dX12_ends_17 (by decide) ?_
      refine lv_bipush (v := (40 : Int32)) hx hb dX12_ends_18 (by decide) ?_
      obtain ⟨q_7, e_7, hF⟩ := bnd hF
      refine m_callS (As := [.int v3, .int (0 : Int32), .int (40 : Int32)]) (rest := []) X hH hS hl.1 (k_X12_in l D cI cT cII base v3 (0 : Int32) (40 : Int32) q_5.2 q_7 e_7) q_X12_in kw_951 kw_952 rfl rfl (Nat.le_of_ble_eq_true rfl) ⟨by decide, by decide⟩ hc dX12_ends_20 (fun H locs hH hS => W.eq (g2 := F0 m 23 ls [.int q_7.1]) rfl ?_)
      refine lv_if_eq (tgt := 36) hx hb dX12_ends_23 (by decide) (fun c_8 => ?_) (fun c_8 => ?_)
      · replace hF := itt c_8 hF
        refine lv_iconst (v := (-1 : Int32)) hx hb dX12_ends_36 (by decide) ?_
        have hF := Option.some.inj hF
        subst hF
        exact m_iret X hr hlk hH hS dX12_ends_37
      · replace hF := itf c_8 hF
        refine lv_iload hx hb dX12_ends_26 (lv_at hl 4 rfl) ?_
        refine lv_iconst (v := (0 : Int32)) hx hb dX12_ends_28 (by decide) ?_
        refine lv_iconst (v := (1 : Int32)) hx hb dX12_ends_29 (by decide) ?_
        obtain ⟨q_9, e_9, hF⟩ := bnd hF
        refine m_callS (As := [.int v4, .int (0 : Int32), .int (1 : Int32)]) (rest := []) X hH hS hl.1 (k_X12_in l D cI cT cII base v4 (0 : Int32) (1 : Int32) q_7.2 q_9 e_9) q_X12_in kw_951 kw_952 rfl rfl (Nat.le_of_ble_eq_true rfl) ⟨by decide, by decide⟩ hc dX12_ends_30 (fun H locs hH hS => W.eq (g2 := F0 m 33 ls [.int q_9.1]) rfl ?_)
        refine lv_if_ne (tgt := 38) hx hb dX12_ends_33 (by decide) (fun c_10 => ?_) (fun c_10 => ?_)
        · replace hF := itf c_10 hF
          refine lv_iload_n hx hb dX12_ends_38 rfl (lv_at hl 3 rfl) ?_
          refine lv_bipush (v := (20 : Int32)) hx hb dX12_ends_39 (by decide) ?_
          refine lv_isub hx hb dX12_ends_41 ?_
          refine lv_istore (lv' := [(5, .int (v3 - (20 : Int32))), (0, .ref (base + p0)), (1, .int v1), (2, .int v2), (3, .int v3), (4, .int v4)]) hx hb dX12_ends_42 hl (by decide) rfl (fun ls hl => ?_)
          refine lv_iconst (v := (0 : Int32)) hx hb dX12_ends_44 (by decide) ?_
          refine lv_istore (lv' := [(6, .int (0 : Int32)), (5, .int (v3 - (20 : Int32))), (0, .ref (base + p0)), (1, .int v1), (2, .int v2), (3, .int v3), (4, .int v4)]) hx hb dX12_ends_45 hl (by decide) rfl (fun ls hl => ?_)
          refine l_X12_ends_47 X hc p0 v1 v2 v4 _ _ res ?_ ?_ FV (v3 - (20 : Int32)) (0 : Int32) q_9.2 hF H locs ls hH hS (lv_sub hl [2, 3, 4, 6, 1, 0] rfl)
          · intro v5_31 v6_32 w_30 hF H locs ls hH hS hl
            refine lv_iload hx hb dX12_ends_79 (lv_at hl 0 rfl) ?_
            refine lv_if_ne (tgt := 92) hx hb dX12_ends_81 (by decide) (fun c_33 => ?_) (fun c_33 => ?_)
            · replace hF := itf c_33 hF
              refine lv_iload hx hb dX12_ends_92 (lv_at hl 2 rfl) ?_
              have hF := Option.some.inj hF
              subst hF
              exact m_iret X hr hlk hH hS dX12_ends_94
            · replace hF := itt c_33 hF
              refine lv_iload hx hb dX12_ends_84 (lv_at hl 1 rfl) ?_
              refine lv_bipush (v := (40 : Int32)) hx hb dX12_ends_86 (by decide) ?_
              refine lv_iadd hx hb dX12_ends_88 ?_
              refine lv_goto (tgt := 94) hx hb dX12_ends_89 (by decide) ?_
              have hF := Option.some.inj hF
              subst hF
              exact m_iret X hr hlk hH hS dX12_ends_94
          · intro  w_34 hF H locs ls hH hS hl
            refine lv_bipush (v := (-4 : Int32)) hx hb dX12_ends_121 (by decide) ?_
            have hF := Option.some.inj hF
            subst hF
            exact m_iret X hr hlk hH hS dX12_ends_123
        · replace hF := itt c_10 hF
          refine lv_iconst (v := (-1 : Int32)) hx hb dX12_ends_36 (by decide) ?_
          have hF := Option.some.inj hF
          subst hF
          exact m_iret X hr hlk hH hS dX12_ends_37
noncomputable def fX12_letterAt (p0 : Nat) (v1 : Int32) (w : Wd) : Option (Int32 × Wd) := (gfI 11 15 p0 w).bind fun x_1 => if x_1 ≤ v1 then some ((-1 : Int32), w) else (gfR 11 14 p0 w).bind fun r_3 => (rdI r_3 v1 w).bind fun x_4 => some (x_4, w)
set_option maxHeartbeats 4000000 in
set_option maxRecDepth 100000 in
theorem k_X12_letterAt (l : Launch) (D : va_G) (cI cT cII : ClassId) (base : Nat) (p0 : Nat) (v1 : Int32) (w : Wd) (res : Int32 × Wd) (hF : fX12_letterAt p0 v1 w = some res) : Ct l yX12_letterAt cX12_letterAt 2 (some .int) { frames := 0, cells := 0, slots := 0, locals := 0 } D cI cT cII base [.ref (base + p0), .int v1] w res.2 (some (.int res.1)) 0 0 := by
  unfold fX12_letterAt at hF
  refine m_enter (by decide) (Nat.le_of_ble_eq_true rfl) ?_
  intro p e s m below meth c ls X hr hlk hnm hH hS hl
  have hx := X.1
  have hb := X.2.1
  have hc : (0 : Nat) ≤ ({ frames := 0, cells := 0, slots := 0, locals := 0 } : Room).cells ∧ (0 : Nat) ≤ ({ frames := 0, cells := 0, slots := 0, locals := 0 } : Room).slots := ⟨Nat.zero_le _, Nat.zero_le _⟩
  obtain ⟨H, hHe⟩ : ∃ H : Heap, H = s.heap := ⟨_, rfl⟩
  obtain ⟨locs, hle⟩ : ∃ L : List Loc, L = [] := ⟨_, rfl⟩
  have hl : lv_has ls 2 [(0, .ref (base + p0)), (1, .int v1)] := hl
  rw [← hHe] at hH
  have hS : va_S (fun q => base ≤ q) s.heap H locs := by rw [hHe, hle]; exact hS
  rw [← hle]
  show W p l e _ s m _ below meth c s.heap locs 0 0 _ _
  rw [← hHe]
  refine lv_iload_n hx hb dX12_letterAt_0 rfl (lv_at hl 1 rfl) ?_
  refine lv_aload_n hx hb dX12_letterAt_1 rfl (lv_at hl 0 rfl) ?_
  obtain ⟨x_1, e_1, hF⟩ := bnd hF
  refine m_gI X hH e_1 gg_X12_91 dX12_letterAt_2 ?_
  refine lv_icmp_ge (tgt := 17) hx hb dX12_letterAt_5 (by decide) (fun c_2 => ?_) (fun c_2 => ?_)
  · replace hF := itt c_2 hF
    refine lv_iconst (v := (-1 : Int32)) hx hb dX12_letterAt_17 (by decide) ?_
    have hF := Option.some.inj hF
    subst hF
    exact m_iret X hr hlk hH hS dX12_letterAt_18
  · replace hF := itf c_2 hF
    refine lv_aload_n hx hb dX12_letterAt_8 rfl (lv_at hl 0 rfl) ?_
    obtain ⟨r_3, e_3, hF⟩ := bnd hF
    refine m_gR X hH e_3 gg_X12_44 dX12_letterAt_9 ?_
    refine lv_iload_n hx hb dX12_letterAt_12 rfl (lv_at hl 1 rfl) ?_
    obtain ⟨x_4, e_4, hF⟩ := bnd hF
    refine m_rdI X hH e_4 dX12_letterAt_13 ?_
    refine lv_goto (tgt := 18) hx hb dX12_letterAt_14 (by decide) ?_
    have hF := Option.some.inj hF
    subst hF
    exact m_iret X hr hlk hH hS dX12_letterAt_18
noncomputable def fX12_isFigure (v0 : Int32) (w : Wd) : Option (Int32 × Wd) := (fX12_in v0 (48 : Int32) (57 : Int32) w).bind fun q_1 => (bz q_1.1).bind fun x_2 => some (x_2, q_1.2)
set_option maxHeartbeats 4000000 in
set_option maxRecDepth 100000 in
theorem k_X12_isFigure (l : Launch) (D : va_G) (cI cT cII : ClassId) (base : Nat) (v0 : Int32) (w : Wd) (res : Int32 × Wd) (hF : fX12_isFigure v0 w = some res) : Ct l yX12_isFigure cX12_isFigure 1 (some .boolean) { frames := 1, cells := 0, slots := 0, locals := 22 } D cI cT cII base [.int v0] w res.2 (some (.int res.1)) 0 0 := by
  unfold fX12_isFigure at hF
  refine m_enter (by decide) (Nat.le_of_ble_eq_true rfl) ?_
  intro p e s m below meth c ls X hr hlk hnm hH hS hl
  have hx := X.1
  have hb := X.2.1
  have hc : (0 : Nat) ≤ ({ frames := 1, cells := 0, slots := 0, locals := 22 } : Room).cells ∧ (0 : Nat) ≤ ({ frames := 1, cells := 0, slots := 0, locals := 22 } : Room).slots := ⟨Nat.zero_le _, Nat.zero_le _⟩
  obtain ⟨H, hHe⟩ : ∃ H : Heap, H = s.heap := ⟨_, rfl⟩
  obtain ⟨locs, hle⟩ : ∃ L : List Loc, L = [] := ⟨_, rfl⟩
  have hl : lv_has ls 1 [(0, .int v0)] := hl
  rw [← hHe] at hH
  have hS : va_S (fun q => base ≤ q) s.heap H locs := by rw [hHe, hle]; exact hS
  rw [← hle]
  show W p l e _ s m _ below meth c s.heap locs 0 0 _ _
  rw [← hHe]
  refine lv_iload_n hx hb dX12_isFigure_0 rfl (lv_at hl 0 rfl) ?_
  refine lv_bipush (v := (48 : Int32)) hx hb dX12_isFigure_1 (by decide) ?_
  refine lv_bipush (v := (57 : Int32)) hx hb dX12_isFigure_3 (by decide) ?_
  obtain ⟨q_1, e_1, hF⟩ := bnd hF
  refine m_callS (As := [.int v0, .int (48 : Int32), .int (57 : Int32)]) (rest := []) X hH hS hl.1 (k_X12_in l D cI cT cII base v0 (48 : Int32) (57 : Int32) w q_1 e_1) q_X12_in kw_951 kw_952 rfl rfl (Nat.le_of_ble_eq_true rfl) ⟨by decide, by decide⟩ hc dX12_isFigure_5 (fun H locs hH hS => W.eq (g2 := F0 m 8 ls [.int q_1.1]) rfl ?_)
  obtain ⟨x_2, e_2, hF⟩ := bnd hF
  obtain ⟨z_x_2, rfl⟩ := isn e_2
  have hF := Option.some.inj hF
  subst hF
  exact m_zret X hr hlk (if_pos z_x_2) hH hS dX12_isFigure_8
noncomputable def fX12_readNumbers_2 (p0 : Nat) (v1 : Int32) (K_21 : Wd → Option (Int32 × Wd)) (K_126 : Wd → Option (Int32 × Wd)) (K_144 : Wd → Option (Int32 × Wd)) : Nat → Int32 → Wd → Option (Int32 × Wd)
  | 0, _, _ => none
  | n + 1, v2, w => if v1 ≤ v2 then K_144  w else (gfI 11 16 p0 w).bind fun x_2 => (isO 11 p0 w).bind fun u_3 => (fX12_letterAt p0 x_2 w).bind fun q_4 => (fX12_isFigure q_4.1 q_4.2).bind fun q_5 => if q_5.1 = 0 then K_21  q_5.2 else (gfR 11 17 p0 q_5.2).bind fun r_7 => (gfI 11 16 p0 q_5.2).bind fun x_8 => (isO 11 p0 q_5.2).bind fun u_9 => (fX12_letterAt p0 x_8 q_5.2).bind fun q_10 => (wrI r_7 v2 (q_10.1 - (48 : Int32)) q_10.2).bind fun w_11 => (gfI 11 16 p0 w_11).bind fun x_12 => (pfI 11 16 p0 (x_12 + (1 : Int32)) w_11).bind fun w_13 => (gfI 11 16 p0 w_13).bind fun x_14 => (isO 11 p0 w_13).bind fun u_15 => (fX12_letterAt p0 x_14 w_13).bind fun q_16 => (fX12_isFigure q_16.1 q_16.2).bind fun q_17 => if q_17.1 = 0 then (gfI 11 16 p0 q_17.2).bind fun x_19 => (isO 11 p0 q_17.2).bind fun u_20 => (fX12_letterAt p0 x_19 q_17.2).bind fun q_21 => if (v1 - (1 : Int32)) ≤ v2 then if q_21.1 = (59 : Int32) then (gfI 11 16 p0 q_21.2).bind fun x_24 => (pfI 11 16 p0 (x_24 + (1 : Int32)) q_21.2).bind fun w_25 => fX12_readNumbers_2 p0 v1 K_21 K_126 K_144 n (v2 + (1 : Int32)) w_25 else K_126  q_21.2 else if q_21.1 = (44 : Int32) then (gfI 11 16 p0 q_21.2).bind fun x_27 => (pfI 11 16 p0 (x_27 + (1 : Int32)) q_21.2).bind fun w_28 => fX12_readNumbers_2 p0 v1 K_21 K_126 K_144 n (v2 + (1 : Int32)) w_28 else K_126  q_21.2 else (gfR 11 17 p0 q_17.2).bind fun r_29 => (gfR 11 17 p0 q_17.2).bind fun r_30 => (rdI r_30 v2 q_17.2).bind fun x_31 => (gfI 11 16 p0 q_17.2).bind fun x_32 => (isO 11 p0 q_17.2).bind fun u_33 => (fX12_letterAt p0 x_32 q_17.2).bind fun q_34 => (wrI r_29 v2 ((((10 : Int32) * x_31) + q_34.1) - (48 : Int32)) q_34.2).bind fun w_35 => (gfI 11 16 p0 w_35).bind fun x_36 => (pfI 11 16 p0 (x_36 + (1 : Int32)) w_35).bind fun w_37 => (gfI 11 16 p0 w_37).bind fun x_38 => (isO 11 p0 w_37).bind fun u_39 => (fX12_letterAt p0 x_38 w_37).bind fun q_40 => if (v1 - (1 : Int32)) ≤ v2 then if q_40.1 = (59 : Int32) then (gfI 11 16 p0 q_40.2).bind fun x_43 => (pfI 11 16 p0 (x_43 + (1 : Int32)) q_40.2).bind fun w_44 => fX12_readNumbers_2 p0 v1 K_21 K_126 K_144 n (v2 + (1 : Int32)) w_44 else K_126  q_40.2 else if q_40.1 = (44 : Int32) then (gfI 11 16 p0 q_40.2).bind fun x_46 => (pfI 11 16 p0 (x_46 + (1 : Int32)) q_40.2).bind fun w_47 => fX12_readNumbers_2 p0 v1 K_21 K_126 K_144 n (v2 + (1 : Int32)) w_47 else K_126  q_40.2
noncomputable def fX12_readNumbers (p0 : Nat) (v1 : Int32) (w : Wd) : Option (Int32 × Wd) := fX12_readNumbers_2 p0 v1 (fun  (w_48 : Wd) => some ((0 : Int32), w_48)) (fun  (w_49 : Wd) => some ((0 : Int32), w_49)) (fun  (w_50 : Wd) => some ((1 : Int32), w_50)) FV (0 : Int32) w
set_option maxHeartbeats 4000000 in
set_option maxRecDepth 100000 in
theorem l_X12_readNumbers_2 (X : Cx p R s m args c cX12_readNumbers 3 RX12 D cI cT cII 2 42) (hc : cells ≤ R.cells ∧ slots ≤ R.slots) (p0 : Nat) (v1 : Int32) (K_21 : Wd → Option (Int32 × Wd)) (K_126 : Wd → Option (Int32 × Wd)) (K_144 : Wd → Option (Int32 × Wd)) (res : Int32 × Wd)
    (hK_21 : ∀  (w : Wd), K_21  w = some res → ∀ (H : Heap) (locs : List Loc) (ls : Array Slot), Hd D cI cT cII base w H → va_S (fun q => base ≤ q) s.heap H locs → lv_has ls 3 [] → W p l e R s m args below meth c H locs cells slots Q (F0 m 21 ls []))
    (hK_126 : ∀  (w : Wd), K_126  w = some res → ∀ (H : Heap) (locs : List Loc) (ls : Array Slot), Hd D cI cT cII base w H → va_S (fun q => base ≤ q) s.heap H locs → lv_has ls 3 [] → W p l e R s m args below meth c H locs cells slots Q (F0 m 126 ls []))
    (hK_144 : ∀  (w : Wd), K_144  w = some res → ∀ (H : Heap) (locs : List Loc) (ls : Array Slot), Hd D cI cT cII base w H → va_S (fun q => base ≤ q) s.heap H locs → lv_has ls 3 [] → W p l e R s m args below meth c H locs cells slots Q (F0 m 144 ls [])) :
    ∀ (n : Nat) (v2 : Int32) (w : Wd), fX12_readNumbers_2 p0 v1 K_21 K_126 K_144 n v2 w = some res → ∀ (H : Heap) (locs : List Loc) (ls : Array Slot), Hd D cI cT cII base w H → va_S (fun q => base ≤ q) s.heap H locs → lv_has ls 3 [(0, .ref (base + p0)), (1, .int v1), (2, .int v2)] → W p l e R s m args below meth c H locs cells slots Q (F0 m 2 ls []) := by
  have hx := X.1
  have hb := X.2.1
  intro n
  induction n with
  | zero =>
    intro v2 w hF
    rw [fX12_readNumbers_2] at hF
    cases hF
  | succ n ih =>
    intro v2 w hF H locs ls hH hS hl
    rw [fX12_readNumbers_2] at hF
    refine lv_iload_n hx hb dX12_readNumbers_2 rfl (lv_at hl 2 rfl) ?_
    refine lv_iload_n hx hb dX12_readNumbers_3 rfl (lv_at hl 1 rfl) ?_
    refine lv_icmp_ge (tgt := 144) hx hb dX12_readNumbers_4 (by decide) (fun c_1 => ?_) (fun c_1 => ?_)
    · replace hF := itt c_1 hF
      exact hK_144  w hF H locs ls hH hS (lv_sub hl [] rfl)
    · replace hF := itf c_1 hF
      refine lv_aload_n hx hb dX12_readNumbers_7 rfl (lv_at hl 0 rfl) ?_
      refine lv_aload_n hx hb dX12_readNumbers_8 rfl (lv_at hl 0 rfl) ?_
      obtain ⟨x_2, e_2, hF⟩ := bnd hF
      refine m_gI X hH e_2 gg_X12_94 dX12_readNumbers_9 ?_
      obtain ⟨u_3, ou_3, hF⟩ := bnd hF
      obtain ⟨q_4, e_4, hF⟩ := bnd hF
      refine m_callV (As := [.int x_2]) (rest := []) X hH hS hl.1 ou_3 rfl (by decide) (k_X12_letterAt l D cI cT cII base p0 x_2 w q_4 e_4) q_X12_letterAt kw_966 kw_968 kw_26 rfl rfl (Nat.le_of_ble_eq_true rfl) ⟨by decide, by decide⟩ hc dX12_readNumbers_12 (fun H locs hH hS => W.eq (g2 := F0 m 15 ls [.int q_4.1]) rfl ?_)
      obtain ⟨q_5, e_5, hF⟩ := bnd hF
      refine m_callS (As := [.int q_4.1]) (rest := []) X hH hS hl.1 (k_X12_isFigure l D cI cT cII base q_4.1 q_4.2 q_5 e_5) q_X12_isFigure kw_978 kw_979 rfl rfl (Nat.le_of_ble_eq_true rfl) ⟨by decide, by decide⟩ hc dX12_readNumbers_15 (fun H locs hH hS => W.eq (g2 := F0 m 18 ls [.int q_5.1]) rfl ?_)
      refine lv_if_ne (tgt := 23) hx hb dX12_readNumbers_18 (by decide) (fun c_6 => ?_) (fun c_6 => ?_)
      · replace hF := itf c_6 hF
        refine lv_aload_n hx hb dX12_readNumbers_23 rfl (lv_at hl 0 rfl) ?_
        obtain ⟨r_7, e_7, hF⟩ := bnd hF
        refine m_gR X hH e_7 gg_X12_47 dX12_readNumbers_24 ?_
        refine lv_iload_n hx hb dX12_readNumbers_27 rfl (lv_at hl 2 rfl) ?_
        refine lv_aload_n hx hb dX12_readNumbers_28 rfl (lv_at hl 0 rfl) ?_
        refine lv_aload_n hx hb dX12_readNumbers_29 rfl (lv_at hl 0 rfl) ?_
        obtain ⟨x_8, e_8, hF⟩ := bnd hF
        refine m_gI X hH e_8 gg_X12_94 dX12_readNumbers_30 ?_
        obtain ⟨u_9, ou_9, hF⟩ := bnd hF
        obtain ⟨q_10, e_10, hF⟩ := bnd hF
        refine m_callV (As := [.int x_8]) (rest := [.int v2, .ref (base + r_7)]) X hH hS hl.1 ou_9 rfl (by decide) (k_X12_letterAt l D cI cT cII base p0 x_8 q_5.2 q_10 e_10) q_X12_letterAt kw_966 kw_968 kw_26 rfl rfl (Nat.le_of_ble_eq_true rfl) ⟨by decide, by decide⟩ hc dX12_readNumbers_33 (fun H locs hH hS => W.eq (g2 := F0 m 36 ls [.int q_10.1, .int v2, .ref (base + r_7)]) rfl ?_)
        refine lv_bipush (v := (48 : Int32)) hx hb dX12_readNumbers_36 (by decide) ?_
        refine lv_isub hx hb dX12_readNumbers_38 ?_
        obtain ⟨w_11, e_11, hF⟩ := bnd hF
        refine m_wrI X hH hS e_11 dX12_readNumbers_39 (fun H locs hH hS => ?_)
        refine lv_aload_n hx hb dX12_readNumbers_40 rfl (lv_at hl 0 rfl) ?_
        refine lv_dup hx hb dX12_readNumbers_41 rfl ?_
        obtain ⟨x_12, e_12, hF⟩ := bnd hF
        refine m_gI X hH e_12 gg_X12_94 dX12_readNumbers_42 ?_
        refine lv_iconst (v := (1 : Int32)) hx hb dX12_readNumbers_45 (by decide) ?_
        refine lv_iadd hx hb dX12_readNumbers_46 ?_
        obtain ⟨w_13, e_13, hF⟩ := bnd hF
        refine m_pI X hH hS e_13 gp_X12_94 rfl rfl dX12_readNumbers_47 (fun H locs hH hS => ?_)
        refine lv_aload_n hx hb dX12_readNumbers_50 rfl (lv_at hl 0 rfl) ?_
        refine lv_aload_n hx hb dX12_readNumbers_51 rfl (lv_at hl 0 rfl) ?_
        obtain ⟨x_14, e_14, hF⟩ := bnd hF
        refine m_gI X hH e_14 gg_X12_94 dX12_readNumbers_52 ?_
        obtain ⟨u_15, ou_15, hF⟩ := bnd hF
        obtain ⟨q_16, e_16, hF⟩ := bnd hF
        refine m_callV (As := [.int x_14]) (rest := []) X hH hS hl.1 ou_15 rfl (by decide) (k_X12_letterAt l D cI cT cII base p0 x_14 w_13 q_16 e_16) q_X12_letterAt kw_966 kw_968 kw_26 rfl rfl (Nat.le_of_ble_eq_true rfl) ⟨by decide, by decide⟩ hc dX12_readNumbers_55 (fun H locs hH hS => W.eq (g2 := F0 m 58 ls [.int q_16.1]) rfl ?_)
        obtain ⟨q_17, e_17, hF⟩ := bnd hF
        refine m_callS (As := [.int q_16.1]) (rest := []) X hH hS hl.1 (k_X12_isFigure l D cI cT cII base q_16.1 q_16.2 q_17 e_17) q_X12_isFigure kw_978 kw_979 rfl rfl (Nat.le_of_ble_eq_true rfl) ⟨by decide, by decide⟩ hc dX12_readNumbers_58 (fun H locs hH hS => W.eq (g2 := F0 m 61 ls [.int q_17.1]) rfl ?_)
        refine lv_if_eq (tgt := 101) hx hb dX12_readNumbers_61 (by decide) (fun c_18 => ?_) (fun c_18 => ?_)
        · replace hF := itt c_18 hF
          refine lv_aload_n hx hb dX12_readNumbers_101 rfl (lv_at hl 0 rfl) ?_
          refine lv_aload_n hx hb dX12_readNumbers_102 rfl (lv_at hl 0 rfl) ?_
          obtain ⟨x_19, e_19, hF⟩ := bnd hF
          refine m_gI X hH e_19 gg_X12_94 dX12_readNumbers_103 ?_
          obtain ⟨u_20, ou_20, hF⟩ := bnd hF
          obtain ⟨q_21, e_21, hF⟩ := bnd hF
          refine m_callV (As := [.int x_19]) (rest := []) X hH hS hl.1 ou_20 rfl (by decide) (k_X12_letterAt l D cI cT cII base p0 x_19 q_17.2 q_21 e_21) q_X12_letterAt kw_966 kw_968 kw_26 rfl rfl (Nat.le_of_ble_eq_true rfl) ⟨by decide, by decide⟩ hc dX12_readNumbers_106 (fun H locs hH hS => W.eq (g2 := F0 m 109 ls [.int q_21.1]) rfl ?_)
          refine lv_iload_n hx hb dX12_readNumbers_109 rfl (lv_at hl 2 rfl) ?_
          refine lv_iload_n hx hb dX12_readNumbers_110 rfl (lv_at hl 1 rfl) ?_
          refine lv_iconst (v := (1 : Int32)) hx hb dX12_readNumbers_111 (by decide) ?_
          refine lv_isub hx hb dX12_readNumbers_112 ?_
          refine lv_icmp_ge (tgt := 121) hx hb dX12_readNumbers_113 (by decide) (fun c_22 => ?_) (fun c_22 => ?_)
          · replace hF := itt c_22 hF
            refine lv_bipush (v := (59 : Int32)) hx hb dX12_readNumbers_121 (by decide) ?_
            refine lv_icmp_eq (tgt := 128) hx hb dX12_readNumbers_123 (by decide) (fun c_23 => ?_) (fun c_23 => ?_)
            · replace hF := itt c_23 hF
              refine lv_aload_n hx hb dX12_readNumbers_128 rfl (lv_at hl 0 rfl) ?_
              refine lv_dup hx hb dX12_readNumbers_129 rfl ?_
              obtain ⟨x_24, e_24, hF⟩ := bnd hF
              refine m_gI X hH e_24 gg_X12_94 dX12_readNumbers_130 ?_
              refine lv_iconst (v := (1 : Int32)) hx hb dX12_readNumbers_133 (by decide) ?_
              refine lv_iadd hx hb dX12_readNumbers_134 ?_
              obtain ⟨w_25, e_25, hF⟩ := bnd hF
              refine m_pI X hH hS e_25 gp_X12_94 rfl rfl dX12_readNumbers_135 (fun H locs hH hS => ?_)
              refine lv_iinc (v := v2 + (1 : Int32)) (lv' := [(2, .int (v2 + (1 : Int32))), (0, .ref (base + p0)), (1, .int v1)]) hx hb dX12_readNumbers_138 hl (k := 2) rfl (congrArg (fun z => v2 + z) (by decide)) (by decide) rfl (fun ls hl => ?_)
              refine lv_goto (tgt := 2) hx hb dX12_readNumbers_141 (by decide) ?_
              exact ih (v2 + (1 : Int32)) w_25 hF H locs ls hH hS (lv_sub hl [1, 2, 0] rfl)
            · replace hF := itf c_23 hF
              exact hK_126  q_21.2 hF H locs ls hH hS (lv_sub hl [] rfl)
          · replace hF := itf c_22 hF
            refine lv_bipush (v := (44 : Int32)) hx hb dX12_readNumbers_116 (by decide) ?_
            refine lv_goto (tgt := 123) hx hb dX12_readNumbers_118 (by decide) ?_
            refine lv_icmp_eq (tgt := 128) hx hb dX12_readNumbers_123 (by decide) (fun c_26 => ?_) (fun c_26 => ?_)
            · replace hF := itt c_26 hF
              refine lv_aload_n hx hb dX12_readNumbers_128 rfl (lv_at hl 0 rfl) ?_
              refine lv_dup hx hb dX12_readNumbers_129 rfl ?_
              obtain ⟨x_27, e_27, hF⟩ := bnd hF
              refine m_gI X hH e_27 gg_X12_94 dX12_readNumbers_130 ?_
              refine lv_iconst (v := (1 : Int32)) hx hb dX12_readNumbers_133 (by decide) ?_
              refine lv_iadd hx hb dX12_readNumbers_134 ?_
              obtain ⟨w_28, e_28, hF⟩ := bnd hF
              refine m_pI X hH hS e_28 gp_X12_94 rfl rfl dX12_readNumbers_135 (fun H locs hH hS => ?_)
              refine lv_iinc (v := v2 + (1 : Int32)) (lv' := [(2, .int (v2 + (1 : Int32))), (0, .ref (base + p0)), (1, .int v1)]) hx hb dX12_readNumbers_138 hl (k := 2) rfl (congrArg (fun z => v2 + z) (by decide)) (by decide) rfl (fun ls hl => ?_)
              refine lv_goto (tgt := 2) hx hb dX12_readNumbers_141 (by decide) ?_
              exact ih (v2 + (1 : Int32)) w_28 hF H locs ls hH hS (lv_sub hl [1, 2, 0] rfl)
            · replace hF := itf c_26 hF
              exact hK_126  q_21.2 hF H locs ls hH hS (lv_sub hl [] rfl)
        · replace hF := itf c_18 hF
          refine lv_aload_n hx hb dX12_readNumbers_64 rfl (lv_at hl 0 rfl) ?_
          obtain ⟨r_29, e_29, hF⟩ := bnd hF
          refine m_gR X hH e_29 gg_X12_47 dX12_readNumbers_65 ?_
          refine lv_iload_n hx hb dX12_readNumbers_68 rfl (lv_at hl 2 rfl) ?_
          refine lv_bipush (v := (10 : Int32)) hx hb dX12_readNumbers_69 (by decide) ?_
          refine lv_aload_n hx hb dX12_readNumbers_71 rfl (lv_at hl 0 rfl) ?_
          obtain ⟨r_30, e_30, hF⟩ := bnd hF
          refine m_gR X hH e_30 gg_X12_47 dX12_readNumbers_72 ?_
          refine lv_iload_n hx hb dX12_readNumbers_75 rfl (lv_at hl 2 rfl) ?_
          obtain ⟨x_31, e_31, hF⟩ := bnd hF
          refine m_rdI X hH e_31 dX12_readNumbers_76 ?_
          refine lv_imul hx hb dX12_readNumbers_77 ?_
          refine lv_aload_n hx hb dX12_readNumbers_78 rfl (lv_at hl 0 rfl) ?_
          refine lv_aload_n hx hb dX12_readNumbers_79 rfl (lv_at hl 0 rfl) ?_
          obtain ⟨x_32, e_32, hF⟩ := bnd hF
          refine m_gI X hH e_32 gg_X12_94 dX12_readNumbers_80 ?_
          obtain ⟨u_33, ou_33, hF⟩ := bnd hF
          obtain ⟨q_34, e_34, hF⟩ := bnd hF
          refine m_callV (As := [.int x_32]) (rest := [.int ((10 : Int32) * x_31), .int v2, .ref (base + r_29)]) X hH hS hl.1 ou_33 rfl (by decide) (k_X12_letterAt l D cI cT cII base p0 x_32 q_17.2 q_34 e_34) q_X12_letterAt kw_966 kw_968 kw_26 rfl rfl (Nat.le_of_ble_eq_true rfl) ⟨by decide, by decide⟩ hc dX12_readNumbers_83 (fun H locs hH hS => W.eq (g2 := F0 m 86 ls [.int q_34.1, .int ((10 : Int32) * x_31), .int v2, .ref (base + r_29)]) rfl ?_)
          refine lv_iadd hx hb dX12_readNumbers_86 ?_
          refine lv_bipush (v := (48 : Int32)) hx hb dX12_readNumbers_87 (by decide) ?_
          refine lv_isub hx hb dX12_readNumbers_89 ?_
          obtain ⟨w_35, e_35, hF⟩ := bnd hF
          refine m_wrI X hH hS e_35 dX12_readNumbers_90 (fun H locs hH hS => ?_)
          refine lv_aload_n hx hb dX12_readNumbers_91 rfl (lv_at hl 0 rfl) ?_
          refine lv_dup hx hb dX12_readNumbers_92 rfl ?_
          obtain ⟨x_36, e_36, hF⟩ := bnd hF
          refine m_gI X hH e_36 gg_X12_94 dX12_readNumbers_93 ?_
          refine lv_iconst (v := (1 : Int32)) hx hb dX12_readNumbers_96 (by decide) ?_
          refine lv_iadd hx hb dX12_readNumbers_97 ?_
          obtain ⟨w_37, e_37, hF⟩ := bnd hF
          refine m_pI X hH hS e_37 gp_X12_94 rfl rfl dX12_readNumbers_98 (fun H locs hH hS => ?_)
          refine lv_aload_n hx hb dX12_readNumbers_101 rfl (lv_at hl 0 rfl) ?_
          refine lv_aload_n hx hb dX12_readNumbers_102 rfl (lv_at hl 0 rfl) ?_
          obtain ⟨x_38, e_38, hF⟩ := bnd hF
          refine m_gI X hH e_38 gg_X12_94 dX12_readNumbers_103 ?_
          obtain ⟨u_39, ou_39, hF⟩ := bnd hF
          obtain ⟨q_40, e_40, hF⟩ := bnd hF
          refine m_callV (As := [.int x_38]) (rest := []) X hH hS hl.1 ou_39 rfl (by decide) (k_X12_letterAt l D cI cT cII base p0 x_38 w_37 q_40 e_40) q_X12_letterAt kw_966 kw_968 kw_26 rfl rfl (Nat.le_of_ble_eq_true rfl) ⟨by decide, by decide⟩ hc dX12_readNumbers_106 (fun H locs hH hS => W.eq (g2 := F0 m 109 ls [.int q_40.1]) rfl ?_)
          refine lv_iload_n hx hb dX12_readNumbers_109 rfl (lv_at hl 2 rfl) ?_
          refine lv_iload_n hx hb dX12_readNumbers_110 rfl (lv_at hl 1 rfl) ?_
          refine lv_iconst (v := (1 : Int32)) hx hb dX12_readNumbers_111 (by decide) ?_
          refine lv_isub hx hb dX12_readNumbers_112 ?_
          refine lv_icmp_ge (tgt := 121) hx hb dX12_readNumbers_113 (by decide) (fun c_41 => ?_) (fun c_41 => ?_)
          · replace hF := itt c_41 hF
            refine lv_bipush (v := (59 : Int32)) hx hb dX12_readNumbers_121 (by decide) ?_
            refine lv_icmp_eq (tgt := 128) hx hb dX12_readNumbers_123 (by decide) (fun c_42 => ?_) (fun c_42 => ?_)
            · replace hF := itt c_42 hF
              refine lv_aload_n hx hb dX12_readNumbers_128 rfl (lv_at hl 0 rfl) ?_
              refine lv_dup hx hb dX12_readNumbers_129 rfl ?_
              obtain ⟨x_43, e_43, hF⟩ := bnd hF
              refine m_gI X hH e_43 gg_X12_94 dX12_readNumbers_130 ?_
              refine lv_iconst (v := (1 : Int32)) hx hb dX12_readNumbers_133 (by decide) ?_
              refine lv_iadd hx hb dX12_readNumbers_134 ?_
              obtain ⟨w_44, e_44, hF⟩ := bnd hF
              refine m_pI X hH hS e_44 gp_X12_94 rfl rfl dX12_readNumbers_135 (fun H locs hH hS => ?_)
              refine lv_iinc (v := v2 + (1 : Int32)) (lv' := [(2, .int (v2 + (1 : Int32))), (0, .ref (base + p0)), (1, .int v1)]) hx hb dX12_readNumbers_138 hl (k := 2) rfl (congrArg (fun z => v2 + z) (by decide)) (by decide) rfl (fun ls hl => ?_)
              refine lv_goto (tgt := 2) hx hb dX12_readNumbers_141 (by decide) ?_
              exact ih (v2 + (1 : Int32)) w_44 hF H locs ls hH hS (lv_sub hl [1, 2, 0] rfl)
            · replace hF := itf c_42 hF
              exact hK_126  q_40.2 hF H locs ls hH hS (lv_sub hl [] rfl)
          · replace hF := itf c_41 hF
            refine lv_bipush (v := (44 : Int32)) hx hb dX12_readNumbers_116 (by decide) ?_
            refine lv_goto (tgt := 123) hx hb dX12_readNumbers_118 (by decide) ?_
            refine lv_icmp_eq (tgt := 128) hx hb dX12_readNumbers_123 (by decide) (fun c_45 => ?_) (fun c_45 => ?_)
            · replace hF := itt c_45 hF
              refine lv_aload_n hx hb dX12_readNumbers_128 rfl (lv_at hl 0 rfl) ?_
              refine lv_dup hx hb dX12_readNumbers_129 rfl ?_
              obtain ⟨x_46, e_46, hF⟩ := bnd hF
              refine m_gI X hH e_46 gg_X12_94 dX12_readNumbers_130 ?_
              refine lv_iconst (v := (1 : Int32)) hx hb dX12_readNumbers_133 (by decide) ?_
              refine lv_iadd hx hb dX12_readNumbers_134 ?_
              obtain ⟨w_47, e_47, hF⟩ := bnd hF
              refine m_pI X hH hS e_47 gp_X12_94 rfl rfl dX12_readNumbers_135 (fun H locs hH hS => ?_)
              refine lv_iinc (v := v2 + (1 : Int32)) (lv' := [(2, .int (v2 + (1 : Int32))), (0, .ref (base + p0)), (1, .int v1)]) hx hb dX12_readNumbers_138 hl (k := 2) rfl (congrArg (fun z => v2 + z) (by decide)) (by decide) rfl (fun ls hl => ?_)
              refine lv_goto (tgt := 2) hx hb dX12_readNumbers_141 (by decide) ?_
              exact ih (v2 + (1 : Int32)) w_47 hF H locs ls hH hS (lv_sub hl [1, 2, 0] rfl)
            · replace hF := itf c_45 hF
              exact hK_126  q_40.2 hF H locs ls hH hS (lv_sub hl [] rfl)
      · replace hF := itt c_6 hF
        exact hK_21  q_5.2 hF H locs ls hH hS (lv_sub hl [] rfl)
set_option maxHeartbeats 4000000 in
set_option maxRecDepth 100000 in
theorem k_X12_readNumbers (l : Launch) (D : va_G) (cI cT cII : ClassId) (base : Nat) (p0 : Nat) (v1 : Int32) (w : Wd) (res : Int32 × Wd) (hF : fX12_readNumbers p0 v1 w = some res) : Ct l yX12_readNumbers cX12_readNumbers 3 (some .boolean) { frames := 2, cells := 0, slots := 0, locals := 42 } D cI cT cII base [.ref (base + p0), .int v1] w res.2 (some (.int res.1)) 0 0 := by
  unfold fX12_readNumbers at hF
  refine m_enter (by decide) (Nat.le_of_ble_eq_true rfl) ?_
  intro p e s m below meth c ls X hr hlk hnm hH hS hl
  have hx := X.1
  have hb := X.2.1
  have hc : (0 : Nat) ≤ ({ frames := 2, cells := 0, slots := 0, locals := 42 } : Room).cells ∧ (0 : Nat) ≤ ({ frames := 2, cells := 0, slots := 0, locals := 42 } : Room).slots := ⟨Nat.zero_le _, Nat.zero_le _⟩
  obtain ⟨H, hHe⟩ : ∃ H : Heap, H = s.heap := ⟨_, rfl⟩
  obtain ⟨locs, hle⟩ : ∃ L : List Loc, L = [] := ⟨_, rfl⟩
  have hl : lv_has ls 3 [(0, .ref (base + p0)), (1, .int v1)] := hl
  rw [← hHe] at hH
  have hS : va_S (fun q => base ≤ q) s.heap H locs := by rw [hHe, hle]; exact hS
  rw [← hle]
  show W p l e _ s m _ below meth c s.heap locs 0 0 _ _
  rw [← hHe]
  refine lv_iconst (v := (0 : Int32)) hx hb dX12_readNumbers_0 (by decide) ?_
  refine lv_istore_n (lv' := [(2, .int (0 : Int32)), (0, .ref (base + p0)), (1, .int v1)]) hx hb dX12_readNumbers_1 rfl hl (by decide) rfl (fun ls hl => ?_)
  refine l_X12_readNumbers_2 X hc p0 v1 _ _ _ res ?_ ?_ ?_ FV (0 : Int32) w hF H locs ls hH hS (lv_sub hl [1, 2, 0] rfl)
  · intro  w_48 hF H locs ls hH hS hl
    refine lv_iconst (v := (0 : Int32)) hx hb dX12_readNumbers_21 (by decide) ?_
    have hF := Option.some.inj hF
    subst hF
    exact m_zret (r := (0 : Int32)) X hr hlk (by decide) hH hS dX12_readNumbers_22
  · intro  w_49 hF H locs ls hH hS hl
    refine lv_iconst (v := (0 : Int32)) hx hb dX12_readNumbers_126 (by decide) ?_
    have hF := Option.some.inj hF
    subst hF
    exact m_zret (r := (0 : Int32)) X hr hlk (by decide) hH hS dX12_readNumbers_127
  · intro  w_50 hF H locs ls hH hS hl
    refine lv_iconst (v := (1 : Int32)) hx hb dX12_readNumbers_144 (by decide) ?_
    have hF := Option.some.inj hF
    subst hF
    exact m_zret (r := (1 : Int32)) X hr hlk (by decide) hH hS dX12_readNumbers_145
noncomputable def fX12_isTold (p0 : Nat) (v1 : Int32) (v2 : Int32) (v3 : Int32) (w : Wd) : Option (Int32 × Wd) := (gfR 11 17 p0 w).bind fun r_1 => (rdI r_1 v1 w).bind fun x_2 => (fX12_in x_2 v2 v3 w).bind fun q_3 => (bz q_3.1).bind fun x_4 => some (x_4, q_3.2)
set_option maxHeartbeats 4000000 in
set_option maxRecDepth 100000 in
theorem k_X12_isTold (l : Launch) (D : va_G) (cI cT cII : ClassId) (base : Nat) (p0 : Nat) (v1 : Int32) (v2 : Int32) (v3 : Int32) (w : Wd) (res : Int32 × Wd) (hF : fX12_isTold p0 v1 v2 v3 w = some res) : Ct l yX12_isTold cX12_isTold 4 (some .boolean) { frames := 1, cells := 0, slots := 0, locals := 22 } D cI cT cII base [.ref (base + p0), .int v1, .int v2, .int v3] w res.2 (some (.int res.1)) 0 0 := by
  unfold fX12_isTold at hF
  refine m_enter (by decide) (Nat.le_of_ble_eq_true rfl) ?_
  intro p e s m below meth c ls X hr hlk hnm hH hS hl
  have hx := X.1
  have hb := X.2.1
  have hc : (0 : Nat) ≤ ({ frames := 1, cells := 0, slots := 0, locals := 22 } : Room).cells ∧ (0 : Nat) ≤ ({ frames := 1, cells := 0, slots := 0, locals := 22 } : Room).slots := ⟨Nat.zero_le _, Nat.zero_le _⟩
  obtain ⟨H, hHe⟩ : ∃ H : Heap, H = s.heap := ⟨_, rfl⟩
  obtain ⟨locs, hle⟩ : ∃ L : List Loc, L = [] := ⟨_, rfl⟩
  have hl : lv_has ls 4 [(0, .ref (base + p0)), (1, .int v1), (2, .int v2), (3, .int v3)] := hl
  rw [← hHe] at hH
  have hS : va_S (fun q => base ≤ q) s.heap H locs := by rw [hHe, hle]; exact hS
  rw [← hle]
  show W p l e _ s m _ below meth c s.heap locs 0 0 _ _
  rw [← hHe]
  refine lv_aload_n hx hb dX12_isTold_0 rfl (lv_at hl 0 rfl) ?_
  obtain ⟨r_1, e_1, hF⟩ := bnd hF
  refine m_gR X hH e_1 gg_X12_47 dX12_isTold_1 ?_
  refine lv_iload_n hx hb dX12_isTold_4 rfl (lv_at hl 1 rfl) ?_
  obtain ⟨x_2, e_2, hF⟩ := bnd hF
  refine m_rdI X hH e_2 dX12_isTold_5 ?_
  refine lv_iload_n hx hb dX12_isTold_6 rfl (lv_at hl 2 rfl) ?_
  refine lv_iload_n hx hb dX12_isTold_7 rfl (lv_at hl 3 rfl) ?_
  obtain ⟨q_3, e_3, hF⟩ := bnd hF
  refine m_callS (As := [.int x_2, .int v2, .int v3]) (rest := []) X hH hS hl.1 (k_X12_in l D cI cT cII base x_2 v2 v3 w q_3 e_3) q_X12_in kw_951 kw_952 rfl rfl (Nat.le_of_ble_eq_true rfl) ⟨by decide, by decide⟩ hc dX12_isTold_8 (fun H locs hH hS => W.eq (g2 := F0 m 11 ls [.int q_3.1]) rfl ?_)
  obtain ⟨x_4, e_4, hF⟩ := bnd hF
  obtain ⟨z_x_4, rfl⟩ := isn e_4
  have hF := Option.some.inj hF
  subst hF
  exact m_zret X hr hlk (if_pos z_x_4) hH hS dX12_isTold_11
noncomputable def fX12_lays (p0 : Nat) (v1 : Int32) (v2 : Int32) (v3 : Int32) (v4 : Int32) (w : Wd) : Option (Unit × Wd) := (wrI p0 v1 v2 w).bind fun w_1 => (wrI p0 (v1 + (1 : Int32)) v3 w_1).bind fun w_2 => (wrI p0 (v1 + (2 : Int32)) v4 w_2).bind fun w_3 => some ((), w_3)
set_option maxHeartbeats 4000000 in
set_option maxRecDepth 100000 in
theorem k_X12_lays (l : Launch) (D : va_G) (cI cT cII : ClassId) (base : Nat) (p0 : Nat) (v1 : Int32) (v2 : Int32) (v3 : Int32) (v4 : Int32) (w : Wd) (res : Unit × Wd) (hF : fX12_lays p0 v1 v2 v3 v4 w = some res) : Ct l yX12_lays cX12_lays 5 none { frames := 0, cells := 0, slots := 0, locals := 0 } D cI cT cII base [.ref (base + p0), .int v1, .int v2, .int v3, .int v4] w res.2 none 0 0 := by
  unfold fX12_lays at hF
  refine m_enter (by decide) (Nat.le_of_ble_eq_true rfl) ?_
  intro p e s m below meth c ls X hr hlk hnm hH hS hl
  have hx := X.1
  have hb := X.2.1
  have hc : (0 : Nat) ≤ ({ frames := 0, cells := 0, slots := 0, locals := 0 } : Room).cells ∧ (0 : Nat) ≤ ({ frames := 0, cells := 0, slots := 0, locals := 0 } : Room).slots := ⟨Nat.zero_le _, Nat.zero_le _⟩
  obtain ⟨H, hHe⟩ : ∃ H : Heap, H = s.heap := ⟨_, rfl⟩
  obtain ⟨locs, hle⟩ : ∃ L : List Loc, L = [] := ⟨_, rfl⟩
  have hl : lv_has ls 5 [(0, .ref (base + p0)), (1, .int v1), (2, .int v2), (3, .int v3), (4, .int v4)] := hl
  rw [← hHe] at hH
  have hS : va_S (fun q => base ≤ q) s.heap H locs := by rw [hHe, hle]; exact hS
  rw [← hle]
  show W p l e _ s m _ below meth c s.heap locs 0 0 _ _
  rw [← hHe]
  refine lv_aload_n hx hb dX12_lays_0 rfl (lv_at hl 0 rfl) ?_
  refine lv_iload_n hx hb dX12_lays_1 rfl (lv_at hl 1 rfl) ?_
  refine lv_iload_n hx hb dX12_lays_2 rfl (lv_at hl 2 rfl) ?_
  obtain ⟨w_1, e_1, hF⟩ := bnd hF
  refine m_wrI X hH hS e_1 dX12_lays_3 (fun H locs hH hS => ?_)
  refine lv_aload_n hx hb dX12_lays_4 rfl (lv_at hl 0 rfl) ?_
  refine lv_iload_n hx hb dX12_lays_5 rfl (lv_at hl 1 rfl) ?_
  refine lv_iconst (v := (1 : Int32)) hx hb dX12_lays_6 (by decide) ?_
  refine lv_iadd hx hb dX12_lays_7 ?_
  refine lv_iload_n hx hb dX12_lays_8 rfl (lv_at hl 3 rfl) ?_
  obtain ⟨w_2, e_2, hF⟩ := bnd hF
  refine m_wrI X hH hS e_2 dX12_lays_9 (fun H locs hH hS => ?_)
  refine lv_aload_n hx hb dX12_lays_10 rfl (lv_at hl 0 rfl) ?_
  refine lv_iload_n hx hb dX12_lays_11 rfl (lv_at hl 1 rfl) ?_
  refine lv_iconst (v := (2 : Int32)) hx hb dX12_lays_12 (by decide) ?_
  refine lv_iadd hx hb dX12_lays_13 ?_
  refine lv_iload hx hb dX12_lays_14 (lv_at hl 4 rfl) ?_
  obtain ⟨w_3, e_3, hF⟩ := bnd hF
  refine m_wrI X hH hS e_3 dX12_lays_16 (fun H locs hH hS => ?_)
  have hF := Option.some.inj hF
  subst hF
  exact m_vret X hr hlk hH hS dX12_lays_17
noncomputable def fX12_readFrameOf (p0 : Nat) (w : Wd) : Option (Int32 × Wd) := (gfI 11 18 p0 w).bind fun x_1 => if x_1 = (7 : Int32) then some ((0 : Int32), w) else (isO 11 p0 w).bind fun u_3 => (fX12_readNumbers p0 (2 : Int32) w).bind fun q_4 => if q_4.1 = 0 then some ((0 : Int32), q_4.2) else (isO 11 p0 q_4.2).bind fun u_6 => (fX12_isTold p0 (0 : Int32) (0 : Int32) (3 : Int32) q_4.2).bind fun q_7 => if q_7.1 = 0 then some ((0 : Int32), q_7.2) else (isO 11 p0 q_7.2).bind fun u_9 => (fX12_isTold p0 (1 : Int32) (0 : Int32) (40 : Int32) q_7.2).bind fun q_10 => if q_10.1 = 0 then some ((0 : Int32), q_10.2) else (gfI 11 18 p0 q_10.2).bind fun x_12 => (gfR 11 19 p0 q_10.2).bind fun r_13 => (gfR 11 17 p0 q_10.2).bind fun r_14 => (rdI r_14 (0 : Int32) q_10.2).bind fun x_15 => (gfR 11 17 p0 q_10.2).bind fun r_16 => (rdI r_16 (1 : Int32) q_10.2).bind fun x_17 => (fX12_lays r_13 ((4 : Int32) * x_12) x_15 (x_17 - (20 : Int32)) (0 : Int32) q_10.2).bind fun q_18 => (gfR 11 19 p0 q_18.2).bind fun r_19 => (wrI r_19 (((4 : Int32) * x_12) + (3 : Int32)) (0 : Int32) q_18.2).bind fun w_20 => (gfI 11 18 p0 w_20).bind fun x_21 => (pfI 11 18 p0 (x_21 + (1 : Int32)) w_20).bind fun w_22 => some ((1 : Int32), w_22)
set_option maxHeartbeats 4000000 in
set_option maxRecDepth 100000 in
theorem k_X12_readFrameOf (l : Launch) (D : va_G) (cI cT cII : ClassId) (base : Nat) (p0 : Nat) (w : Wd) (res : Int32 × Wd) (hF : fX12_readFrameOf p0 w = some res) : Ct l yX12_readFrameOf cX12_readFrameOf 2 (some .boolean) { frames := 3, cells := 0, slots := 0, locals := 64 } D cI cT cII base [.ref (base + p0)] w res.2 (some (.int res.1)) 0 0 := by
  unfold fX12_readFrameOf at hF
  refine m_enter (by decide) (Nat.le_of_ble_eq_true rfl) ?_
  intro p e s m below meth c ls X hr hlk hnm hH hS hl
  have hx := X.1
  have hb := X.2.1
  have hc : (0 : Nat) ≤ ({ frames := 3, cells := 0, slots := 0, locals := 64 } : Room).cells ∧ (0 : Nat) ≤ ({ frames := 3, cells := 0, slots := 0, locals := 64 } : Room).slots := ⟨Nat.zero_le _, Nat.zero_le _⟩
  obtain ⟨H, hHe⟩ : ∃ H : Heap, H = s.heap := ⟨_, rfl⟩
  obtain ⟨locs, hle⟩ : ∃ L : List Loc, L = [] := ⟨_, rfl⟩
  have hl : lv_has ls 2 [(0, .ref (base + p0))] := hl
  rw [← hHe] at hH
  have hS : va_S (fun q => base ≤ q) s.heap H locs := by rw [hHe, hle]; exact hS
  rw [← hle]
  show W p l e _ s m _ below meth c s.heap locs 0 0 _ _
  rw [← hHe]
  refine lv_aload_n hx hb dX12_readFrameOf_0 rfl (lv_at hl 0 rfl) ?_
  obtain ⟨x_1, e_1, hF⟩ := bnd hF
  refine m_gI X hH e_1 gg_X12_105 dX12_readFrameOf_1 ?_
  refine lv_bipush (v := (7 : Int32)) hx hb dX12_readFrameOf_4 (by decide) ?_
  refine lv_icmp_eq (tgt := 38) hx hb dX12_readFrameOf_6 (by decide) (fun c_2 => ?_) (fun c_2 => ?_)
  · replace hF := itt c_2 hF
    refine lv_iconst (v := (0 : Int32)) hx hb dX12_readFrameOf_38 (by decide) ?_
    have hF := Option.some.inj hF
    subst hF
    exact m_zret (r := (0 : Int32)) X hr hlk (by decide) hH hS dX12_readFrameOf_39
  · replace hF := itf c_2 hF
    refine lv_aload_n hx hb dX12_readFrameOf_9 rfl (lv_at hl 0 rfl) ?_
    refine lv_iconst (v := (2 : Int32)) hx hb dX12_readFrameOf_10 (by decide) ?_
    obtain ⟨u_3, ou_3, hF⟩ := bnd hF
    obtain ⟨q_4, e_4, hF⟩ := bnd hF
    refine m_callV (As := [.int (2 : Int32)]) (rest := []) X hH hS hl.1 ou_3 rfl (by decide) (k_X12_readNumbers l D cI cT cII base p0 (2 : Int32) w q_4 e_4) q_X12_readNumbers kw_974 kw_976 kw_28 rfl rfl (Nat.le_of_ble_eq_true rfl) ⟨by decide, by decide⟩ hc dX12_readFrameOf_11 (fun H locs hH hS => W.eq (g2 := F0 m 14 ls [.int q_4.1]) rfl ?_)
    refine lv_if_eq (tgt := 38) hx hb dX12_readFrameOf_14 (by decide) (fun c_5 => ?_) (fun c_5 => ?_)
    · replace hF := itt c_5 hF
      refine lv_iconst (v := (0 : Int32)) hx hb dX12_readFrameOf_38 (by decide) ?_
      have hF := Option.some.inj hF
      subst hF
      exact m_zret (r := (0 : Int32)) X hr hlk (by decide) hH hS dX12_readFrameOf_39
    · replace hF := itf c_5 hF
      refine lv_aload_n hx hb dX12_readFrameOf_17 rfl (lv_at hl 0 rfl) ?_
      refine lv_iconst (v := (0 : Int32)) hx hb dX12_readFrameOf_18 (by decide) ?_
      refine lv_iconst (v := (0 : Int32)) hx hb dX12_readFrameOf_19 (by decide) ?_
      refine lv_iconst (v := (3 : Int32)) hx hb dX12_readFrameOf_20 (by decide) ?_
      obtain ⟨u_6, ou_6, hF⟩ := bnd hF
      obtain ⟨q_7, e_7, hF⟩ := bnd hF
      refine m_callV (As := [.int (0 : Int32), .int (0 : Int32), .int (3 : Int32)]) (rest := []) X hH hS hl.1 ou_6 rfl (by decide) (k_X12_isTold l D cI cT cII base p0 (0 : Int32) (0 : Int32) (3 : Int32) q_4.2 q_7 e_7) q_X12_isTold kw_981 kw_983 kw_29 rfl rfl (Nat.le_of_ble_eq_true rfl) ⟨by decide, by decide⟩ hc dX12_readFrameOf_21 (fun H locs hH hS => W.eq (g2 := F0 m 24 ls [.int q_7.1]) rfl ?_)
      refine lv_if_eq (tgt := 38) hx hb dX12_readFrameOf_24 (by decide) (fun c_8 => ?_) (fun c_8 => ?_)
      · replace hF := itt c_8 hF
        refine lv_iconst (v := (0 : Int32)) hx hb dX12_readFrameOf_38 (by decide) ?_
        have hF := Option.some.inj hF
        subst hF
        exact m_zret (r := (0 : Int32)) X hr hlk (by decide) hH hS dX12_readFrameOf_39
      · replace hF := itf c_8 hF
        refine lv_aload_n hx hb dX12_readFrameOf_27 rfl (lv_at hl 0 rfl) ?_
        refine lv_iconst (v := (1 : Int32)) hx hb dX12_readFrameOf_28 (by decide) ?_
        refine lv_iconst (v := (0 : Int32)) hx hb dX12_readFrameOf_29 (by decide) ?_
        refine lv_bipush (v := (40 : Int32)) hx hb dX12_readFrameOf_30 (by decide) ?_
        obtain ⟨u_9, ou_9, hF⟩ := bnd hF
        obtain ⟨q_10, e_10, hF⟩ := bnd hF
        refine m_callV (As := [.int (1 : Int32), .int (0 : Int32), .int (40 : Int32)]) (rest := []) X hH hS hl.1 ou_9 rfl (by decide) (k_X12_isTold l D cI cT cII base p0 (1 : Int32) (0 : Int32) (40 : Int32) q_7.2 q_10 e_10) q_X12_isTold kw_981 kw_983 kw_29 rfl rfl (Nat.le_of_ble_eq_true rfl) ⟨by decide, by decide⟩ hc dX12_readFrameOf_32 (fun H locs hH hS => W.eq (g2 := F0 m 35 ls [.int q_10.1]) rfl ?_)
        refine lv_if_ne (tgt := 40) hx hb dX12_readFrameOf_35 (by decide) (fun c_11 => ?_) (fun c_11 => ?_)
        · replace hF := itf c_11 hF
          refine lv_iconst (v := (4 : Int32)) hx hb dX12_readFrameOf_40 (by decide) ?_
          refine lv_aload_n hx hb dX12_readFrameOf_41 rfl (lv_at hl 0 rfl) ?_
          obtain ⟨x_12, e_12, hF⟩ := bnd hF
          refine m_gI X hH e_12 gg_X12_105 dX12_readFrameOf_42 ?_
          refine lv_imul hx hb dX12_readFrameOf_45 ?_
          refine lv_istore_n (lv' := [(1, .int ((4 : Int32) * x_12)), (0, .ref (base + p0))]) hx hb dX12_readFrameOf_46 rfl hl (by decide) rfl (fun ls hl => ?_)
          refine lv_aload_n hx hb dX12_readFrameOf_47 rfl (lv_at hl 1 rfl) ?_
          obtain ⟨r_13, e_13, hF⟩ := bnd hF
          refine m_gR X hH e_13 gg_X12_50 dX12_readFrameOf_48 ?_
          refine lv_iload_n hx hb dX12_readFrameOf_51 rfl (lv_at hl 0 rfl) ?_
          refine lv_aload_n hx hb dX12_readFrameOf_52 rfl (lv_at hl 1 rfl) ?_
          obtain ⟨r_14, e_14, hF⟩ := bnd hF
          refine m_gR X hH e_14 gg_X12_47 dX12_readFrameOf_53 ?_
          refine lv_iconst (v := (0 : Int32)) hx hb dX12_readFrameOf_56 (by decide) ?_
          obtain ⟨x_15, e_15, hF⟩ := bnd hF
          refine m_rdI X hH e_15 dX12_readFrameOf_57 ?_
          refine lv_aload_n hx hb dX12_readFrameOf_58 rfl (lv_at hl 1 rfl) ?_
          obtain ⟨r_16, e_16, hF⟩ := bnd hF
          refine m_gR X hH e_16 gg_X12_47 dX12_readFrameOf_59 ?_
          refine lv_iconst (v := (1 : Int32)) hx hb dX12_readFrameOf_62 (by decide) ?_
          obtain ⟨x_17, e_17, hF⟩ := bnd hF
          refine m_rdI X hH e_17 dX12_readFrameOf_63 ?_
          refine lv_bipush (v := (20 : Int32)) hx hb dX12_readFrameOf_64 (by decide) ?_
          refine lv_isub hx hb dX12_readFrameOf_66 ?_
          refine lv_iconst (v := (0 : Int32)) hx hb dX12_readFrameOf_67 (by decide) ?_
          obtain ⟨q_18, e_18, hF⟩ := bnd hF
          refine m_callS (As := [.ref (base + r_13), .int ((4 : Int32) * x_12), .int x_15, .int (x_17 - (20 : Int32)), .int (0 : Int32)]) (rest := []) X hH hS hl.1 (k_X12_lays l D cI cT cII base r_13 ((4 : Int32) * x_12) x_15 (x_17 - (20 : Int32)) (0 : Int32) q_10.2 q_18 e_18) q_X12_lays kw_843 kw_844 rfl rfl (Nat.le_of_ble_eq_true rfl) ⟨by decide, by decide⟩ hc dX12_readFrameOf_68 (fun H locs hH hS => W.eq (g2 := F0 m 71 ls []) rfl ?_)
          refine lv_aload_n hx hb dX12_readFrameOf_71 rfl (lv_at hl 1 rfl) ?_
          obtain ⟨r_19, e_19, hF⟩ := bnd hF
          refine m_gR X hH e_19 gg_X12_50 dX12_readFrameOf_72 ?_
          refine lv_iload_n hx hb dX12_readFrameOf_75 rfl (lv_at hl 0 rfl) ?_
          refine lv_iconst (v := (3 : Int32)) hx hb dX12_readFrameOf_76 (by decide) ?_
          refine lv_iadd hx hb dX12_readFrameOf_77 ?_
          refine lv_iconst (v := (0 : Int32)) hx hb dX12_readFrameOf_78 (by decide) ?_
          obtain ⟨w_20, e_20, hF⟩ := bnd hF
          refine m_wrI X hH hS e_20 dX12_readFrameOf_79 (fun H locs hH hS => ?_)
          refine lv_aload_n hx hb dX12_readFrameOf_80 rfl (lv_at hl 1 rfl) ?_
          refine lv_dup hx hb dX12_readFrameOf_81 rfl ?_
          obtain ⟨x_21, e_21, hF⟩ := bnd hF
          refine m_gI X hH e_21 gg_X12_105 dX12_readFrameOf_82 ?_
          refine lv_iconst (v := (1 : Int32)) hx hb dX12_readFrameOf_85 (by decide) ?_
          refine lv_iadd hx hb dX12_readFrameOf_86 ?_
          obtain ⟨w_22, e_22, hF⟩ := bnd hF
          refine m_pI X hH hS e_22 gp_X12_105 rfl rfl dX12_readFrameOf_87 (fun H locs hH hS => ?_)
          refine lv_iconst (v := (1 : Int32)) hx hb dX12_readFrameOf_90 (by decide) ?_
          have hF := Option.some.inj hF
          subst hF
          exact m_zret (r := (1 : Int32)) X hr hlk (by decide) hH hS dX12_readFrameOf_91
        · replace hF := itt c_11 hF
          refine lv_iconst (v := (0 : Int32)) hx hb dX12_readFrameOf_38 (by decide) ?_
          have hF := Option.some.inj hF
          subst hF
          exact m_zret (r := (0 : Int32)) X hr hlk (by decide) hH hS dX12_readFrameOf_39
noncomputable def fX12_readTwist (p0 : Nat) (w : Wd) : Option (Int32 × Wd) := (isO 11 p0 w).bind fun u_1 => (fX12_readNumbers p0 (2 : Int32) w).bind fun q_2 => if q_2.1 = 0 then if (0 : Int32) = 0 then some ((0 : Int32), q_2.2) else (gfR 11 19 p0 q_2.2).bind fun r_5 => (gfR 11 17 p0 q_2.2).bind fun r_6 => (rdI r_6 (0 : Int32) q_2.2).bind fun x_7 => (gfR 11 17 p0 q_2.2).bind fun r_8 => (rdI r_8 (1 : Int32) q_2.2).bind fun x_9 => (wrI r_5 (((4 : Int32) * x_7) + (2 : Int32)) (x_9 - (5 : Int32)) q_2.2).bind fun w_10 => some ((0 : Int32), w_10) else (gfI 11 18 p0 q_2.2).bind fun x_11 => (isO 11 p0 q_2.2).bind fun u_12 => (fX12_isTold p0 (0 : Int32) (0 : Int32) (x_11 - (1 : Int32)) q_2.2).bind fun q_13 => if q_13.1 = 0 then if (0 : Int32) = 0 then some ((0 : Int32), q_13.2) else (gfR 11 19 p0 q_13.2).bind fun r_16 => (gfR 11 17 p0 q_13.2).bind fun r_17 => (rdI r_17 (0 : Int32) q_13.2).bind fun x_18 => (gfR 11 17 p0 q_13.2).bind fun r_19 => (rdI r_19 (1 : Int32) q_13.2).bind fun x_20 => (wrI r_16 (((4 : Int32) * x_18) + (2 : Int32)) (x_20 - (5 : Int32)) q_13.2).bind fun w_21 => some ((0 : Int32), w_21) else (isO 11 p0 q_13.2).bind fun u_22 => (fX12_isTold p0 (1 : Int32) (0 : Int32) (10 : Int32) q_13.2).bind fun q_23 => if q_23.1 = 0 then if (0 : Int32) = 0 then some ((0 : Int32), q_23.2) else (gfR 11 19 p0 q_23.2).bind fun r_26 => (gfR 11 17 p0 q_23.2).bind fun r_27 => (rdI r_27 (0 : Int32) q_23.2).bind fun x_28 => (gfR 11 17 p0 q_23.2).bind fun r_29 => (rdI r_29 (1 : Int32) q_23.2).bind fun x_30 => (wrI r_26 (((4 : Int32) * x_28) + (2 : Int32)) (x_30 - (5 : Int32)) q_23.2).bind fun w_31 => some ((0 : Int32), w_31) else if (1 : Int32) = 0 then some ((1 : Int32), q_23.2) else (gfR 11 19 p0 q_23.2).bind fun r_33 => (gfR 11 17 p0 q_23.2).bind fun r_34 => (rdI r_34 (0 : Int32) q_23.2).bind fun x_35 => (gfR 11 17 p0 q_23.2).bind fun r_36 => (rdI r_36 (1 : Int32) q_23.2).bind fun x_37 => (wrI r_33 (((4 : Int32) * x_35) + (2 : Int32)) (x_37 - (5 : Int32)) q_23.2).bind fun w_38 => some ((1 : Int32), w_38)
set_option maxHeartbeats 4000000 in
set_option maxRecDepth 100000 in
theorem k_X12_readTwist (l : Launch) (D : va_G) (cI cT cII : ClassId) (base : Nat) (p0 : Nat) (w : Wd) (res : Int32 × Wd) (hF : fX12_readTwist p0 w = some res) : Ct l yX12_readTwist cX12_readTwist 2 (some .boolean) { frames := 3, cells := 0, slots := 0, locals := 64 } D cI cT cII base [.ref (base + p0)] w res.2 (some (.int res.1)) 0 0 := by
  unfold fX12_readTwist at hF
  refine m_enter (by decide) (Nat.le_of_ble_eq_true rfl) ?_
  intro p e s m below meth c ls X hr hlk hnm hH hS hl
  have hx := X.1
  have hb := X.2.1
  have hc : (0 : Nat) ≤ ({ frames := 3, cells := 0, slots := 0, locals := 64 } : Room).cells ∧ (0 : Nat) ≤ ({ frames := 3, cells := 0, slots := 0, locals := 64 } : Room).slots := ⟨Nat.zero_le _, Nat.zero_le _⟩
  obtain ⟨H, hHe⟩ : ∃ H : Heap, H = s.heap := ⟨_, rfl⟩
  obtain ⟨locs, hle⟩ : ∃ L : List Loc, L = [] := ⟨_, rfl⟩
  have hl : lv_has ls 2 [(0, .ref (base + p0))] := hl
  rw [← hHe] at hH
  have hS : va_S (fun q => base ≤ q) s.heap H locs := by rw [hHe, hle]; exact hS
  rw [← hle]
  show W p l e _ s m _ below meth c s.heap locs 0 0 _ _
  rw [← hHe]
  refine lv_aload_n hx hb dX12_readTwist_0 rfl (lv_at hl 0 rfl) ?_
  refine lv_iconst (v := (2 : Int32)) hx hb dX12_readTwist_1 (by decide) ?_
  obtain ⟨u_1, ou_1, hF⟩ := bnd hF
  obtain ⟨q_2, e_2, hF⟩ := bnd hF
  refine m_callV (As := [.int (2 : Int32)]) (rest := []) X hH hS hl.1 ou_1 rfl (by decide) (k_X12_readNumbers l D cI cT cII base p0 (2 : Int32) w q_2 e_2) q_X12_readNumbers kw_974 kw_976 kw_28 rfl rfl (Nat.le_of_ble_eq_true rfl) ⟨by decide, by decide⟩ hc dX12_readTwist_2 (fun H locs hH hS => W.eq (g2 := F0 m 5 ls [.int q_2.1]) rfl ?_)
  refine lv_if_eq (tgt := 38) hx hb dX12_readTwist_5 (by decide) (fun c_3 => ?_) (fun c_3 => ?_)
  · replace hF := itt c_3 hF
    refine lv_iconst (v := (0 : Int32)) hx hb dX12_readTwist_38 (by decide) ?_
    refine lv_istore_n (lv' := [(1, .int (0 : Int32)), (0, .ref (base + p0))]) hx hb dX12_readTwist_39 rfl hl (by decide) rfl (fun ls hl => ?_)
    refine lv_iload_n hx hb dX12_readTwist_40 rfl (lv_at hl 0 rfl) ?_
    refine lv_if_eq (tgt := 67) hx hb dX12_readTwist_41 (by decide) (fun c_4 => ?_) (fun c_4 => ?_)
    · replace hF := itt c_4 hF
      refine lv_iload_n hx hb dX12_readTwist_67 rfl (lv_at hl 0 rfl) ?_
      have hF := Option.some.inj hF
      subst hF
      exact m_zret (r := (0 : Int32)) X hr hlk (by decide) hH hS dX12_readTwist_68
    · replace hF := itf c_4 hF
      refine lv_aload_n hx hb dX12_readTwist_44 rfl (lv_at hl 1 rfl) ?_
      obtain ⟨r_5, e_5, hF⟩ := bnd hF
      refine m_gR X hH e_5 gg_X12_50 dX12_readTwist_45 ?_
      refine lv_iconst (v := (4 : Int32)) hx hb dX12_readTwist_48 (by decide) ?_
      refine lv_aload_n hx hb dX12_readTwist_49 rfl (lv_at hl 1 rfl) ?_
      obtain ⟨r_6, e_6, hF⟩ := bnd hF
      refine m_gR X hH e_6 gg_X12_47 dX12_readTwist_50 ?_
      refine lv_iconst (v := (0 : Int32)) hx hb dX12_readTwist_53 (by decide) ?_
      obtain ⟨x_7, e_7, hF⟩ := bnd hF
      refine m_rdI X hH e_7 dX12_readTwist_54 ?_
      refine lv_imul hx hb dX12_readTwist_55 ?_
      refine lv_iconst (v := (2 : Int32)) hx hb dX12_readTwist_56 (by decide) ?_
      refine lv_iadd hx hb dX12_readTwist_57 ?_
      refine lv_aload_n hx hb dX12_readTwist_58 rfl (lv_at hl 1 rfl) ?_
      obtain ⟨r_8, e_8, hF⟩ := bnd hF
      refine m_gR X hH e_8 gg_X12_47 dX12_readTwist_59 ?_
      refine lv_iconst (v := (1 : Int32)) hx hb dX12_readTwist_62 (by decide) ?_
      obtain ⟨x_9, e_9, hF⟩ := bnd hF
      refine m_rdI X hH e_9 dX12_readTwist_63 ?_
      refine lv_iconst (v := (5 : Int32)) hx hb dX12_readTwist_64 (by decide) ?_
      refine lv_isub hx hb dX12_readTwist_65 ?_
      obtain ⟨w_10, e_10, hF⟩ := bnd hF
      refine m_wrI X hH hS e_10 dX12_readTwist_66 (fun H locs hH hS => ?_)
      refine lv_iload_n hx hb dX12_readTwist_67 rfl (lv_at hl 0 rfl) ?_
      have hF := Option.some.inj hF
      subst hF
      exact m_zret (r := (0 : Int32)) X hr hlk (by decide) hH hS dX12_readTwist_68
  · replace hF := itf c_3 hF
    refine lv_aload_n hx hb dX12_readTwist_8 rfl (lv_at hl 0 rfl) ?_
    refine lv_iconst (v := (0 : Int32)) hx hb dX12_readTwist_9 (by decide) ?_
    refine lv_iconst (v := (0 : Int32)) hx hb dX12_readTwist_10 (by decide) ?_
    refine lv_aload_n hx hb dX12_readTwist_11 rfl (lv_at hl 0 rfl) ?_
    obtain ⟨x_11, e_11, hF⟩ := bnd hF
    refine m_gI X hH e_11 gg_X12_105 dX12_readTwist_12 ?_
    refine lv_iconst (v := (1 : Int32)) hx hb dX12_readTwist_15 (by decide) ?_
    refine lv_isub hx hb dX12_readTwist_16 ?_
    obtain ⟨u_12, ou_12, hF⟩ := bnd hF
    obtain ⟨q_13, e_13, hF⟩ := bnd hF
    refine m_callV (As := [.int (0 : Int32), .int (0 : Int32), .int (x_11 - (1 : Int32))]) (rest := []) X hH hS hl.1 ou_12 rfl (by decide) (k_X12_isTold l D cI cT cII base p0 (0 : Int32) (0 : Int32) (x_11 - (1 : Int32)) q_2.2 q_13 e_13) q_X12_isTold kw_981 kw_983 kw_29 rfl rfl (Nat.le_of_ble_eq_true rfl) ⟨by decide, by decide⟩ hc dX12_readTwist_17 (fun H locs hH hS => W.eq (g2 := F0 m 20 ls [.int q_13.1]) rfl ?_)
    refine lv_if_eq (tgt := 38) hx hb dX12_readTwist_20 (by decide) (fun c_14 => ?_) (fun c_14 => ?_)
    · replace hF := itt c_14 hF
      refine lv_iconst (v := (0 : Int32)) hx hb dX12_readTwist_38 (by decide) ?_
      refine lv_istore_n (lv' := [(1, .int (0 : Int32)), (0, .ref (base + p0))]) hx hb dX12_readTwist_39 rfl hl (by decide) rfl (fun ls hl => ?_)
      refine lv_iload_n hx hb dX12_readTwist_40 rfl (lv_at hl 0 rfl) ?_
      refine lv_if_eq (tgt := 67) hx hb dX12_readTwist_41 (by decide) (fun c_15 => ?_) (fun c_15 => ?_)
      · replace hF := itt c_15 hF
        refine lv_iload_n hx hb dX12_readTwist_67 rfl (lv_at hl 0 rfl) ?_
        have hF := Option.some.inj hF
        subst hF
        exact m_zret (r := (0 : Int32)) X hr hlk (by decide) hH hS dX12_readTwist_68
      · replace hF := itf c_15 hF
        refine lv_aload_n hx hb dX12_readTwist_44 rfl (lv_at hl 1 rfl) ?_
        obtain ⟨r_16, e_16, hF⟩ := bnd hF
        refine m_gR X hH e_16 gg_X12_50 dX12_readTwist_45 ?_
        refine lv_iconst (v := (4 : Int32)) hx hb dX12_readTwist_48 (by decide) ?_
        refine lv_aload_n hx hb dX12_readTwist_49 rfl (lv_at hl 1 rfl) ?_
        obtain ⟨r_17, e_17, hF⟩ := bnd hF
        refine m_gR X hH e_17 gg_X12_47 dX12_readTwist_50 ?_
        refine lv_iconst (v := (0 : Int32)) hx hb dX12_readTwist_53 (by decide) ?_
        obtain ⟨x_18, e_18, hF⟩ := bnd hF
        refine m_rdI X hH e_18 dX12_readTwist_54 ?_
        refine lv_imul hx hb dX12_readTwist_55 ?_
        refine lv_iconst (v := (2 : Int32)) hx hb dX12_readTwist_56 (by decide) ?_
        refine lv_iadd hx hb dX12_readTwist_57 ?_
        refine lv_aload_n hx hb dX12_readTwist_58 rfl (lv_at hl 1 rfl) ?_
        obtain ⟨r_19, e_19, hF⟩ := bnd hF
        refine m_gR X hH e_19 gg_X12_47 dX12_readTwist_59 ?_
        refine lv_iconst (v := (1 : Int32)) hx hb dX12_readTwist_62 (by decide) ?_
        obtain ⟨x_20, e_20, hF⟩ := bnd hF
        refine m_rdI X hH e_20 dX12_readTwist_63 ?_
        refine lv_iconst (v := (5 : Int32)) hx hb dX12_readTwist_64 (by decide) ?_
        refine lv_isub hx hb dX12_readTwist_65 ?_
        obtain ⟨w_21, e_21, hF⟩ := bnd hF
        refine m_wrI X hH hS e_21 dX12_readTwist_66 (fun H locs hH hS => ?_)
        refine lv_iload_n hx hb dX12_readTwist_67 rfl (lv_at hl 0 rfl) ?_
        have hF := Option.some.inj hF
        subst hF
        exact m_zret (r := (0 : Int32)) X hr hlk (by decide) hH hS dX12_readTwist_68
    · replace hF := itf c_14 hF
      refine lv_aload_n hx hb dX12_readTwist_23 rfl (lv_at hl 0 rfl) ?_
      refine lv_iconst (v := (1 : Int32)) hx hb dX12_readTwist_24 (by decide) ?_
      refine lv_iconst (v := (0 : Int32)) hx hb dX12_readTwist_25 (by decide) ?_
      refine lv_bipush (v := (10 : Int32)) hx hb dX12_readTwist_26 (by decide) ?_
      obtain ⟨u_22, ou_22, hF⟩ := bnd hF
      obtain ⟨q_23, e_23, hF⟩ := bnd hF
      refine m_callV (As := [.int (1 : Int32), .int (0 : Int32), .int (10 : Int32)]) (rest := []) X hH hS hl.1 ou_22 rfl (by decide) (k_X12_isTold l D cI cT cII base p0 (1 : Int32) (0 : Int32) (10 : Int32) q_13.2 q_23 e_23) q_X12_isTold kw_981 kw_983 kw_29 rfl rfl (Nat.le_of_ble_eq_true rfl) ⟨by decide, by decide⟩ hc dX12_readTwist_28 (fun H locs hH hS => W.eq (g2 := F0 m 31 ls [.int q_23.1]) rfl ?_)
      refine lv_if_eq (tgt := 38) hx hb dX12_readTwist_31 (by decide) (fun c_24 => ?_) (fun c_24 => ?_)
      · replace hF := itt c_24 hF
        refine lv_iconst (v := (0 : Int32)) hx hb dX12_readTwist_38 (by decide) ?_
        refine lv_istore_n (lv' := [(1, .int (0 : Int32)), (0, .ref (base + p0))]) hx hb dX12_readTwist_39 rfl hl (by decide) rfl (fun ls hl => ?_)
        refine lv_iload_n hx hb dX12_readTwist_40 rfl (lv_at hl 0 rfl) ?_
        refine lv_if_eq (tgt := 67) hx hb dX12_readTwist_41 (by decide) (fun c_25 => ?_) (fun c_25 => ?_)
        · replace hF := itt c_25 hF
          refine lv_iload_n hx hb dX12_readTwist_67 rfl (lv_at hl 0 rfl) ?_
          have hF := Option.some.inj hF
          subst hF
          exact m_zret (r := (0 : Int32)) X hr hlk (by decide) hH hS dX12_readTwist_68
        · replace hF := itf c_25 hF
          refine lv_aload_n hx hb dX12_readTwist_44 rfl (lv_at hl 1 rfl) ?_
          obtain ⟨r_26, e_26, hF⟩ := bnd hF
          refine m_gR X hH e_26 gg_X12_50 dX12_readTwist_45 ?_
          refine lv_iconst (v := (4 : Int32)) hx hb dX12_readTwist_48 (by decide) ?_
          refine lv_aload_n hx hb dX12_readTwist_49 rfl (lv_at hl 1 rfl) ?_
          obtain ⟨r_27, e_27, hF⟩ := bnd hF
          refine m_gR X hH e_27 gg_X12_47 dX12_readTwist_50 ?_
          refine lv_iconst (v := (0 : Int32)) hx hb dX12_readTwist_53 (by decide) ?_
          obtain ⟨x_28, e_28, hF⟩ := bnd hF
          refine m_rdI X hH e_28 dX12_readTwist_54 ?_
          refine lv_imul hx hb dX12_readTwist_55 ?_
          refine lv_iconst (v := (2 : Int32)) hx hb dX12_readTwist_56 (by decide) ?_
          refine lv_iadd hx hb dX12_readTwist_57 ?_
          refine lv_aload_n hx hb dX12_readTwist_58 rfl (lv_at hl 1 rfl) ?_
          obtain ⟨r_29, e_29, hF⟩ := bnd hF
          refine m_gR X hH e_29 gg_X12_47 dX12_readTwist_59 ?_
          refine lv_iconst (v := (1 : Int32)) hx hb dX12_readTwist_62 (by decide) ?_
          obtain ⟨x_30, e_30, hF⟩ := bnd hF
          refine m_rdI X hH e_30 dX12_readTwist_63 ?_
          refine lv_iconst (v := (5 : Int32)) hx hb dX12_readTwist_64 (by decide) ?_
          refine lv_isub hx hb dX12_readTwist_65 ?_
          obtain ⟨w_31, e_31, hF⟩ := bnd hF
          refine m_wrI X hH hS e_31 dX12_readTwist_66 (fun H locs hH hS => ?_)
          refine lv_iload_n hx hb dX12_readTwist_67 rfl (lv_at hl 0 rfl) ?_
          have hF := Option.some.inj hF
          subst hF
          exact m_zret (r := (0 : Int32)) X hr hlk (by decide) hH hS dX12_readTwist_68
      · replace hF := itf c_24 hF
        refine lv_iconst (v := (1 : Int32)) hx hb dX12_readTwist_34 (by decide) ?_
        refine lv_goto (tgt := 39) hx hb dX12_readTwist_35 (by decide) ?_
        refine lv_istore_n (lv' := [(1, .int (1 : Int32)), (0, .ref (base + p0))]) hx hb dX12_readTwist_39 rfl hl (by decide) rfl (fun ls hl => ?_)
        refine lv_iload_n hx hb dX12_readTwist_40 rfl (lv_at hl 0 rfl) ?_
        refine lv_if_eq (tgt := 67) hx hb dX12_readTwist_41 (by decide) (fun c_32 => ?_) (fun c_32 => ?_)
        · replace hF := itt c_32 hF
          refine lv_iload_n hx hb dX12_readTwist_67 rfl (lv_at hl 0 rfl) ?_
          have hF := Option.some.inj hF
          subst hF
          exact m_zret (r := (1 : Int32)) X hr hlk (by decide) hH hS dX12_readTwist_68
        · replace hF := itf c_32 hF
          refine lv_aload_n hx hb dX12_readTwist_44 rfl (lv_at hl 1 rfl) ?_
          obtain ⟨r_33, e_33, hF⟩ := bnd hF
          refine m_gR X hH e_33 gg_X12_50 dX12_readTwist_45 ?_
          refine lv_iconst (v := (4 : Int32)) hx hb dX12_readTwist_48 (by decide) ?_
          refine lv_aload_n hx hb dX12_readTwist_49 rfl (lv_at hl 1 rfl) ?_
          obtain ⟨r_34, e_34, hF⟩ := bnd hF
          refine m_gR X hH e_34 gg_X12_47 dX12_readTwist_50 ?_
          refine lv_iconst (v := (0 : Int32)) hx hb dX12_readTwist_53 (by decide) ?_
          obtain ⟨x_35, e_35, hF⟩ := bnd hF
          refine m_rdI X hH e_35 dX12_readTwist_54 ?_
          refine lv_imul hx hb dX12_readTwist_55 ?_
          refine lv_iconst (v := (2 : Int32)) hx hb dX12_readTwist_56 (by decide) ?_
          refine lv_iadd hx hb dX12_readTwist_57 ?_
          refine lv_aload_n hx hb dX12_readTwist_58 rfl (lv_at hl 1 rfl) ?_
          obtain ⟨r_36, e_36, hF⟩ := bnd hF
          refine m_gR X hH e_36 gg_X12_47 dX12_readTwist_59 ?_
          refine lv_iconst (v := (1 : Int32)) hx hb dX12_readTwist_62 (by decide) ?_
          obtain ⟨x_37, e_37, hF⟩ := bnd hF
          refine m_rdI X hH e_37 dX12_readTwist_63 ?_
          refine lv_iconst (v := (5 : Int32)) hx hb dX12_readTwist_64 (by decide) ?_
          refine lv_isub hx hb dX12_readTwist_65 ?_
          obtain ⟨w_38, e_38, hF⟩ := bnd hF
          refine m_wrI X hH hS e_38 dX12_readTwist_66 (fun H locs hH hS => ?_)
          refine lv_iload_n hx hb dX12_readTwist_67 rfl (lv_at hl 0 rfl) ?_
          have hF := Option.some.inj hF
          subst hF
          exact m_zret (r := (1 : Int32)) X hr hlk (by decide) hH hS dX12_readTwist_68
end M07
