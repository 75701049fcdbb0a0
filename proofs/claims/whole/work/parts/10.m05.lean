section M05
variable {p : Program} {l : Launch} {e : Env} {R : Room} {s : State} {m : MethodId} {args : Array Value} {below : List Frame} {meth : Method} {c : Code} {cells slots : Nat} {Q : State → Prop} {D : va_G} {cI cT cII : ClassId} {base : Nat}
noncomputable def fX11_rest (p0 : Nat) (w : Wd) : Option (Int32 × Wd) := (isO 10 p0 w).bind fun u_1 => (fX11_daysNow p0 w).bind fun q_2 => (gfR 10 10 p0 q_2.2).bind fun r_3 => (isO 1 q_2.1 q_2.2).bind fun u_4 => (fX1_firstOfRest q_2.1 r_3 q_2.2).bind fun q_5 => some (q_5.1, q_5.2)
set_option maxHeartbeats 4000000 in
set_option maxRecDepth 100000 in
theorem k_X11_rest (l : Launch) (D : va_G) (cI cT cII : ClassId) (base : Nat) (p0 : Nat) (w : Wd) (res : Int32 × Wd) (hF : fX11_rest p0 w = some res) : Ct l yX11_rest cX11_rest 1 (some .int) { frames := 6, cells := 0, slots := 0, locals := 137 } D cI cT cII base [.ref (base + p0)] w res.2 (some (.int res.1)) 0 0 := by
  unfold fX11_rest at hF
  refine m_enter (by decide) (Nat.le_of_ble_eq_true rfl) ?_
  intro p e s m below meth c ls X hr hlk hnm hH hS hl
  have hx := X.1
  have hb := X.2.1
  have hc : (0 : Nat) ≤ ({ frames := 6, cells := 0, slots := 0, locals := 137 } : Room).cells ∧ (0 : Nat) ≤ ({ frames := 6, cells := 0, slots := 0, locals := 137 } : Room).slots := ⟨Nat.zero_le _, Nat.zero_le _⟩
  obtain ⟨H, hHe⟩ : ∃ H : Heap, H = s.heap := ⟨_, rfl⟩
  obtain ⟨locs, hle⟩ : ∃ L : List Loc, L = [] := ⟨_, rfl⟩
  have hl : lv_has ls 1 [(0, .ref (base + p0))] := hl
  rw [← hHe] at hH
  have hS : va_S (fun q => base ≤ q) s.heap H locs := by rw [hHe, hle]; exact hS
  rw [← hle]
  show W p l e _ s m _ below meth c s.heap locs 0 0 _ _
  rw [← hHe]
  refine lv_aload_n hx hb dX11_rest_0 rfl (lv_at hl 0 rfl) ?_
  obtain ⟨u_1, ou_1, hF⟩ := bnd hF
  obtain ⟨q_2, e_2, hF⟩ := bnd hF
  refine m_callV (As := []) (rest := []) X hH hS hl.1 ou_1 rfl (by decide) (k_X11_daysNow l D cI cT cII base p0 w q_2 e_2) q_X11_daysNow kw_520 kw_522 kw_9 rfl rfl (Nat.le_of_ble_eq_true rfl) ⟨by decide, by decide⟩ hc dX11_rest_1 (fun H locs hH hS => W.eq (g2 := F0 m 4 ls [.ref (base + q_2.1)]) rfl ?_)
  refine lv_aload_n hx hb dX11_rest_4 rfl (lv_at hl 0 rfl) ?_
  obtain ⟨r_3, e_3, hF⟩ := bnd hF
  refine m_gR X hH e_3 gg_X11_80 dX11_rest_5 ?_
  obtain ⟨u_4, ou_4, hF⟩ := bnd hF
  obtain ⟨q_5, e_5, hF⟩ := bnd hF
  refine m_callV (As := [.ref (base + r_3)]) (rest := []) X hH hS hl.1 ou_4 rfl (by decide) (k_X1_firstOfRest l D cI cT cII base q_2.1 r_3 q_2.2 q_5 e_5) q_X1_firstOfRest kw_585 kw_586 kw_587 rfl rfl (Nat.le_of_ble_eq_true rfl) ⟨by decide, by decide⟩ hc dX11_rest_8 (fun H locs hH hS => W.eq (g2 := F0 m 11 ls [.int q_5.1]) rfl ?_)
  have hF := Option.some.inj hF
  subst hF
  exact m_iret X hr hlk hH hS dX11_rest_11
noncomputable def fX5_anybodyByOne_28 (p0 : Nat) (p1 : Nat) (p2 : Nat) (v4 : Int32) (K_67 : Int32 → Wd → Option (Int32 × Wd)) : Nat → Int32 → Int32 → Wd → Option (Int32 × Wd)
  | 0, _, _, _ => none
  | n + 1, v3, v5, w => (gfR 4 4 p0 w).bind fun r_7 => (rdI r_7 v4 w).bind fun x_8 => if x_8 ≤ v5 then K_67 v3 w else (gfR 4 3 p0 w).bind fun r_10 => (rdR 14 r_10 v4 w).bind fun r_11 => (rdI r_11 v5 w).bind fun x_12 => (isO 4 p0 w).bind fun u_13 => (fX5_wonWith p0 p1 p2 v4 x_12 w).bind fun q_14 => fX5_anybodyByOne_28 p0 p1 p2 v4 K_67 n (v3 ||| q_14.1) (v5 + (1 : Int32)) q_14.2
noncomputable def fX5_anybodyByOne_16 (p0 : Nat) (p1 : Nat) (p2 : Nat) (K_73 : Int32 → Wd → Option (Int32 × Wd)) : Nat → Int32 → Int32 → Wd → Option (Int32 × Wd)
  | 0, _, _, _ => none
  | n + 1, v3, v4, w => (gfI 3 4 p1 w).bind fun x_5 => if x_5 ≤ v4 then K_73 v3 w else fX5_anybodyByOne_28 p0 p1 p2 v4 (fun (v3_16 : Int32) (w_15 : Wd) => fX5_anybodyByOne_16 p0 p1 p2 K_73 n v3_16 (v4 + (1 : Int32)) w_15) FV v3 (0 : Int32) w
noncomputable def fX5_anybodyByOne (p0 : Nat) (p1 : Nat) (p2 : Nat) (w : Wd) : Option (Int32 × Wd) := (isO 4 p0 w).bind fun u_1 => (fX5_findAlike p0 p1 w).bind fun q_2 => (isO 4 p0 q_2.2).bind fun u_3 => (fX5_reachAll p0 p1 p2 q_2.2).bind fun q_4 => fX5_anybodyByOne_16 p0 p1 p2 (fun (v3_18 : Int32) (w_17 : Wd) => some (v3_18, w_17)) FV (0 : Int32) (0 : Int32) q_4.2
set_option maxHeartbeats 4000000 in
set_option maxRecDepth 100000 in
theorem l_X5_anybodyByOne_28 (X : Cx p R s m args c cX5_anybodyByOne 6 RX5 D cI cT cII 5 116) (hc : cells ≤ R.cells ∧ slots ≤ R.slots) (p0 : Nat) (p1 : Nat) (p2 : Nat) (v4 : Int32) (K_67 : Int32 → Wd → Option (Int32 × Wd)) (res : Int32 × Wd)
    (hK_67 : ∀ (z3 : Int32) (w : Wd), K_67 z3 w = some res → ∀ (H : Heap) (locs : List Loc) (ls : Array Slot), Hd D cI cT cII base w H → va_S (fun q => base ≤ q) s.heap H locs → lv_has ls 6 [(0, .ref (base + p0)), (1, .ref (base + p1)), (2, .ref (base + p2)), (3, .int z3), (4, .int v4)] → W p l e R s m args below meth c H locs cells slots Q (F0 m 67 ls [])) :
    ∀ (n : Nat) (v3 : Int32) (v5 : Int32) (w : Wd), fX5_anybodyByOne_28 p0 p1 p2 v4 K_67 n v3 v5 w = some res → ∀ (H : Heap) (locs : List Loc) (ls : Array Slot), Hd D cI cT cII base w H → va_S (fun q => base ≤ q) s.heap H locs → lv_has ls 6 [(0, .ref (base + p0)), (1, .ref (base + p1)), (2, .ref (base + p2)), (3, .int v3), (4, .int v4), (5, .int v5)] → W p l e R s m args below meth c H locs cells slots Q (F0 m 28 ls []) := by
  have hx := X.1
  have hb := X.2.1
  intro n
  induction n with
  | zero =>
    intro v3 v5 w hF
    rw [fX5_anybodyByOne_28] at hF
    cases hF
  | succ n ih =>
    intro v3 v5 w hF H locs ls hH hS hl
    rw [fX5_anybodyByOne_28] at hF
    refine lv_iload hx hb dX5_anybodyByOne_28 (lv_at hl 5 rfl) ?_
    refine lv_aload_n hx hb dX5_anybodyByOne_30 rfl (lv_at hl 0 rfl) ?_
    obtain ⟨r_7, e_7, hF⟩ := bnd hF
    refine m_gR X hH e_7 gg_X5_26 dX5_anybodyByOne_31 ?_
    refine lv_iload hx hb dX5_anybodyByOne_34 (lv_at hl 4 rfl) ?_
    obtain ⟨x_8, e_8, hF⟩ := bnd hF
    refine m_rdI X hH e_8 dX5_anybodyByOne_36 ?_
    refine lv_icmp_ge (tgt := 67) hx hb dX5_anybodyByOne_37 (by decide) (fun c_9 => ?_) (fun c_9 => ?_)
    · replace hF := itt c_9 hF
      exact hK_67 v3 w hF H locs ls hH hS (lv_sub hl [0, 1, 2, 3, 4] rfl)
    · replace hF := itf c_9 hF
      refine lv_iload_n hx hb dX5_anybodyByOne_40 rfl (lv_at hl 3 rfl) ?_
      refine lv_aload_n hx hb dX5_anybodyByOne_41 rfl (lv_at hl 0 rfl) ?_
      refine lv_aload_n hx hb dX5_anybodyByOne_42 rfl (lv_at hl 1 rfl) ?_
      refine lv_aload_n hx hb dX5_anybodyByOne_43 rfl (lv_at hl 2 rfl) ?_
      refine lv_iload hx hb dX5_anybodyByOne_44 (lv_at hl 4 rfl) ?_
      refine lv_aload_n hx hb dX5_anybodyByOne_46 rfl (lv_at hl 0 rfl) ?_
      obtain ⟨r_10, e_10, hF⟩ := bnd hF
      refine m_gR X hH e_10 gg_X5_23 dX5_anybodyByOne_47 ?_
      refine lv_iload hx hb dX5_anybodyByOne_50 (lv_at hl 4 rfl) ?_
      obtain ⟨r_11, e_11, hF⟩ := bnd hF
      refine m_rdII X hH e_11 dX5_anybodyByOne_52 ?_
      refine lv_iload hx hb dX5_anybodyByOne_53 (lv_at hl 5 rfl) ?_
      obtain ⟨x_12, e_12, hF⟩ := bnd hF
      refine m_rdI X hH e_12 dX5_anybodyByOne_55 ?_
      obtain ⟨u_13, ou_13, hF⟩ := bnd hF
      obtain ⟨q_14, e_14, hF⟩ := bnd hF
      refine m_callV (As := [.ref (base + p1), .ref (base + p2), .int v4, .int x_12]) (rest := [.int v3]) X hH hS hl.1 ou_13 rfl (by decide) (k_X5_wonWith l D cI cT cII base p0 p1 p2 v4 x_12 w q_14 e_14) q_X5_wonWith kw_649 kw_651 kw_14 rfl rfl (Nat.le_of_ble_eq_true rfl) ⟨by decide, by decide⟩ hc dX5_anybodyByOne_56 (fun H locs hH hS => W.eq (g2 := F0 m 59 ls [.int q_14.1, .int v3]) rfl ?_)
      refine lv_ior hx hb dX5_anybodyByOne_59 ?_
      refine lv_istore_n (lv' := [(3, .int (v3 ||| q_14.1)), (0, .ref (base + p0)), (1, .ref (base + p1)), (2, .ref (base + p2)), (4, .int v4), (5, .int v5)]) hx hb dX5_anybodyByOne_60 rfl hl (by decide) rfl (fun ls hl => ?_)
      refine lv_iinc (v := v5 + (1 : Int32)) (lv' := [(5, .int (v5 + (1 : Int32))), (3, .int (v3 ||| q_14.1)), (0, .ref (base + p0)), (1, .ref (base + p1)), (2, .ref (base + p2)), (4, .int v4)]) hx hb dX5_anybodyByOne_61 hl (k := 5) rfl (congrArg (fun z => v5 + z) (by decide)) (by decide) rfl (fun ls hl => ?_)
      refine lv_goto (tgt := 28) hx hb dX5_anybodyByOne_64 (by decide) ?_
      exact ih (v3 ||| q_14.1) (v5 + (1 : Int32)) q_14.2 hF H locs ls hH hS (lv_sub hl [2, 3, 4, 1, 5, 0] rfl)
set_option maxHeartbeats 4000000 in
set_option maxRecDepth 100000 in
theorem l_X5_anybodyByOne_16 (X : Cx p R s m args c cX5_anybodyByOne 6 RX5 D cI cT cII 5 116) (hc : cells ≤ R.cells ∧ slots ≤ R.slots) (p0 : Nat) (p1 : Nat) (p2 : Nat) (K_73 : Int32 → Wd → Option (Int32 × Wd)) (res : Int32 × Wd)
    (hK_73 : ∀ (z3 : Int32) (w : Wd), K_73 z3 w = some res → ∀ (H : Heap) (locs : List Loc) (ls : Array Slot), Hd D cI cT cII base w H → va_S (fun q => base ≤ q) s.heap H locs → lv_has ls 6 [(3, .int z3)] → W p l e R s m args below meth c H locs cells slots Q (F0 m 73 ls [])) :
    ∀ (n : Nat) (v3 : Int32) (v4 : Int32) (w : Wd), fX5_anybodyByOne_16 p0 p1 p2 K_73 n v3 v4 w = some res → ∀ (H : Heap) (locs : List Loc) (ls : Array Slot), Hd D cI cT cII base w H → va_S (fun q => base ≤ q) s.heap H locs → lv_has ls 6 [(0, .ref (base + p0)), (1, .ref (base + p1)), (2, .ref (base + p2)), (3, .int v3), (4, .int v4)] → W p l e R s m args below meth c H locs cells slots Q (F0 m 16 ls []) := by
  have hx := X.1
  have hb := X.2.1
  intro n
  induction n with
  | zero =>
    intro v3 v4 w hF
    rw [fX5_anybodyByOne_16] at hF
    cases hF
  | succ n ih =>
    intro v3 v4 w hF H locs ls hH hS hl
    rw [fX5_anybodyByOne_16] at hF
    refine lv_iload hx hb dX5_anybodyByOne_16 (lv_at hl 4 rfl) ?_
    refine lv_aload_n hx hb dX5_anybodyByOne_18 rfl (lv_at hl 1 rfl) ?_
    obtain ⟨x_5, e_5, hF⟩ := bnd hF
    refine m_hI X hH e_5 gg_X5_29 dX5_anybodyByOne_19 ?_
    refine lv_icmp_ge (tgt := 73) hx hb dX5_anybodyByOne_22 (by decide) (fun c_6 => ?_) (fun c_6 => ?_)
    · replace hF := itt c_6 hF
      exact hK_73 v3 w hF H locs ls hH hS (lv_sub hl [3] rfl)
    · replace hF := itf c_6 hF
      refine lv_iconst (v := (0 : Int32)) hx hb dX5_anybodyByOne_25 (by decide) ?_
      refine lv_istore (lv' := [(5, .int (0 : Int32)), (0, .ref (base + p0)), (1, .ref (base + p1)), (2, .ref (base + p2)), (3, .int v3), (4, .int v4)]) hx hb dX5_anybodyByOne_26 hl (by decide) rfl (fun ls hl => ?_)
      refine l_X5_anybodyByOne_28 X hc p0 p1 p2 v4 _ res ?_ FV v3 (0 : Int32) w hF H locs ls hH hS (lv_sub hl [1, 2, 3, 4, 5, 0] rfl)
      · intro v3_16 w_15 hF H locs ls hH hS hl
        refine lv_iinc (v := v4 + (1 : Int32)) (lv' := [(4, .int (v4 + (1 : Int32))), (0, .ref (base + p0)), (1, .ref (base + p1)), (2, .ref (base + p2)), (3, .int v3_16)]) hx hb dX5_anybodyByOne_67 hl (k := 4) rfl (congrArg (fun z => v4 + z) (by decide)) (by decide) rfl (fun ls hl => ?_)
        refine lv_goto (tgt := 16) hx hb dX5_anybodyByOne_70 (by decide) ?_
        exact ih v3_16 (v4 + (1 : Int32)) w_15 hF H locs ls hH hS (lv_sub hl [1, 2, 3, 4, 0] rfl)
set_option maxHeartbeats 4000000 in
set_option maxRecDepth 100000 in
theorem k_X5_anybodyByOne (l : Launch) (D : va_G) (cI cT cII : ClassId) (base : Nat) (p0 : Nat) (p1 : Nat) (p2 : Nat) (w : Wd) (res : Int32 × Wd) (hF : fX5_anybodyByOne p0 p1 p2 w = some res) : Ct l yX5_anybodyByOne cX5_anybodyByOne 6 (some .int) { frames := 5, cells := 0, slots := 0, locals := 116 } D cI cT cII base [.ref (base + p0), .ref (base + p1), .ref (base + p2)] w res.2 (some (.int res.1)) 0 0 := by
  unfold fX5_anybodyByOne at hF
  refine m_enter (by decide) (Nat.le_of_ble_eq_true rfl) ?_
  intro p e s m below meth c ls X hr hlk hnm hH hS hl
  have hx := X.1
  have hb := X.2.1
  have hc : (0 : Nat) ≤ ({ frames := 5, cells := 0, slots := 0, locals := 116 } : Room).cells ∧ (0 : Nat) ≤ ({ frames := 5, cells := 0, slots := 0, locals := 116 } : Room).slots := ⟨Nat.zero_le _, Nat.zero_le _⟩
  obtain ⟨H, hHe⟩ : ∃ H : Heap, H = s.heap := ⟨_, rfl⟩
  obtain ⟨locs, hle⟩ : ∃ L : List Loc, L = [] := ⟨_, rfl⟩
  have hl : lv_has ls 6 [(0, .ref (base + p0)), (1, .ref (base + p1)), (2, .ref (base + p2))] := hl
  rw [← hHe] at hH
  have hS : va_S (fun q => base ≤ q) s.heap H locs := by rw [hHe, hle]; exact hS
  rw [← hle]
  show W p l e _ s m _ below meth c s.heap locs 0 0 _ _
  rw [← hHe]
  refine lv_aload_n hx hb dX5_anybodyByOne_0 rfl (lv_at hl 0 rfl) ?_
  refine lv_aload_n hx hb dX5_anybodyByOne_1 rfl (lv_at hl 1 rfl) ?_
  obtain ⟨u_1, ou_1, hF⟩ := bnd hF
  obtain ⟨q_2, e_2, hF⟩ := bnd hF
  refine m_callV (As := [.ref (base + p1)]) (rest := []) X hH hS hl.1 ou_1 rfl (by decide) (k_X5_findAlike l D cI cT cII base p0 p1 w q_2 e_2) q_X5_findAlike kw_663 kw_665 kw_15 rfl rfl (Nat.le_of_ble_eq_true rfl) ⟨by decide, by decide⟩ hc dX5_anybodyByOne_2 (fun H locs hH hS => W.eq (g2 := F0 m 5 ls []) rfl ?_)
  refine lv_aload_n hx hb dX5_anybodyByOne_5 rfl (lv_at hl 0 rfl) ?_
  refine lv_aload_n hx hb dX5_anybodyByOne_6 rfl (lv_at hl 1 rfl) ?_
  refine lv_aload_n hx hb dX5_anybodyByOne_7 rfl (lv_at hl 2 rfl) ?_
  obtain ⟨u_3, ou_3, hF⟩ := bnd hF
  obtain ⟨q_4, e_4, hF⟩ := bnd hF
  refine m_callV (As := [.ref (base + p1), .ref (base + p2)]) (rest := []) X hH hS hl.1 ou_3 rfl (by decide) (k_X5_reachAll l D cI cT cII base p0 p1 p2 q_2.2 q_4 e_4) q_X5_reachAll kw_673 kw_675 kw_17 rfl rfl (Nat.le_of_ble_eq_true rfl) ⟨by decide, by decide⟩ hc dX5_anybodyByOne_8 (fun H locs hH hS => W.eq (g2 := F0 m 11 ls []) rfl ?_)
  refine lv_iconst (v := (0 : Int32)) hx hb dX5_anybodyByOne_11 (by decide) ?_
  refine lv_istore_n (lv' := [(3, .int (0 : Int32)), (0, .ref (base + p0)), (1, .ref (base + p1)), (2, .ref (base + p2))]) hx hb dX5_anybodyByOne_12 rfl hl (by decide) rfl (fun ls hl => ?_)
  refine lv_iconst (v := (0 : Int32)) hx hb dX5_anybodyByOne_13 (by decide) ?_
  refine lv_istore (lv' := [(4, .int (0 : Int32)), (3, .int (0 : Int32)), (0, .ref (base + p0)), (1, .ref (base + p1)), (2, .ref (base + p2))]) hx hb dX5_anybodyByOne_14 hl (by decide) rfl (fun ls hl => ?_)
  refine l_X5_anybodyByOne_16 X hc p0 p1 p2 _ res ?_ FV (0 : Int32) (0 : Int32) q_4.2 hF H locs ls hH hS (lv_sub hl [2, 3, 4, 1, 0] rfl)
  · intro v3_18 w_17 hF H locs ls hH hS hl
    refine lv_iload_n hx hb dX5_anybodyByOne_73 rfl (lv_at hl 0 rfl) ?_
    have hF := Option.some.inj hF
    subst hF
    exact m_iret X hr hlk hH hS dX5_anybodyByOne_74
noncomputable def fX11_safe (p0 : Nat) (v1 : Int32) (w : Wd) : Option (Int32 × Wd) := (fX11_outside v1 (31 : Int32) w).bind fun q_1 => if q_1.1 = 0 then (isO 10 p0 q_1.2).bind fun u_3 => (fX11_daysNow p0 q_1.2).bind fun q_4 => (gfR 1 3 q_4.1 q_4.2).bind fun r_5 => (rdI r_5 v1 q_4.2).bind fun x_6 => (gfR 10 6 p0 q_4.2).bind fun r_7 => (gfR 10 10 p0 q_4.2).bind fun r_8 => (gfR 10 5 p0 q_4.2).bind fun r_9 => (gfR 1 0 r_9 q_4.2).bind fun r_10 => (rdR 14 r_10 v1 q_4.2).bind fun r_11 => (isO 4 r_7 q_4.2).bind fun u_12 => (fX5_anybodyByOne r_7 r_8 r_11 q_4.2).bind fun q_13 => (gfR 10 10 p0 q_13.2).bind fun r_14 => (gfI 3 7 r_14 q_13.2).bind fun x_15 => some ((((1 : Int32) <<< (x_15 &&& 31)) - (1 : Int32)) &&& ((x_6 ||| q_13.1) ^^^ (-1 : Int32)), q_13.2) else some ((-1 : Int32), q_1.2)
set_option maxHeartbeats 4000000 in
set_option maxRecDepth 100000 in
theorem k_X11_safe (l : Launch) (D : va_G) (cI cT cII : ClassId) (base : Nat) (p0 : Nat) (v1 : Int32) (w : Wd) (res : Int32 × Wd) (hF : fX11_safe p0 v1 w = some res) : Ct l yX11_safe cX11_safe 3 (some .int) { frames := 6, cells := 0, slots := 0, locals := 141 } D cI cT cII base [.ref (base + p0), .int v1] w res.2 (some (.int res.1)) 0 0 := by
  unfold fX11_safe at hF
  refine m_enter (by decide) (Nat.le_of_ble_eq_true rfl) ?_
  intro p e s m below meth c ls X hr hlk hnm hH hS hl
  have hx := X.1
  have hb := X.2.1
  have hc : (0 : Nat) ≤ ({ frames := 6, cells := 0, slots := 0, locals := 141 } : Room).cells ∧ (0 : Nat) ≤ ({ frames := 6, cells := 0, slots := 0, locals := 141 } : Room).slots := ⟨Nat.zero_le _, Nat.zero_le _⟩
  obtain ⟨H, hHe⟩ : ∃ H : Heap, H = s.heap := ⟨_, rfl⟩
  obtain ⟨locs, hle⟩ : ∃ L : List Loc, L = [] := ⟨_, rfl⟩
  have hl : lv_has ls 3 [(0, .ref (base + p0)), (1, .int v1)] := hl
  rw [← hHe] at hH
  have hS : va_S (fun q => base ≤ q) s.heap H locs := by rw [hHe, hle]; exact hS
  rw [← hle]
  show W p l e _ s m _ below meth c s.heap locs 0 0 _ _
  rw [← hHe]
  refine lv_iload_n hx hb dX11_safe_0 rfl (lv_at hl 1 rfl) ?_
  refine lv_bipush (v := (31 : Int32)) hx hb dX11_safe_1 (by decide) ?_
  obtain ⟨q_1, e_1, hF⟩ := bnd hF
  refine m_callS (As := [.int v1, .int (31 : Int32)]) (rest := []) X hH hS hl.1 (k_X11_outside l D cI cT cII base v1 (31 : Int32) w q_1 e_1) q_X11_outside kw_511 kw_391 rfl rfl (Nat.le_of_ble_eq_true rfl) ⟨by decide, by decide⟩ hc dX11_safe_3 (fun H locs hH hS => W.eq (g2 := F0 m 6 ls [.int q_1.1]) rfl ?_)
  refine lv_if_eq (tgt := 11) hx hb dX11_safe_6 (by decide) (fun c_2 => ?_) (fun c_2 => ?_)
  · replace hF := itt c_2 hF
    refine lv_aload_n hx hb dX11_safe_11 rfl (lv_at hl 0 rfl) ?_
    obtain ⟨u_3, ou_3, hF⟩ := bnd hF
    obtain ⟨q_4, e_4, hF⟩ := bnd hF
    refine m_callV (As := []) (rest := []) X hH hS hl.1 ou_3 rfl (by decide) (k_X11_daysNow l D cI cT cII base p0 q_1.2 q_4 e_4) q_X11_daysNow kw_520 kw_522 kw_9 rfl rfl (Nat.le_of_ble_eq_true rfl) ⟨by decide, by decide⟩ hc dX11_safe_12 (fun H locs hH hS => W.eq (g2 := F0 m 15 ls [.ref (base + q_4.1)]) rfl ?_)
    obtain ⟨r_5, e_5, hF⟩ := bnd hF
    refine m_hR X hH e_5 gg_X11_153 dX11_safe_15 ?_
    refine lv_iload_n hx hb dX11_safe_18 rfl (lv_at hl 1 rfl) ?_
    obtain ⟨x_6, e_6, hF⟩ := bnd hF
    refine m_rdI X hH e_6 dX11_safe_19 ?_
    refine lv_aload_n hx hb dX11_safe_20 rfl (lv_at hl 0 rfl) ?_
    obtain ⟨r_7, e_7, hF⟩ := bnd hF
    refine m_gR X hH e_7 gg_X11_52 dX11_safe_21 ?_
    refine lv_aload_n hx hb dX11_safe_24 rfl (lv_at hl 0 rfl) ?_
    obtain ⟨r_8, e_8, hF⟩ := bnd hF
    refine m_gR X hH e_8 gg_X11_80 dX11_safe_25 ?_
    refine lv_aload_n hx hb dX11_safe_28 rfl (lv_at hl 0 rfl) ?_
    obtain ⟨r_9, e_9, hF⟩ := bnd hF
    refine m_gR X hH e_9 gg_X11_45 dX11_safe_29 ?_
    obtain ⟨r_10, e_10, hF⟩ := bnd hF
    refine m_hR X hH e_10 gg_X11_197 dX11_safe_32 ?_
    refine lv_iload_n hx hb dX11_safe_35 rfl (lv_at hl 1 rfl) ?_
    obtain ⟨r_11, e_11, hF⟩ := bnd hF
    refine m_rdII X hH e_11 dX11_safe_36 ?_
    obtain ⟨u_12, ou_12, hF⟩ := bnd hF
    obtain ⟨q_13, e_13, hF⟩ := bnd hF
    refine m_callV (As := [.ref (base + r_8), .ref (base + r_11)]) (rest := [.int x_6]) X hH hS hl.1 ou_12 rfl (by decide) (k_X5_anybodyByOne l D cI cT cII base r_7 r_8 r_11 q_4.2 q_13 e_13) q_X5_anybodyByOne kw_700 kw_701 kw_702 rfl rfl (Nat.le_of_ble_eq_true rfl) ⟨by decide, by decide⟩ hc dX11_safe_37 (fun H locs hH hS => W.eq (g2 := F0 m 40 ls [.int q_13.1, .int x_6]) rfl ?_)
    refine lv_ior hx hb dX11_safe_40 ?_
    refine lv_istore_n (lv' := [(2, .int (x_6 ||| q_13.1)), (0, .ref (base + p0)), (1, .int v1)]) hx hb dX11_safe_41 rfl hl (by decide) rfl (fun ls hl => ?_)
    refine lv_iconst (v := (1 : Int32)) hx hb dX11_safe_42 (by decide) ?_
    refine lv_aload_n hx hb dX11_safe_43 rfl (lv_at hl 1 rfl) ?_
    obtain ⟨r_14, e_14, hF⟩ := bnd hF
    refine m_gR X hH e_14 gg_X11_80 dX11_safe_44 ?_
    obtain ⟨x_15, e_15, hF⟩ := bnd hF
    refine m_hI X hH e_15 gg_X11_136 dX11_safe_47 ?_
    refine lv_ishl hx hb dX11_safe_50 ?_
    refine lv_iconst (v := (1 : Int32)) hx hb dX11_safe_51 (by decide) ?_
    refine lv_isub hx hb dX11_safe_52 ?_
    refine lv_iload_n hx hb dX11_safe_53 rfl (lv_at hl 0 rfl) ?_
    refine lv_iconst (v := (-1 : Int32)) hx hb dX11_safe_54 (by decide) ?_
    refine lv_ixor hx hb dX11_safe_55 ?_
    refine lv_iand hx hb dX11_safe_56 ?_
    have hF := Option.some.inj hF
    subst hF
    exact m_iret X hr hlk hH hS dX11_safe_57
  · replace hF := itf c_2 hF
    refine lv_iconst (v := (-1 : Int32)) hx hb dX11_safe_9 (by decide) ?_
    have hF := Option.some.inj hF
    subst hF
    exact m_iret X hr hlk hH hS dX11_safe_10
noncomputable def fX8_add (p0 : Nat) (v1 : Int32) (v2 : Int32) (w : Wd) : Option (Int32 × Wd) := (gfI 7 2 p0 w).bind fun x_1 => if x_1 < (8 : Int32) then (gfR 7 0 p0 w).bind fun r_3 => (gfI 7 2 p0 w).bind fun x_4 => (wrI r_3 x_4 v1 w).bind fun w_5 => (gfR 7 1 p0 w_5).bind fun r_6 => (gfI 7 2 p0 w_5).bind fun x_7 => (wrI r_6 x_7 v2 w_5).bind fun w_8 => (gfI 7 2 p0 w_8).bind fun x_9 => (pfI 7 2 p0 (x_9 + (1 : Int32)) w_8).bind fun w_10 => some ((1 : Int32), w_10) else some ((0 : Int32), w)
set_option maxHeartbeats 4000000 in
set_option maxRecDepth 100000 in
theorem k_X8_add (l : Launch) (D : va_G) (cI cT cII : ClassId) (base : Nat) (p0 : Nat) (v1 : Int32) (v2 : Int32) (w : Wd) (res : Int32 × Wd) (hF : fX8_add p0 v1 v2 w = some res) : Ct l yX8_add cX8_add 3 (some .boolean) { frames := 0, cells := 0, slots := 0, locals := 0 } D cI cT cII base [.ref (base + p0), .int v1, .int v2] w res.2 (some (.int res.1)) 0 0 := by
  unfold fX8_add at hF
  refine m_enter (by decide) (Nat.le_of_ble_eq_true rfl) ?_
  intro p e s m below meth c ls X hr hlk hnm hH hS hl
  have hx := X.1
  have hb := X.2.1
  have hc : (0 : Nat) ≤ ({ frames := 0, cells := 0, slots := 0, locals := 0 } : Room).cells ∧ (0 : Nat) ≤ ({ frames := 0, cells := 0, slots := 0, locals := 0 } : Room).slots := ⟨Nat.zero_le _, Nat.zero_le _⟩
  obtain ⟨H, hHe⟩ : ∃ H : Heap, H = s.heap := ⟨_, rfl⟩
  obtain ⟨locs, hle⟩ : ∃ L : List Loc, L = [] := ⟨_, rfl⟩
  have hl : lv_has ls 3 [(0, .ref (base + p0)), (1, .int v1), (2, .int v2)] := hl
  rw [← hHe] at hH
  have hS : va_S (fun q => base ≤ q) s.heap H locs := by rw [hHe, hle]; exact hS
  rw [← hle]
  show W p l e _ s m _ below meth c s.heap locs 0 0 _ _
  rw [← hHe]
  refine lv_aload_n hx hb dX8_add_0 rfl (lv_at hl 0 rfl) ?_
  obtain ⟨x_1, e_1, hF⟩ := bnd hF
  refine m_gI X hH e_1 gg_X8_21 dX8_add_1 ?_
  refine lv_bipush (v := (8 : Int32)) hx hb dX8_add_4 (by decide) ?_
  refine lv_icmp_lt (tgt := 11) hx hb dX8_add_6 (by decide) (fun c_2 => ?_) (fun c_2 => ?_)
  · replace hF := itt c_2 hF
    refine lv_aload_n hx hb dX8_add_11 rfl (lv_at hl 0 rfl) ?_
    obtain ⟨r_3, e_3, hF⟩ := bnd hF
    refine m_gR X hH e_3 gg_X8_9 dX8_add_12 ?_
    refine lv_aload_n hx hb dX8_add_15 rfl (lv_at hl 0 rfl) ?_
    obtain ⟨x_4, e_4, hF⟩ := bnd hF
    refine m_gI X hH e_4 gg_X8_21 dX8_add_16 ?_
    refine lv_iload_n hx hb dX8_add_19 rfl (lv_at hl 1 rfl) ?_
    obtain ⟨w_5, e_5, hF⟩ := bnd hF
    refine m_wrI X hH hS e_5 dX8_add_20 (fun H locs hH hS => ?_)
    refine lv_aload_n hx hb dX8_add_21 rfl (lv_at hl 0 rfl) ?_
    obtain ⟨r_6, e_6, hF⟩ := bnd hF
    refine m_gR X hH e_6 gg_X8_15 dX8_add_22 ?_
    refine lv_aload_n hx hb dX8_add_25 rfl (lv_at hl 0 rfl) ?_
    obtain ⟨x_7, e_7, hF⟩ := bnd hF
    refine m_gI X hH e_7 gg_X8_21 dX8_add_26 ?_
    refine lv_iload_n hx hb dX8_add_29 rfl (lv_at hl 2 rfl) ?_
    obtain ⟨w_8, e_8, hF⟩ := bnd hF
    refine m_wrI X hH hS e_8 dX8_add_30 (fun H locs hH hS => ?_)
    refine lv_aload_n hx hb dX8_add_31 rfl (lv_at hl 0 rfl) ?_
    refine lv_dup hx hb dX8_add_32 rfl ?_
    obtain ⟨x_9, e_9, hF⟩ := bnd hF
    refine m_gI X hH e_9 gg_X8_21 dX8_add_33 ?_
    refine lv_iconst (v := (1 : Int32)) hx hb dX8_add_36 (by decide) ?_
    refine lv_iadd hx hb dX8_add_37 ?_
    obtain ⟨w_10, e_10, hF⟩ := bnd hF
    refine m_pI X hH hS e_10 gp_X8_21 rfl rfl dX8_add_38 (fun H locs hH hS => ?_)
    refine lv_iconst (v := (1 : Int32)) hx hb dX8_add_41 (by decide) ?_
    have hF := Option.some.inj hF
    subst hF
    exact m_zret (r := (1 : Int32)) X hr hlk (by decide) hH hS dX8_add_42
  · replace hF := itf c_2 hF
    refine lv_iconst (v := (0 : Int32)) hx hb dX8_add_9 (by decide) ?_
    have hF := Option.some.inj hF
    subst hF
    exact m_zret (r := (0 : Int32)) X hr hlk (by decide) hH hS dX8_add_10
noncomputable def fX11_seen (p0 : Nat) (v1 : Int32) (v2 : Int32) (w : Wd) : Option (Int32 × Wd) := (fX11_outside v1 (41 : Int32) w).bind fun q_1 => if q_1.1 = 0 then (fX11_outside v2 (41 : Int32) q_1.2).bind fun q_3 => if q_3.1 = 0 then (gfR 10 7 p0 q_3.2).bind fun r_5 => (isO 7 r_5 q_3.2).bind fun u_6 => (fX8_add r_5 (v1 - (20 : Int32)) (v2 - (20 : Int32)) q_3.2).bind fun q_7 => if q_7.1 = 0 then some ((-3 : Int32), q_7.2) else (gfR 10 7 p0 q_7.2).bind fun r_9 => (gfI 7 2 r_9 q_7.2).bind fun x_10 => some (x_10, q_7.2) else some ((-1 : Int32), q_3.2) else some ((-1 : Int32), q_1.2)
set_option maxHeartbeats 4000000 in
set_option maxRecDepth 100000 in
theorem k_X11_seen (l : Launch) (D : va_G) (cI cT cII : ClassId) (base : Nat) (p0 : Nat) (v1 : Int32) (v2 : Int32) (w : Wd) (res : Int32 × Wd) (hF : fX11_seen p0 v1 v2 w = some res) : Ct l yX11_seen cX11_seen 3 (some .int) { frames := 1, cells := 0, slots := 0, locals := 22 } D cI cT cII base [.ref (base + p0), .int v1, .int v2] w res.2 (some (.int res.1)) 0 0 := by
  unfold fX11_seen at hF
  refine m_enter (by decide) (Nat.le_of_ble_eq_true rfl) ?_
  intro p e s m below meth c ls X hr hlk hnm hH hS hl
  have hx := X.1
  have hb := X.2.1
  have hc : (0 : Nat) ≤ ({ frames := 1, cells := 0, slots := 0, locals := 22 } : Room).cells ∧ (0 : Nat) ≤ ({ frames := 1, cells := 0, slots := 0, locals := 22 } : Room).slots := ⟨Nat.zero_le _, Nat.zero_le _⟩
  obtain ⟨H, hHe⟩ : ∃ H : Heap, H = s.heap := ⟨_, rfl⟩
  obtain ⟨locs, hle⟩ : ∃ L : List Loc, L = [] := ⟨_, rfl⟩
  have hl : lv_has ls 3 [(0, .ref (base + p0)), (1, .int v1), (2, .int v2)] := hl
  rw [← hHe] at hH
  have hS : va_S (fun q => base ≤ q) s.heap H locs := by rw [hHe, hle]; exact hS
  rw [← hle]
  show W p l e _ s m _ below meth c s.heap locs 0 0 _ _
  rw [← hHe]
  refine lv_iload_n hx hb dX11_seen_0 rfl (lv_at hl 1 rfl) ?_
  refine lv_bipush (v := (41 : Int32)) hx hb dX11_seen_1 (by decide) ?_
  obtain ⟨q_1, e_1, hF⟩ := bnd hF
  refine m_callS (As := [.int v1, .int (41 : Int32)]) (rest := []) X hH hS hl.1 (k_X11_outside l D cI cT cII base v1 (41 : Int32) w q_1 e_1) q_X11_outside kw_511 kw_391 rfl rfl (Nat.le_of_ble_eq_true rfl) ⟨by decide, by decide⟩ hc dX11_seen_3 (fun H locs hH hS => W.eq (g2 := F0 m 6 ls [.int q_1.1]) rfl ?_)
  refine lv_if_ne (tgt := 18) hx hb dX11_seen_6 (by decide) (fun c_2 => ?_) (fun c_2 => ?_)
  · replace hF := itf c_2 hF
    refine lv_iconst (v := (-1 : Int32)) hx hb dX11_seen_18 (by decide) ?_
    have hF := Option.some.inj hF
    subst hF
    exact m_iret X hr hlk hH hS dX11_seen_19
  · replace hF := itt c_2 hF
    refine lv_iload_n hx hb dX11_seen_9 rfl (lv_at hl 2 rfl) ?_
    refine lv_bipush (v := (41 : Int32)) hx hb dX11_seen_10 (by decide) ?_
    obtain ⟨q_3, e_3, hF⟩ := bnd hF
    refine m_callS (As := [.int v2, .int (41 : Int32)]) (rest := []) X hH hS hl.1 (k_X11_outside l D cI cT cII base v2 (41 : Int32) q_1.2 q_3 e_3) q_X11_outside kw_511 kw_391 rfl rfl (Nat.le_of_ble_eq_true rfl) ⟨by decide, by decide⟩ hc dX11_seen_12 (fun H locs hH hS => W.eq (g2 := F0 m 15 ls [.int q_3.1]) rfl ?_)
    refine lv_if_eq (tgt := 20) hx hb dX11_seen_15 (by decide) (fun c_4 => ?_) (fun c_4 => ?_)
    · replace hF := itt c_4 hF
      refine lv_aload_n hx hb dX11_seen_20 rfl (lv_at hl 0 rfl) ?_
      obtain ⟨r_5, e_5, hF⟩ := bnd hF
      refine m_gR X hH e_5 gg_X11_59 dX11_seen_21 ?_
      refine lv_iload_n hx hb dX11_seen_24 rfl (lv_at hl 1 rfl) ?_
      refine lv_bipush (v := (20 : Int32)) hx hb dX11_seen_25 (by decide) ?_
      refine lv_isub hx hb dX11_seen_27 ?_
      refine lv_iload_n hx hb dX11_seen_28 rfl (lv_at hl 2 rfl) ?_
      refine lv_bipush (v := (20 : Int32)) hx hb dX11_seen_29 (by decide) ?_
      refine lv_isub hx hb dX11_seen_31 ?_
      obtain ⟨u_6, ou_6, hF⟩ := bnd hF
      obtain ⟨q_7, e_7, hF⟩ := bnd hF
      refine m_callV (As := [.int (v1 - (20 : Int32)), .int (v2 - (20 : Int32))]) (rest := []) X hH hS hl.1 ou_6 rfl (by decide) (k_X8_add l D cI cT cII base r_5 (v1 - (20 : Int32)) (v2 - (20 : Int32)) q_3.2 q_7 e_7) q_X8_add kw_718 kw_719 kw_720 rfl rfl (Nat.le_of_ble_eq_true rfl) ⟨by decide, by decide⟩ hc dX11_seen_32 (fun H locs hH hS => W.eq (g2 := F0 m 35 ls [.int q_7.1]) rfl ?_)
      refine lv_if_eq (tgt := 48) hx hb dX11_seen_35 (by decide) (fun c_8 => ?_) (fun c_8 => ?_)
      · replace hF := itt c_8 hF
        refine lv_bipush (v := (-3 : Int32)) hx hb dX11_seen_48 (by decide) ?_
        have hF := Option.some.inj hF
        subst hF
        exact m_iret X hr hlk hH hS dX11_seen_50
      · replace hF := itf c_8 hF
        refine lv_aload_n hx hb dX11_seen_38 rfl (lv_at hl 0 rfl) ?_
        obtain ⟨r_9, e_9, hF⟩ := bnd hF
        refine m_gR X hH e_9 gg_X11_59 dX11_seen_39 ?_
        obtain ⟨x_10, e_10, hF⟩ := bnd hF
        refine m_hI X hH e_10 gg_X11_221 dX11_seen_42 ?_
        refine lv_goto (tgt := 50) hx hb dX11_seen_45 (by decide) ?_
        have hF := Option.some.inj hF
        subst hF
        exact m_iret X hr hlk hH hS dX11_seen_50
    · replace hF := itf c_4 hF
      refine lv_iconst (v := (-1 : Int32)) hx hb dX11_seen_18 (by decide) ?_
      have hF := Option.some.inj hF
      subst hF
      exact m_iret X hr hlk hH hS dX11_seen_19
noncomputable def fX11_sets (p0 : Nat) (v1 : Int32) (v2 : Int32) (w : Wd) : Option (Int32 × Wd) := (gfR 10 10 p0 w).bind fun r_1 => (gfI 3 7 r_1 w).bind fun x_2 => (fX11_outside v1 x_2 w).bind fun q_3 => if q_3.1 = 0 then (fX11_outside v2 (31 : Int32) q_3.2).bind fun q_5 => if q_5.1 = 0 then (isO 10 p0 q_5.2).bind fun u_7 => (fX11_daysNow p0 q_5.2).bind fun q_8 => (gfR 1 2 q_8.1 q_8.2).bind fun r_9 => (rdR 14 r_9 v2 q_8.2).bind fun r_10 => (rdI r_10 v1 q_8.2).bind fun x_11 => some (x_11, q_8.2) else some ((-1 : Int32), q_5.2) else some ((-1 : Int32), q_3.2)
set_option maxHeartbeats 4000000 in
set_option maxRecDepth 100000 in
theorem k_X11_sets (l : Launch) (D : va_G) (cI cT cII : ClassId) (base : Nat) (p0 : Nat) (v1 : Int32) (v2 : Int32) (w : Wd) (res : Int32 × Wd) (hF : fX11_sets p0 v1 v2 w = some res) : Ct l yX11_sets cX11_sets 3 (some .int) { frames := 6, cells := 0, slots := 0, locals := 137 } D cI cT cII base [.ref (base + p0), .int v1, .int v2] w res.2 (some (.int res.1)) 0 0 := by
  unfold fX11_sets at hF
  refine m_enter (by decide) (Nat.le_of_ble_eq_true rfl) ?_
  intro p e s m below meth c ls X hr hlk hnm hH hS hl
  have hx := X.1
  have hb := X.2.1
  have hc : (0 : Nat) ≤ ({ frames := 6, cells := 0, slots := 0, locals := 137 } : Room).cells ∧ (0 : Nat) ≤ ({ frames := 6, cells := 0, slots := 0, locals := 137 } : Room).slots := ⟨Nat.zero_le _, Nat.zero_le _⟩
  obtain ⟨H, hHe⟩ : ∃ H : Heap, H = s.heap := ⟨_, rfl⟩
  obtain ⟨locs, hle⟩ : ∃ L : List Loc, L = [] := ⟨_, rfl⟩
  have hl : lv_has ls 3 [(0, .ref (base + p0)), (1, .int v1), (2, .int v2)] := hl
  rw [← hHe] at hH
  have hS : va_S (fun q => base ≤ q) s.heap H locs := by rw [hHe, hle]; exact hS
  rw [← hle]
  show W p l e _ s m _ below meth c s.heap locs 0 0 _ _
  rw [← hHe]
  refine lv_iload_n hx hb dX11_sets_0 rfl (lv_at hl 1 rfl) ?_
  refine lv_aload_n hx hb dX11_sets_1 rfl (lv_at hl 0 rfl) ?_
  obtain ⟨r_1, e_1, hF⟩ := bnd hF
  refine m_gR X hH e_1 gg_X11_80 dX11_sets_2 ?_
  obtain ⟨x_2, e_2, hF⟩ := bnd hF
  refine m_hI X hH e_2 gg_X11_136 dX11_sets_5 ?_
  obtain ⟨q_3, e_3, hF⟩ := bnd hF
  refine m_callS (As := [.int v1, .int x_2]) (rest := []) X hH hS hl.1 (k_X11_outside l D cI cT cII base v1 x_2 w q_3 e_3) q_X11_outside kw_511 kw_391 rfl rfl (Nat.le_of_ble_eq_true rfl) ⟨by decide, by decide⟩ hc dX11_sets_8 (fun H locs hH hS => W.eq (g2 := F0 m 11 ls [.int q_3.1]) rfl ?_)
  refine lv_if_ne (tgt := 23) hx hb dX11_sets_11 (by decide) (fun c_4 => ?_) (fun c_4 => ?_)
  · replace hF := itf c_4 hF
    refine lv_iconst (v := (-1 : Int32)) hx hb dX11_sets_23 (by decide) ?_
    have hF := Option.some.inj hF
    subst hF
    exact m_iret X hr hlk hH hS dX11_sets_24
  · replace hF := itt c_4 hF
    refine lv_iload_n hx hb dX11_sets_14 rfl (lv_at hl 2 rfl) ?_
    refine lv_bipush (v := (31 : Int32)) hx hb dX11_sets_15 (by decide) ?_
    obtain ⟨q_5, e_5, hF⟩ := bnd hF
    refine m_callS (As := [.int v2, .int (31 : Int32)]) (rest := []) X hH hS hl.1 (k_X11_outside l D cI cT cII base v2 (31 : Int32) q_3.2 q_5 e_5) q_X11_outside kw_511 kw_391 rfl rfl (Nat.le_of_ble_eq_true rfl) ⟨by decide, by decide⟩ hc dX11_sets_17 (fun H locs hH hS => W.eq (g2 := F0 m 20 ls [.int q_5.1]) rfl ?_)
    refine lv_if_eq (tgt := 25) hx hb dX11_sets_20 (by decide) (fun c_6 => ?_) (fun c_6 => ?_)
    · replace hF := itt c_6 hF
      refine lv_aload_n hx hb dX11_sets_25 rfl (lv_at hl 0 rfl) ?_
      obtain ⟨u_7, ou_7, hF⟩ := bnd hF
      obtain ⟨q_8, e_8, hF⟩ := bnd hF
      refine m_callV (As := []) (rest := []) X hH hS hl.1 ou_7 rfl (by decide) (k_X11_daysNow l D cI cT cII base p0 q_5.2 q_8 e_8) q_X11_daysNow kw_520 kw_522 kw_9 rfl rfl (Nat.le_of_ble_eq_true rfl) ⟨by decide, by decide⟩ hc dX11_sets_26 (fun H locs hH hS => W.eq (g2 := F0 m 29 ls [.ref (base + q_8.1)]) rfl ?_)
      obtain ⟨r_9, e_9, hF⟩ := bnd hF
      refine m_hR X hH e_9 gg_X11_156 dX11_sets_29 ?_
      refine lv_iload_n hx hb dX11_sets_32 rfl (lv_at hl 2 rfl) ?_
      obtain ⟨r_10, e_10, hF⟩ := bnd hF
      refine m_rdII X hH e_10 dX11_sets_33 ?_
      refine lv_iload_n hx hb dX11_sets_34 rfl (lv_at hl 1 rfl) ?_
      obtain ⟨x_11, e_11, hF⟩ := bnd hF
      refine m_rdI X hH e_11 dX11_sets_35 ?_
      have hF := Option.some.inj hF
      subst hF
      exact m_iret X hr hlk hH hS dX11_sets_36
    · replace hF := itf c_6 hF
      refine lv_iconst (v := (-1 : Int32)) hx hb dX11_sets_23 (by decide) ?_
      have hF := Option.some.inj hF
      subst hF
      exact m_iret X hr hlk hH hS dX11_sets_24
noncomputable def fX1_swaysOne_2 (p0 : Nat) (v1 : Int32) (K_27 : Wd → Option (Int32 × Wd)) (K_35 : Wd → Option (Int32 × Wd)) : Nat → Int32 → Wd → Option (Int32 × Wd)
  | 0, _, _ => none
  | n + 1, v2, w => if (31 : Int32) ≤ v2 then K_35  w else (gfR 1 1 p0 w).bind fun r_2 => (rdR 14 r_2 v2 w).bind fun r_3 => (rdI r_3 v1 w).bind fun x_4 => (gfR 1 1 p0 w).bind fun r_5 => (rdR 14 r_5 (0 : Int32) w).bind fun r_6 => (rdI r_6 v1 w).bind fun x_7 => if x_4 = x_7 then fX1_swaysOne_2 p0 v1 K_27 K_35 n (v2 + (1 : Int32)) w else K_27  w
noncomputable def fX1_swaysOne (p0 : Nat) (v1 : Int32) (w : Wd) : Option (Int32 × Wd) := fX1_swaysOne_2 p0 v1 (fun  (w_9 : Wd) => some ((1 : Int32), w_9)) (fun  (w_10 : Wd) => some ((0 : Int32), w_10)) FV (1 : Int32) w
set_option maxHeartbeats 4000000 in
set_option maxRecDepth 100000 in
theorem l_X1_swaysOne_2 (X : Cx p R s m args c cX1_swaysOne 3 RX1 D cI cT cII 0 0) (hc : cells ≤ R.cells ∧ slots ≤ R.slots) (p0 : Nat) (v1 : Int32) (K_27 : Wd → Option (Int32 × Wd)) (K_35 : Wd → Option (Int32 × Wd)) (res : Int32 × Wd)
    (hK_27 : ∀  (w : Wd), K_27  w = some res → ∀ (H : Heap) (locs : List Loc) (ls : Array Slot), Hd D cI cT cII base w H → va_S (fun q => base ≤ q) s.heap H locs → lv_has ls 3 [] → W p l e R s m args below meth c H locs cells slots Q (F0 m 27 ls []))
    (hK_35 : ∀  (w : Wd), K_35  w = some res → ∀ (H : Heap) (locs : List Loc) (ls : Array Slot), Hd D cI cT cII base w H → va_S (fun q => base ≤ q) s.heap H locs → lv_has ls 3 [] → W p l e R s m args below meth c H locs cells slots Q (F0 m 35 ls [])) :
    ∀ (n : Nat) (v2 : Int32) (w : Wd), fX1_swaysOne_2 p0 v1 K_27 K_35 n v2 w = some res → ∀ (H : Heap) (locs : List Loc) (ls : Array Slot), Hd D cI cT cII base w H → va_S (fun q => base ≤ q) s.heap H locs → lv_has ls 3 [(0, .ref (base + p0)), (1, .int v1), (2, .int v2)] → W p l e R s m args below meth c H locs cells slots Q (F0 m 2 ls []) := by
  have hx := X.1
  have hb := X.2.1
  intro n
  induction n with
  | zero =>
    intro v2 w hF
    rw [fX1_swaysOne_2] at hF
    cases hF
  | succ n ih =>
    intro v2 w hF H locs ls hH hS hl
    rw [fX1_swaysOne_2] at hF
    refine lv_iload_n hx hb dX1_swaysOne_2 rfl (lv_at hl 2 rfl) ?_
    refine lv_bipush (v := (31 : Int32)) hx hb dX1_swaysOne_3 (by decide) ?_
    refine lv_icmp_ge (tgt := 35) hx hb dX1_swaysOne_5 (by decide) (fun c_1 => ?_) (fun c_1 => ?_)
    · replace hF := itt c_1 hF
      exact hK_35  w hF H locs ls hH hS (lv_sub hl [] rfl)
    · replace hF := itf c_1 hF
      refine lv_aload_n hx hb dX1_swaysOne_8 rfl (lv_at hl 0 rfl) ?_
      obtain ⟨r_2, e_2, hF⟩ := bnd hF
      refine m_gR X hH e_2 gg_X1_16 dX1_swaysOne_9 ?_
      refine lv_iload_n hx hb dX1_swaysOne_12 rfl (lv_at hl 2 rfl) ?_
      obtain ⟨r_3, e_3, hF⟩ := bnd hF
      refine m_rdII X hH e_3 dX1_swaysOne_13 ?_
      refine lv_iload_n hx hb dX1_swaysOne_14 rfl (lv_at hl 1 rfl) ?_
      obtain ⟨x_4, e_4, hF⟩ := bnd hF
      refine m_rdI X hH e_4 dX1_swaysOne_15 ?_
      refine lv_aload_n hx hb dX1_swaysOne_16 rfl (lv_at hl 0 rfl) ?_
      obtain ⟨r_5, e_5, hF⟩ := bnd hF
      refine m_gR X hH e_5 gg_X1_16 dX1_swaysOne_17 ?_
      refine lv_iconst (v := (0 : Int32)) hx hb dX1_swaysOne_20 (by decide) ?_
      obtain ⟨r_6, e_6, hF⟩ := bnd hF
      refine m_rdII X hH e_6 dX1_swaysOne_21 ?_
      refine lv_iload_n hx hb dX1_swaysOne_22 rfl (lv_at hl 1 rfl) ?_
      obtain ⟨x_7, e_7, hF⟩ := bnd hF
      refine m_rdI X hH e_7 dX1_swaysOne_23 ?_
      refine lv_icmp_eq (tgt := 29) hx hb dX1_swaysOne_24 (by decide) (fun c_8 => ?_) (fun c_8 => ?_)
      · replace hF := itt c_8 hF
        refine lv_iinc (v := v2 + (1 : Int32)) (lv' := [(2, .int (v2 + (1 : Int32))), (0, .ref (base + p0)), (1, .int v1)]) hx hb dX1_swaysOne_29 hl (k := 2) rfl (congrArg (fun z => v2 + z) (by decide)) (by decide) rfl (fun ls hl => ?_)
        refine lv_goto (tgt := 2) hx hb dX1_swaysOne_32 (by decide) ?_
        exact ih (v2 + (1 : Int32)) w hF H locs ls hH hS (lv_sub hl [1, 2, 0] rfl)
      · replace hF := itf c_8 hF
        exact hK_27  w hF H locs ls hH hS (lv_sub hl [] rfl)
set_option maxHeartbeats 4000000 in
set_option maxRecDepth 100000 in
theorem k_X1_swaysOne (l : Launch) (D : va_G) (cI cT cII : ClassId) (base : Nat) (p0 : Nat) (v1 : Int32) (w : Wd) (res : Int32 × Wd) (hF : fX1_swaysOne p0 v1 w = some res) : Ct l yX1_swaysOne cX1_swaysOne 3 (some .boolean) { frames := 0, cells := 0, slots := 0, locals := 0 } D cI cT cII base [.ref (base + p0), .int v1] w res.2 (some (.int res.1)) 0 0 := by
  unfold fX1_swaysOne at hF
  refine m_enter (by decide) (Nat.le_of_ble_eq_true rfl) ?_
  intro p e s m below meth c ls X hr hlk hnm hH hS hl
  have hx := X.1
  have hb := X.2.1
  have hc : (0 : Nat) ≤ ({ frames := 0, cells := 0, slots := 0, locals := 0 } : Room).cells ∧ (0 : Nat) ≤ ({ frames := 0, cells := 0, slots := 0, locals := 0 } : Room).slots := ⟨Nat.zero_le _, Nat.zero_le _⟩
  obtain ⟨H, hHe⟩ : ∃ H : Heap, H = s.heap := ⟨_, rfl⟩
  obtain ⟨locs, hle⟩ : ∃ L : List Loc, L = [] := ⟨_, rfl⟩
  have hl : lv_has ls 3 [(0, .ref (base + p0)), (1, .int v1)] := hl
  rw [← hHe] at hH
  have hS : va_S (fun q => base ≤ q) s.heap H locs := by rw [hHe, hle]; exact hS
  rw [← hle]
  show W p l e _ s m _ below meth c s.heap locs 0 0 _ _
  rw [← hHe]
  refine lv_iconst (v := (1 : Int32)) hx hb dX1_swaysOne_0 (by decide) ?_
  refine lv_istore_n (lv' := [(2, .int (1 : Int32)), (0, .ref (base + p0)), (1, .int v1)]) hx hb dX1_swaysOne_1 rfl hl (by decide) rfl (fun ls hl => ?_)
  refine l_X1_swaysOne_2 X hc p0 v1 _ _ res ?_ ?_ FV (1 : Int32) w hF H locs ls hH hS (lv_sub hl [1, 2, 0] rfl)
  · intro  w_9 hF H locs ls hH hS hl
    refine lv_iconst (v := (1 : Int32)) hx hb dX1_swaysOne_27 (by decide) ?_
    have hF := Option.some.inj hF
    subst hF
    exact m_zret (r := (1 : Int32)) X hr hlk (by decide) hH hS dX1_swaysOne_28
  · intro  w_10 hF H locs ls hH hS hl
    refine lv_iconst (v := (0 : Int32)) hx hb dX1_swaysOne_35 (by decide) ?_
    have hF := Option.some.inj hF
    subst hF
    exact m_zret (r := (0 : Int32)) X hr hlk (by decide) hH hS dX1_swaysOne_36
noncomputable def fX1_swaying_4 (p0 : Nat) (v1 : Int32) (K_26 : Int32 → Wd → Option (Int32 × Wd)) : Nat → Int32 → Int32 → Wd → Option (Int32 × Wd)
  | 0, _, _, _ => none
  | n + 1, v2, v3, w => if v1 ≤ v3 then K_26 v2 w else (isO 1 p0 w).bind fun u_2 => (fX1_swaysOne p0 v3 w).bind fun q_3 => if q_3.1 = 0 then fX1_swaying_4 p0 v1 K_26 n v2 (v3 + (1 : Int32)) q_3.2 else fX1_swaying_4 p0 v1 K_26 n (v2 + (1 : Int32)) (v3 + (1 : Int32)) q_3.2
noncomputable def fX1_swaying (p0 : Nat) (v1 : Int32) (w : Wd) : Option (Int32 × Wd) := fX1_swaying_4 p0 v1 (fun (v2_6 : Int32) (w_5 : Wd) => some (v2_6, w_5)) FV (0 : Int32) (0 : Int32) w
set_option maxHeartbeats 4000000 in
set_option maxRecDepth 100000 in
theorem l_X1_swaying_4 (X : Cx p R s m args c cX1_swaying 4 RX1 D cI cT cII 1 22) (hc : cells ≤ R.cells ∧ slots ≤ R.slots) (p0 : Nat) (v1 : Int32) (K_26 : Int32 → Wd → Option (Int32 × Wd)) (res : Int32 × Wd)
    (hK_26 : ∀ (z2 : Int32) (w : Wd), K_26 z2 w = some res → ∀ (H : Heap) (locs : List Loc) (ls : Array Slot), Hd D cI cT cII base w H → va_S (fun q => base ≤ q) s.heap H locs → lv_has ls 4 [(2, .int z2)] → W p l e R s m args below meth c H locs cells slots Q (F0 m 26 ls [])) :
    ∀ (n : Nat) (v2 : Int32) (v3 : Int32) (w : Wd), fX1_swaying_4 p0 v1 K_26 n v2 v3 w = some res → ∀ (H : Heap) (locs : List Loc) (ls : Array Slot), Hd D cI cT cII base w H → va_S (fun q => base ≤ q) s.heap H locs → lv_has ls 4 [(0, .ref (base + p0)), (1, .int v1), (2, .int v2), (3, .int v3)] → W p l e R s m args below meth c H locs cells slots Q (F0 m 4 ls []) := by
  have hx := X.1
  have hb := X.2.1
  intro n
  induction n with
  | zero =>
    intro v2 v3 w hF
    rw [fX1_swaying_4] at hF
    cases hF
  | succ n ih =>
    intro v2 v3 w hF H locs ls hH hS hl
    rw [fX1_swaying_4] at hF
    refine lv_iload_n hx hb dX1_swaying_4 rfl (lv_at hl 3 rfl) ?_
    refine lv_iload_n hx hb dX1_swaying_5 rfl (lv_at hl 1 rfl) ?_
    refine lv_icmp_ge (tgt := 26) hx hb dX1_swaying_6 (by decide) (fun c_1 => ?_) (fun c_1 => ?_)
    · replace hF := itt c_1 hF
      exact hK_26 v2 w hF H locs ls hH hS (lv_sub hl [2] rfl)
    · replace hF := itf c_1 hF
      refine lv_aload_n hx hb dX1_swaying_9 rfl (lv_at hl 0 rfl) ?_
      refine lv_iload_n hx hb dX1_swaying_10 rfl (lv_at hl 3 rfl) ?_
      obtain ⟨u_2, ou_2, hF⟩ := bnd hF
      obtain ⟨q_3, e_3, hF⟩ := bnd hF
      refine m_callV (As := [.int v3]) (rest := []) X hH hS hl.1 ou_2 rfl (by decide) (k_X1_swaysOne l D cI cT cII base p0 v3 w q_3 e_3) q_X1_swaysOne kw_601 kw_603 kw_12 rfl rfl (Nat.le_of_ble_eq_true rfl) ⟨by decide, by decide⟩ hc dX1_swaying_11 (fun H locs hH hS => W.eq (g2 := F0 m 14 ls [.int q_3.1]) rfl ?_)
      refine lv_if_eq (tgt := 20) hx hb dX1_swaying_14 (by decide) (fun c_4 => ?_) (fun c_4 => ?_)
      · replace hF := itt c_4 hF
        refine lv_iinc (v := v3 + (1 : Int32)) (lv' := [(3, .int (v3 + (1 : Int32))), (0, .ref (base + p0)), (1, .int v1), (2, .int v2)]) hx hb dX1_swaying_20 hl (k := 3) rfl (congrArg (fun z => v3 + z) (by decide)) (by decide) rfl (fun ls hl => ?_)
        refine lv_goto (tgt := 4) hx hb dX1_swaying_23 (by decide) ?_
        exact ih v2 (v3 + (1 : Int32)) q_3.2 hF H locs ls hH hS (lv_sub hl [1, 2, 3, 0] rfl)
      · replace hF := itf c_4 hF
        refine lv_iinc (v := v2 + (1 : Int32)) (lv' := [(2, .int (v2 + (1 : Int32))), (0, .ref (base + p0)), (1, .int v1), (3, .int v3)]) hx hb dX1_swaying_17 hl (k := 2) rfl (congrArg (fun z => v2 + z) (by decide)) (by decide) rfl (fun ls hl => ?_)
        refine lv_iinc (v := v3 + (1 : Int32)) (lv' := [(3, .int (v3 + (1 : Int32))), (2, .int (v2 + (1 : Int32))), (0, .ref (base + p0)), (1, .int v1)]) hx hb dX1_swaying_20 hl (k := 3) rfl (congrArg (fun z => v3 + z) (by decide)) (by decide) rfl (fun ls hl => ?_)
        refine lv_goto (tgt := 4) hx hb dX1_swaying_23 (by decide) ?_
        exact ih (v2 + (1 : Int32)) (v3 + (1 : Int32)) q_3.2 hF H locs ls hH hS (lv_sub hl [2, 3, 1, 0] rfl)
set_option maxHeartbeats 4000000 in
set_option maxRecDepth 100000 in
theorem k_X1_swaying (l : Launch) (D : va_G) (cI cT cII : ClassId) (base : Nat) (p0 : Nat) (v1 : Int32) (w : Wd) (res : Int32 × Wd) (hF : fX1_swaying p0 v1 w = some res) : Ct l yX1_swaying cX1_swaying 4 (some .int) { frames := 1, cells := 0, slots := 0, locals := 22 } D cI cT cII base [.ref (base + p0), .int v1] w res.2 (some (.int res.1)) 0 0 := by
  unfold fX1_swaying at hF
  refine m_enter (by decide) (Nat.le_of_ble_eq_true rfl) ?_
  intro p e s m below meth c ls X hr hlk hnm hH hS hl
  have hx := X.1
  have hb := X.2.1
  have hc : (0 : Nat) ≤ ({ frames := 1, cells := 0, slots := 0, locals := 22 } : Room).cells ∧ (0 : Nat) ≤ ({ frames := 1, cells := 0, slots := 0, locals := 22 } : Room).slots := ⟨Nat.zero_le _, Nat.zero_le _⟩
  obtain ⟨H, hHe⟩ : ∃ H : Heap, H = s.heap := ⟨_, rfl⟩
  obtain ⟨locs, hle⟩ : ∃ L : List Loc, L = [] := ⟨_, rfl⟩
  have hl : lv_has ls 4 [(0, .ref (base + p0)), (1, .int v1)] := hl
  rw [← hHe] at hH
  have hS : va_S (fun q => base ≤ q) s.heap H locs := by rw [hHe, hle]; exact hS
  rw [← hle]
  show W p l e _ s m _ below meth c s.heap locs 0 0 _ _
  rw [← hHe]
  refine lv_iconst (v := (0 : Int32)) hx hb dX1_swaying_0 (by decide) ?_
  refine lv_istore_n (lv' := [(2, .int (0 : Int32)), (0, .ref (base + p0)), (1, .int v1)]) hx hb dX1_swaying_1 rfl hl (by decide) rfl (fun ls hl => ?_)
  refine lv_iconst (v := (0 : Int32)) hx hb dX1_swaying_2 (by decide) ?_
  refine lv_istore_n (lv' := [(3, .int (0 : Int32)), (2, .int (0 : Int32)), (0, .ref (base + p0)), (1, .int v1)]) hx hb dX1_swaying_3 rfl hl (by decide) rfl (fun ls hl => ?_)
  refine l_X1_swaying_4 X hc p0 v1 _ res ?_ FV (0 : Int32) (0 : Int32) w hF H locs ls hH hS (lv_sub hl [2, 3, 1, 0] rfl)
  · intro v2_6 w_5 hF H locs ls hH hS hl
    refine lv_iload_n hx hb dX1_swaying_26 rfl (lv_at hl 0 rfl) ?_
    have hF := Option.some.inj hF
    subst hF
    exact m_iret X hr hlk hH hS dX1_swaying_27
noncomputable def fX11_sways (p0 : Nat) (w : Wd) : Option (Int32 × Wd) := (isO 10 p0 w).bind fun u_1 => (fX11_daysNow p0 w).bind fun q_2 => (gfR 10 10 p0 q_2.2).bind fun r_3 => (gfI 3 4 r_3 q_2.2).bind fun x_4 => (isO 1 q_2.1 q_2.2).bind fun u_5 => (fX1_swaying q_2.1 x_4 q_2.2).bind fun q_6 => some (q_6.1, q_6.2)
set_option maxHeartbeats 4000000 in
set_option maxRecDepth 100000 in
theorem k_X11_sways (l : Launch) (D : va_G) (cI cT cII : ClassId) (base : Nat) (p0 : Nat) (w : Wd) (res : Int32 × Wd) (hF : fX11_sways p0 w = some res) : Ct l yX11_sways cX11_sways 1 (some .int) { frames := 6, cells := 0, slots := 0, locals := 137 } D cI cT cII base [.ref (base + p0)] w res.2 (some (.int res.1)) 0 0 := by
  unfold fX11_sways at hF
  refine m_enter (by decide) (Nat.le_of_ble_eq_true rfl) ?_
  intro p e s m below meth c ls X hr hlk hnm hH hS hl
  have hx := X.1
  have hb := X.2.1
  have hc : (0 : Nat) ≤ ({ frames := 6, cells := 0, slots := 0, locals := 137 } : Room).cells ∧ (0 : Nat) ≤ ({ frames := 6, cells := 0, slots := 0, locals := 137 } : Room).slots := ⟨Nat.zero_le _, Nat.zero_le _⟩
  obtain ⟨H, hHe⟩ : ∃ H : Heap, H = s.heap := ⟨_, rfl⟩
  obtain ⟨locs, hle⟩ : ∃ L : List Loc, L = [] := ⟨_, rfl⟩
  have hl : lv_has ls 1 [(0, .ref (base + p0))] := hl
  rw [← hHe] at hH
  have hS : va_S (fun q => base ≤ q) s.heap H locs := by rw [hHe, hle]; exact hS
  rw [← hle]
  show W p l e _ s m _ below meth c s.heap locs 0 0 _ _
  rw [← hHe]
  refine lv_aload_n hx hb dX11_sways_0 rfl (lv_at hl 0 rfl) ?_
  obtain ⟨u_1, ou_1, hF⟩ := bnd hF
  obtain ⟨q_2, e_2, hF⟩ := bnd hF
  refine m_callV (As := []) (rest := []) X hH hS hl.1 ou_1 rfl (by decide) (k_X11_daysNow l D cI cT cII base p0 w q_2 e_2) q_X11_daysNow kw_520 kw_522 kw_9 rfl rfl (Nat.le_of_ble_eq_true rfl) ⟨by decide, by decide⟩ hc dX11_sways_1 (fun H locs hH hS => W.eq (g2 := F0 m 4 ls [.ref (base + q_2.1)]) rfl ?_)
  refine lv_aload_n hx hb dX11_sways_4 rfl (lv_at hl 0 rfl) ?_
  obtain ⟨r_3, e_3, hF⟩ := bnd hF
  refine m_gR X hH e_3 gg_X11_80 dX11_sways_5 ?_
  obtain ⟨x_4, e_4, hF⟩ := bnd hF
  refine m_hI X hH e_4 gg_X11_116 dX11_sways_8 ?_
  obtain ⟨u_5, ou_5, hF⟩ := bnd hF
  obtain ⟨q_6, e_6, hF⟩ := bnd hF
  refine m_callV (As := [.int x_4]) (rest := []) X hH hS hl.1 ou_5 rfl (by decide) (k_X1_swaying l D cI cT cII base q_2.1 x_4 q_2.2 q_6 e_6) q_X1_swaying kw_597 kw_598 kw_599 rfl rfl (Nat.le_of_ble_eq_true rfl) ⟨by decide, by decide⟩ hc dX11_sways_11 (fun H locs hH hS => W.eq (g2 := F0 m 14 ls [.int q_6.1]) rfl ?_)
  have hF := Option.some.inj hF
  subst hF
  exact m_iret X hr hlk hH hS dX11_sways_14
noncomputable def fX5_isWon (p0 : Nat) (p1 : Nat) (p2 : Nat) (v3 : Int32) (v4 : Int32) (v5 : Int32) (w : Wd) : Option (Int32 × Wd) := (rdI p2 v3 w).bind fun x_1 => (fX11_keptWithin (x_1 + v4) w).bind fun q_2 => (isO 4 p0 q_2.2).bind fun u_3 => (fX5_wonWith p0 p1 p2 v3 q_2.1 q_2.2).bind fun q_4 => if ((q_4.1 >>> (v5 &&& 31)) &&& (1 : Int32)) = (1 : Int32) then some ((1 : Int32), q_4.2) else some ((0 : Int32), q_4.2)
set_option maxHeartbeats 4000000 in
set_option maxRecDepth 100000 in
theorem k_X5_isWon (l : Launch) (D : va_G) (cI cT cII : ClassId) (base : Nat) (p0 : Nat) (p1 : Nat) (p2 : Nat) (v3 : Int32) (v4 : Int32) (v5 : Int32) (w : Wd) (res : Int32 × Wd) (hF : fX5_isWon p0 p1 p2 v3 v4 v5 w = some res) : Ct l yX5_isWon cX5_isWon 7 (some .boolean) { frames := 5, cells := 0, slots := 0, locals := 115 } D cI cT cII base [.ref (base + p0), .ref (base + p1), .ref (base + p2), .int v3, .int v4, .int v5] w res.2 (some (.int res.1)) 0 0 := by
  unfold fX5_isWon at hF
  refine m_enter (by decide) (Nat.le_of_ble_eq_true rfl) ?_
  intro p e s m below meth c ls X hr hlk hnm hH hS hl
  have hx := X.1
  have hb := X.2.1
  have hc : (0 : Nat) ≤ ({ frames := 5, cells := 0, slots := 0, locals := 115 } : Room).cells ∧ (0 : Nat) ≤ ({ frames := 5, cells := 0, slots := 0, locals := 115 } : Room).slots := ⟨Nat.zero_le _, Nat.zero_le _⟩
  obtain ⟨H, hHe⟩ : ∃ H : Heap, H = s.heap := ⟨_, rfl⟩
  obtain ⟨locs, hle⟩ : ∃ L : List Loc, L = [] := ⟨_, rfl⟩
  have hl : lv_has ls 7 [(0, .ref (base + p0)), (1, .ref (base + p1)), (2, .ref (base + p2)), (3, .int v3), (4, .int v4), (5, .int v5)] := hl
  rw [← hHe] at hH
  have hS : va_S (fun q => base ≤ q) s.heap H locs := by rw [hHe, hle]; exact hS
  rw [← hle]
  show W p l e _ s m _ below meth c s.heap locs 0 0 _ _
  rw [← hHe]
  refine lv_aload_n hx hb dX5_isWon_0 rfl (lv_at hl 0 rfl) ?_
  refine lv_aload_n hx hb dX5_isWon_1 rfl (lv_at hl 1 rfl) ?_
  refine lv_aload_n hx hb dX5_isWon_2 rfl (lv_at hl 2 rfl) ?_
  refine lv_iload_n hx hb dX5_isWon_3 rfl (lv_at hl 3 rfl) ?_
  refine lv_aload_n hx hb dX5_isWon_4 rfl (lv_at hl 2 rfl) ?_
  refine lv_iload_n hx hb dX5_isWon_5 rfl (lv_at hl 3 rfl) ?_
  obtain ⟨x_1, e_1, hF⟩ := bnd hF
  refine m_rdI X hH e_1 dX5_isWon_6 ?_
  refine lv_iload hx hb dX5_isWon_7 (lv_at hl 4 rfl) ?_
  refine lv_iadd hx hb dX5_isWon_9 ?_
  obtain ⟨q_2, e_2, hF⟩ := bnd hF
  refine m_callSN (As := [.int (x_1 + v4)]) (rest := [.int v3, .ref (base + p2), .ref (base + p1), .ref (base + p0)]) X hH hS hl.1 (k_X11_keptWithin l D cI cT cII base (x_1 + v4) w q_2 e_2) q_X11_keptWithin kw_648 kw_536 rfl rfl (Nat.le_of_ble_eq_true rfl) ⟨by decide, by decide⟩ hc dX5_isWon_10 (fun H locs hH hS => W.eq (g2 := F0 m 13 ls [.int q_2.1, .int v3, .ref (base + p2), .ref (base + p1), .ref (base + p0)]) rfl ?_)
  obtain ⟨u_3, ou_3, hF⟩ := bnd hF
  obtain ⟨q_4, e_4, hF⟩ := bnd hF
  refine m_callV (As := [.ref (base + p1), .ref (base + p2), .int v3, .int q_2.1]) (rest := []) X hH hS hl.1 ou_3 rfl (by decide) (k_X5_wonWith l D cI cT cII base p0 p1 p2 v3 q_2.1 q_2.2 q_4 e_4) q_X5_wonWith kw_649 kw_651 kw_14 rfl rfl (Nat.le_of_ble_eq_true rfl) ⟨by decide, by decide⟩ hc dX5_isWon_13 (fun H locs hH hS => W.eq (g2 := F0 m 16 ls [.int q_4.1]) rfl ?_)
  refine lv_istore (lv' := [(6, .int q_4.1), (0, .ref (base + p0)), (1, .ref (base + p1)), (2, .ref (base + p2)), (3, .int v3), (4, .int v4), (5, .int v5)]) hx hb dX5_isWon_16 hl (by decide) rfl (fun ls hl => ?_)
  refine lv_iload hx hb dX5_isWon_18 (lv_at hl 0 rfl) ?_
  refine lv_iload hx hb dX5_isWon_20 (lv_at hl 6 rfl) ?_
  refine lv_ishr hx hb dX5_isWon_22 ?_
  refine lv_iconst (v := (1 : Int32)) hx hb dX5_isWon_23 (by decide) ?_
  refine lv_iand hx hb dX5_isWon_24 ?_
  refine lv_iconst (v := (1 : Int32)) hx hb dX5_isWon_25 (by decide) ?_
  refine lv_icmp_ne (tgt := 33) hx hb dX5_isWon_26 (by decide) (fun c_5 => ?_) (fun c_5 => ?_)
  · replace hF := itf c_5 hF
    refine lv_iconst (v := (0 : Int32)) hx hb dX5_isWon_33 (by decide) ?_
    have hF := Option.some.inj hF
    subst hF
    exact m_zret (r := (0 : Int32)) X hr hlk (by decide) hH hS dX5_isWon_34
  · replace hF := itt c_5 hF
    refine lv_iconst (v := (1 : Int32)) hx hb dX5_isWon_29 (by decide) ?_
    refine lv_goto (tgt := 34) hx hb dX5_isWon_30 (by decide) ?_
    have hF := Option.some.inj hF
    subst hF
    exact m_zret (r := (1 : Int32)) X hr hlk (by decide) hH hS dX5_isWon_34
noncomputable def fX5_leastTurn_13 (p0 : Nat) (p1 : Nat) (p2 : Nat) (v3 : Int32) (v4 : Int32) (K_36 : Int32 → Wd → Option (Int32 × Wd)) (K_63 : Int32 → Wd → Option (Int32 × Wd)) (K_81 : Wd → Option (Int32 × Wd)) : Nat → Int32 → Wd → Option (Int32 × Wd)
  | 0, _, _ => none
  | n + 1, v5, w => (gfI 3 4 p1 w).bind fun x_2 => if x_2 ≤ v5 then K_81  w else (isO 4 p0 w).bind fun u_4 => (fX5_isWon p0 p1 p2 v5 v4 v3 w).bind fun q_5 => if q_5.1 = 0 then (isO 4 p0 q_5.2).bind fun u_7 => (fX5_isWon p0 p1 p2 v5 (-v4) v3 q_5.2).bind fun q_8 => if q_8.1 = 0 then fX5_leastTurn_13 p0 p1 p2 v3 v4 K_36 K_63 K_81 n (v5 + (1 : Int32)) q_8.2 else K_63 v5 q_8.2 else K_36 v5 q_5.2
noncomputable def fX5_leastTurn_3 (p0 : Nat) (p1 : Nat) (p2 : Nat) (v3 : Int32) (K_36 : Int32 → Int32 → Wd → Option (Int32 × Wd)) (K_63 : Int32 → Int32 → Wd → Option (Int32 × Wd)) (K_87 : Wd → Option (Int32 × Wd)) : Nat → Int32 → Wd → Option (Int32 × Wd)
  | 0, _, _ => none
  | n + 1, v4, w => if (20 : Int32) < v4 then K_87  w else fX5_leastTurn_13 p0 p1 p2 v3 v4 (fun (v5_11 : Int32) (w_10 : Wd) => K_36 v4 v5_11 w_10) (fun (v5_13 : Int32) (w_12 : Wd) => K_63 v4 v5_13 w_12) (fun  (w_14 : Wd) => fX5_leastTurn_3 p0 p1 p2 v3 K_36 K_63 K_87 n (v4 + (1 : Int32)) w_14) FV (0 : Int32) w
noncomputable def fX5_leastTurn (p0 : Nat) (p1 : Nat) (p2 : Nat) (v3 : Int32) (w : Wd) : Option (Int32 × Wd) := fX5_leastTurn_3 p0 p1 p2 v3 (fun (v4_16 : Int32) (v5_17 : Int32) (w_15 : Wd) => some ((((100 : Int32) * v5_17) + (20 : Int32)) + v4_16, w_15)) (fun (v4_19 : Int32) (v5_20 : Int32) (w_18 : Wd) => some ((((100 : Int32) * v5_20) + (20 : Int32)) - v4_19, w_18)) (fun  (w_21 : Wd) => some ((-4 : Int32), w_21)) FV (1 : Int32) w
set_option maxHeartbeats 4000000 in
set_option maxRecDepth 100000 in
theorem l_X5_leastTurn_13 (X : Cx p R s m args c cX5_leastTurn 6 RX5 D cI cT cII 6 141) (hc : cells ≤ R.cells ∧ slots ≤ R.slots) (p0 : Nat) (p1 : Nat) (p2 : Nat) (v3 : Int32) (v4 : Int32) (K_36 : Int32 → Wd → Option (Int32 × Wd)) (K_63 : Int32 → Wd → Option (Int32 × Wd)) (K_81 : Wd → Option (Int32 × Wd)) (res : Int32 × Wd)
    (hK_36 : ∀ (z5 : Int32) (w : Wd), K_36 z5 w = some res → ∀ (H : Heap) (locs : List Loc) (ls : Array Slot), Hd D cI cT cII base w H → va_S (fun q => base ≤ q) s.heap H locs → lv_has ls 6 [(4, .int v4), (5, .int z5)] → W p l e R s m args below meth c H locs cells slots Q (F0 m 36 ls []))
    (hK_63 : ∀ (z5 : Int32) (w : Wd), K_63 z5 w = some res → ∀ (H : Heap) (locs : List Loc) (ls : Array Slot), Hd D cI cT cII base w H → va_S (fun q => base ≤ q) s.heap H locs → lv_has ls 6 [(4, .int v4), (5, .int z5)] → W p l e R s m args below meth c H locs cells slots Q (F0 m 63 ls []))
    (hK_81 : ∀  (w : Wd), K_81  w = some res → ∀ (H : Heap) (locs : List Loc) (ls : Array Slot), Hd D cI cT cII base w H → va_S (fun q => base ≤ q) s.heap H locs → lv_has ls 6 [(0, .ref (base + p0)), (1, .ref (base + p1)), (2, .ref (base + p2)), (3, .int v3), (4, .int v4)] → W p l e R s m args below meth c H locs cells slots Q (F0 m 81 ls [])) :
    ∀ (n : Nat) (v5 : Int32) (w : Wd), fX5_leastTurn_13 p0 p1 p2 v3 v4 K_36 K_63 K_81 n v5 w = some res → ∀ (H : Heap) (locs : List Loc) (ls : Array Slot), Hd D cI cT cII base w H → va_S (fun q => base ≤ q) s.heap H locs → lv_has ls 6 [(0, .ref (base + p0)), (1, .ref (base + p1)), (2, .ref (base + p2)), (3, .int v3), (4, .int v4), (5, .int v5)] → W p l e R s m args below meth c H locs cells slots Q (F0 m 13 ls []) := by
  have hx := X.1
  have hb := X.2.1
  intro n
  induction n with
  | zero =>
    intro v5 w hF
    rw [fX5_leastTurn_13] at hF
    cases hF
  | succ n ih =>
    intro v5 w hF H locs ls hH hS hl
    rw [fX5_leastTurn_13] at hF
    refine lv_iload hx hb dX5_leastTurn_13 (lv_at hl 5 rfl) ?_
    refine lv_aload_n hx hb dX5_leastTurn_15 rfl (lv_at hl 1 rfl) ?_
    obtain ⟨x_2, e_2, hF⟩ := bnd hF
    refine m_hI X hH e_2 gg_X5_29 dX5_leastTurn_16 ?_
    refine lv_icmp_ge (tgt := 81) hx hb dX5_leastTurn_19 (by decide) (fun c_3 => ?_) (fun c_3 => ?_)
    · replace hF := itt c_3 hF
      exact hK_81  w hF H locs ls hH hS (lv_sub hl [0, 1, 2, 3, 4] rfl)
    · replace hF := itf c_3 hF
      refine lv_aload_n hx hb dX5_leastTurn_22 rfl (lv_at hl 0 rfl) ?_
      refine lv_aload_n hx hb dX5_leastTurn_23 rfl (lv_at hl 1 rfl) ?_
      refine lv_aload_n hx hb dX5_leastTurn_24 rfl (lv_at hl 2 rfl) ?_
      refine lv_iload hx hb dX5_leastTurn_25 (lv_at hl 5 rfl) ?_
      refine lv_iload hx hb dX5_leastTurn_27 (lv_at hl 4 rfl) ?_
      refine lv_iload_n hx hb dX5_leastTurn_29 rfl (lv_at hl 3 rfl) ?_
      obtain ⟨u_4, ou_4, hF⟩ := bnd hF
      obtain ⟨q_5, e_5, hF⟩ := bnd hF
      refine m_callV (As := [.ref (base + p1), .ref (base + p2), .int v5, .int v4, .int v3]) (rest := []) X hH hS hl.1 ou_4 rfl (by decide) (k_X5_isWon l D cI cT cII base p0 p1 p2 v5 v4 v3 w q_5 e_5) q_X5_isWon kw_644 kw_646 kw_13 rfl rfl (Nat.le_of_ble_eq_true rfl) ⟨by decide, by decide⟩ hc dX5_leastTurn_30 (fun H locs hH hS => W.eq (g2 := F0 m 33 ls [.int q_5.1]) rfl ?_)
      refine lv_if_eq (tgt := 48) hx hb dX5_leastTurn_33 (by decide) (fun c_6 => ?_) (fun c_6 => ?_)
      · replace hF := itt c_6 hF
        refine lv_aload_n hx hb dX5_leastTurn_48 rfl (lv_at hl 0 rfl) ?_
        refine lv_aload_n hx hb dX5_leastTurn_49 rfl (lv_at hl 1 rfl) ?_
        refine lv_aload_n hx hb dX5_leastTurn_50 rfl (lv_at hl 2 rfl) ?_
        refine lv_iload hx hb dX5_leastTurn_51 (lv_at hl 5 rfl) ?_
        refine lv_iload hx hb dX5_leastTurn_53 (lv_at hl 4 rfl) ?_
        refine lv_ineg hx hb dX5_leastTurn_55 ?_
        refine lv_iload_n hx hb dX5_leastTurn_56 rfl (lv_at hl 3 rfl) ?_
        obtain ⟨u_7, ou_7, hF⟩ := bnd hF
        obtain ⟨q_8, e_8, hF⟩ := bnd hF
        refine m_callV (As := [.ref (base + p1), .ref (base + p2), .int v5, .int (-v4), .int v3]) (rest := []) X hH hS hl.1 ou_7 rfl (by decide) (k_X5_isWon l D cI cT cII base p0 p1 p2 v5 (-v4) v3 q_5.2 q_8 e_8) q_X5_isWon kw_644 kw_646 kw_13 rfl rfl (Nat.le_of_ble_eq_true rfl) ⟨by decide, by decide⟩ hc dX5_leastTurn_57 (fun H locs hH hS => W.eq (g2 := F0 m 60 ls [.int q_8.1]) rfl ?_)
        refine lv_if_eq (tgt := 75) hx hb dX5_leastTurn_60 (by decide) (fun c_9 => ?_) (fun c_9 => ?_)
        · replace hF := itt c_9 hF
          refine lv_iinc (v := v5 + (1 : Int32)) (lv' := [(5, .int (v5 + (1 : Int32))), (0, .ref (base + p0)), (1, .ref (base + p1)), (2, .ref (base + p2)), (3, .int v3), (4, .int v4)]) hx hb dX5_leastTurn_75 hl (k := 5) rfl (congrArg (fun z => v5 + z) (by decide)) (by decide) rfl (fun ls hl => ?_)
          refine lv_goto (tgt := 13) hx hb dX5_leastTurn_78 (by decide) ?_
          exact ih (v5 + (1 : Int32)) q_8.2 hF H locs ls hH hS (lv_sub hl [1, 2, 3, 4, 5, 0] rfl)
        · replace hF := itf c_9 hF
          exact hK_63 v5 q_8.2 hF H locs ls hH hS (lv_sub hl [4, 5] rfl)
      · replace hF := itf c_6 hF
        exact hK_36 v5 q_5.2 hF H locs ls hH hS (lv_sub hl [4, 5] rfl)
set_option maxHeartbeats 4000000 in
set_option maxRecDepth 100000 in
theorem l_X5_leastTurn_3 (X : Cx p R s m args c cX5_leastTurn 6 RX5 D cI cT cII 6 141) (hc : cells ≤ R.cells ∧ slots ≤ R.slots) (p0 : Nat) (p1 : Nat) (p2 : Nat) (v3 : Int32) (K_36 : Int32 → Int32 → Wd → Option (Int32 × Wd)) (K_63 : Int32 → Int32 → Wd → Option (Int32 × Wd)) (K_87 : Wd → Option (Int32 × Wd)) (res : Int32 × Wd)
    (hK_36 : ∀ (z4 : Int32) (z5 : Int32) (w : Wd), K_36 z4 z5 w = some res → ∀ (H : Heap) (locs : List Loc) (ls : Array Slot), Hd D cI cT cII base w H → va_S (fun q => base ≤ q) s.heap H locs → lv_has ls 6 [(4, .int z4), (5, .int z5)] → W p l e R s m args below meth c H locs cells slots Q (F0 m 36 ls []))
    (hK_63 : ∀ (z4 : Int32) (z5 : Int32) (w : Wd), K_63 z4 z5 w = some res → ∀ (H : Heap) (locs : List Loc) (ls : Array Slot), Hd D cI cT cII base w H → va_S (fun q => base ≤ q) s.heap H locs → lv_has ls 6 [(4, .int z4), (5, .int z5)] → W p l e R s m args below meth c H locs cells slots Q (F0 m 63 ls []))
    (hK_87 : ∀  (w : Wd), K_87  w = some res → ∀ (H : Heap) (locs : List Loc) (ls : Array Slot), Hd D cI cT cII base w H → va_S (fun q => base ≤ q) s.heap H locs → lv_has ls 6 [] → W p l e R s m args below meth c H locs cells slots Q (F0 m 87 ls [])) :
    ∀ (n : Nat) (v4 : Int32) (w : Wd), fX5_leastTurn_3 p0 p1 p2 v3 K_36 K_63 K_87 n v4 w = some res → ∀ (H : Heap) (locs : List Loc) (ls : Array Slot), Hd D cI cT cII base w H → va_S (fun q => base ≤ q) s.heap H locs → lv_has ls 6 [(0, .ref (base + p0)), (1, .ref (base + p1)), (2, .ref (base + p2)), (3, .int v3), (4, .int v4)] → W p l e R s m args below meth c H locs cells slots Q (F0 m 3 ls []) := by
  have hx := X.1
  have hb := X.2.1
  intro n
  induction n with
  | zero =>
    intro v4 w hF
    rw [fX5_leastTurn_3] at hF
    cases hF
  | succ n ih =>
    intro v4 w hF H locs ls hH hS hl
    rw [fX5_leastTurn_3] at hF
    refine lv_iload hx hb dX5_leastTurn_3 (lv_at hl 4 rfl) ?_
    refine lv_bipush (v := (20 : Int32)) hx hb dX5_leastTurn_5 (by decide) ?_
    refine lv_icmp_gt (tgt := 87) hx hb dX5_leastTurn_7 (by decide) (fun c_1 => ?_) (fun c_1 => ?_)
    · replace hF := itt c_1 hF
      exact hK_87  w hF H locs ls hH hS (lv_sub hl [] rfl)
    · replace hF := itf c_1 hF
      refine lv_iconst (v := (0 : Int32)) hx hb dX5_leastTurn_10 (by decide) ?_
      refine lv_istore (lv' := [(5, .int (0 : Int32)), (0, .ref (base + p0)), (1, .ref (base + p1)), (2, .ref (base + p2)), (3, .int v3), (4, .int v4)]) hx hb dX5_leastTurn_11 hl (by decide) rfl (fun ls hl => ?_)
      refine l_X5_leastTurn_13 X hc p0 p1 p2 v3 v4 _ _ _ res ?_ ?_ ?_ FV (0 : Int32) w hF H locs ls hH hS (lv_sub hl [1, 2, 3, 4, 5, 0] rfl)
      · intro v5_11 w_10 hF H locs ls hH hS hl
        exact hK_36 v4 v5_11 w_10 hF H locs ls hH hS (lv_sub hl [0, 1] rfl)
      · intro v5_13 w_12 hF H locs ls hH hS hl
        exact hK_63 v4 v5_13 w_12 hF H locs ls hH hS (lv_sub hl [0, 1] rfl)
      · intro  w_14 hF H locs ls hH hS hl
        refine lv_iinc (v := v4 + (1 : Int32)) (lv' := [(4, .int (v4 + (1 : Int32))), (0, .ref (base + p0)), (1, .ref (base + p1)), (2, .ref (base + p2)), (3, .int v3)]) hx hb dX5_leastTurn_81 hl (k := 4) rfl (congrArg (fun z => v4 + z) (by decide)) (by decide) rfl (fun ls hl => ?_)
        refine lv_goto (tgt := 3) hx hb dX5_leastTurn_84 (by decide) ?_
        exact ih (v4 + (1 : Int32)) w_14 hF H locs ls hH hS (lv_sub hl [1, 2, 3, 4, 0] rfl)
set_option maxHeartbeats 4000000 in
set_option maxRecDepth 100000 in
theorem k_X5_leastTurn (l : Launch) (D : va_G) (cI cT cII : ClassId) (base : Nat) (p0 : Nat) (p1 : Nat) (p2 : Nat) (v3 : Int32) (w : Wd) (res : Int32 × Wd) (hF : fX5_leastTurn p0 p1 p2 v3 w = some res) : Ct l yX5_leastTurn cX5_leastTurn 6 (some .int) { frames := 6, cells := 0, slots := 0, locals := 141 } D cI cT cII base [.ref (base + p0), .ref (base + p1), .ref (base + p2), .int v3] w res.2 (some (.int res.1)) 0 0 := by
  unfold fX5_leastTurn at hF
  refine m_enter (by decide) (Nat.le_of_ble_eq_true rfl) ?_
  intro p e s m below meth c ls X hr hlk hnm hH hS hl
  have hx := X.1
  have hb := X.2.1
  have hc : (0 : Nat) ≤ ({ frames := 6, cells := 0, slots := 0, locals := 141 } : Room).cells ∧ (0 : Nat) ≤ ({ frames := 6, cells := 0, slots := 0, locals := 141 } : Room).slots := ⟨Nat.zero_le _, Nat.zero_le _⟩
  obtain ⟨H, hHe⟩ : ∃ H : Heap, H = s.heap := ⟨_, rfl⟩
  obtain ⟨locs, hle⟩ : ∃ L : List Loc, L = [] := ⟨_, rfl⟩
  have hl : lv_has ls 6 [(0, .ref (base + p0)), (1, .ref (base + p1)), (2, .ref (base + p2)), (3, .int v3)] := hl
  rw [← hHe] at hH
  have hS : va_S (fun q => base ≤ q) s.heap H locs := by rw [hHe, hle]; exact hS
  rw [← hle]
  show W p l e _ s m _ below meth c s.heap locs 0 0 _ _
  rw [← hHe]
  refine lv_iconst (v := (1 : Int32)) hx hb dX5_leastTurn_0 (by decide) ?_
  refine lv_istore (lv' := [(4, .int (1 : Int32)), (0, .ref (base + p0)), (1, .ref (base + p1)), (2, .ref (base + p2)), (3, .int v3)]) hx hb dX5_leastTurn_1 hl (by decide) rfl (fun ls hl => ?_)
  refine l_X5_leastTurn_3 X hc p0 p1 p2 v3 _ _ _ res ?_ ?_ ?_ FV (1 : Int32) w hF H locs ls hH hS (lv_sub hl [1, 2, 3, 4, 0] rfl)
  · intro v4_16 v5_17 w_15 hF H locs ls hH hS hl
    refine lv_bipush (v := (100 : Int32)) hx hb dX5_leastTurn_36 (by decide) ?_
    refine lv_iload hx hb dX5_leastTurn_38 (lv_at hl 1 rfl) ?_
    refine lv_imul hx hb dX5_leastTurn_40 ?_
    refine lv_bipush (v := (20 : Int32)) hx hb dX5_leastTurn_41 (by decide) ?_
    refine lv_iadd hx hb dX5_leastTurn_43 ?_
    refine lv_iload hx hb dX5_leastTurn_44 (lv_at hl 0 rfl) ?_
    refine lv_iadd hx hb dX5_leastTurn_46 ?_
    have hF := Option.some.inj hF
    subst hF
    exact m_iret X hr hlk hH hS dX5_leastTurn_47
  · intro v4_19 v5_20 w_18 hF H locs ls hH hS hl
    refine lv_bipush (v := (100 : Int32)) hx hb dX5_leastTurn_63 (by decide) ?_
    refine lv_iload hx hb dX5_leastTurn_65 (lv_at hl 1 rfl) ?_
    refine lv_imul hx hb dX5_leastTurn_67 ?_
    refine lv_bipush (v := (20 : Int32)) hx hb dX5_leastTurn_68 (by decide) ?_
    refine lv_iadd hx hb dX5_leastTurn_70 ?_
    refine lv_iload hx hb dX5_leastTurn_71 (lv_at hl 0 rfl) ?_
    refine lv_isub hx hb dX5_leastTurn_73 ?_
    have hF := Option.some.inj hF
    subst hF
    exact m_iret X hr hlk hH hS dX5_leastTurn_74
  · intro  w_21 hF H locs ls hH hS hl
    refine lv_bipush (v := (-4 : Int32)) hx hb dX5_leastTurn_87 (by decide) ?_
    have hF := Option.some.inj hF
    subst hF
    exact m_iret X hr hlk hH hS dX5_leastTurn_89
noncomputable def fX11_tempt (p0 : Nat) (v1 : Int32) (v2 : Int32) (w : Wd) : Option (Int32 × Wd) := (gfR 10 10 p0 w).bind fun r_1 => (gfI 3 7 r_1 w).bind fun x_2 => (fX11_outside v1 x_2 w).bind fun q_3 => if q_3.1 = 0 then (fX11_outside v2 (31 : Int32) q_3.2).bind fun q_5 => if q_5.1 = 0 then (gfR 10 6 p0 q_5.2).bind fun r_7 => (gfR 10 10 p0 q_5.2).bind fun r_8 => (isO 10 p0 q_5.2).bind fun u_9 => (fX11_daysNow p0 q_5.2).bind fun q_10 => (gfR 1 0 q_10.1 q_10.2).bind fun r_11 => (rdR 14 r_11 v2 q_10.2).bind fun r_12 => (isO 4 r_7 q_10.2).bind fun u_13 => (fX5_leastTurn r_7 r_8 r_12 v1 q_10.2).bind fun q_14 => some (q_14.1, q_14.2) else some ((-1 : Int32), q_5.2) else some ((-1 : Int32), q_3.2)
set_option maxHeartbeats 4000000 in
set_option maxRecDepth 100000 in
theorem k_X11_tempt (l : Launch) (D : va_G) (cI cT cII : ClassId) (base : Nat) (p0 : Nat) (v1 : Int32) (v2 : Int32) (w : Wd) (res : Int32 × Wd) (hF : fX11_tempt p0 v1 v2 w = some res) : Ct l yX11_tempt cX11_tempt 3 (some .int) { frames := 7, cells := 0, slots := 0, locals := 166 } D cI cT cII base [.ref (base + p0), .int v1, .int v2] w res.2 (some (.int res.1)) 0 0 := by
  unfold fX11_tempt at hF
  refine m_enter (by decide) (Nat.le_of_ble_eq_true rfl) ?_
  intro p e s m below meth c ls X hr hlk hnm hH hS hl
  have hx := X.1
  have hb := X.2.1
  have hc : (0 : Nat) ≤ ({ frames := 7, cells := 0, slots := 0, locals := 166 } : Room).cells ∧ (0 : Nat) ≤ ({ frames := 7, cells := 0, slots := 0, locals := 166 } : Room).slots := ⟨Nat.zero_le _, Nat.zero_le _⟩
  obtain ⟨H, hHe⟩ : ∃ H : Heap, H = s.heap := ⟨_, rfl⟩
  obtain ⟨locs, hle⟩ : ∃ L : List Loc, L = [] := ⟨_, rfl⟩
  have hl : lv_has ls 3 [(0, .ref (base + p0)), (1, .int v1), (2, .int v2)] := hl
  rw [← hHe] at hH
  have hS : va_S (fun q => base ≤ q) s.heap H locs := by rw [hHe, hle]; exact hS
  rw [← hle]
  show W p l e _ s m _ below meth c s.heap locs 0 0 _ _
  rw [← hHe]
  refine lv_iload_n hx hb dX11_tempt_0 rfl (lv_at hl 1 rfl) ?_
  refine lv_aload_n hx hb dX11_tempt_1 rfl (lv_at hl 0 rfl) ?_
  obtain ⟨r_1, e_1, hF⟩ := bnd hF
  refine m_gR X hH e_1 gg_X11_80 dX11_tempt_2 ?_
  obtain ⟨x_2, e_2, hF⟩ := bnd hF
  refine m_hI X hH e_2 gg_X11_136 dX11_tempt_5 ?_
  obtain ⟨q_3, e_3, hF⟩ := bnd hF
  refine m_callS (As := [.int v1, .int x_2]) (rest := []) X hH hS hl.1 (k_X11_outside l D cI cT cII base v1 x_2 w q_3 e_3) q_X11_outside kw_511 kw_391 rfl rfl (Nat.le_of_ble_eq_true rfl) ⟨by decide, by decide⟩ hc dX11_tempt_8 (fun H locs hH hS => W.eq (g2 := F0 m 11 ls [.int q_3.1]) rfl ?_)
  refine lv_if_ne (tgt := 23) hx hb dX11_tempt_11 (by decide) (fun c_4 => ?_) (fun c_4 => ?_)
  · replace hF := itf c_4 hF
    refine lv_iconst (v := (-1 : Int32)) hx hb dX11_tempt_23 (by decide) ?_
    have hF := Option.some.inj hF
    subst hF
    exact m_iret X hr hlk hH hS dX11_tempt_24
  · replace hF := itt c_4 hF
    refine lv_iload_n hx hb dX11_tempt_14 rfl (lv_at hl 2 rfl) ?_
    refine lv_bipush (v := (31 : Int32)) hx hb dX11_tempt_15 (by decide) ?_
    obtain ⟨q_5, e_5, hF⟩ := bnd hF
    refine m_callS (As := [.int v2, .int (31 : Int32)]) (rest := []) X hH hS hl.1 (k_X11_outside l D cI cT cII base v2 (31 : Int32) q_3.2 q_5 e_5) q_X11_outside kw_511 kw_391 rfl rfl (Nat.le_of_ble_eq_true rfl) ⟨by decide, by decide⟩ hc dX11_tempt_17 (fun H locs hH hS => W.eq (g2 := F0 m 20 ls [.int q_5.1]) rfl ?_)
    refine lv_if_eq (tgt := 25) hx hb dX11_tempt_20 (by decide) (fun c_6 => ?_) (fun c_6 => ?_)
    · replace hF := itt c_6 hF
      refine lv_aload_n hx hb dX11_tempt_25 rfl (lv_at hl 0 rfl) ?_
      obtain ⟨r_7, e_7, hF⟩ := bnd hF
      refine m_gR X hH e_7 gg_X11_52 dX11_tempt_26 ?_
      refine lv_aload_n hx hb dX11_tempt_29 rfl (lv_at hl 0 rfl) ?_
      obtain ⟨r_8, e_8, hF⟩ := bnd hF
      refine m_gR X hH e_8 gg_X11_80 dX11_tempt_30 ?_
      refine lv_aload_n hx hb dX11_tempt_33 rfl (lv_at hl 0 rfl) ?_
      obtain ⟨u_9, ou_9, hF⟩ := bnd hF
      obtain ⟨q_10, e_10, hF⟩ := bnd hF
      refine m_callV (As := []) (rest := [.ref (base + r_8), .ref (base + r_7)]) X hH hS hl.1 ou_9 rfl (by decide) (k_X11_daysNow l D cI cT cII base p0 q_5.2 q_10 e_10) q_X11_daysNow kw_520 kw_522 kw_9 rfl rfl (Nat.le_of_ble_eq_true rfl) ⟨by decide, by decide⟩ hc dX11_tempt_34 (fun H locs hH hS => W.eq (g2 := F0 m 37 ls [.ref (base + q_10.1), .ref (base + r_8), .ref (base + r_7)]) rfl ?_)
      obtain ⟨r_11, e_11, hF⟩ := bnd hF
      refine m_hR X hH e_11 gg_X11_197 dX11_tempt_37 ?_
      refine lv_iload_n hx hb dX11_tempt_40 rfl (lv_at hl 2 rfl) ?_
      obtain ⟨r_12, e_12, hF⟩ := bnd hF
      refine m_rdII X hH e_12 dX11_tempt_41 ?_
      refine lv_iload_n hx hb dX11_tempt_42 rfl (lv_at hl 1 rfl) ?_
      obtain ⟨u_13, ou_13, hF⟩ := bnd hF
      obtain ⟨q_14, e_14, hF⟩ := bnd hF
      refine m_callV (As := [.ref (base + r_8), .ref (base + r_12), .int v1]) (rest := []) X hH hS hl.1 ou_13 rfl (by decide) (k_X5_leastTurn l D cI cT cII base r_7 r_8 r_12 v1 q_10.2 q_14 e_14) q_X5_leastTurn kw_640 kw_641 kw_642 rfl rfl (Nat.le_of_ble_eq_true rfl) ⟨by decide, by decide⟩ hc dX11_tempt_43 (fun H locs hH hS => W.eq (g2 := F0 m 46 ls [.int q_14.1]) rfl ?_)
      have hF := Option.some.inj hF
      subst hF
      exact m_iret X hr hlk hH hS dX11_tempt_46
    · replace hF := itf c_6 hF
      refine lv_iconst (v := (-1 : Int32)) hx hb dX11_tempt_23 (by decide) ?_
      have hF := Option.some.inj hF
      subst hF
      exact m_iret X hr hlk hH hS dX11_tempt_24
noncomputable def fX11_told (p0 : Nat) (v1 : Int32) (v2 : Int32) (w : Wd) : Option (Int32 × Wd) := (gfR 10 2 p0 w).bind fun r_1 => (gfI 9 3 r_1 w).bind fun x_2 => (fX11_outside v1 x_2 w).bind fun q_3 => if q_3.1 = 0 then if v2 = (0 : Int32) then (gfR 10 2 p0 q_3.2).bind fun r_8 => (gfR 9 0 r_8 q_3.2).bind fun r_9 => (rdI r_9 v1 q_3.2).bind fun x_10 => some (x_10, q_3.2) else if v2 = (1 : Int32) then (gfR 10 2 p0 q_3.2).bind fun r_11 => (gfR 9 1 r_11 q_3.2).bind fun r_12 => (rdI r_12 v1 q_3.2).bind fun x_13 => some (x_13, q_3.2) else if v2 = (2 : Int32) then (gfR 10 2 p0 q_3.2).bind fun r_14 => (gfR 9 2 r_14 q_3.2).bind fun r_15 => (rdI r_15 v1 q_3.2).bind fun x_16 => some (x_16 + (20 : Int32), q_3.2) else some ((-1 : Int32), q_3.2) else some ((-1 : Int32), q_3.2)
set_option maxHeartbeats 4000000 in
set_option maxRecDepth 100000 in
theorem k_X11_told (l : Launch) (D : va_G) (cI cT cII : ClassId) (base : Nat) (p0 : Nat) (v1 : Int32) (v2 : Int32) (w : Wd) (res : Int32 × Wd) (hF : fX11_told p0 v1 v2 w = some res) : Ct l yX11_told cX11_told 3 (some .int) { frames := 1, cells := 0, slots := 0, locals := 21 } D cI cT cII base [.ref (base + p0), .int v1, .int v2] w res.2 (some (.int res.1)) 0 0 := by
  unfold fX11_told at hF
  refine m_enter (by decide) (Nat.le_of_ble_eq_true rfl) ?_
  intro p e s m below meth c ls X hr hlk hnm hH hS hl
  have hx := X.1
  have hb := X.2.1
  have hc : (0 : Nat) ≤ ({ frames := 1, cells := 0, slots := 0, locals := 21 } : Room).cells ∧ (0 : Nat) ≤ ({ frames := 1, cells := 0, slots := 0, locals := 21 } : Room).slots := ⟨Nat.zero_le _, Nat.zero_le _⟩
  obtain ⟨H, hHe⟩ : ∃ H : Heap, H = s.heap := ⟨_, rfl⟩
  obtain ⟨locs, hle⟩ : ∃ L : List Loc, L = [] := ⟨_, rfl⟩
  have hl : lv_has ls 3 [(0, .ref (base + p0)), (1, .int v1), (2, .int v2)] := hl
  rw [← hHe] at hH
  have hS : va_S (fun q => base ≤ q) s.heap H locs := by rw [hHe, hle]; exact hS
  rw [← hle]
  show W p l e _ s m _ below meth c s.heap locs 0 0 _ _
  rw [← hHe]
  refine lv_iload_n hx hb dX11_told_0 rfl (lv_at hl 1 rfl) ?_
  refine lv_aload_n hx hb dX11_told_1 rfl (lv_at hl 0 rfl) ?_
  obtain ⟨r_1, e_1, hF⟩ := bnd hF
  refine m_gR X hH e_1 gg_X11_26 dX11_told_2 ?_
  obtain ⟨x_2, e_2, hF⟩ := bnd hF
  refine m_hI X hH e_2 gg_X11_167 dX11_told_5 ?_
  obtain ⟨q_3, e_3, hF⟩ := bnd hF
  refine m_callS (As := [.int v1, .int x_2]) (rest := []) X hH hS hl.1 (k_X11_outside l D cI cT cII base v1 x_2 w q_3 e_3) q_X11_outside kw_511 kw_391 rfl rfl (Nat.le_of_ble_eq_true rfl) ⟨by decide, by decide⟩ hc dX11_told_8 (fun H locs hH hS => W.eq (g2 := F0 m 11 ls [.int q_3.1]) rfl ?_)
  refine lv_if_eq (tgt := 16) hx hb dX11_told_11 (by decide) (fun c_4 => ?_) (fun c_4 => ?_)
  · replace hF := itt c_4 hF
    refine lv_iload_n hx hb dX11_told_16 rfl (lv_at hl 2 rfl) ?_
    by_cases c_5 : v2 = (0 : Int32)
    · replace hF := itt c_5 hF
      refine lv_tableIn (tgt := 44) hx hb dX11_told_17 (by rw [c_5]; decide) (by rw [c_5]; decide) (by rw [c_5]; rfl) (by decide) ?_
      refine lv_aload_n hx hb dX11_told_44 rfl (lv_at hl 0 rfl) ?_
      obtain ⟨r_8, e_8, hF⟩ := bnd hF
      refine m_gR X hH e_8 gg_X11_26 dX11_told_45 ?_
      obtain ⟨r_9, e_9, hF⟩ := bnd hF
      refine m_hR X hH e_9 gg_X11_170 dX11_told_48 ?_
      refine lv_iload_n hx hb dX11_told_51 rfl (lv_at hl 1 rfl) ?_
      obtain ⟨x_10, e_10, hF⟩ := bnd hF
      refine m_rdI X hH e_10 dX11_told_52 ?_
      have hF := Option.some.inj hF
      subst hF
      exact m_iret X hr hlk hH hS dX11_told_53
    · replace hF := itf c_5 hF
      by_cases c_6 : v2 = (1 : Int32)
      · replace hF := itt c_6 hF
        refine lv_tableIn (tgt := 54) hx hb dX11_told_17 (by rw [c_6]; decide) (by rw [c_6]; decide) (by rw [c_6]; rfl) (by decide) ?_
        refine lv_aload_n hx hb dX11_told_54 rfl (lv_at hl 0 rfl) ?_
        obtain ⟨r_11, e_11, hF⟩ := bnd hF
        refine m_gR X hH e_11 gg_X11_26 dX11_told_55 ?_
        obtain ⟨r_12, e_12, hF⟩ := bnd hF
        refine m_hR X hH e_12 gg_X11_173 dX11_told_58 ?_
        refine lv_iload_n hx hb dX11_told_61 rfl (lv_at hl 1 rfl) ?_
        obtain ⟨x_13, e_13, hF⟩ := bnd hF
        refine m_rdI X hH e_13 dX11_told_62 ?_
        have hF := Option.some.inj hF
        subst hF
        exact m_iret X hr hlk hH hS dX11_told_63
      · replace hF := itf c_6 hF
        by_cases c_7 : v2 = (2 : Int32)
        · replace hF := itt c_7 hF
          refine lv_tableIn (tgt := 64) hx hb dX11_told_17 (by rw [c_7]; decide) (by rw [c_7]; decide) (by rw [c_7]; rfl) (by decide) ?_
          refine lv_aload_n hx hb dX11_told_64 rfl (lv_at hl 0 rfl) ?_
          obtain ⟨r_14, e_14, hF⟩ := bnd hF
          refine m_gR X hH e_14 gg_X11_26 dX11_told_65 ?_
          obtain ⟨r_15, e_15, hF⟩ := bnd hF
          refine m_hR X hH e_15 gg_X11_175 dX11_told_68 ?_
          refine lv_iload_n hx hb dX11_told_71 rfl (lv_at hl 1 rfl) ?_
          obtain ⟨x_16, e_16, hF⟩ := bnd hF
          refine m_rdI X hH e_16 dX11_told_72 ?_
          refine lv_bipush (v := (20 : Int32)) hx hb dX11_told_73 (by decide) ?_
          refine lv_iadd hx hb dX11_told_75 ?_
          have hF := Option.some.inj hF
          subst hF
          exact m_iret X hr hlk hH hS dX11_told_76
        · replace hF := itf c_7 hF
          have z_c_5 := lv_neT c_5 (show Int32.toInt (0 : Int32) = 0 by decide)
          have z_c_6 := lv_neT c_6 (show Int32.toInt (1 : Int32) = 1 by decide)
          have z_c_7 := lv_neT c_7 (show Int32.toInt (2 : Int32) = 2 by decide)
          refine lv_tableOut (tgt := 77) hx hb dX11_told_17 (by omega) (by decide) ?_
          refine lv_iconst (v := (-1 : Int32)) hx hb dX11_told_77 (by decide) ?_
          have hF := Option.some.inj hF
          subst hF
          exact m_iret X hr hlk hH hS dX11_told_78
  · replace hF := itf c_4 hF
    refine lv_iconst (v := (-1 : Int32)) hx hb dX11_told_14 (by decide) ?_
    have hF := Option.some.inj hF
    subst hF
    exact m_iret X hr hlk hH hS dX11_told_15
noncomputable def fX11_turn (p0 : Nat) (v1 : Int32) (v2 : Int32) (v3 : Int32) (w : Wd) : Option (Int32 × Wd) := (fX11_outside v1 (31 : Int32) w).bind fun q_1 => if q_1.1 = 0 then (gfR 10 10 p0 q_1.2).bind fun r_3 => (gfI 3 4 r_3 q_1.2).bind fun x_4 => (fX11_outside v2 x_4 q_1.2).bind fun q_5 => if q_5.1 = 0 then (fX11_outside v3 (41 : Int32) q_5.2).bind fun q_7 => if q_7.1 = 0 then (gfR 10 2 p0 q_7.2).bind fun r_9 => (gfI 9 3 r_9 q_7.2).bind fun x_10 => if x_10 < (8 : Int32) then (gfR 10 3 p0 q_7.2).bind fun r_12 => (gfR 10 2 p0 q_7.2).bind fun r_13 => (isO 6 r_12 q_7.2).bind fun u_14 => (fX7_put r_12 r_13 q_7.2).bind fun q_15 => (gfR 10 2 p0 q_15.2).bind fun r_16 => (isO 9 r_16 q_15.2).bind fun u_17 => (fX10_add r_16 v1 v2 (v3 - (20 : Int32)) q_15.2).bind fun q_18 => (gfR 10 5 p0 q_18.2).bind fun r_19 => (pfI 1 4 r_19 (1 : Int32) q_18.2).bind fun w_20 => (gfR 10 2 p0 w_20).bind fun r_21 => (gfI 9 3 r_21 w_20).bind fun x_22 => some (x_22, w_20) else some ((-3 : Int32), q_7.2) else some ((-1 : Int32), q_7.2) else some ((-1 : Int32), q_5.2) else some ((-1 : Int32), q_1.2)
set_option maxHeartbeats 4000000 in
set_option maxRecDepth 100000 in
theorem k_X11_turn (l : Launch) (D : va_G) (cI cT cII : ClassId) (base : Nat) (p0 : Nat) (v1 : Int32) (v2 : Int32) (v3 : Int32) (w : Wd) (res : Int32 × Wd) (hF : fX11_turn p0 v1 v2 v3 w = some res) : Ct l yX11_turn cX11_turn 4 (some .int) { frames := 3, cells := 0, slots := 0, locals := 68 } D cI cT cII base [.ref (base + p0), .int v1, .int v2, .int v3] w res.2 (some (.int res.1)) 0 0 := by
  unfold fX11_turn at hF
  refine m_enter (by decide) (Nat.le_of_ble_eq_true rfl) ?_
  intro p e s m below meth c ls X hr hlk hnm hH hS hl
  have hx := X.1
  have hb := X.2.1
  have hc : (0 : Nat) ≤ ({ frames := 3, cells := 0, slots := 0, locals := 68 } : Room).cells ∧ (0 : Nat) ≤ ({ frames := 3, cells := 0, slots := 0, locals := 68 } : Room).slots := ⟨Nat.zero_le _, Nat.zero_le _⟩
  obtain ⟨H, hHe⟩ : ∃ H : Heap, H = s.heap := ⟨_, rfl⟩
  obtain ⟨locs, hle⟩ : ∃ L : List Loc, L = [] := ⟨_, rfl⟩
  have hl : lv_has ls 4 [(0, .ref (base + p0)), (1, .int v1), (2, .int v2), (3, .int v3)] := hl
  rw [← hHe] at hH
  have hS : va_S (fun q => base ≤ q) s.heap H locs := by rw [hHe, hle]; exact hS
  rw [← hle]
  show W p l e _ s m _ below meth c s.heap locs 0 0 _ _
  rw [← hHe]
  refine lv_iload_n hx hb dX11_turn_0 rfl (lv_at hl 1 rfl) ?_
  refine lv_bipush (v := (31 : Int32)) hx hb dX11_turn_1 (by decide) ?_
  obtain ⟨q_1, e_1, hF⟩ := bnd hF
  refine m_callS (As := [.int v1, .int (31 : Int32)]) (rest := []) X hH hS hl.1 (k_X11_outside l D cI cT cII base v1 (31 : Int32) w q_1 e_1) q_X11_outside kw_511 kw_391 rfl rfl (Nat.le_of_ble_eq_true rfl) ⟨by decide, by decide⟩ hc dX11_turn_3 (fun H locs hH hS => W.eq (g2 := F0 m 6 ls [.int q_1.1]) rfl ?_)
  refine lv_if_ne (tgt := 32) hx hb dX11_turn_6 (by decide) (fun c_2 => ?_) (fun c_2 => ?_)
  · replace hF := itf c_2 hF
    refine lv_iconst (v := (-1 : Int32)) hx hb dX11_turn_32 (by decide) ?_
    have hF := Option.some.inj hF
    subst hF
    exact m_iret X hr hlk hH hS dX11_turn_33
  · replace hF := itt c_2 hF
    refine lv_iload_n hx hb dX11_turn_9 rfl (lv_at hl 2 rfl) ?_
    refine lv_aload_n hx hb dX11_turn_10 rfl (lv_at hl 0 rfl) ?_
    obtain ⟨r_3, e_3, hF⟩ := bnd hF
    refine m_gR X hH e_3 gg_X11_80 dX11_turn_11 ?_
    obtain ⟨x_4, e_4, hF⟩ := bnd hF
    refine m_hI X hH e_4 gg_X11_116 dX11_turn_14 ?_
    obtain ⟨q_5, e_5, hF⟩ := bnd hF
    refine m_callS (As := [.int v2, .int x_4]) (rest := []) X hH hS hl.1 (k_X11_outside l D cI cT cII base v2 x_4 q_1.2 q_5 e_5) q_X11_outside kw_511 kw_391 rfl rfl (Nat.le_of_ble_eq_true rfl) ⟨by decide, by decide⟩ hc dX11_turn_17 (fun H locs hH hS => W.eq (g2 := F0 m 20 ls [.int q_5.1]) rfl ?_)
    refine lv_if_ne (tgt := 32) hx hb dX11_turn_20 (by decide) (fun c_6 => ?_) (fun c_6 => ?_)
    · replace hF := itf c_6 hF
      refine lv_iconst (v := (-1 : Int32)) hx hb dX11_turn_32 (by decide) ?_
      have hF := Option.some.inj hF
      subst hF
      exact m_iret X hr hlk hH hS dX11_turn_33
    · replace hF := itt c_6 hF
      refine lv_iload_n hx hb dX11_turn_23 rfl (lv_at hl 3 rfl) ?_
      refine lv_bipush (v := (41 : Int32)) hx hb dX11_turn_24 (by decide) ?_
      obtain ⟨q_7, e_7, hF⟩ := bnd hF
      refine m_callS (As := [.int v3, .int (41 : Int32)]) (rest := []) X hH hS hl.1 (k_X11_outside l D cI cT cII base v3 (41 : Int32) q_5.2 q_7 e_7) q_X11_outside kw_511 kw_391 rfl rfl (Nat.le_of_ble_eq_true rfl) ⟨by decide, by decide⟩ hc dX11_turn_26 (fun H locs hH hS => W.eq (g2 := F0 m 29 ls [.int q_7.1]) rfl ?_)
      refine lv_if_eq (tgt := 34) hx hb dX11_turn_29 (by decide) (fun c_8 => ?_) (fun c_8 => ?_)
      · replace hF := itt c_8 hF
        refine lv_aload_n hx hb dX11_turn_34 rfl (lv_at hl 0 rfl) ?_
        obtain ⟨r_9, e_9, hF⟩ := bnd hF
        refine m_gR X hH e_9 gg_X11_26 dX11_turn_35 ?_
        obtain ⟨x_10, e_10, hF⟩ := bnd hF
        refine m_hI X hH e_10 gg_X11_167 dX11_turn_38 ?_
        refine lv_bipush (v := (8 : Int32)) hx hb dX11_turn_41 (by decide) ?_
        refine lv_icmp_lt (tgt := 49) hx hb dX11_turn_43 (by decide) (fun c_11 => ?_) (fun c_11 => ?_)
        · replace hF := itt c_11 hF
          refine lv_aload_n hx hb dX11_turn_49 rfl (lv_at hl 0 rfl) ?_
          obtain ⟨r_12, e_12, hF⟩ := bnd hF
          refine m_gR X hH e_12 gg_X11_35 dX11_turn_50 ?_
          refine lv_aload_n hx hb dX11_turn_53 rfl (lv_at hl 0 rfl) ?_
          obtain ⟨r_13, e_13, hF⟩ := bnd hF
          refine m_gR X hH e_13 gg_X11_26 dX11_turn_54 ?_
          obtain ⟨u_14, ou_14, hF⟩ := bnd hF
          obtain ⟨q_15, e_15, hF⟩ := bnd hF
          refine m_callV (As := [.ref (base + r_13)]) (rest := []) X hH hS hl.1 ou_14 rfl (by decide) (k_X7_put l D cI cT cII base r_12 r_13 q_7.2 q_15 e_15) q_X7_put kw_613 kw_614 kw_615 rfl rfl (Nat.le_of_ble_eq_true rfl) ⟨by decide, by decide⟩ hc dX11_turn_57 (fun H locs hH hS => W.eq (g2 := F0 m 60 ls []) rfl ?_)
          refine lv_aload_n hx hb dX11_turn_60 rfl (lv_at hl 0 rfl) ?_
          obtain ⟨r_16, e_16, hF⟩ := bnd hF
          refine m_gR X hH e_16 gg_X11_26 dX11_turn_61 ?_
          refine lv_iload_n hx hb dX11_turn_64 rfl (lv_at hl 1 rfl) ?_
          refine lv_iload_n hx hb dX11_turn_65 rfl (lv_at hl 2 rfl) ?_
          refine lv_iload_n hx hb dX11_turn_66 rfl (lv_at hl 3 rfl) ?_
          refine lv_bipush (v := (20 : Int32)) hx hb dX11_turn_67 (by decide) ?_
          refine lv_isub hx hb dX11_turn_69 ?_
          obtain ⟨u_17, ou_17, hF⟩ := bnd hF
          obtain ⟨q_18, e_18, hF⟩ := bnd hF
          refine m_callV (As := [.int v1, .int v2, .int (v3 - (20 : Int32))]) (rest := []) X hH hS hl.1 ou_17 rfl (by decide) (k_X10_add l D cI cT cII base r_16 v1 v2 (v3 - (20 : Int32)) q_15.2 q_18 e_18) q_X10_add kw_618 kw_429 kw_430 rfl rfl (Nat.le_of_ble_eq_true rfl) ⟨by decide, by decide⟩ hc dX11_turn_70 (fun H locs hH hS => W.eq (g2 := F0 m 73 ls []) rfl ?_)
          refine lv_aload_n hx hb dX11_turn_73 rfl (lv_at hl 0 rfl) ?_
          obtain ⟨r_19, e_19, hF⟩ := bnd hF
          refine m_gR X hH e_19 gg_X11_45 dX11_turn_74 ?_
          refine lv_iconst (v := (1 : Int32)) hx hb dX11_turn_77 (by decide) ?_
          obtain ⟨w_20, e_20, hF⟩ := bnd hF
          refine m_qI X hH hS e_20 gp_X11_185 rfl rfl dX11_turn_78 (fun H locs hH hS => ?_)
          refine lv_aload_n hx hb dX11_turn_81 rfl (lv_at hl 0 rfl) ?_
          obtain ⟨r_21, e_21, hF⟩ := bnd hF
          refine m_gR X hH e_21 gg_X11_26 dX11_turn_82 ?_
          obtain ⟨x_22, e_22, hF⟩ := bnd hF
          refine m_hI X hH e_22 gg_X11_167 dX11_turn_85 ?_
          have hF := Option.some.inj hF
          subst hF
          exact m_iret X hr hlk hH hS dX11_turn_88
        · replace hF := itf c_11 hF
          refine lv_bipush (v := (-3 : Int32)) hx hb dX11_turn_46 (by decide) ?_
          have hF := Option.some.inj hF
          subst hF
          exact m_iret X hr hlk hH hS dX11_turn_48
      · replace hF := itf c_8 hF
        refine lv_iconst (v := (-1 : Int32)) hx hb dX11_turn_32 (by decide) ?_
        have hF := Option.some.inj hF
        subst hF
        exact m_iret X hr hlk hH hS dX11_turn_33
noncomputable def fX11_undo (p0 : Nat) (w : Wd) : Option (Int32 × Wd) := (gfR 10 3 p0 w).bind fun r_1 => (gfR 10 2 p0 w).bind fun r_2 => (isO 6 r_1 w).bind fun u_3 => (fX7_takeLast r_1 r_2 w).bind fun q_4 => if q_4.1 = 0 then some ((-2 : Int32), q_4.2) else (gfR 10 5 p0 q_4.2).bind fun r_6 => (pfI 1 4 r_6 (1 : Int32) q_4.2).bind fun w_7 => (gfR 10 3 p0 w_7).bind fun r_8 => (gfI 6 1 r_8 w_7).bind fun x_9 => some (x_9, w_7)
set_option maxHeartbeats 4000000 in
set_option maxRecDepth 100000 in
theorem k_X11_undo (l : Launch) (D : va_G) (cI cT cII : ClassId) (base : Nat) (p0 : Nat) (w : Wd) (res : Int32 × Wd) (hF : fX11_undo p0 w = some res) : Ct l yX11_undo cX11_undo 1 (some .int) { frames := 3, cells := 0, slots := 0, locals := 66 } D cI cT cII base [.ref (base + p0)] w res.2 (some (.int res.1)) 0 0 := by
  unfold fX11_undo at hF
  refine m_enter (by decide) (Nat.le_of_ble_eq_true rfl) ?_
  intro p e s m below meth c ls X hr hlk hnm hH hS hl
  have hx := X.1
  have hb := X.2.1
  have hc : (0 : Nat) ≤ ({ frames := 3, cells := 0, slots := 0, locals := 66 } : Room).cells ∧ (0 : Nat) ≤ ({ frames := 3, cells := 0, slots := 0, locals := 66 } : Room).slots := ⟨Nat.zero_le _, Nat.zero_le _⟩
  obtain ⟨H, hHe⟩ : ∃ H : Heap, H = s.heap := ⟨_, rfl⟩
  obtain ⟨locs, hle⟩ : ∃ L : List Loc, L = [] := ⟨_, rfl⟩
  have hl : lv_has ls 1 [(0, .ref (base + p0))] := hl
  rw [← hHe] at hH
  have hS : va_S (fun q => base ≤ q) s.heap H locs := by rw [hHe, hle]; exact hS
  rw [← hle]
  show W p l e _ s m _ below meth c s.heap locs 0 0 _ _
  rw [← hHe]
  refine lv_aload_n hx hb dX11_undo_0 rfl (lv_at hl 0 rfl) ?_
  obtain ⟨r_1, e_1, hF⟩ := bnd hF
  refine m_gR X hH e_1 gg_X11_35 dX11_undo_1 ?_
  refine lv_aload_n hx hb dX11_undo_4 rfl (lv_at hl 0 rfl) ?_
  obtain ⟨r_2, e_2, hF⟩ := bnd hF
  refine m_gR X hH e_2 gg_X11_26 dX11_undo_5 ?_
  obtain ⟨u_3, ou_3, hF⟩ := bnd hF
  obtain ⟨q_4, e_4, hF⟩ := bnd hF
  refine m_callV (As := [.ref (base + r_2)]) (rest := []) X hH hS hl.1 ou_3 rfl (by decide) (k_X7_takeLast l D cI cT cII base r_1 r_2 w q_4 e_4) q_X7_takeLast kw_632 kw_633 kw_634 rfl rfl (Nat.le_of_ble_eq_true rfl) ⟨by decide, by decide⟩ hc dX11_undo_8 (fun H locs hH hS => W.eq (g2 := F0 m 11 ls [.int q_4.1]) rfl ?_)
  refine lv_if_ne (tgt := 17) hx hb dX11_undo_11 (by decide) (fun c_5 => ?_) (fun c_5 => ?_)
  · replace hF := itf c_5 hF
    refine lv_aload_n hx hb dX11_undo_17 rfl (lv_at hl 0 rfl) ?_
    obtain ⟨r_6, e_6, hF⟩ := bnd hF
    refine m_gR X hH e_6 gg_X11_45 dX11_undo_18 ?_
    refine lv_iconst (v := (1 : Int32)) hx hb dX11_undo_21 (by decide) ?_
    obtain ⟨w_7, e_7, hF⟩ := bnd hF
    refine m_qI X hH hS e_7 gp_X11_185 rfl rfl dX11_undo_22 (fun H locs hH hS => ?_)
    refine lv_aload_n hx hb dX11_undo_25 rfl (lv_at hl 0 rfl) ?_
    obtain ⟨r_8, e_8, hF⟩ := bnd hF
    refine m_gR X hH e_8 gg_X11_35 dX11_undo_26 ?_
    obtain ⟨x_9, e_9, hF⟩ := bnd hF
    refine m_hI X hH e_9 gg_X11_196 dX11_undo_29 ?_
    have hF := Option.some.inj hF
    subst hF
    exact m_iret X hr hlk hH hS dX11_undo_32
  · replace hF := itt c_5 hF
    refine lv_bipush (v := (-2 : Int32)) hx hb dX11_undo_14 (by decide) ?_
    have hF := Option.some.inj hF
    subst hF
    exact m_iret X hr hlk hH hS dX11_undo_16
noncomputable def fX11_who_30 (p0 : Nat) (v1 : Int32) (v2 : Int32) (K_75 : Int32 → Wd → Option (Int32 × Wd)) : Nat → Int32 → Int32 → Wd → Option (Int32 × Wd)
  | 0, _, _, _ => none
  | n + 1, v3, v4, w => (gfR 10 10 p0 w).bind fun r_6 => (gfI 3 7 r_6 w).bind fun x_7 => if x_7 ≤ v4 then K_75 v3 w else (gfR 10 10 p0 w).bind fun r_9 => (isO 3 r_9 w).bind fun u_10 => (fX4_setBy r_9 v4 (v1 - (20 : Int32)) w).bind fun q_11 => if q_11.1 = (v2 - (20 : Int32)) then fX11_who_30 p0 v1 v2 K_75 n (v3 ||| ((1 : Int32) <<< (v4 &&& 31))) (v4 + (1 : Int32)) q_11.2 else fX11_who_30 p0 v1 v2 K_75 n v3 (v4 + (1 : Int32)) q_11.2
noncomputable def fX11_who (p0 : Nat) (v1 : Int32) (v2 : Int32) (w : Wd) : Option (Int32 × Wd) := (fX11_outside v1 (41 : Int32) w).bind fun q_1 => if q_1.1 = 0 then (fX11_outside v2 (41 : Int32) q_1.2).bind fun q_3 => if q_3.1 = 0 then if v1 = v2 then some ((-1 : Int32), q_3.2) else fX11_who_30 p0 v1 v2 (fun (v3_14 : Int32) (w_13 : Wd) => some (v3_14, w_13)) FV (0 : Int32) (0 : Int32) q_3.2 else some ((-1 : Int32), q_3.2) else some ((-1 : Int32), q_1.2)
set_option maxHeartbeats 4000000 in
set_option maxRecDepth 100000 in
theorem l_X11_who_30 (X : Cx p R s m args c cX11_who 5 RX11 D cI cT cII 3 65) (hc : cells ≤ R.cells ∧ slots ≤ R.slots) (p0 : Nat) (v1 : Int32) (v2 : Int32) (K_75 : Int32 → Wd → Option (Int32 × Wd)) (res : Int32 × Wd)
    (hK_75 : ∀ (z3 : Int32) (w : Wd), K_75 z3 w = some res → ∀ (H : Heap) (locs : List Loc) (ls : Array Slot), Hd D cI cT cII base w H → va_S (fun q => base ≤ q) s.heap H locs → lv_has ls 5 [(3, .int z3)] → W p l e R s m args below meth c H locs cells slots Q (F0 m 75 ls [])) :
    ∀ (n : Nat) (v3 : Int32) (v4 : Int32) (w : Wd), fX11_who_30 p0 v1 v2 K_75 n v3 v4 w = some res → ∀ (H : Heap) (locs : List Loc) (ls : Array Slot), Hd D cI cT cII base w H → va_S (fun q => base ≤ q) s.heap H locs → lv_has ls 5 [(0, .ref (base + p0)), (1, .int v1), (2, .int v2), (3, .int v3), (4, .int v4)] → W p l e R s m args below meth c H locs cells slots Q (F0 m 30 ls []) := by
  have hx := X.1
  have hb := X.2.1
  intro n
  induction n with
  | zero =>
    intro v3 v4 w hF
    rw [fX11_who_30] at hF
    cases hF
  | succ n ih =>
    intro v3 v4 w hF H locs ls hH hS hl
    rw [fX11_who_30] at hF
    refine lv_iload hx hb dX11_who_30 (lv_at hl 4 rfl) ?_
    refine lv_aload_n hx hb dX11_who_32 rfl (lv_at hl 0 rfl) ?_
    obtain ⟨r_6, e_6, hF⟩ := bnd hF
    refine m_gR X hH e_6 gg_X11_80 dX11_who_33 ?_
    obtain ⟨x_7, e_7, hF⟩ := bnd hF
    refine m_hI X hH e_7 gg_X11_136 dX11_who_36 ?_
    refine lv_icmp_ge (tgt := 75) hx hb dX11_who_39 (by decide) (fun c_8 => ?_) (fun c_8 => ?_)
    · replace hF := itt c_8 hF
      exact hK_75 v3 w hF H locs ls hH hS (lv_sub hl [3] rfl)
    · replace hF := itf c_8 hF
      refine lv_aload_n hx hb dX11_who_42 rfl (lv_at hl 0 rfl) ?_
      obtain ⟨r_9, e_9, hF⟩ := bnd hF
      refine m_gR X hH e_9 gg_X11_80 dX11_who_43 ?_
      refine lv_iload hx hb dX11_who_46 (lv_at hl 4 rfl) ?_
      refine lv_iload_n hx hb dX11_who_48 rfl (lv_at hl 1 rfl) ?_
      refine lv_bipush (v := (20 : Int32)) hx hb dX11_who_49 (by decide) ?_
      refine lv_isub hx hb dX11_who_51 ?_
      obtain ⟨u_10, ou_10, hF⟩ := bnd hF
      obtain ⟨q_11, e_11, hF⟩ := bnd hF
      refine m_callV (As := [.int v4, .int (v1 - (20 : Int32))]) (rest := []) X hH hS hl.1 ou_10 rfl (by decide) (k_X4_setBy l D cI cT cII base r_9 v4 (v1 - (20 : Int32)) w q_11 e_11) q_X4_setBy kw_759 kw_565 kw_566 rfl rfl (Nat.le_of_ble_eq_true rfl) ⟨by decide, by decide⟩ hc dX11_who_52 (fun H locs hH hS => W.eq (g2 := F0 m 55 ls [.int q_11.1]) rfl ?_)
      refine lv_iload_n hx hb dX11_who_55 rfl (lv_at hl 2 rfl) ?_
      refine lv_bipush (v := (20 : Int32)) hx hb dX11_who_56 (by decide) ?_
      refine lv_isub hx hb dX11_who_58 ?_
      refine lv_icmp_ne (tgt := 69) hx hb dX11_who_59 (by decide) (fun c_12 => ?_) (fun c_12 => ?_)
      · replace hF := itf c_12 hF
        refine lv_iinc (v := v4 + (1 : Int32)) (lv' := [(4, .int (v4 + (1 : Int32))), (0, .ref (base + p0)), (1, .int v1), (2, .int v2), (3, .int v3)]) hx hb dX11_who_69 hl (k := 4) rfl (congrArg (fun z => v4 + z) (by decide)) (by decide) rfl (fun ls hl => ?_)
        refine lv_goto (tgt := 30) hx hb dX11_who_72 (by decide) ?_
        exact ih v3 (v4 + (1 : Int32)) q_11.2 hF H locs ls hH hS (lv_sub hl [1, 2, 3, 4, 0] rfl)
      · replace hF := itt c_12 hF
        refine lv_iload_n hx hb dX11_who_62 rfl (lv_at hl 3 rfl) ?_
        refine lv_iconst (v := (1 : Int32)) hx hb dX11_who_63 (by decide) ?_
        refine lv_iload hx hb dX11_who_64 (lv_at hl 4 rfl) ?_
        refine lv_ishl hx hb dX11_who_66 ?_
        refine lv_ior hx hb dX11_who_67 ?_
        refine lv_istore_n (lv' := [(3, .int (v3 ||| ((1 : Int32) <<< (v4 &&& 31)))), (0, .ref (base + p0)), (1, .int v1), (2, .int v2), (4, .int v4)]) hx hb dX11_who_68 rfl hl (by decide) rfl (fun ls hl => ?_)
        refine lv_iinc (v := v4 + (1 : Int32)) (lv' := [(4, .int (v4 + (1 : Int32))), (3, .int (v3 ||| ((1 : Int32) <<< (v4 &&& 31)))), (0, .ref (base + p0)), (1, .int v1), (2, .int v2)]) hx hb dX11_who_69 hl (k := 4) rfl (congrArg (fun z => v4 + z) (by decide)) (by decide) rfl (fun ls hl => ?_)
        refine lv_goto (tgt := 30) hx hb dX11_who_72 (by decide) ?_
        exact ih (v3 ||| ((1 : Int32) <<< (v4 &&& 31))) (v4 + (1 : Int32)) q_11.2 hF H locs ls hH hS (lv_sub hl [2, 3, 4, 1, 0] rfl)
set_option maxHeartbeats 4000000 in
set_option maxRecDepth 100000 in
theorem k_X11_who (l : Launch) (D : va_G) (cI cT cII : ClassId) (base : Nat) (p0 : Nat) (v1 : Int32) (v2 : Int32) (w : Wd) (res : Int32 × Wd) (hF : fX11_who p0 v1 v2 w = some res) : Ct l yX11_who cX11_who 5 (some .int) { frames := 3, cells := 0, slots := 0, locals := 65 } D cI cT cII base [.ref (base + p0), .int v1, .int v2] w res.2 (some (.int res.1)) 0 0 := by
  unfold fX11_who at hF
  refine m_enter (by decide) (Nat.le_of_ble_eq_true rfl) ?_
  intro p e s m below meth c ls X hr hlk hnm hH hS hl
  have hx := X.1
  have hb := X.2.1
  have hc : (0 : Nat) ≤ ({ frames := 3, cells := 0, slots := 0, locals := 65 } : Room).cells ∧ (0 : Nat) ≤ ({ frames := 3, cells := 0, slots := 0, locals := 65 } : Room).slots := ⟨Nat.zero_le _, Nat.zero_le _⟩
  obtain ⟨H, hHe⟩ : ∃ H : Heap, H = s.heap := ⟨_, rfl⟩
  obtain ⟨locs, hle⟩ : ∃ L : List Loc, L = [] := ⟨_, rfl⟩
  have hl : lv_has ls 5 [(0, .ref (base + p0)), (1, .int v1), (2, .int v2)] := hl
  rw [← hHe] at hH
  have hS : va_S (fun q => base ≤ q) s.heap H locs := by rw [hHe, hle]; exact hS
  rw [← hle]
  show W p l e _ s m _ below meth c s.heap locs 0 0 _ _
  rw [← hHe]
  refine lv_iload_n hx hb dX11_who_0 rfl (lv_at hl 1 rfl) ?_
  refine lv_bipush (v := (41 : Int32)) hx hb dX11_who_1 (by decide) ?_
  obtain ⟨q_1, e_1, hF⟩ := bnd hF
  refine m_callS (As := [.int v1, .int (41 : Int32)]) (rest := []) X hH hS hl.1 (k_X11_outside l D cI cT cII base v1 (41 : Int32) w q_1 e_1) q_X11_outside kw_511 kw_391 rfl rfl (Nat.le_of_ble_eq_true rfl) ⟨by decide, by decide⟩ hc dX11_who_3 (fun H locs hH hS => W.eq (g2 := F0 m 6 ls [.int q_1.1]) rfl ?_)
  refine lv_if_ne (tgt := 23) hx hb dX11_who_6 (by decide) (fun c_2 => ?_) (fun c_2 => ?_)
  · replace hF := itf c_2 hF
    refine lv_iconst (v := (-1 : Int32)) hx hb dX11_who_23 (by decide) ?_
    have hF := Option.some.inj hF
    subst hF
    exact m_iret X hr hlk hH hS dX11_who_24
  · replace hF := itt c_2 hF
    refine lv_iload_n hx hb dX11_who_9 rfl (lv_at hl 2 rfl) ?_
    refine lv_bipush (v := (41 : Int32)) hx hb dX11_who_10 (by decide) ?_
    obtain ⟨q_3, e_3, hF⟩ := bnd hF
    refine m_callS (As := [.int v2, .int (41 : Int32)]) (rest := []) X hH hS hl.1 (k_X11_outside l D cI cT cII base v2 (41 : Int32) q_1.2 q_3 e_3) q_X11_outside kw_511 kw_391 rfl rfl (Nat.le_of_ble_eq_true rfl) ⟨by decide, by decide⟩ hc dX11_who_12 (fun H locs hH hS => W.eq (g2 := F0 m 15 ls [.int q_3.1]) rfl ?_)
    refine lv_if_ne (tgt := 23) hx hb dX11_who_15 (by decide) (fun c_4 => ?_) (fun c_4 => ?_)
    · replace hF := itf c_4 hF
      refine lv_iconst (v := (-1 : Int32)) hx hb dX11_who_23 (by decide) ?_
      have hF := Option.some.inj hF
      subst hF
      exact m_iret X hr hlk hH hS dX11_who_24
    · replace hF := itt c_4 hF
      refine lv_iload_n hx hb dX11_who_18 rfl (lv_at hl 1 rfl) ?_
      refine lv_iload_n hx hb dX11_who_19 rfl (lv_at hl 2 rfl) ?_
      refine lv_icmp_ne (tgt := 25) hx hb dX11_who_20 (by decide) (fun c_5 => ?_) (fun c_5 => ?_)
      · replace hF := itf c_5 hF
        refine lv_iconst (v := (0 : Int32)) hx hb dX11_who_25 (by decide) ?_
        refine lv_istore_n (lv' := [(3, .int (0 : Int32)), (0, .ref (base + p0)), (1, .int v1), (2, .int v2)]) hx hb dX11_who_26 rfl hl (by decide) rfl (fun ls hl => ?_)
        refine lv_iconst (v := (0 : Int32)) hx hb dX11_who_27 (by decide) ?_
        refine lv_istore (lv' := [(4, .int (0 : Int32)), (3, .int (0 : Int32)), (0, .ref (base + p0)), (1, .int v1), (2, .int v2)]) hx hb dX11_who_28 hl (by decide) rfl (fun ls hl => ?_)
        refine l_X11_who_30 X hc p0 v1 v2 _ res ?_ FV (0 : Int32) (0 : Int32) q_3.2 hF H locs ls hH hS (lv_sub hl [2, 3, 4, 1, 0] rfl)
        · intro v3_14 w_13 hF H locs ls hH hS hl
          refine lv_iload_n hx hb dX11_who_75 rfl (lv_at hl 0 rfl) ?_
          have hF := Option.some.inj hF
          subst hF
          exact m_iret X hr hlk hH hS dX11_who_76
      · replace hF := itt c_5 hF
        refine lv_iconst (v := (-1 : Int32)) hx hb dX11_who_23 (by decide) ?_
        have hF := Option.some.inj hF
        subst hF
        exact m_iret X hr hlk hH hS dX11_who_24
noncomputable def fX11_wipe (p0 : Nat) (w : Wd) : Option (Int32 × Wd) := (gfR 10 0 p0 w).bind fun r_1 => (isO 8 r_1 w).bind fun u_2 => (fX9_empty r_1 w).bind fun q_3 => some (q_3.1, q_3.2)
set_option maxHeartbeats 4000000 in
set_option maxRecDepth 100000 in
theorem k_X11_wipe (l : Launch) (D : va_G) (cI cT cII : ClassId) (base : Nat) (p0 : Nat) (w : Wd) (res : Int32 × Wd) (hF : fX11_wipe p0 w = some res) : Ct l yX11_wipe cX11_wipe 1 (some .int) { frames := 1, cells := 0, slots := 0, locals := 21 } D cI cT cII base [.ref (base + p0)] w res.2 (some (.int res.1)) 0 0 := by
  unfold fX11_wipe at hF
  refine m_enter (by decide) (Nat.le_of_ble_eq_true rfl) ?_
  intro p e s m below meth c ls X hr hlk hnm hH hS hl
  have hx := X.1
  have hb := X.2.1
  have hc : (0 : Nat) ≤ ({ frames := 1, cells := 0, slots := 0, locals := 21 } : Room).cells ∧ (0 : Nat) ≤ ({ frames := 1, cells := 0, slots := 0, locals := 21 } : Room).slots := ⟨Nat.zero_le _, Nat.zero_le _⟩
  obtain ⟨H, hHe⟩ : ∃ H : Heap, H = s.heap := ⟨_, rfl⟩
  obtain ⟨locs, hle⟩ : ∃ L : List Loc, L = [] := ⟨_, rfl⟩
  have hl : lv_has ls 1 [(0, .ref (base + p0))] := hl
  rw [← hHe] at hH
  have hS : va_S (fun q => base ≤ q) s.heap H locs := by rw [hHe, hle]; exact hS
  rw [← hle]
  show W p l e _ s m _ below meth c s.heap locs 0 0 _ _
  rw [← hHe]
  refine lv_aload_n hx hb dX11_wipe_0 rfl (lv_at hl 0 rfl) ?_
  obtain ⟨r_1, e_1, hF⟩ := bnd hF
  refine m_gR X hH e_1 gg_X11_10 dX11_wipe_1 ?_
  obtain ⟨u_2, ou_2, hF⟩ := bnd hF
  obtain ⟨q_3, e_3, hF⟩ := bnd hF
  refine m_callV (As := []) (rest := []) X hH hS hl.1 ou_2 rfl (by decide) (k_X9_empty l D cI cT cII base r_1 w q_3 e_3) q_X9_empty kw_449 kw_450 kw_451 rfl rfl (Nat.le_of_ble_eq_true rfl) ⟨by decide, by decide⟩ hc dX11_wipe_4 (fun H locs hH hS => W.eq (g2 := F0 m 7 ls [.int q_3.1]) rfl ?_)
  have hF := Option.some.inj hF
  subst hF
  exact m_iret X hr hlk hH hS dX11_wipe_7
noncomputable def fX11_wire (p0 : Nat) (v1 : Int32) (v2 : Int32) (v3 : Int32) (v4 : Int32) (v5 : Int32) (v6 : Int32) (w : Wd) : Option (Int32 × Wd) := (fX11_outside v1 (41 : Int32) w).bind fun q_1 => if q_1.1 = 0 then (fX11_outside v2 (21 : Int32) q_1.2).bind fun q_3 => if q_3.1 = 0 then (fX11_outside v3 (7 : Int32) q_3.2).bind fun q_5 => if q_5.1 = 0 then (fX11_outside v4 (11 : Int32) q_5.2).bind fun q_7 => if q_7.1 = 0 then (fX11_outside v5 ((11 : Int32) - v4) q_7.2).bind fun q_9 => if q_9.1 = 0 then (fX11_outside v6 (2 : Int32) q_9.2).bind fun q_11 => if q_11.1 = 0 then (gfR 10 9 p0 q_11.2).bind fun r_13 => (isO 0 r_13 q_11.2).bind fun u_14 => (fX0_twist r_13 v3 v4 v5 q_11.2).bind fun q_15 => (gfR 10 9 p0 q_15.2).bind fun r_16 => (isO 0 r_16 q_15.2).bind fun u_17 => (fX0_waysWithin r_16 (v1 - (20 : Int32)) v2 q_15.2).bind fun q_18 => (gfR 10 9 p0 q_18.2).bind fun r_19 => (isO 0 r_19 q_18.2).bind fun u_20 => (fX0_allWays r_19 v3 q_18.2).bind fun q_21 => (fX0_commonDivisor q_18.1 q_21.1 q_21.2).bind fun q_22 => if v6 = 0 then if q_22.1 ≤ 0 then some (q_18.1, q_22.2) else (dvI q_18.1 q_22.1).bind fun x_27 => some (x_27, q_22.2) else if q_22.1 ≤ 0 then some (q_21.1, q_22.2) else (dvI q_21.1 q_22.1).bind fun x_25 => some (x_25, q_22.2) else some ((-1 : Int32), q_11.2) else some ((-1 : Int32), q_9.2) else some ((-1 : Int32), q_7.2) else some ((-1 : Int32), q_5.2) else some ((-1 : Int32), q_3.2) else some ((-1 : Int32), q_1.2)
set_option maxHeartbeats 4000000 in
set_option maxRecDepth 100000 in
theorem k_X11_wire (l : Launch) (D : va_G) (cI cT cII : ClassId) (base : Nat) (p0 : Nat) (v1 : Int32) (v2 : Int32) (v3 : Int32) (v4 : Int32) (v5 : Int32) (v6 : Int32) (w : Wd) (res : Int32 × Wd) (hF : fX11_wire p0 v1 v2 v3 v4 v5 v6 w = some res) : Ct l yX11_wire cX11_wire 11 (some .int) { frames := 2, cells := 0, slots := 0, locals := 48 } D cI cT cII base [.ref (base + p0), .int v1, .int v2, .int v3, .int v4, .int v5, .int v6] w res.2 (some (.int res.1)) 0 0 := by
  unfold fX11_wire at hF
  refine m_enter (by decide) (Nat.le_of_ble_eq_true rfl) ?_
  intro p e s m below meth c ls X hr hlk hnm hH hS hl
  have hx := X.1
  have hb := X.2.1
  have hc : (0 : Nat) ≤ ({ frames := 2, cells := 0, slots := 0, locals := 48 } : Room).cells ∧ (0 : Nat) ≤ ({ frames := 2, cells := 0, slots := 0, locals := 48 } : Room).slots := ⟨Nat.zero_le _, Nat.zero_le _⟩
  obtain ⟨H, hHe⟩ : ∃ H : Heap, H = s.heap := ⟨_, rfl⟩
  obtain ⟨locs, hle⟩ : ∃ L : List Loc, L = [] := ⟨_, rfl⟩
  have hl : lv_has ls 11 [(0, .ref (base + p0)), (1, .int v1), (2, .int v2), (3, .int v3), (4, .int v4), (5, .int v5), (6, .int v6)] := hl
  rw [← hHe] at hH
  have hS : va_S (fun q => base ≤ q) s.heap H locs := by rw [hHe, hle]; exact hS
  rw [← hle]
  show W p l e _ s m _ below meth c s.heap locs 0 0 _ _
  rw [← hHe]
  refine lv_iload_n hx hb dX11_wire_0 rfl (lv_at hl 1 rfl) ?_
  refine lv_bipush (v := (41 : Int32)) hx hb dX11_wire_1 (by decide) ?_
  obtain ⟨q_1, e_1, hF⟩ := bnd hF
  refine m_callS (As := [.int v1, .int (41 : Int32)]) (rest := []) X hH hS hl.1 (k_X11_outside l D cI cT cII base v1 (41 : Int32) w q_1 e_1) q_X11_outside kw_511 kw_391 rfl rfl (Nat.le_of_ble_eq_true rfl) ⟨by decide, by decide⟩ hc dX11_wire_3 (fun H locs hH hS => W.eq (g2 := F0 m 6 ls [.int q_1.1]) rfl ?_)
  refine lv_if_ne (tgt := 59) hx hb dX11_wire_6 (by decide) (fun c_2 => ?_) (fun c_2 => ?_)
  · replace hF := itf c_2 hF
    refine lv_iconst (v := (-1 : Int32)) hx hb dX11_wire_59 (by decide) ?_
    have hF := Option.some.inj hF
    subst hF
    exact m_iret X hr hlk hH hS dX11_wire_60
  · replace hF := itt c_2 hF
    refine lv_iload_n hx hb dX11_wire_9 rfl (lv_at hl 2 rfl) ?_
    refine lv_bipush (v := (21 : Int32)) hx hb dX11_wire_10 (by decide) ?_
    obtain ⟨q_3, e_3, hF⟩ := bnd hF
    refine m_callS (As := [.int v2, .int (21 : Int32)]) (rest := []) X hH hS hl.1 (k_X11_outside l D cI cT cII base v2 (21 : Int32) q_1.2 q_3 e_3) q_X11_outside kw_511 kw_391 rfl rfl (Nat.le_of_ble_eq_true rfl) ⟨by decide, by decide⟩ hc dX11_wire_12 (fun H locs hH hS => W.eq (g2 := F0 m 15 ls [.int q_3.1]) rfl ?_)
    refine lv_if_ne (tgt := 59) hx hb dX11_wire_15 (by decide) (fun c_4 => ?_) (fun c_4 => ?_)
    · replace hF := itf c_4 hF
      refine lv_iconst (v := (-1 : Int32)) hx hb dX11_wire_59 (by decide) ?_
      have hF := Option.some.inj hF
      subst hF
      exact m_iret X hr hlk hH hS dX11_wire_60
    · replace hF := itt c_4 hF
      refine lv_iload_n hx hb dX11_wire_18 rfl (lv_at hl 3 rfl) ?_
      refine lv_bipush (v := (7 : Int32)) hx hb dX11_wire_19 (by decide) ?_
      obtain ⟨q_5, e_5, hF⟩ := bnd hF
      refine m_callS (As := [.int v3, .int (7 : Int32)]) (rest := []) X hH hS hl.1 (k_X11_outside l D cI cT cII base v3 (7 : Int32) q_3.2 q_5 e_5) q_X11_outside kw_511 kw_391 rfl rfl (Nat.le_of_ble_eq_true rfl) ⟨by decide, by decide⟩ hc dX11_wire_21 (fun H locs hH hS => W.eq (g2 := F0 m 24 ls [.int q_5.1]) rfl ?_)
      refine lv_if_ne (tgt := 59) hx hb dX11_wire_24 (by decide) (fun c_6 => ?_) (fun c_6 => ?_)
      · replace hF := itf c_6 hF
        refine lv_iconst (v := (-1 : Int32)) hx hb dX11_wire_59 (by decide) ?_
        have hF := Option.some.inj hF
        subst hF
        exact m_iret X hr hlk hH hS dX11_wire_60
      · replace hF := itt c_6 hF
        refine lv_iload hx hb dX11_wire_27 (lv_at hl 4 rfl) ?_
        refine lv_bipush (v := (11 : Int32)) hx hb dX11_wire_29 (by decide) ?_
        obtain ⟨q_7, e_7, hF⟩ := bnd hF
        refine m_callS (As := [.int v4, .int (11 : Int32)]) (rest := []) X hH hS hl.1 (k_X11_outside l D cI cT cII base v4 (11 : Int32) q_5.2 q_7 e_7) q_X11_outside kw_511 kw_391 rfl rfl (Nat.le_of_ble_eq_true rfl) ⟨by decide, by decide⟩ hc dX11_wire_31 (fun H locs hH hS => W.eq (g2 := F0 m 34 ls [.int q_7.1]) rfl ?_)
        refine lv_if_ne (tgt := 59) hx hb dX11_wire_34 (by decide) (fun c_8 => ?_) (fun c_8 => ?_)
        · replace hF := itf c_8 hF
          refine lv_iconst (v := (-1 : Int32)) hx hb dX11_wire_59 (by decide) ?_
          have hF := Option.some.inj hF
          subst hF
          exact m_iret X hr hlk hH hS dX11_wire_60
        · replace hF := itt c_8 hF
          refine lv_iload hx hb dX11_wire_37 (lv_at hl 5 rfl) ?_
          refine lv_bipush (v := (11 : Int32)) hx hb dX11_wire_39 (by decide) ?_
          refine lv_iload hx hb dX11_wire_41 (lv_at hl 4 rfl) ?_
          refine lv_isub hx hb dX11_wire_43 ?_
          obtain ⟨q_9, e_9, hF⟩ := bnd hF
          refine m_callS (As := [.int v5, .int ((11 : Int32) - v4)]) (rest := []) X hH hS hl.1 (k_X11_outside l D cI cT cII base v5 ((11 : Int32) - v4) q_7.2 q_9 e_9) q_X11_outside kw_511 kw_391 rfl rfl (Nat.le_of_ble_eq_true rfl) ⟨by decide, by decide⟩ hc dX11_wire_44 (fun H locs hH hS => W.eq (g2 := F0 m 47 ls [.int q_9.1]) rfl ?_)
          refine lv_if_ne (tgt := 59) hx hb dX11_wire_47 (by decide) (fun c_10 => ?_) (fun c_10 => ?_)
          · replace hF := itf c_10 hF
            refine lv_iconst (v := (-1 : Int32)) hx hb dX11_wire_59 (by decide) ?_
            have hF := Option.some.inj hF
            subst hF
            exact m_iret X hr hlk hH hS dX11_wire_60
          · replace hF := itt c_10 hF
            refine lv_iload hx hb dX11_wire_50 (lv_at hl 6 rfl) ?_
            refine lv_iconst (v := (2 : Int32)) hx hb dX11_wire_52 (by decide) ?_
            obtain ⟨q_11, e_11, hF⟩ := bnd hF
            refine m_callS (As := [.int v6, .int (2 : Int32)]) (rest := []) X hH hS hl.1 (k_X11_outside l D cI cT cII base v6 (2 : Int32) q_9.2 q_11 e_11) q_X11_outside kw_511 kw_391 rfl rfl (Nat.le_of_ble_eq_true rfl) ⟨by decide, by decide⟩ hc dX11_wire_53 (fun H locs hH hS => W.eq (g2 := F0 m 56 ls [.int q_11.1]) rfl ?_)
            refine lv_if_eq (tgt := 61) hx hb dX11_wire_56 (by decide) (fun c_12 => ?_) (fun c_12 => ?_)
            · replace hF := itt c_12 hF
              refine lv_aload_n hx hb dX11_wire_61 rfl (lv_at hl 0 rfl) ?_
              obtain ⟨r_13, e_13, hF⟩ := bnd hF
              refine m_gR X hH e_13 gg_X11_73 dX11_wire_62 ?_
              refine lv_iload_n hx hb dX11_wire_65 rfl (lv_at hl 3 rfl) ?_
              refine lv_iload hx hb dX11_wire_66 (lv_at hl 4 rfl) ?_
              refine lv_iload hx hb dX11_wire_68 (lv_at hl 5 rfl) ?_
              obtain ⟨u_14, ou_14, hF⟩ := bnd hF
              obtain ⟨q_15, e_15, hF⟩ := bnd hF
              refine m_callV (As := [.int v3, .int v4, .int v5]) (rest := []) X hH hS hl.1 ou_14 rfl (by decide) (k_X0_twist l D cI cT cII base r_13 v3 v4 v5 q_11.2 q_15 e_15) q_X0_twist kw_768 kw_769 kw_770 rfl rfl (Nat.le_of_ble_eq_true rfl) ⟨by decide, by decide⟩ hc dX11_wire_70 (fun H locs hH hS => W.eq (g2 := F0 m 73 ls []) rfl ?_)
              refine lv_aload_n hx hb dX11_wire_73 rfl (lv_at hl 0 rfl) ?_
              obtain ⟨r_16, e_16, hF⟩ := bnd hF
              refine m_gR X hH e_16 gg_X11_73 dX11_wire_74 ?_
              refine lv_iload_n hx hb dX11_wire_77 rfl (lv_at hl 1 rfl) ?_
              refine lv_bipush (v := (20 : Int32)) hx hb dX11_wire_78 (by decide) ?_
              refine lv_isub hx hb dX11_wire_80 ?_
              refine lv_iload_n hx hb dX11_wire_81 rfl (lv_at hl 2 rfl) ?_
              obtain ⟨u_17, ou_17, hF⟩ := bnd hF
              obtain ⟨q_18, e_18, hF⟩ := bnd hF
              refine m_callV (As := [.int (v1 - (20 : Int32)), .int v2]) (rest := []) X hH hS hl.1 ou_17 rfl (by decide) (k_X0_waysWithin l D cI cT cII base r_16 (v1 - (20 : Int32)) v2 q_15.2 q_18 e_18) q_X0_waysWithin kw_773 kw_774 kw_775 rfl rfl (Nat.le_of_ble_eq_true rfl) ⟨by decide, by decide⟩ hc dX11_wire_82 (fun H locs hH hS => W.eq (g2 := F0 m 85 ls [.int q_18.1]) rfl ?_)
              refine lv_istore (lv' := [(7, .int q_18.1), (0, .ref (base + p0)), (1, .int v1), (2, .int v2), (3, .int v3), (4, .int v4), (5, .int v5), (6, .int v6)]) hx hb dX11_wire_85 hl (by decide) rfl (fun ls hl => ?_)
              refine lv_aload_n hx hb dX11_wire_87 rfl (lv_at hl 1 rfl) ?_
              obtain ⟨r_19, e_19, hF⟩ := bnd hF
              refine m_gR X hH e_19 gg_X11_73 dX11_wire_88 ?_
              refine lv_iload_n hx hb dX11_wire_91 rfl (lv_at hl 4 rfl) ?_
              obtain ⟨u_20, ou_20, hF⟩ := bnd hF
              obtain ⟨q_21, e_21, hF⟩ := bnd hF
              refine m_callV (As := [.int v3]) (rest := []) X hH hS hl.1 ou_20 rfl (by decide) (k_X0_allWays l D cI cT cII base r_19 v3 q_18.2 q_21 e_21) q_X0_allWays kw_778 kw_779 kw_780 rfl rfl (Nat.le_of_ble_eq_true rfl) ⟨by decide, by decide⟩ hc dX11_wire_92 (fun H locs hH hS => W.eq (g2 := F0 m 95 ls [.int q_21.1]) rfl ?_)
              refine lv_istore (lv' := [(8, .int q_21.1), (7, .int q_18.1), (0, .ref (base + p0)), (1, .int v1), (2, .int v2), (3, .int v3), (4, .int v4), (5, .int v5), (6, .int v6)]) hx hb dX11_wire_95 hl (by decide) rfl (fun ls hl => ?_)
              refine lv_iload hx hb dX11_wire_97 (lv_at hl 1 rfl) ?_
              refine lv_iload hx hb dX11_wire_99 (lv_at hl 0 rfl) ?_
              obtain ⟨q_22, e_22, hF⟩ := bnd hF
              refine m_callS (As := [.int q_18.1, .int q_21.1]) (rest := []) X hH hS hl.1 (k_X0_commonDivisor l D cI cT cII base q_18.1 q_21.1 q_21.2 q_22 e_22) q_X0_commonDivisor kw_782 kw_783 rfl rfl (Nat.le_of_ble_eq_true rfl) ⟨by decide, by decide⟩ hc dX11_wire_101 (fun H locs hH hS => W.eq (g2 := F0 m 104 ls [.int q_22.1]) rfl ?_)
              refine lv_istore (lv' := [(9, .int q_22.1), (8, .int q_21.1), (7, .int q_18.1), (0, .ref (base + p0)), (1, .int v1), (2, .int v2), (3, .int v3), (4, .int v4), (5, .int v5), (6, .int v6)]) hx hb dX11_wire_104 hl (by decide) rfl (fun ls hl => ?_)
              refine lv_iload hx hb dX11_wire_106 (lv_at hl 9 rfl) ?_
              refine lv_if_ne (tgt := 116) hx hb dX11_wire_108 (by decide) (fun c_23 => ?_) (fun c_23 => ?_)
              · replace hF := itf c_23 hF
                refine lv_iload hx hb dX11_wire_116 (lv_at hl 1 rfl) ?_
                refine lv_istore (lv' := [(10, .int q_21.1), (9, .int q_22.1), (8, .int q_21.1), (7, .int q_18.1), (0, .ref (base + p0)), (1, .int v1), (2, .int v2), (3, .int v3), (4, .int v4), (5, .int v5), (6, .int v6)]) hx hb dX11_wire_118 hl (by decide) rfl (fun ls hl => ?_)
                refine lv_iload hx hb dX11_wire_120 (lv_at hl 1 rfl) ?_
                refine lv_if_le (tgt := 133) hx hb dX11_wire_122 (by decide) (fun c_24 => ?_) (fun c_24 => ?_)
                · replace hF := itt c_24 hF
                  refine lv_iload hx hb dX11_wire_133 (lv_at hl 0 rfl) ?_
                  have hF := Option.some.inj hF
                  subst hF
                  exact m_iret X hr hlk hH hS dX11_wire_135
                · replace hF := itf c_24 hF
                  refine lv_iload hx hb dX11_wire_125 (lv_at hl 0 rfl) ?_
                  refine lv_iload hx hb dX11_wire_127 (lv_at hl 1 rfl) ?_
                  obtain ⟨x_25, e_25, hF⟩ := bnd hF
                  refine m_idiv X e_25 dX11_wire_129 ?_
                  refine lv_goto (tgt := 135) hx hb dX11_wire_130 (by decide) ?_
                  have hF := Option.some.inj hF
                  subst hF
                  exact m_iret X hr hlk hH hS dX11_wire_135
              · replace hF := itt c_23 hF
                refine lv_iload hx hb dX11_wire_111 (lv_at hl 2 rfl) ?_
                refine lv_goto (tgt := 118) hx hb dX11_wire_113 (by decide) ?_
                refine lv_istore (lv' := [(10, .int q_18.1), (9, .int q_22.1), (8, .int q_21.1), (7, .int q_18.1), (0, .ref (base + p0)), (1, .int v1), (2, .int v2), (3, .int v3), (4, .int v4), (5, .int v5), (6, .int v6)]) hx hb dX11_wire_118 hl (by decide) rfl (fun ls hl => ?_)
                refine lv_iload hx hb dX11_wire_120 (lv_at hl 1 rfl) ?_
                refine lv_if_le (tgt := 133) hx hb dX11_wire_122 (by decide) (fun c_26 => ?_) (fun c_26 => ?_)
                · replace hF := itt c_26 hF
                  refine lv_iload hx hb dX11_wire_133 (lv_at hl 0 rfl) ?_
                  have hF := Option.some.inj hF
                  subst hF
                  exact m_iret X hr hlk hH hS dX11_wire_135
                · replace hF := itf c_26 hF
                  refine lv_iload hx hb dX11_wire_125 (lv_at hl 0 rfl) ?_
                  refine lv_iload hx hb dX11_wire_127 (lv_at hl 1 rfl) ?_
                  obtain ⟨x_27, e_27, hF⟩ := bnd hF
                  refine m_idiv X e_27 dX11_wire_129 ?_
                  refine lv_goto (tgt := 135) hx hb dX11_wire_130 (by decide) ?_
                  have hF := Option.some.inj hF
                  subst hF
                  exact m_iret X hr hlk hH hS dX11_wire_135
            · replace hF := itf c_12 hF
              refine lv_iconst (v := (-1 : Int32)) hx hb dX11_wire_59 (by decide) ?_
              have hF := Option.some.inj hF
              subst hF
              exact m_iret X hr hlk hH hS dX11_wire_60
end M05
