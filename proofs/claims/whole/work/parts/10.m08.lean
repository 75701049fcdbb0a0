section M08
variable {p : Program} {l : Launch} {e : Env} {R : Room} {s : State} {m : MethodId} {args : Array Value} {below : List Frame} {meth : Method} {c : Code} {cells slots : Nat} {Q : State → Prop} {D : va_G} {cI cT cII : ClassId} {base : Nat}
noncomputable def fX12_put_3 (p0 : Nat) (v1 : Int32) (p2 : Nat) (v3 : Int32) (K_25 : Wd → Option (Unit × Wd)) : Nat → Int32 → Wd → Option (Unit × Wd)
  | 0, _, _ => none
  | n + 1, v4, w => if v3 ≤ v4 then K_25  w else (rdI p2 v4 w).bind fun x_2 => (wrI p0 (v1 + v4) x_2 w).bind fun w_3 => fX12_put_3 p0 v1 p2 v3 K_25 n (v4 + (1 : Int32)) w_3
noncomputable def fX12_put (p0 : Nat) (v1 : Int32) (p2 : Nat) (v3 : Int32) (w : Wd) : Option (Unit × Wd) := fX12_put_3 p0 v1 p2 v3 (fun  (w_4 : Wd) => some ((), w_4)) FV (0 : Int32) w
set_option maxHeartbeats 4000000 in
set_option maxRecDepth 100000 in
theorem l_X12_put_3 (X : Cx p R s m args c cX12_put 5 RX12 D cI cT cII 0 0) (hc : cells ≤ R.cells ∧ slots ≤ R.slots) (p0 : Nat) (v1 : Int32) (p2 : Nat) (v3 : Int32) (K_25 : Wd → Option (Unit × Wd)) (res : Unit × Wd)
    (hK_25 : ∀  (w : Wd), K_25  w = some res → ∀ (H : Heap) (locs : List Loc) (ls : Array Slot), Hd D cI cT cII base w H → va_S (fun q => base ≤ q) s.heap H locs → lv_has ls 5 [] → W p l e R s m args below meth c H locs cells slots Q (F0 m 25 ls [])) :
    ∀ (n : Nat) (v4 : Int32) (w : Wd), fX12_put_3 p0 v1 p2 v3 K_25 n v4 w = some res → ∀ (H : Heap) (locs : List Loc) (ls : Array Slot), Hd D cI cT cII base w H → va_S (fun q => base ≤ q) s.heap H locs → lv_has ls 5 [(0, .ref (base + p0)), (1, .int v1), (2, .ref (base + p2)), (3, .int v3), (4, .int v4)] → W p l e R s m args below meth c H locs cells slots Q (F0 m 3 ls []) := by
  have hx := X.1
  have hb := X.2.1
  intro n
  induction n with
  | zero =>
    intro v4 w hF
    rw [fX12_put_3] at hF
    cases hF
  | succ n ih =>
    intro v4 w hF H locs ls hH hS hl
    rw [fX12_put_3] at hF
    refine lv_iload hx hb dX12_put_3 (lv_at hl 4 rfl) ?_
    refine lv_iload_n hx hb dX12_put_5 rfl (lv_at hl 3 rfl) ?_
    refine lv_icmp_ge (tgt := 25) hx hb dX12_put_6 (by decide) (fun c_1 => ?_) (fun c_1 => ?_)
    · replace hF := itt c_1 hF
      exact hK_25  w hF H locs ls hH hS (lv_sub hl [] rfl)
    · replace hF := itf c_1 hF
      refine lv_aload_n hx hb dX12_put_9 rfl (lv_at hl 0 rfl) ?_
      refine lv_iload_n hx hb dX12_put_10 rfl (lv_at hl 1 rfl) ?_
      refine lv_iload hx hb dX12_put_11 (lv_at hl 4 rfl) ?_
      refine lv_iadd hx hb dX12_put_13 ?_
      refine lv_aload_n hx hb dX12_put_14 rfl (lv_at hl 2 rfl) ?_
      refine lv_iload hx hb dX12_put_15 (lv_at hl 4 rfl) ?_
      obtain ⟨x_2, e_2, hF⟩ := bnd hF
      refine m_rdI X hH e_2 dX12_put_17 ?_
      obtain ⟨w_3, e_3, hF⟩ := bnd hF
      refine m_wrI X hH hS e_3 dX12_put_18 (fun H locs hH hS => ?_)
      refine lv_iinc (v := v4 + (1 : Int32)) (lv' := [(4, .int (v4 + (1 : Int32))), (0, .ref (base + p0)), (1, .int v1), (2, .ref (base + p2)), (3, .int v3)]) hx hb dX12_put_19 hl (k := 4) rfl (congrArg (fun z => v4 + z) (by decide)) (by decide) rfl (fun ls hl => ?_)
      refine lv_goto (tgt := 3) hx hb dX12_put_22 (by decide) ?_
      exact ih (v4 + (1 : Int32)) w_3 hF H locs ls hH hS (lv_sub hl [1, 2, 3, 4, 0] rfl)
set_option maxHeartbeats 4000000 in
set_option maxRecDepth 100000 in
theorem k_X12_put (l : Launch) (D : va_G) (cI cT cII : ClassId) (base : Nat) (p0 : Nat) (v1 : Int32) (p2 : Nat) (v3 : Int32) (w : Wd) (res : Unit × Wd) (hF : fX12_put p0 v1 p2 v3 w = some res) : Ct l yX12_put cX12_put 5 none { frames := 0, cells := 0, slots := 0, locals := 0 } D cI cT cII base [.ref (base + p0), .int v1, .ref (base + p2), .int v3] w res.2 none 0 0 := by
  unfold fX12_put at hF
  refine m_enter (by decide) (Nat.le_of_ble_eq_true rfl) ?_
  intro p e s m below meth c ls X hr hlk hnm hH hS hl
  have hx := X.1
  have hb := X.2.1
  have hc : (0 : Nat) ≤ ({ frames := 0, cells := 0, slots := 0, locals := 0 } : Room).cells ∧ (0 : Nat) ≤ ({ frames := 0, cells := 0, slots := 0, locals := 0 } : Room).slots := ⟨Nat.zero_le _, Nat.zero_le _⟩
  obtain ⟨H, hHe⟩ : ∃ H : Heap, H = s.heap := ⟨_, rfl⟩
  obtain ⟨locs, hle⟩ : ∃ L : List Loc, L = [] := ⟨_, rfl⟩
  have hl : lv_has ls 5 [(0, .ref (base + p0)), (1, .int v1), (2, .ref (base + p2)), (3, .int v3)] := hl
  rw [← hHe] at hH
  have hS : va_S (fun q => base ≤ q) s.heap H locs := by rw [hHe, hle]; exact hS
  rw [← hle]
  show W p l e _ s m _ below meth c s.heap locs 0 0 _ _
  rw [← hHe]
  refine lv_iconst (v := (0 : Int32)) hx hb dX12_put_0 (by decide) ?_
  refine lv_istore (lv' := [(4, .int (0 : Int32)), (0, .ref (base + p0)), (1, .int v1), (2, .ref (base + p2)), (3, .int v3)]) hx hb dX12_put_1 hl (by decide) rfl (fun ls hl => ?_)
  refine l_X12_put_3 X hc p0 v1 p2 v3 _ res ?_ FV (0 : Int32) w hF H locs ls hH hS (lv_sub hl [1, 2, 3, 4, 0] rfl)
  · intro  w_4 hF H locs ls hH hS hl
    have hF := Option.some.inj hF
    subst hF
    exact m_vret X hr hlk hH hS dX12_put_25
noncomputable def fX12_readPersonOf (p0 : Nat) (w : Wd) : Option (Int32 × Wd) := (gfI 11 20 p0 w).bind fun x_1 => if x_1 = (5 : Int32) then some ((0 : Int32), w) else (isO 11 p0 w).bind fun u_3 => (fX12_readNumbers p0 (2 : Int32) w).bind fun q_4 => if q_4.1 = 0 then some ((0 : Int32), q_4.2) else (isO 11 p0 q_4.2).bind fun u_6 => (fX12_isTold p0 (0 : Int32) (0 : Int32) (3 : Int32) q_4.2).bind fun q_7 => if q_7.1 = 0 then some ((0 : Int32), q_7.2) else (isO 11 p0 q_7.2).bind fun u_9 => (fX12_isTold p0 (1 : Int32) (0 : Int32) (20 : Int32) q_7.2).bind fun q_10 => if q_10.1 = 0 then some ((0 : Int32), q_10.2) else (gfR 11 21 p0 q_10.2).bind fun r_12 => (gfI 11 20 p0 q_10.2).bind fun x_13 => (gfR 11 17 p0 q_10.2).bind fun r_14 => (fX12_put r_12 ((2 : Int32) * x_13) r_14 (2 : Int32) q_10.2).bind fun q_15 => (gfI 11 20 p0 q_15.2).bind fun x_16 => (pfI 11 20 p0 (x_16 + (1 : Int32)) q_15.2).bind fun w_17 => some ((1 : Int32), w_17)
set_option maxHeartbeats 4000000 in
set_option maxRecDepth 100000 in
theorem k_X12_readPersonOf (l : Launch) (D : va_G) (cI cT cII : ClassId) (base : Nat) (p0 : Nat) (w : Wd) (res : Int32 × Wd) (hF : fX12_readPersonOf p0 w = some res) : Ct l yX12_readPersonOf cX12_readPersonOf 1 (some .boolean) { frames := 3, cells := 0, slots := 0, locals := 64 } D cI cT cII base [.ref (base + p0)] w res.2 (some (.int res.1)) 0 0 := by
  unfold fX12_readPersonOf at hF
  refine m_enter (by decide) (Nat.le_of_ble_eq_true rfl) ?_
  intro p e s m below meth c ls X hr hlk hnm hH hS hl
  have hx := X.1
  have hb := X.2.1
  have hc : (0 : Nat) ≤ ({ frames := 3, cells := 0, slots := 0, locals := 64 } : Room).cells ∧ (0 : Nat) ≤ ({ frames := 3, cells := 0, slots := 0, locals := 64 } : Room).slots := ⟨Nat.zero_le _, Nat.zero_le _⟩
  obtain ⟨H, hHe⟩ : ∃ H : Heap, H = s.heap := ⟨_, rfl⟩
  obtain ⟨locs, hle⟩ : ∃ L : List Loc, L = [] := ⟨_, rfl⟩
  have hl : lv_has ls 1 [(0, .ref (base + p0))] := hl
  rw [← hHe] at hH
  have hS : va_S (fun q => base ≤ q) s.heap H locs := by rw [hHe, hle]; exact hS
  rw [← hle]
  show W p l e _ s m _ below meth c s.heap locs 0 0 _ _
  rw [← hHe]
  refine lv_aload_n hx hb dX12_readPersonOf_0 rfl (lv_at hl 0 rfl) ?_
  obtain ⟨x_1, e_1, hF⟩ := bnd hF
  refine m_gI X hH e_1 gg_X12_114 dX12_readPersonOf_1 ?_
  refine lv_iconst (v := (5 : Int32)) hx hb dX12_readPersonOf_4 (by decide) ?_
  refine lv_icmp_eq (tgt := 37) hx hb dX12_readPersonOf_5 (by decide) (fun c_2 => ?_) (fun c_2 => ?_)
  · replace hF := itt c_2 hF
    refine lv_iconst (v := (0 : Int32)) hx hb dX12_readPersonOf_37 (by decide) ?_
    have hF := Option.some.inj hF
    subst hF
    exact m_zret (r := (0 : Int32)) X hr hlk (by decide) hH hS dX12_readPersonOf_38
  · replace hF := itf c_2 hF
    refine lv_aload_n hx hb dX12_readPersonOf_8 rfl (lv_at hl 0 rfl) ?_
    refine lv_iconst (v := (2 : Int32)) hx hb dX12_readPersonOf_9 (by decide) ?_
    obtain ⟨u_3, ou_3, hF⟩ := bnd hF
    obtain ⟨q_4, e_4, hF⟩ := bnd hF
    refine m_callV (As := [.int (2 : Int32)]) (rest := []) X hH hS hl.1 ou_3 rfl (by decide) (k_X12_readNumbers l D cI cT cII base p0 (2 : Int32) w q_4 e_4) q_X12_readNumbers kw_974 kw_976 kw_28 rfl rfl (Nat.le_of_ble_eq_true rfl) ⟨by decide, by decide⟩ hc dX12_readPersonOf_10 (fun H locs hH hS => W.eq (g2 := F0 m 13 ls [.int q_4.1]) rfl ?_)
    refine lv_if_eq (tgt := 37) hx hb dX12_readPersonOf_13 (by decide) (fun c_5 => ?_) (fun c_5 => ?_)
    · replace hF := itt c_5 hF
      refine lv_iconst (v := (0 : Int32)) hx hb dX12_readPersonOf_37 (by decide) ?_
      have hF := Option.some.inj hF
      subst hF
      exact m_zret (r := (0 : Int32)) X hr hlk (by decide) hH hS dX12_readPersonOf_38
    · replace hF := itf c_5 hF
      refine lv_aload_n hx hb dX12_readPersonOf_16 rfl (lv_at hl 0 rfl) ?_
      refine lv_iconst (v := (0 : Int32)) hx hb dX12_readPersonOf_17 (by decide) ?_
      refine lv_iconst (v := (0 : Int32)) hx hb dX12_readPersonOf_18 (by decide) ?_
      refine lv_iconst (v := (3 : Int32)) hx hb dX12_readPersonOf_19 (by decide) ?_
      obtain ⟨u_6, ou_6, hF⟩ := bnd hF
      obtain ⟨q_7, e_7, hF⟩ := bnd hF
      refine m_callV (As := [.int (0 : Int32), .int (0 : Int32), .int (3 : Int32)]) (rest := []) X hH hS hl.1 ou_6 rfl (by decide) (k_X12_isTold l D cI cT cII base p0 (0 : Int32) (0 : Int32) (3 : Int32) q_4.2 q_7 e_7) q_X12_isTold kw_981 kw_983 kw_29 rfl rfl (Nat.le_of_ble_eq_true rfl) ⟨by decide, by decide⟩ hc dX12_readPersonOf_20 (fun H locs hH hS => W.eq (g2 := F0 m 23 ls [.int q_7.1]) rfl ?_)
      refine lv_if_eq (tgt := 37) hx hb dX12_readPersonOf_23 (by decide) (fun c_8 => ?_) (fun c_8 => ?_)
      · replace hF := itt c_8 hF
        refine lv_iconst (v := (0 : Int32)) hx hb dX12_readPersonOf_37 (by decide) ?_
        have hF := Option.some.inj hF
        subst hF
        exact m_zret (r := (0 : Int32)) X hr hlk (by decide) hH hS dX12_readPersonOf_38
      · replace hF := itf c_8 hF
        refine lv_aload_n hx hb dX12_readPersonOf_26 rfl (lv_at hl 0 rfl) ?_
        refine lv_iconst (v := (1 : Int32)) hx hb dX12_readPersonOf_27 (by decide) ?_
        refine lv_iconst (v := (0 : Int32)) hx hb dX12_readPersonOf_28 (by decide) ?_
        refine lv_bipush (v := (20 : Int32)) hx hb dX12_readPersonOf_29 (by decide) ?_
        obtain ⟨u_9, ou_9, hF⟩ := bnd hF
        obtain ⟨q_10, e_10, hF⟩ := bnd hF
        refine m_callV (As := [.int (1 : Int32), .int (0 : Int32), .int (20 : Int32)]) (rest := []) X hH hS hl.1 ou_9 rfl (by decide) (k_X12_isTold l D cI cT cII base p0 (1 : Int32) (0 : Int32) (20 : Int32) q_7.2 q_10 e_10) q_X12_isTold kw_981 kw_983 kw_29 rfl rfl (Nat.le_of_ble_eq_true rfl) ⟨by decide, by decide⟩ hc dX12_readPersonOf_31 (fun H locs hH hS => W.eq (g2 := F0 m 34 ls [.int q_10.1]) rfl ?_)
        refine lv_if_ne (tgt := 39) hx hb dX12_readPersonOf_34 (by decide) (fun c_11 => ?_) (fun c_11 => ?_)
        · replace hF := itf c_11 hF
          refine lv_aload_n hx hb dX12_readPersonOf_39 rfl (lv_at hl 0 rfl) ?_
          obtain ⟨r_12, e_12, hF⟩ := bnd hF
          refine m_gR X hH e_12 gg_X12_53 dX12_readPersonOf_40 ?_
          refine lv_iconst (v := (2 : Int32)) hx hb dX12_readPersonOf_43 (by decide) ?_
          refine lv_aload_n hx hb dX12_readPersonOf_44 rfl (lv_at hl 0 rfl) ?_
          obtain ⟨x_13, e_13, hF⟩ := bnd hF
          refine m_gI X hH e_13 gg_X12_114 dX12_readPersonOf_45 ?_
          refine lv_imul hx hb dX12_readPersonOf_48 ?_
          refine lv_aload_n hx hb dX12_readPersonOf_49 rfl (lv_at hl 0 rfl) ?_
          obtain ⟨r_14, e_14, hF⟩ := bnd hF
          refine m_gR X hH e_14 gg_X12_47 dX12_readPersonOf_50 ?_
          refine lv_iconst (v := (2 : Int32)) hx hb dX12_readPersonOf_53 (by decide) ?_
          obtain ⟨q_15, e_15, hF⟩ := bnd hF
          refine m_callS (As := [.ref (base + r_12), .int ((2 : Int32) * x_13), .ref (base + r_14), .int (2 : Int32)]) (rest := []) X hH hS hl.1 (k_X12_put l D cI cT cII base r_12 ((2 : Int32) * x_13) r_14 (2 : Int32) q_10.2 q_15 e_15) q_X12_put kw_993 kw_994 rfl rfl (Nat.le_of_ble_eq_true rfl) ⟨by decide, by decide⟩ hc dX12_readPersonOf_54 (fun H locs hH hS => W.eq (g2 := F0 m 57 ls []) rfl ?_)
          refine lv_aload_n hx hb dX12_readPersonOf_57 rfl (lv_at hl 0 rfl) ?_
          refine lv_dup hx hb dX12_readPersonOf_58 rfl ?_
          obtain ⟨x_16, e_16, hF⟩ := bnd hF
          refine m_gI X hH e_16 gg_X12_114 dX12_readPersonOf_59 ?_
          refine lv_iconst (v := (1 : Int32)) hx hb dX12_readPersonOf_62 (by decide) ?_
          refine lv_iadd hx hb dX12_readPersonOf_63 ?_
          obtain ⟨w_17, e_17, hF⟩ := bnd hF
          refine m_pI X hH hS e_17 gp_X12_114 rfl rfl dX12_readPersonOf_64 (fun H locs hH hS => ?_)
          refine lv_iconst (v := (1 : Int32)) hx hb dX12_readPersonOf_67 (by decide) ?_
          have hF := Option.some.inj hF
          subst hF
          exact m_zret (r := (1 : Int32)) X hr hlk (by decide) hH hS dX12_readPersonOf_68
        · replace hF := itt c_11 hF
          refine lv_iconst (v := (0 : Int32)) hx hb dX12_readPersonOf_37 (by decide) ?_
          have hF := Option.some.inj hF
          subst hF
          exact m_zret (r := (0 : Int32)) X hr hlk (by decide) hH hS dX12_readPersonOf_38
noncomputable def fX12_readComingOf (p0 : Nat) (w : Wd) : Option (Int32 × Wd) := (gfI 11 22 p0 w).bind fun x_1 => if x_1 = (10 : Int32) then some ((0 : Int32), w) else (isO 11 p0 w).bind fun u_3 => (fX12_readNumbers p0 (3 : Int32) w).bind fun q_4 => if q_4.1 = 0 then some ((0 : Int32), q_4.2) else (gfI 11 20 p0 q_4.2).bind fun x_6 => (isO 11 p0 q_4.2).bind fun u_7 => (fX12_isTold p0 (0 : Int32) (0 : Int32) (x_6 - (1 : Int32)) q_4.2).bind fun q_8 => if q_8.1 = 0 then some ((0 : Int32), q_8.2) else (isO 11 p0 q_8.2).bind fun u_10 => (fX12_isTold p0 (1 : Int32) (0 : Int32) (23 : Int32) q_8.2).bind fun q_11 => if q_11.1 = 0 then some ((0 : Int32), q_11.2) else (isO 11 p0 q_11.2).bind fun u_13 => (fX12_isTold p0 (2 : Int32) (0 : Int32) (3 : Int32) q_11.2).bind fun q_14 => if q_14.1 = 0 then some ((0 : Int32), q_14.2) else (gfR 11 23 p0 q_14.2).bind fun r_16 => (gfI 11 22 p0 q_14.2).bind fun x_17 => (gfR 11 17 p0 q_14.2).bind fun r_18 => (fX12_put r_16 ((3 : Int32) * x_17) r_18 (3 : Int32) q_14.2).bind fun q_19 => (gfI 11 22 p0 q_19.2).bind fun x_20 => (pfI 11 22 p0 (x_20 + (1 : Int32)) q_19.2).bind fun w_21 => some ((1 : Int32), w_21)
set_option maxHeartbeats 4000000 in
set_option maxRecDepth 100000 in
theorem k_X12_readComingOf (l : Launch) (D : va_G) (cI cT cII : ClassId) (base : Nat) (p0 : Nat) (w : Wd) (res : Int32 × Wd) (hF : fX12_readComingOf p0 w = some res) : Ct l yX12_readComingOf cX12_readComingOf 1 (some .boolean) { frames := 3, cells := 0, slots := 0, locals := 64 } D cI cT cII base [.ref (base + p0)] w res.2 (some (.int res.1)) 0 0 := by
  unfold fX12_readComingOf at hF
  refine m_enter (by decide) (Nat.le_of_ble_eq_true rfl) ?_
  intro p e s m below meth c ls X hr hlk hnm hH hS hl
  have hx := X.1
  have hb := X.2.1
  have hc : (0 : Nat) ≤ ({ frames := 3, cells := 0, slots := 0, locals := 64 } : Room).cells ∧ (0 : Nat) ≤ ({ frames := 3, cells := 0, slots := 0, locals := 64 } : Room).slots := ⟨Nat.zero_le _, Nat.zero_le _⟩
  obtain ⟨H, hHe⟩ : ∃ H : Heap, H = s.heap := ⟨_, rfl⟩
  obtain ⟨locs, hle⟩ : ∃ L : List Loc, L = [] := ⟨_, rfl⟩
  have hl : lv_has ls 1 [(0, .ref (base + p0))] := hl
  rw [← hHe] at hH
  have hS : va_S (fun q => base ≤ q) s.heap H locs := by rw [hHe, hle]; exact hS
  rw [← hle]
  show W p l e _ s m _ below meth c s.heap locs 0 0 _ _
  rw [← hHe]
  refine lv_aload_n hx hb dX12_readComingOf_0 rfl (lv_at hl 0 rfl) ?_
  obtain ⟨x_1, e_1, hF⟩ := bnd hF
  refine m_gI X hH e_1 gg_X12_121 dX12_readComingOf_1 ?_
  refine lv_bipush (v := (10 : Int32)) hx hb dX12_readComingOf_4 (by decide) ?_
  refine lv_icmp_eq (tgt := 53) hx hb dX12_readComingOf_6 (by decide) (fun c_2 => ?_) (fun c_2 => ?_)
  · replace hF := itt c_2 hF
    refine lv_iconst (v := (0 : Int32)) hx hb dX12_readComingOf_53 (by decide) ?_
    have hF := Option.some.inj hF
    subst hF
    exact m_zret (r := (0 : Int32)) X hr hlk (by decide) hH hS dX12_readComingOf_54
  · replace hF := itf c_2 hF
    refine lv_aload_n hx hb dX12_readComingOf_9 rfl (lv_at hl 0 rfl) ?_
    refine lv_iconst (v := (3 : Int32)) hx hb dX12_readComingOf_10 (by decide) ?_
    obtain ⟨u_3, ou_3, hF⟩ := bnd hF
    obtain ⟨q_4, e_4, hF⟩ := bnd hF
    refine m_callV (As := [.int (3 : Int32)]) (rest := []) X hH hS hl.1 ou_3 rfl (by decide) (k_X12_readNumbers l D cI cT cII base p0 (3 : Int32) w q_4 e_4) q_X12_readNumbers kw_974 kw_976 kw_28 rfl rfl (Nat.le_of_ble_eq_true rfl) ⟨by decide, by decide⟩ hc dX12_readComingOf_11 (fun H locs hH hS => W.eq (g2 := F0 m 14 ls [.int q_4.1]) rfl ?_)
    refine lv_if_eq (tgt := 53) hx hb dX12_readComingOf_14 (by decide) (fun c_5 => ?_) (fun c_5 => ?_)
    · replace hF := itt c_5 hF
      refine lv_iconst (v := (0 : Int32)) hx hb dX12_readComingOf_53 (by decide) ?_
      have hF := Option.some.inj hF
      subst hF
      exact m_zret (r := (0 : Int32)) X hr hlk (by decide) hH hS dX12_readComingOf_54
    · replace hF := itf c_5 hF
      refine lv_aload_n hx hb dX12_readComingOf_17 rfl (lv_at hl 0 rfl) ?_
      refine lv_iconst (v := (0 : Int32)) hx hb dX12_readComingOf_18 (by decide) ?_
      refine lv_iconst (v := (0 : Int32)) hx hb dX12_readComingOf_19 (by decide) ?_
      refine lv_aload_n hx hb dX12_readComingOf_20 rfl (lv_at hl 0 rfl) ?_
      obtain ⟨x_6, e_6, hF⟩ := bnd hF
      refine m_gI X hH e_6 gg_X12_114 dX12_readComingOf_21 ?_
      refine lv_iconst (v := (1 : Int32)) hx hb dX12_readComingOf_24 (by decide) ?_
      refine lv_isub hx hb dX12_readComingOf_25 ?_
      obtain ⟨u_7, ou_7, hF⟩ := bnd hF
      obtain ⟨q_8, e_8, hF⟩ := bnd hF
      refine m_callV (As := [.int (0 : Int32), .int (0 : Int32), .int (x_6 - (1 : Int32))]) (rest := []) X hH hS hl.1 ou_7 rfl (by decide) (k_X12_isTold l D cI cT cII base p0 (0 : Int32) (0 : Int32) (x_6 - (1 : Int32)) q_4.2 q_8 e_8) q_X12_isTold kw_981 kw_983 kw_29 rfl rfl (Nat.le_of_ble_eq_true rfl) ⟨by decide, by decide⟩ hc dX12_readComingOf_26 (fun H locs hH hS => W.eq (g2 := F0 m 29 ls [.int q_8.1]) rfl ?_)
      refine lv_if_eq (tgt := 53) hx hb dX12_readComingOf_29 (by decide) (fun c_9 => ?_) (fun c_9 => ?_)
      · replace hF := itt c_9 hF
        refine lv_iconst (v := (0 : Int32)) hx hb dX12_readComingOf_53 (by decide) ?_
        have hF := Option.some.inj hF
        subst hF
        exact m_zret (r := (0 : Int32)) X hr hlk (by decide) hH hS dX12_readComingOf_54
      · replace hF := itf c_9 hF
        refine lv_aload_n hx hb dX12_readComingOf_32 rfl (lv_at hl 0 rfl) ?_
        refine lv_iconst (v := (1 : Int32)) hx hb dX12_readComingOf_33 (by decide) ?_
        refine lv_iconst (v := (0 : Int32)) hx hb dX12_readComingOf_34 (by decide) ?_
        refine lv_bipush (v := (23 : Int32)) hx hb dX12_readComingOf_35 (by decide) ?_
        obtain ⟨u_10, ou_10, hF⟩ := bnd hF
        obtain ⟨q_11, e_11, hF⟩ := bnd hF
        refine m_callV (As := [.int (1 : Int32), .int (0 : Int32), .int (23 : Int32)]) (rest := []) X hH hS hl.1 ou_10 rfl (by decide) (k_X12_isTold l D cI cT cII base p0 (1 : Int32) (0 : Int32) (23 : Int32) q_8.2 q_11 e_11) q_X12_isTold kw_981 kw_983 kw_29 rfl rfl (Nat.le_of_ble_eq_true rfl) ⟨by decide, by decide⟩ hc dX12_readComingOf_37 (fun H locs hH hS => W.eq (g2 := F0 m 40 ls [.int q_11.1]) rfl ?_)
        refine lv_if_eq (tgt := 53) hx hb dX12_readComingOf_40 (by decide) (fun c_12 => ?_) (fun c_12 => ?_)
        · replace hF := itt c_12 hF
          refine lv_iconst (v := (0 : Int32)) hx hb dX12_readComingOf_53 (by decide) ?_
          have hF := Option.some.inj hF
          subst hF
          exact m_zret (r := (0 : Int32)) X hr hlk (by decide) hH hS dX12_readComingOf_54
        · replace hF := itf c_12 hF
          refine lv_aload_n hx hb dX12_readComingOf_43 rfl (lv_at hl 0 rfl) ?_
          refine lv_iconst (v := (2 : Int32)) hx hb dX12_readComingOf_44 (by decide) ?_
          refine lv_iconst (v := (0 : Int32)) hx hb dX12_readComingOf_45 (by decide) ?_
          refine lv_iconst (v := (3 : Int32)) hx hb dX12_readComingOf_46 (by decide) ?_
          obtain ⟨u_13, ou_13, hF⟩ := bnd hF
          obtain ⟨q_14, e_14, hF⟩ := bnd hF
          refine m_callV (As := [.int (2 : Int32), .int (0 : Int32), .int (3 : Int32)]) (rest := []) X hH hS hl.1 ou_13 rfl (by decide) (k_X12_isTold l D cI cT cII base p0 (2 : Int32) (0 : Int32) (3 : Int32) q_11.2 q_14 e_14) q_X12_isTold kw_981 kw_983 kw_29 rfl rfl (Nat.le_of_ble_eq_true rfl) ⟨by decide, by decide⟩ hc dX12_readComingOf_47 (fun H locs hH hS => W.eq (g2 := F0 m 50 ls [.int q_14.1]) rfl ?_)
          refine lv_if_ne (tgt := 55) hx hb dX12_readComingOf_50 (by decide) (fun c_15 => ?_) (fun c_15 => ?_)
          · replace hF := itf c_15 hF
            refine lv_aload_n hx hb dX12_readComingOf_55 rfl (lv_at hl 0 rfl) ?_
            obtain ⟨r_16, e_16, hF⟩ := bnd hF
            refine m_gR X hH e_16 gg_X12_56 dX12_readComingOf_56 ?_
            refine lv_iconst (v := (3 : Int32)) hx hb dX12_readComingOf_59 (by decide) ?_
            refine lv_aload_n hx hb dX12_readComingOf_60 rfl (lv_at hl 0 rfl) ?_
            obtain ⟨x_17, e_17, hF⟩ := bnd hF
            refine m_gI X hH e_17 gg_X12_121 dX12_readComingOf_61 ?_
            refine lv_imul hx hb dX12_readComingOf_64 ?_
            refine lv_aload_n hx hb dX12_readComingOf_65 rfl (lv_at hl 0 rfl) ?_
            obtain ⟨r_18, e_18, hF⟩ := bnd hF
            refine m_gR X hH e_18 gg_X12_47 dX12_readComingOf_66 ?_
            refine lv_iconst (v := (3 : Int32)) hx hb dX12_readComingOf_69 (by decide) ?_
            obtain ⟨q_19, e_19, hF⟩ := bnd hF
            refine m_callS (As := [.ref (base + r_16), .int ((3 : Int32) * x_17), .ref (base + r_18), .int (3 : Int32)]) (rest := []) X hH hS hl.1 (k_X12_put l D cI cT cII base r_16 ((3 : Int32) * x_17) r_18 (3 : Int32) q_14.2 q_19 e_19) q_X12_put kw_993 kw_994 rfl rfl (Nat.le_of_ble_eq_true rfl) ⟨by decide, by decide⟩ hc dX12_readComingOf_70 (fun H locs hH hS => W.eq (g2 := F0 m 73 ls []) rfl ?_)
            refine lv_aload_n hx hb dX12_readComingOf_73 rfl (lv_at hl 0 rfl) ?_
            refine lv_dup hx hb dX12_readComingOf_74 rfl ?_
            obtain ⟨x_20, e_20, hF⟩ := bnd hF
            refine m_gI X hH e_20 gg_X12_121 dX12_readComingOf_75 ?_
            refine lv_iconst (v := (1 : Int32)) hx hb dX12_readComingOf_78 (by decide) ?_
            refine lv_iadd hx hb dX12_readComingOf_79 ?_
            obtain ⟨w_21, e_21, hF⟩ := bnd hF
            refine m_pI X hH hS e_21 gp_X12_121 rfl rfl dX12_readComingOf_80 (fun H locs hH hS => ?_)
            refine lv_iconst (v := (1 : Int32)) hx hb dX12_readComingOf_83 (by decide) ?_
            have hF := Option.some.inj hF
            subst hF
            exact m_zret (r := (1 : Int32)) X hr hlk (by decide) hH hS dX12_readComingOf_84
          · replace hF := itt c_15 hF
            refine lv_iconst (v := (0 : Int32)) hx hb dX12_readComingOf_53 (by decide) ?_
            have hF := Option.some.inj hF
            subst hF
            exact m_zret (r := (0 : Int32)) X hr hlk (by decide) hH hS dX12_readComingOf_54
noncomputable def fX12_readTurn (p0 : Nat) (w : Wd) : Option (Int32 × Wd) := (gfR 11 24 p0 w).bind fun r_1 => (rdI r_1 (0 : Int32) w).bind fun x_2 => if x_2 = (8 : Int32) then some ((0 : Int32), w) else (isO 11 p0 w).bind fun u_4 => (fX12_readNumbers p0 (3 : Int32) w).bind fun q_5 => if q_5.1 = 0 then some ((0 : Int32), q_5.2) else (isO 11 p0 q_5.2).bind fun u_7 => (fX12_isTold p0 (0 : Int32) (0 : Int32) (30 : Int32) q_5.2).bind fun q_8 => if q_8.1 = 0 then some ((0 : Int32), q_8.2) else (gfI 11 18 p0 q_8.2).bind fun x_10 => (isO 11 p0 q_8.2).bind fun u_11 => (fX12_isTold p0 (1 : Int32) (0 : Int32) (x_10 - (1 : Int32)) q_8.2).bind fun q_12 => if q_12.1 = 0 then some ((0 : Int32), q_12.2) else (isO 11 p0 q_12.2).bind fun u_14 => (fX12_isTold p0 (2 : Int32) (0 : Int32) (40 : Int32) q_12.2).bind fun q_15 => if q_15.1 = 0 then some ((0 : Int32), q_15.2) else (gfR 11 24 p0 q_15.2).bind fun r_17 => (gfR 11 24 p0 q_15.2).bind fun r_18 => (rdI r_18 (0 : Int32) q_15.2).bind fun x_19 => (gfR 11 17 p0 q_15.2).bind fun r_20 => (rdI r_20 (0 : Int32) q_15.2).bind fun x_21 => (gfR 11 17 p0 q_15.2).bind fun r_22 => (rdI r_22 (1 : Int32) q_15.2).bind fun x_23 => (gfR 11 17 p0 q_15.2).bind fun r_24 => (rdI r_24 (2 : Int32) q_15.2).bind fun x_25 => (fX12_lays r_17 ((1 : Int32) + ((3 : Int32) * x_19)) x_21 x_23 (x_25 - (20 : Int32)) q_15.2).bind fun q_26 => (gfR 11 24 p0 q_26.2).bind fun r_27 => (rdI r_27 (0 : Int32) q_26.2).bind fun x_28 => (wrI r_27 (0 : Int32) (x_28 + (1 : Int32)) q_26.2).bind fun w_29 => some ((1 : Int32), w_29)
set_option maxHeartbeats 4000000 in
set_option maxRecDepth 100000 in
theorem k_X12_readTurn (l : Launch) (D : va_G) (cI cT cII : ClassId) (base : Nat) (p0 : Nat) (w : Wd) (res : Int32 × Wd) (hF : fX12_readTurn p0 w = some res) : Ct l yX12_readTurn cX12_readTurn 1 (some .boolean) { frames := 3, cells := 0, slots := 0, locals := 64 } D cI cT cII base [.ref (base + p0)] w res.2 (some (.int res.1)) 0 0 := by
  unfold fX12_readTurn at hF
  refine m_enter (by decide) (Nat.le_of_ble_eq_true rfl) ?_
  intro p e s m below meth c ls X hr hlk hnm hH hS hl
  have hx := X.1
  have hb := X.2.1
  have hc : (0 : Nat) ≤ ({ frames := 3, cells := 0, slots := 0, locals := 64 } : Room).cells ∧ (0 : Nat) ≤ ({ frames := 3, cells := 0, slots := 0, locals := 64 } : Room).slots := ⟨Nat.zero_le _, Nat.zero_le _⟩
  obtain ⟨H, hHe⟩ : ∃ H : Heap, H = s.heap := ⟨_, rfl⟩
  obtain ⟨locs, hle⟩ : ∃ L : List Loc, L = [] := ⟨_, rfl⟩
  have hl : lv_has ls 1 [(0, .ref (base + p0))] := hl
  rw [← hHe] at hH
  have hS : va_S (fun q => base ≤ q) s.heap H locs := by rw [hHe, hle]; exact hS
  rw [← hle]
  show W p l e _ s m _ below meth c s.heap locs 0 0 _ _
  rw [← hHe]
  refine lv_aload_n hx hb dX12_readTurn_0 rfl (lv_at hl 0 rfl) ?_
  obtain ⟨r_1, e_1, hF⟩ := bnd hF
  refine m_gR X hH e_1 gg_X12_59 dX12_readTurn_1 ?_
  refine lv_iconst (v := (0 : Int32)) hx hb dX12_readTurn_4 (by decide) ?_
  obtain ⟨x_2, e_2, hF⟩ := bnd hF
  refine m_rdI X hH e_2 dX12_readTurn_5 ?_
  refine lv_bipush (v := (8 : Int32)) hx hb dX12_readTurn_6 (by decide) ?_
  refine lv_icmp_eq (tgt := 56) hx hb dX12_readTurn_8 (by decide) (fun c_3 => ?_) (fun c_3 => ?_)
  · replace hF := itt c_3 hF
    refine lv_iconst (v := (0 : Int32)) hx hb dX12_readTurn_56 (by decide) ?_
    have hF := Option.some.inj hF
    subst hF
    exact m_zret (r := (0 : Int32)) X hr hlk (by decide) hH hS dX12_readTurn_57
  · replace hF := itf c_3 hF
    refine lv_aload_n hx hb dX12_readTurn_11 rfl (lv_at hl 0 rfl) ?_
    refine lv_iconst (v := (3 : Int32)) hx hb dX12_readTurn_12 (by decide) ?_
    obtain ⟨u_4, ou_4, hF⟩ := bnd hF
    obtain ⟨q_5, e_5, hF⟩ := bnd hF
    refine m_callV (As := [.int (3 : Int32)]) (rest := []) X hH hS hl.1 ou_4 rfl (by decide) (k_X12_readNumbers l D cI cT cII base p0 (3 : Int32) w q_5 e_5) q_X12_readNumbers kw_974 kw_976 kw_28 rfl rfl (Nat.le_of_ble_eq_true rfl) ⟨by decide, by decide⟩ hc dX12_readTurn_13 (fun H locs hH hS => W.eq (g2 := F0 m 16 ls [.int q_5.1]) rfl ?_)
    refine lv_if_eq (tgt := 56) hx hb dX12_readTurn_16 (by decide) (fun c_6 => ?_) (fun c_6 => ?_)
    · replace hF := itt c_6 hF
      refine lv_iconst (v := (0 : Int32)) hx hb dX12_readTurn_56 (by decide) ?_
      have hF := Option.some.inj hF
      subst hF
      exact m_zret (r := (0 : Int32)) X hr hlk (by decide) hH hS dX12_readTurn_57
    · replace hF := itf c_6 hF
      refine lv_aload_n hx hb dX12_readTurn_19 rfl (lv_at hl 0 rfl) ?_
      refine lv_iconst (v := (0 : Int32)) hx hb dX12_readTurn_20 (by decide) ?_
      refine lv_iconst (v := (0 : Int32)) hx hb dX12_readTurn_21 (by decide) ?_
      refine lv_bipush (v := (30 : Int32)) hx hb dX12_readTurn_22 (by decide) ?_
      obtain ⟨u_7, ou_7, hF⟩ := bnd hF
      obtain ⟨q_8, e_8, hF⟩ := bnd hF
      refine m_callV (As := [.int (0 : Int32), .int (0 : Int32), .int (30 : Int32)]) (rest := []) X hH hS hl.1 ou_7 rfl (by decide) (k_X12_isTold l D cI cT cII base p0 (0 : Int32) (0 : Int32) (30 : Int32) q_5.2 q_8 e_8) q_X12_isTold kw_981 kw_983 kw_29 rfl rfl (Nat.le_of_ble_eq_true rfl) ⟨by decide, by decide⟩ hc dX12_readTurn_24 (fun H locs hH hS => W.eq (g2 := F0 m 27 ls [.int q_8.1]) rfl ?_)
      refine lv_if_eq (tgt := 56) hx hb dX12_readTurn_27 (by decide) (fun c_9 => ?_) (fun c_9 => ?_)
      · replace hF := itt c_9 hF
        refine lv_iconst (v := (0 : Int32)) hx hb dX12_readTurn_56 (by decide) ?_
        have hF := Option.some.inj hF
        subst hF
        exact m_zret (r := (0 : Int32)) X hr hlk (by decide) hH hS dX12_readTurn_57
      · replace hF := itf c_9 hF
        refine lv_aload_n hx hb dX12_readTurn_30 rfl (lv_at hl 0 rfl) ?_
        refine lv_iconst (v := (1 : Int32)) hx hb dX12_readTurn_31 (by decide) ?_
        refine lv_iconst (v := (0 : Int32)) hx hb dX12_readTurn_32 (by decide) ?_
        refine lv_aload_n hx hb dX12_readTurn_33 rfl (lv_at hl 0 rfl) ?_
        obtain ⟨x_10, e_10, hF⟩ := bnd hF
        refine m_gI X hH e_10 gg_X12_105 dX12_readTurn_34 ?_
        refine lv_iconst (v := (1 : Int32)) hx hb dX12_readTurn_37 (by decide) ?_
        refine lv_isub hx hb dX12_readTurn_38 ?_
        obtain ⟨u_11, ou_11, hF⟩ := bnd hF
        obtain ⟨q_12, e_12, hF⟩ := bnd hF
        refine m_callV (As := [.int (1 : Int32), .int (0 : Int32), .int (x_10 - (1 : Int32))]) (rest := []) X hH hS hl.1 ou_11 rfl (by decide) (k_X12_isTold l D cI cT cII base p0 (1 : Int32) (0 : Int32) (x_10 - (1 : Int32)) q_8.2 q_12 e_12) q_X12_isTold kw_981 kw_983 kw_29 rfl rfl (Nat.le_of_ble_eq_true rfl) ⟨by decide, by decide⟩ hc dX12_readTurn_39 (fun H locs hH hS => W.eq (g2 := F0 m 42 ls [.int q_12.1]) rfl ?_)
        refine lv_if_eq (tgt := 56) hx hb dX12_readTurn_42 (by decide) (fun c_13 => ?_) (fun c_13 => ?_)
        · replace hF := itt c_13 hF
          refine lv_iconst (v := (0 : Int32)) hx hb dX12_readTurn_56 (by decide) ?_
          have hF := Option.some.inj hF
          subst hF
          exact m_zret (r := (0 : Int32)) X hr hlk (by decide) hH hS dX12_readTurn_57
        · replace hF := itf c_13 hF
          refine lv_aload_n hx hb dX12_readTurn_45 rfl (lv_at hl 0 rfl) ?_
          refine lv_iconst (v := (2 : Int32)) hx hb dX12_readTurn_46 (by decide) ?_
          refine lv_iconst (v := (0 : Int32)) hx hb dX12_readTurn_47 (by decide) ?_
          refine lv_bipush (v := (40 : Int32)) hx hb dX12_readTurn_48 (by decide) ?_
          obtain ⟨u_14, ou_14, hF⟩ := bnd hF
          obtain ⟨q_15, e_15, hF⟩ := bnd hF
          refine m_callV (As := [.int (2 : Int32), .int (0 : Int32), .int (40 : Int32)]) (rest := []) X hH hS hl.1 ou_14 rfl (by decide) (k_X12_isTold l D cI cT cII base p0 (2 : Int32) (0 : Int32) (40 : Int32) q_12.2 q_15 e_15) q_X12_isTold kw_981 kw_983 kw_29 rfl rfl (Nat.le_of_ble_eq_true rfl) ⟨by decide, by decide⟩ hc dX12_readTurn_50 (fun H locs hH hS => W.eq (g2 := F0 m 53 ls [.int q_15.1]) rfl ?_)
          refine lv_if_ne (tgt := 58) hx hb dX12_readTurn_53 (by decide) (fun c_16 => ?_) (fun c_16 => ?_)
          · replace hF := itf c_16 hF
            refine lv_aload_n hx hb dX12_readTurn_58 rfl (lv_at hl 0 rfl) ?_
            obtain ⟨r_17, e_17, hF⟩ := bnd hF
            refine m_gR X hH e_17 gg_X12_59 dX12_readTurn_59 ?_
            refine lv_iconst (v := (1 : Int32)) hx hb dX12_readTurn_62 (by decide) ?_
            refine lv_iconst (v := (3 : Int32)) hx hb dX12_readTurn_63 (by decide) ?_
            refine lv_aload_n hx hb dX12_readTurn_64 rfl (lv_at hl 0 rfl) ?_
            obtain ⟨r_18, e_18, hF⟩ := bnd hF
            refine m_gR X hH e_18 gg_X12_59 dX12_readTurn_65 ?_
            refine lv_iconst (v := (0 : Int32)) hx hb dX12_readTurn_68 (by decide) ?_
            obtain ⟨x_19, e_19, hF⟩ := bnd hF
            refine m_rdI X hH e_19 dX12_readTurn_69 ?_
            refine lv_imul hx hb dX12_readTurn_70 ?_
            refine lv_iadd hx hb dX12_readTurn_71 ?_
            refine lv_aload_n hx hb dX12_readTurn_72 rfl (lv_at hl 0 rfl) ?_
            obtain ⟨r_20, e_20, hF⟩ := bnd hF
            refine m_gR X hH e_20 gg_X12_47 dX12_readTurn_73 ?_
            refine lv_iconst (v := (0 : Int32)) hx hb dX12_readTurn_76 (by decide) ?_
            obtain ⟨x_21, e_21, hF⟩ := bnd hF
            refine m_rdI X hH e_21 dX12_readTurn_77 ?_
            refine lv_aload_n hx hb dX12_readTurn_78 rfl (lv_at hl 0 rfl) ?_
            obtain ⟨r_22, e_22, hF⟩ := bnd hF
            refine m_gR X hH e_22 gg_X12_47 dX12_readTurn_79 ?_
            refine lv_iconst (v := (1 : Int32)) hx hb dX12_readTurn_82 (by decide) ?_
            obtain ⟨x_23, e_23, hF⟩ := bnd hF
            refine m_rdI X hH e_23 dX12_readTurn_83 ?_
            refine lv_aload_n hx hb dX12_readTurn_84 rfl (lv_at hl 0 rfl) ?_
            obtain ⟨r_24, e_24, hF⟩ := bnd hF
            refine m_gR X hH e_24 gg_X12_47 dX12_readTurn_85 ?_
            refine lv_iconst (v := (2 : Int32)) hx hb dX12_readTurn_88 (by decide) ?_
            obtain ⟨x_25, e_25, hF⟩ := bnd hF
            refine m_rdI X hH e_25 dX12_readTurn_89 ?_
            refine lv_bipush (v := (20 : Int32)) hx hb dX12_readTurn_90 (by decide) ?_
            refine lv_isub hx hb dX12_readTurn_92 ?_
            obtain ⟨q_26, e_26, hF⟩ := bnd hF
            refine m_callS (As := [.ref (base + r_17), .int ((1 : Int32) + ((3 : Int32) * x_19)), .int x_21, .int x_23, .int (x_25 - (20 : Int32))]) (rest := []) X hH hS hl.1 (k_X12_lays l D cI cT cII base r_17 ((1 : Int32) + ((3 : Int32) * x_19)) x_21 x_23 (x_25 - (20 : Int32)) q_15.2 q_26 e_26) q_X12_lays kw_843 kw_844 rfl rfl (Nat.le_of_ble_eq_true rfl) ⟨by decide, by decide⟩ hc dX12_readTurn_93 (fun H locs hH hS => W.eq (g2 := F0 m 96 ls []) rfl ?_)
            refine lv_aload_n hx hb dX12_readTurn_96 rfl (lv_at hl 0 rfl) ?_
            obtain ⟨r_27, e_27, hF⟩ := bnd hF
            refine m_gR X hH e_27 gg_X12_59 dX12_readTurn_97 ?_
            refine lv_iconst (v := (0 : Int32)) hx hb dX12_readTurn_100 (by decide) ?_
            refine lv_dup2_11 hx hb dX12_readTurn_101 rfl rfl ?_
            obtain ⟨x_28, e_28, hF⟩ := bnd hF
            refine m_rdI X hH e_28 dX12_readTurn_102 ?_
            refine lv_iconst (v := (1 : Int32)) hx hb dX12_readTurn_103 (by decide) ?_
            refine lv_iadd hx hb dX12_readTurn_104 ?_
            obtain ⟨w_29, e_29, hF⟩ := bnd hF
            refine m_wrI X hH hS e_29 dX12_readTurn_105 (fun H locs hH hS => ?_)
            refine lv_iconst (v := (1 : Int32)) hx hb dX12_readTurn_106 (by decide) ?_
            have hF := Option.some.inj hF
            subst hF
            exact m_zret (r := (1 : Int32)) X hr hlk (by decide) hH hS dX12_readTurn_107
          · replace hF := itt c_16 hF
            refine lv_iconst (v := (0 : Int32)) hx hb dX12_readTurn_56 (by decide) ?_
            have hF := Option.some.inj hF
            subst hF
            exact m_zret (r := (0 : Int32)) X hr hlk (by decide) hH hS dX12_readTurn_57
noncomputable def fX12_readPatch (p0 : Nat) (w : Wd) : Option (Int32 × Wd) := (isO 11 p0 w).bind fun u_1 => (fX12_readNumbers p0 (2 : Int32) w).bind fun q_2 => if q_2.1 = 0 then if (0 : Int32) = 0 then some ((0 : Int32), q_2.2) else (gfR 11 19 p0 q_2.2).bind fun r_5 => (gfR 11 17 p0 q_2.2).bind fun r_6 => (rdI r_6 (0 : Int32) q_2.2).bind fun x_7 => (gfR 11 17 p0 q_2.2).bind fun r_8 => (rdI r_8 (1 : Int32) q_2.2).bind fun x_9 => (wrI r_5 (((4 : Int32) * x_7) + (3 : Int32)) (x_9 - (20 : Int32)) q_2.2).bind fun w_10 => some ((0 : Int32), w_10) else (gfI 11 18 p0 q_2.2).bind fun x_11 => (isO 11 p0 q_2.2).bind fun u_12 => (fX12_isTold p0 (0 : Int32) (0 : Int32) (x_11 - (1 : Int32)) q_2.2).bind fun q_13 => if q_13.1 = 0 then if (0 : Int32) = 0 then some ((0 : Int32), q_13.2) else (gfR 11 19 p0 q_13.2).bind fun r_16 => (gfR 11 17 p0 q_13.2).bind fun r_17 => (rdI r_17 (0 : Int32) q_13.2).bind fun x_18 => (gfR 11 17 p0 q_13.2).bind fun r_19 => (rdI r_19 (1 : Int32) q_13.2).bind fun x_20 => (wrI r_16 (((4 : Int32) * x_18) + (3 : Int32)) (x_20 - (20 : Int32)) q_13.2).bind fun w_21 => some ((0 : Int32), w_21) else (isO 11 p0 q_13.2).bind fun u_22 => (fX12_isTold p0 (1 : Int32) (0 : Int32) (40 : Int32) q_13.2).bind fun q_23 => if q_23.1 = 0 then if (0 : Int32) = 0 then some ((0 : Int32), q_23.2) else (gfR 11 19 p0 q_23.2).bind fun r_26 => (gfR 11 17 p0 q_23.2).bind fun r_27 => (rdI r_27 (0 : Int32) q_23.2).bind fun x_28 => (gfR 11 17 p0 q_23.2).bind fun r_29 => (rdI r_29 (1 : Int32) q_23.2).bind fun x_30 => (wrI r_26 (((4 : Int32) * x_28) + (3 : Int32)) (x_30 - (20 : Int32)) q_23.2).bind fun w_31 => some ((0 : Int32), w_31) else if (1 : Int32) = 0 then some ((1 : Int32), q_23.2) else (gfR 11 19 p0 q_23.2).bind fun r_33 => (gfR 11 17 p0 q_23.2).bind fun r_34 => (rdI r_34 (0 : Int32) q_23.2).bind fun x_35 => (gfR 11 17 p0 q_23.2).bind fun r_36 => (rdI r_36 (1 : Int32) q_23.2).bind fun x_37 => (wrI r_33 (((4 : Int32) * x_35) + (3 : Int32)) (x_37 - (20 : Int32)) q_23.2).bind fun w_38 => some ((1 : Int32), w_38)
set_option maxHeartbeats 4000000 in
set_option maxRecDepth 100000 in
theorem k_X12_readPatch (l : Launch) (D : va_G) (cI cT cII : ClassId) (base : Nat) (p0 : Nat) (w : Wd) (res : Int32 × Wd) (hF : fX12_readPatch p0 w = some res) : Ct l yX12_readPatch cX12_readPatch 2 (some .boolean) { frames := 3, cells := 0, slots := 0, locals := 64 } D cI cT cII base [.ref (base + p0)] w res.2 (some (.int res.1)) 0 0 := by
  unfold fX12_readPatch at hF
  refine m_enter (by decide) (Nat.le_of_ble_eq_true rfl) ?_
  intro p e s m below meth c ls X hr hlk hnm hH hS hl
  have hx := X.1
  have hb := X.2.1
  have hc : (0 : Nat) ≤ ({ frames := 3, cells := 0, slots := 0, locals := 64 } : Room).cells ∧ (0 : Nat) ≤ ({ frames := 3, cells := 0, slots := 0, locals := 64 } : Room).slots := ⟨Nat.zero_le _, Nat.zero_le _⟩
  obtain ⟨H, hHe⟩ : ∃ H : Heap, H = s.heap := ⟨_, rfl⟩
  obtain ⟨locs, hle⟩ : ∃ L : List Loc, L = [] := ⟨_, rfl⟩
  have hl : lv_has ls 2 [(0, .ref (base + p0))] := hl
  rw [← hHe] at hH
  have hS : va_S (fun q => base ≤ q) s.heap H locs := by rw [hHe, hle]; exact hS
  rw [← hle]
  show W p l e _ s m _ below meth c s.heap locs 0 0 _ _
  rw [← hHe]
  refine lv_aload_n hx hb dX12_readPatch_0 rfl (lv_at hl 0 rfl) ?_
  refine lv_iconst (v := (2 : Int32)) hx hb dX12_readPatch_1 (by decide) ?_
  obtain ⟨u_1, ou_1, hF⟩ := bnd hF
  obtain ⟨q_2, e_2, hF⟩ := bnd hF
  refine m_callV (As := [.int (2 : Int32)]) (rest := []) X hH hS hl.1 ou_1 rfl (by decide) (k_X12_readNumbers l D cI cT cII base p0 (2 : Int32) w q_2 e_2) q_X12_readNumbers kw_974 kw_976 kw_28 rfl rfl (Nat.le_of_ble_eq_true rfl) ⟨by decide, by decide⟩ hc dX12_readPatch_2 (fun H locs hH hS => W.eq (g2 := F0 m 5 ls [.int q_2.1]) rfl ?_)
  refine lv_if_eq (tgt := 38) hx hb dX12_readPatch_5 (by decide) (fun c_3 => ?_) (fun c_3 => ?_)
  · replace hF := itt c_3 hF
    refine lv_iconst (v := (0 : Int32)) hx hb dX12_readPatch_38 (by decide) ?_
    refine lv_istore_n (lv' := [(1, .int (0 : Int32)), (0, .ref (base + p0))]) hx hb dX12_readPatch_39 rfl hl (by decide) rfl (fun ls hl => ?_)
    refine lv_iload_n hx hb dX12_readPatch_40 rfl (lv_at hl 0 rfl) ?_
    refine lv_if_eq (tgt := 68) hx hb dX12_readPatch_41 (by decide) (fun c_4 => ?_) (fun c_4 => ?_)
    · replace hF := itt c_4 hF
      refine lv_iload_n hx hb dX12_readPatch_68 rfl (lv_at hl 0 rfl) ?_
      have hF := Option.some.inj hF
      subst hF
      exact m_zret (r := (0 : Int32)) X hr hlk (by decide) hH hS dX12_readPatch_69
    · replace hF := itf c_4 hF
      refine lv_aload_n hx hb dX12_readPatch_44 rfl (lv_at hl 1 rfl) ?_
      obtain ⟨r_5, e_5, hF⟩ := bnd hF
      refine m_gR X hH e_5 gg_X12_50 dX12_readPatch_45 ?_
      refine lv_iconst (v := (4 : Int32)) hx hb dX12_readPatch_48 (by decide) ?_
      refine lv_aload_n hx hb dX12_readPatch_49 rfl (lv_at hl 1 rfl) ?_
      obtain ⟨r_6, e_6, hF⟩ := bnd hF
      refine m_gR X hH e_6 gg_X12_47 dX12_readPatch_50 ?_
      refine lv_iconst (v := (0 : Int32)) hx hb dX12_readPatch_53 (by decide) ?_
      obtain ⟨x_7, e_7, hF⟩ := bnd hF
      refine m_rdI X hH e_7 dX12_readPatch_54 ?_
      refine lv_imul hx hb dX12_readPatch_55 ?_
      refine lv_iconst (v := (3 : Int32)) hx hb dX12_readPatch_56 (by decide) ?_
      refine lv_iadd hx hb dX12_readPatch_57 ?_
      refine lv_aload_n hx hb dX12_readPatch_58 rfl (lv_at hl 1 rfl) ?_
      obtain ⟨r_8, e_8, hF⟩ := bnd hF
      refine m_gR X hH e_8 gg_X12_47 dX12_readPatch_59 ?_
      refine lv_iconst (v := (1 : Int32)) hx hb dX12_readPatch_62 (by decide) ?_
      obtain ⟨x_9, e_9, hF⟩ := bnd hF
      refine m_rdI X hH e_9 dX12_readPatch_63 ?_
      refine lv_bipush (v := (20 : Int32)) hx hb dX12_readPatch_64 (by decide) ?_
      refine lv_isub hx hb dX12_readPatch_66 ?_
      obtain ⟨w_10, e_10, hF⟩ := bnd hF
      refine m_wrI X hH hS e_10 dX12_readPatch_67 (fun H locs hH hS => ?_)
      refine lv_iload_n hx hb dX12_readPatch_68 rfl (lv_at hl 0 rfl) ?_
      have hF := Option.some.inj hF
      subst hF
      exact m_zret (r := (0 : Int32)) X hr hlk (by decide) hH hS dX12_readPatch_69
  · replace hF := itf c_3 hF
    refine lv_aload_n hx hb dX12_readPatch_8 rfl (lv_at hl 0 rfl) ?_
    refine lv_iconst (v := (0 : Int32)) hx hb dX12_readPatch_9 (by decide) ?_
    refine lv_iconst (v := (0 : Int32)) hx hb dX12_readPatch_10 (by decide) ?_
    refine lv_aload_n hx hb dX12_readPatch_11 rfl (lv_at hl 0 rfl) ?_
    obtain ⟨x_11, e_11, hF⟩ := bnd hF
    refine m_gI X hH e_11 gg_X12_105 dX12_readPatch_12 ?_
    refine lv_iconst (v := (1 : Int32)) hx hb dX12_readPatch_15 (by decide) ?_
    refine lv_isub hx hb dX12_readPatch_16 ?_
    obtain ⟨u_12, ou_12, hF⟩ := bnd hF
    obtain ⟨q_13, e_13, hF⟩ := bnd hF
    refine m_callV (As := [.int (0 : Int32), .int (0 : Int32), .int (x_11 - (1 : Int32))]) (rest := []) X hH hS hl.1 ou_12 rfl (by decide) (k_X12_isTold l D cI cT cII base p0 (0 : Int32) (0 : Int32) (x_11 - (1 : Int32)) q_2.2 q_13 e_13) q_X12_isTold kw_981 kw_983 kw_29 rfl rfl (Nat.le_of_ble_eq_true rfl) ⟨by decide, by decide⟩ hc dX12_readPatch_17 (fun H locs hH hS => W.eq (g2 := F0 m 20 ls [.int q_13.1]) rfl ?_)
    refine lv_if_eq (tgt := 38) hx hb dX12_readPatch_20 (by decide) (fun c_14 => ?_) (fun c_14 => ?_)
    · replace hF := itt c_14 hF
      refine lv_iconst (v := (0 : Int32)) hx hb dX12_readPatch_38 (by decide) ?_
      refine lv_istore_n (lv' := [(1, .int (0 : Int32)), (0, .ref (base + p0))]) hx hb dX12_readPatch_39 rfl hl (by decide) rfl (fun ls hl => ?_)
      refine lv_iload_n hx hb dX12_readPatch_40 rfl (lv_at hl 0 rfl) ?_
      refine lv_if_eq (tgt := 68) hx hb dX12_readPatch_41 (by decide) (fun c_15 => ?_) (fun c_15 => ?_)
      · replace hF := itt c_15 hF
        refine lv_iload_n hx hb dX12_readPatch_68 rfl (lv_at hl 0 rfl) ?_
        have hF := Option.some.inj hF
        subst hF
        exact m_zret (r := (0 : Int32)) X hr hlk (by decide) hH hS dX12_readPatch_69
      · replace hF := itf c_15 hF
        refine lv_aload_n hx hb dX12_readPatch_44 rfl (lv_at hl 1 rfl) ?_
        obtain ⟨r_16, e_16, hF⟩ := bnd hF
        refine m_gR X hH e_16 gg_X12_50 dX12_readPatch_45 ?_
        refine lv_iconst (v := (4 : Int32)) hx hb dX12_readPatch_48 (by decide) ?_
        refine lv_aload_n hx hb dX12_readPatch_49 rfl (lv_at hl 1 rfl) ?_
        obtain ⟨r_17, e_17, hF⟩ := bnd hF
        refine m_gR X hH e_17 gg_X12_47 dX12_readPatch_50 ?_
        refine lv_iconst (v := (0 : Int32)) hx hb dX12_readPatch_53 (by decide) ?_
        obtain ⟨x_18, e_18, hF⟩ := bnd hF
        refine m_rdI X hH e_18 dX12_readPatch_54 ?_
        refine lv_imul hx hb dX12_readPatch_55 ?_
        refine lv_iconst (v := (3 : Int32)) hx hb dX12_readPatch_56 (by decide) ?_
        refine lv_iadd hx hb dX12_readPatch_57 ?_
        refine lv_aload_n hx hb dX12_readPatch_58 rfl (lv_at hl 1 rfl) ?_
        obtain ⟨r_19, e_19, hF⟩ := bnd hF
        refine m_gR X hH e_19 gg_X12_47 dX12_readPatch_59 ?_
        refine lv_iconst (v := (1 : Int32)) hx hb dX12_readPatch_62 (by decide) ?_
        obtain ⟨x_20, e_20, hF⟩ := bnd hF
        refine m_rdI X hH e_20 dX12_readPatch_63 ?_
        refine lv_bipush (v := (20 : Int32)) hx hb dX12_readPatch_64 (by decide) ?_
        refine lv_isub hx hb dX12_readPatch_66 ?_
        obtain ⟨w_21, e_21, hF⟩ := bnd hF
        refine m_wrI X hH hS e_21 dX12_readPatch_67 (fun H locs hH hS => ?_)
        refine lv_iload_n hx hb dX12_readPatch_68 rfl (lv_at hl 0 rfl) ?_
        have hF := Option.some.inj hF
        subst hF
        exact m_zret (r := (0 : Int32)) X hr hlk (by decide) hH hS dX12_readPatch_69
    · replace hF := itf c_14 hF
      refine lv_aload_n hx hb dX12_readPatch_23 rfl (lv_at hl 0 rfl) ?_
      refine lv_iconst (v := (1 : Int32)) hx hb dX12_readPatch_24 (by decide) ?_
      refine lv_iconst (v := (0 : Int32)) hx hb dX12_readPatch_25 (by decide) ?_
      refine lv_bipush (v := (40 : Int32)) hx hb dX12_readPatch_26 (by decide) ?_
      obtain ⟨u_22, ou_22, hF⟩ := bnd hF
      obtain ⟨q_23, e_23, hF⟩ := bnd hF
      refine m_callV (As := [.int (1 : Int32), .int (0 : Int32), .int (40 : Int32)]) (rest := []) X hH hS hl.1 ou_22 rfl (by decide) (k_X12_isTold l D cI cT cII base p0 (1 : Int32) (0 : Int32) (40 : Int32) q_13.2 q_23 e_23) q_X12_isTold kw_981 kw_983 kw_29 rfl rfl (Nat.le_of_ble_eq_true rfl) ⟨by decide, by decide⟩ hc dX12_readPatch_28 (fun H locs hH hS => W.eq (g2 := F0 m 31 ls [.int q_23.1]) rfl ?_)
      refine lv_if_eq (tgt := 38) hx hb dX12_readPatch_31 (by decide) (fun c_24 => ?_) (fun c_24 => ?_)
      · replace hF := itt c_24 hF
        refine lv_iconst (v := (0 : Int32)) hx hb dX12_readPatch_38 (by decide) ?_
        refine lv_istore_n (lv' := [(1, .int (0 : Int32)), (0, .ref (base + p0))]) hx hb dX12_readPatch_39 rfl hl (by decide) rfl (fun ls hl => ?_)
        refine lv_iload_n hx hb dX12_readPatch_40 rfl (lv_at hl 0 rfl) ?_
        refine lv_if_eq (tgt := 68) hx hb dX12_readPatch_41 (by decide) (fun c_25 => ?_) (fun c_25 => ?_)
        · replace hF := itt c_25 hF
          refine lv_iload_n hx hb dX12_readPatch_68 rfl (lv_at hl 0 rfl) ?_
          have hF := Option.some.inj hF
          subst hF
          exact m_zret (r := (0 : Int32)) X hr hlk (by decide) hH hS dX12_readPatch_69
        · replace hF := itf c_25 hF
          refine lv_aload_n hx hb dX12_readPatch_44 rfl (lv_at hl 1 rfl) ?_
          obtain ⟨r_26, e_26, hF⟩ := bnd hF
          refine m_gR X hH e_26 gg_X12_50 dX12_readPatch_45 ?_
          refine lv_iconst (v := (4 : Int32)) hx hb dX12_readPatch_48 (by decide) ?_
          refine lv_aload_n hx hb dX12_readPatch_49 rfl (lv_at hl 1 rfl) ?_
          obtain ⟨r_27, e_27, hF⟩ := bnd hF
          refine m_gR X hH e_27 gg_X12_47 dX12_readPatch_50 ?_
          refine lv_iconst (v := (0 : Int32)) hx hb dX12_readPatch_53 (by decide) ?_
          obtain ⟨x_28, e_28, hF⟩ := bnd hF
          refine m_rdI X hH e_28 dX12_readPatch_54 ?_
          refine lv_imul hx hb dX12_readPatch_55 ?_
          refine lv_iconst (v := (3 : Int32)) hx hb dX12_readPatch_56 (by decide) ?_
          refine lv_iadd hx hb dX12_readPatch_57 ?_
          refine lv_aload_n hx hb dX12_readPatch_58 rfl (lv_at hl 1 rfl) ?_
          obtain ⟨r_29, e_29, hF⟩ := bnd hF
          refine m_gR X hH e_29 gg_X12_47 dX12_readPatch_59 ?_
          refine lv_iconst (v := (1 : Int32)) hx hb dX12_readPatch_62 (by decide) ?_
          obtain ⟨x_30, e_30, hF⟩ := bnd hF
          refine m_rdI X hH e_30 dX12_readPatch_63 ?_
          refine lv_bipush (v := (20 : Int32)) hx hb dX12_readPatch_64 (by decide) ?_
          refine lv_isub hx hb dX12_readPatch_66 ?_
          obtain ⟨w_31, e_31, hF⟩ := bnd hF
          refine m_wrI X hH hS e_31 dX12_readPatch_67 (fun H locs hH hS => ?_)
          refine lv_iload_n hx hb dX12_readPatch_68 rfl (lv_at hl 0 rfl) ?_
          have hF := Option.some.inj hF
          subst hF
          exact m_zret (r := (0 : Int32)) X hr hlk (by decide) hH hS dX12_readPatch_69
      · replace hF := itf c_24 hF
        refine lv_iconst (v := (1 : Int32)) hx hb dX12_readPatch_34 (by decide) ?_
        refine lv_goto (tgt := 39) hx hb dX12_readPatch_35 (by decide) ?_
        refine lv_istore_n (lv' := [(1, .int (1 : Int32)), (0, .ref (base + p0))]) hx hb dX12_readPatch_39 rfl hl (by decide) rfl (fun ls hl => ?_)
        refine lv_iload_n hx hb dX12_readPatch_40 rfl (lv_at hl 0 rfl) ?_
        refine lv_if_eq (tgt := 68) hx hb dX12_readPatch_41 (by decide) (fun c_32 => ?_) (fun c_32 => ?_)
        · replace hF := itt c_32 hF
          refine lv_iload_n hx hb dX12_readPatch_68 rfl (lv_at hl 0 rfl) ?_
          have hF := Option.some.inj hF
          subst hF
          exact m_zret (r := (1 : Int32)) X hr hlk (by decide) hH hS dX12_readPatch_69
        · replace hF := itf c_32 hF
          refine lv_aload_n hx hb dX12_readPatch_44 rfl (lv_at hl 1 rfl) ?_
          obtain ⟨r_33, e_33, hF⟩ := bnd hF
          refine m_gR X hH e_33 gg_X12_50 dX12_readPatch_45 ?_
          refine lv_iconst (v := (4 : Int32)) hx hb dX12_readPatch_48 (by decide) ?_
          refine lv_aload_n hx hb dX12_readPatch_49 rfl (lv_at hl 1 rfl) ?_
          obtain ⟨r_34, e_34, hF⟩ := bnd hF
          refine m_gR X hH e_34 gg_X12_47 dX12_readPatch_50 ?_
          refine lv_iconst (v := (0 : Int32)) hx hb dX12_readPatch_53 (by decide) ?_
          obtain ⟨x_35, e_35, hF⟩ := bnd hF
          refine m_rdI X hH e_35 dX12_readPatch_54 ?_
          refine lv_imul hx hb dX12_readPatch_55 ?_
          refine lv_iconst (v := (3 : Int32)) hx hb dX12_readPatch_56 (by decide) ?_
          refine lv_iadd hx hb dX12_readPatch_57 ?_
          refine lv_aload_n hx hb dX12_readPatch_58 rfl (lv_at hl 1 rfl) ?_
          obtain ⟨r_36, e_36, hF⟩ := bnd hF
          refine m_gR X hH e_36 gg_X12_47 dX12_readPatch_59 ?_
          refine lv_iconst (v := (1 : Int32)) hx hb dX12_readPatch_62 (by decide) ?_
          obtain ⟨x_37, e_37, hF⟩ := bnd hF
          refine m_rdI X hH e_37 dX12_readPatch_63 ?_
          refine lv_bipush (v := (20 : Int32)) hx hb dX12_readPatch_64 (by decide) ?_
          refine lv_isub hx hb dX12_readPatch_66 ?_
          obtain ⟨w_38, e_38, hF⟩ := bnd hF
          refine m_wrI X hH hS e_38 dX12_readPatch_67 (fun H locs hH hS => ?_)
          refine lv_iload_n hx hb dX12_readPatch_68 rfl (lv_at hl 0 rfl) ?_
          have hF := Option.some.inj hF
          subst hF
          exact m_zret (r := (1 : Int32)) X hr hlk (by decide) hH hS dX12_readPatch_69
noncomputable def fX12_readItem (p0 : Nat) (w : Wd) : Option (Int32 × Wd) := (gfI 11 16 p0 w).bind fun x_1 => (isO 11 p0 w).bind fun u_2 => (fX12_letterAt p0 x_1 w).bind fun q_3 => (gfI 11 16 p0 q_3.2).bind fun x_4 => (pfI 11 16 p0 (x_4 + (1 : Int32)) q_3.2).bind fun w_5 => if q_3.1 = (99 : Int32) then (isO 11 p0 w_5).bind fun u_12 => (fX12_readPatch p0 w_5).bind fun q_13 => (bz q_13.1).bind fun x_14 => some (x_14, q_13.2) else if q_3.1 = (102 : Int32) then (isO 11 p0 w_5).bind fun u_15 => (fX12_readFrameOf p0 w_5).bind fun q_16 => (bz q_16.1).bind fun x_17 => some (x_17, q_16.2) else if q_3.1 = (110 : Int32) then (isO 11 p0 w_5).bind fun u_18 => (fX12_readTurn p0 w_5).bind fun q_19 => (bz q_19.1).bind fun x_20 => some (x_20, q_19.2) else if q_3.1 = (112 : Int32) then (isO 11 p0 w_5).bind fun u_21 => (fX12_readPersonOf p0 w_5).bind fun q_22 => (bz q_22.1).bind fun x_23 => some (x_23, q_22.2) else if q_3.1 = (116 : Int32) then (isO 11 p0 w_5).bind fun u_24 => (fX12_readTwist p0 w_5).bind fun q_25 => (bz q_25.1).bind fun x_26 => some (x_26, q_25.2) else if q_3.1 = (119 : Int32) then (isO 11 p0 w_5).bind fun u_27 => (fX12_readComingOf p0 w_5).bind fun q_28 => (bz q_28.1).bind fun x_29 => some (x_29, q_28.2) else some ((0 : Int32), w_5)
set_option maxHeartbeats 4000000 in
set_option maxRecDepth 100000 in
theorem k_X12_readItem (l : Launch) (D : va_G) (cI cT cII : ClassId) (base : Nat) (p0 : Nat) (w : Wd) (res : Int32 × Wd) (hF : fX12_readItem p0 w = some res) : Ct l yX12_readItem cX12_readItem 2 (some .boolean) { frames := 4, cells := 0, slots := 0, locals := 85 } D cI cT cII base [.ref (base + p0)] w res.2 (some (.int res.1)) 0 0 := by
  unfold fX12_readItem at hF
  refine m_enter (by decide) (Nat.le_of_ble_eq_true rfl) ?_
  intro p e s m below meth c ls X hr hlk hnm hH hS hl
  have hx := X.1
  have hb := X.2.1
  have hc : (0 : Nat) ≤ ({ frames := 4, cells := 0, slots := 0, locals := 85 } : Room).cells ∧ (0 : Nat) ≤ ({ frames := 4, cells := 0, slots := 0, locals := 85 } : Room).slots := ⟨Nat.zero_le _, Nat.zero_le _⟩
  obtain ⟨H, hHe⟩ : ∃ H : Heap, H = s.heap := ⟨_, rfl⟩
  obtain ⟨locs, hle⟩ : ∃ L : List Loc, L = [] := ⟨_, rfl⟩
  have hl : lv_has ls 2 [(0, .ref (base + p0))] := hl
  rw [← hHe] at hH
  have hS : va_S (fun q => base ≤ q) s.heap H locs := by rw [hHe, hle]; exact hS
  rw [← hle]
  show W p l e _ s m _ below meth c s.heap locs 0 0 _ _
  rw [← hHe]
  refine lv_aload_n hx hb dX12_readItem_0 rfl (lv_at hl 0 rfl) ?_
  refine lv_aload_n hx hb dX12_readItem_1 rfl (lv_at hl 0 rfl) ?_
  obtain ⟨x_1, e_1, hF⟩ := bnd hF
  refine m_gI X hH e_1 gg_X12_94 dX12_readItem_2 ?_
  obtain ⟨u_2, ou_2, hF⟩ := bnd hF
  obtain ⟨q_3, e_3, hF⟩ := bnd hF
  refine m_callV (As := [.int x_1]) (rest := []) X hH hS hl.1 ou_2 rfl (by decide) (k_X12_letterAt l D cI cT cII base p0 x_1 w q_3 e_3) q_X12_letterAt kw_966 kw_968 kw_26 rfl rfl (Nat.le_of_ble_eq_true rfl) ⟨by decide, by decide⟩ hc dX12_readItem_5 (fun H locs hH hS => W.eq (g2 := F0 m 8 ls [.int q_3.1]) rfl ?_)
  refine lv_istore_n (lv' := [(1, .int q_3.1), (0, .ref (base + p0))]) hx hb dX12_readItem_8 rfl hl (by decide) rfl (fun ls hl => ?_)
  refine lv_aload_n hx hb dX12_readItem_9 rfl (lv_at hl 1 rfl) ?_
  refine lv_dup hx hb dX12_readItem_10 rfl ?_
  obtain ⟨x_4, e_4, hF⟩ := bnd hF
  refine m_gI X hH e_4 gg_X12_94 dX12_readItem_11 ?_
  refine lv_iconst (v := (1 : Int32)) hx hb dX12_readItem_14 (by decide) ?_
  refine lv_iadd hx hb dX12_readItem_15 ?_
  obtain ⟨w_5, e_5, hF⟩ := bnd hF
  refine m_pI X hH hS e_5 gp_X12_94 rfl rfl dX12_readItem_16 (fun H locs hH hS => ?_)
  refine lv_iload_n hx hb dX12_readItem_19 rfl (lv_at hl 0 rfl) ?_
  by_cases c_6 : q_3.1 = (99 : Int32)
  · replace hF := itt c_6 hF
    refine lv_lookup (off := 85) (tgt := 105) hx hb dX12_readItem_20 (by decide) (by rw [c_6]; decide) (by decide) ?_
    refine lv_aload_n hx hb dX12_readItem_105 rfl (lv_at hl 1 rfl) ?_
    obtain ⟨u_12, ou_12, hF⟩ := bnd hF
    obtain ⟨q_13, e_13, hF⟩ := bnd hF
    refine m_callV (As := []) (rest := []) X hH hS hl.1 ou_12 rfl (by decide) (k_X12_readPatch l D cI cT cII base p0 w_5 q_13 e_13) q_X12_readPatch kw_1004 kw_1006 kw_34 rfl rfl (Nat.le_of_ble_eq_true rfl) ⟨by decide, by decide⟩ hc dX12_readItem_106 (fun H locs hH hS => W.eq (g2 := F0 m 109 ls [.int q_13.1]) rfl ?_)
    obtain ⟨x_14, e_14, hF⟩ := bnd hF
    obtain ⟨z_x_14, rfl⟩ := isn e_14
    have hF := Option.some.inj hF
    subst hF
    exact m_zret X hr hlk (if_pos z_x_14) hH hS dX12_readItem_109
  · replace hF := itf c_6 hF
    by_cases c_7 : q_3.1 = (102 : Int32)
    · replace hF := itt c_7 hF
      refine lv_lookup (off := 60) (tgt := 80) hx hb dX12_readItem_20 (by decide) (by rw [c_7]; decide) (by decide) ?_
      refine lv_aload_n hx hb dX12_readItem_80 rfl (lv_at hl 1 rfl) ?_
      obtain ⟨u_15, ou_15, hF⟩ := bnd hF
      obtain ⟨q_16, e_16, hF⟩ := bnd hF
      refine m_callV (As := []) (rest := []) X hH hS hl.1 ou_15 rfl (by decide) (k_X12_readFrameOf l D cI cT cII base p0 w_5 q_16 e_16) q_X12_readFrameOf kw_970 kw_972 kw_27 rfl rfl (Nat.le_of_ble_eq_true rfl) ⟨by decide, by decide⟩ hc dX12_readItem_81 (fun H locs hH hS => W.eq (g2 := F0 m 84 ls [.int q_16.1]) rfl ?_)
      obtain ⟨x_17, e_17, hF⟩ := bnd hF
      obtain ⟨z_x_17, rfl⟩ := isn e_17
      have hF := Option.some.inj hF
      subst hF
      exact m_zret X hr hlk (if_pos z_x_17) hH hS dX12_readItem_84
    · replace hF := itf c_7 hF
      by_cases c_8 : q_3.1 = (110 : Int32)
      · replace hF := itt c_8 hF
        refine lv_lookup (off := 80) (tgt := 100) hx hb dX12_readItem_20 (by decide) (by rw [c_8]; decide) (by decide) ?_
        refine lv_aload_n hx hb dX12_readItem_100 rfl (lv_at hl 1 rfl) ?_
        obtain ⟨u_18, ou_18, hF⟩ := bnd hF
        obtain ⟨q_19, e_19, hF⟩ := bnd hF
        refine m_callV (As := []) (rest := []) X hH hS hl.1 ou_18 rfl (by decide) (k_X12_readTurn l D cI cT cII base p0 w_5 q_19 e_19) q_X12_readTurn kw_1000 kw_1002 kw_33 rfl rfl (Nat.le_of_ble_eq_true rfl) ⟨by decide, by decide⟩ hc dX12_readItem_101 (fun H locs hH hS => W.eq (g2 := F0 m 104 ls [.int q_19.1]) rfl ?_)
        obtain ⟨x_20, e_20, hF⟩ := bnd hF
        obtain ⟨z_x_20, rfl⟩ := isn e_20
        have hF := Option.some.inj hF
        subst hF
        exact m_zret X hr hlk (if_pos z_x_20) hH hS dX12_readItem_104
      · replace hF := itf c_8 hF
        by_cases c_9 : q_3.1 = (112 : Int32)
        · replace hF := itt c_9 hF
          refine lv_lookup (off := 70) (tgt := 90) hx hb dX12_readItem_20 (by decide) (by rw [c_9]; decide) (by decide) ?_
          refine lv_aload_n hx hb dX12_readItem_90 rfl (lv_at hl 1 rfl) ?_
          obtain ⟨u_21, ou_21, hF⟩ := bnd hF
          obtain ⟨q_22, e_22, hF⟩ := bnd hF
          refine m_callV (As := []) (rest := []) X hH hS hl.1 ou_21 rfl (by decide) (k_X12_readPersonOf l D cI cT cII base p0 w_5 q_22 e_22) q_X12_readPersonOf kw_989 kw_991 kw_31 rfl rfl (Nat.le_of_ble_eq_true rfl) ⟨by decide, by decide⟩ hc dX12_readItem_91 (fun H locs hH hS => W.eq (g2 := F0 m 94 ls [.int q_22.1]) rfl ?_)
          obtain ⟨x_23, e_23, hF⟩ := bnd hF
          obtain ⟨z_x_23, rfl⟩ := isn e_23
          have hF := Option.some.inj hF
          subst hF
          exact m_zret X hr hlk (if_pos z_x_23) hH hS dX12_readItem_94
        · replace hF := itf c_9 hF
          by_cases c_10 : q_3.1 = (116 : Int32)
          · replace hF := itt c_10 hF
            refine lv_lookup (off := 65) (tgt := 85) hx hb dX12_readItem_20 (by decide) (by rw [c_10]; decide) (by decide) ?_
            refine lv_aload_n hx hb dX12_readItem_85 rfl (lv_at hl 1 rfl) ?_
            obtain ⟨u_24, ou_24, hF⟩ := bnd hF
            obtain ⟨q_25, e_25, hF⟩ := bnd hF
            refine m_callV (As := []) (rest := []) X hH hS hl.1 ou_24 rfl (by decide) (k_X12_readTwist l D cI cT cII base p0 w_5 q_25 e_25) q_X12_readTwist kw_985 kw_987 kw_30 rfl rfl (Nat.le_of_ble_eq_true rfl) ⟨by decide, by decide⟩ hc dX12_readItem_86 (fun H locs hH hS => W.eq (g2 := F0 m 89 ls [.int q_25.1]) rfl ?_)
            obtain ⟨x_26, e_26, hF⟩ := bnd hF
            obtain ⟨z_x_26, rfl⟩ := isn e_26
            have hF := Option.some.inj hF
            subst hF
            exact m_zret X hr hlk (if_pos z_x_26) hH hS dX12_readItem_89
          · replace hF := itf c_10 hF
            by_cases c_11 : q_3.1 = (119 : Int32)
            · replace hF := itt c_11 hF
              refine lv_lookup (off := 75) (tgt := 95) hx hb dX12_readItem_20 (by decide) (by rw [c_11]; decide) (by decide) ?_
              refine lv_aload_n hx hb dX12_readItem_95 rfl (lv_at hl 1 rfl) ?_
              obtain ⟨u_27, ou_27, hF⟩ := bnd hF
              obtain ⟨q_28, e_28, hF⟩ := bnd hF
              refine m_callV (As := []) (rest := []) X hH hS hl.1 ou_27 rfl (by decide) (k_X12_readComingOf l D cI cT cII base p0 w_5 q_28 e_28) q_X12_readComingOf kw_996 kw_998 kw_32 rfl rfl (Nat.le_of_ble_eq_true rfl) ⟨by decide, by decide⟩ hc dX12_readItem_96 (fun H locs hH hS => W.eq (g2 := F0 m 99 ls [.int q_28.1]) rfl ?_)
              obtain ⟨x_29, e_29, hF⟩ := bnd hF
              obtain ⟨z_x_29, rfl⟩ := isn e_29
              have hF := Option.some.inj hF
              subst hF
              exact m_zret X hr hlk (if_pos z_x_29) hH hS dX12_readItem_99
            · replace hF := itf c_11 hF
              refine lv_lookup (off := 90) (tgt := 110) hx hb dX12_readItem_20 (by decide) (by show Op.lookupswitch.offset [(99, 85), (102, 60), (110, 80), (112, 70), (116, 65), (119, 75)] 90 _ = _; rw [lv_osw c_6 (by decide), lv_osw c_7 (by decide), lv_osw c_8 (by decide), lv_osw c_9 (by decide), lv_osw c_10 (by decide), lv_osw c_11 (by decide)]; rfl) (by decide) ?_
              refine lv_iconst (v := (0 : Int32)) hx hb dX12_readItem_110 (by decide) ?_
              have hF := Option.some.inj hF
              subst hF
              exact m_zret (r := (0 : Int32)) X hr hlk (by decide) hH hS dX12_readItem_111
noncomputable def fX12_fault_22 (p0 : Nat) (K_41 : Wd → Option (Int32 × Wd)) : Nat → Int32 → Wd → Option (Int32 × Wd)
  | 0, _, _ => none
  | n + 1, v1, w => if (25 : Int32) ≤ v1 then K_41  w else (gfR 11 24 p0 w).bind fun r_6 => (wrI r_6 v1 (0 : Int32) w).bind fun w_7 => fX12_fault_22 p0 K_41 n (v1 + (1 : Int32)) w_7
noncomputable def fX12_fault_41 (p0 : Nat) (K_64 : Int32 → Wd → Option (Int32 × Wd)) (K_69 : Wd → Option (Int32 × Wd)) : Nat → Wd → Option (Int32 × Wd)
  | 0, _ => none
  | n + 1, w => (gfI 11 16 p0 w).bind fun x_9 => (gfI 11 15 p0 w).bind fun x_10 => if x_10 ≤ x_9 then K_69  w else (gfI 11 16 p0 w).bind fun x_12 => (isO 11 p0 w).bind fun u_13 => (fX12_readItem p0 w).bind fun q_14 => if q_14.1 = 0 then K_64 x_12 q_14.2 else fX12_fault_41 p0 K_64 K_69 n  q_14.2
noncomputable def fX12_fault (p0 : Nat) (w : Wd) : Option (Int32 × Wd) := (pfI 11 16 p0 (0 : Int32) w).bind fun w_1 => (pfI 11 18 p0 (0 : Int32) w_1).bind fun w_2 => (pfI 11 20 p0 (0 : Int32) w_2).bind fun w_3 => (pfI 11 22 p0 (0 : Int32) w_3).bind fun w_4 => fX12_fault_22 p0 (fun  (w_8 : Wd) => fX12_fault_41 p0 (fun (v1_17 : Int32) (w_16 : Wd) => some (v1_17, w_16)) (fun  (w_18 : Wd) => some ((-4 : Int32), w_18)) FV  w_8) FV (0 : Int32) w_4
set_option maxHeartbeats 4000000 in
set_option maxRecDepth 100000 in
theorem l_X12_fault_22 (X : Cx p R s m args c cX12_fault 2 RX12 D cI cT cII 5 106) (hc : cells ≤ R.cells ∧ slots ≤ R.slots) (p0 : Nat) (K_41 : Wd → Option (Int32 × Wd)) (res : Int32 × Wd)
    (hK_41 : ∀  (w : Wd), K_41  w = some res → ∀ (H : Heap) (locs : List Loc) (ls : Array Slot), Hd D cI cT cII base w H → va_S (fun q => base ≤ q) s.heap H locs → lv_has ls 2 [(0, .ref (base + p0))] → W p l e R s m args below meth c H locs cells slots Q (F0 m 41 ls [])) :
    ∀ (n : Nat) (v1 : Int32) (w : Wd), fX12_fault_22 p0 K_41 n v1 w = some res → ∀ (H : Heap) (locs : List Loc) (ls : Array Slot), Hd D cI cT cII base w H → va_S (fun q => base ≤ q) s.heap H locs → lv_has ls 2 [(0, .ref (base + p0)), (1, .int v1)] → W p l e R s m args below meth c H locs cells slots Q (F0 m 22 ls []) := by
  have hx := X.1
  have hb := X.2.1
  intro n
  induction n with
  | zero =>
    intro v1 w hF
    rw [fX12_fault_22] at hF
    cases hF
  | succ n ih =>
    intro v1 w hF H locs ls hH hS hl
    rw [fX12_fault_22] at hF
    refine lv_iload_n hx hb dX12_fault_22 rfl (lv_at hl 1 rfl) ?_
    refine lv_bipush (v := (25 : Int32)) hx hb dX12_fault_23 (by decide) ?_
    refine lv_icmp_ge (tgt := 41) hx hb dX12_fault_25 (by decide) (fun c_5 => ?_) (fun c_5 => ?_)
    · replace hF := itt c_5 hF
      exact hK_41  w hF H locs ls hH hS (lv_sub hl [0] rfl)
    · replace hF := itf c_5 hF
      refine lv_aload_n hx hb dX12_fault_28 rfl (lv_at hl 0 rfl) ?_
      obtain ⟨r_6, e_6, hF⟩ := bnd hF
      refine m_gR X hH e_6 gg_X12_59 dX12_fault_29 ?_
      refine lv_iload_n hx hb dX12_fault_32 rfl (lv_at hl 1 rfl) ?_
      refine lv_iconst (v := (0 : Int32)) hx hb dX12_fault_33 (by decide) ?_
      obtain ⟨w_7, e_7, hF⟩ := bnd hF
      refine m_wrI X hH hS e_7 dX12_fault_34 (fun H locs hH hS => ?_)
      refine lv_iinc (v := v1 + (1 : Int32)) (lv' := [(1, .int (v1 + (1 : Int32))), (0, .ref (base + p0))]) hx hb dX12_fault_35 hl (k := 1) rfl (congrArg (fun z => v1 + z) (by decide)) (by decide) rfl (fun ls hl => ?_)
      refine lv_goto (tgt := 22) hx hb dX12_fault_38 (by decide) ?_
      exact ih (v1 + (1 : Int32)) w_7 hF H locs ls hH hS (lv_sub hl [1, 0] rfl)
set_option maxHeartbeats 4000000 in
set_option maxRecDepth 100000 in
theorem l_X12_fault_41 (X : Cx p R s m args c cX12_fault 2 RX12 D cI cT cII 5 106) (hc : cells ≤ R.cells ∧ slots ≤ R.slots) (p0 : Nat) (K_64 : Int32 → Wd → Option (Int32 × Wd)) (K_69 : Wd → Option (Int32 × Wd)) (res : Int32 × Wd)
    (hK_64 : ∀ (z1 : Int32) (w : Wd), K_64 z1 w = some res → ∀ (H : Heap) (locs : List Loc) (ls : Array Slot), Hd D cI cT cII base w H → va_S (fun q => base ≤ q) s.heap H locs → lv_has ls 2 [(1, .int z1)] → W p l e R s m args below meth c H locs cells slots Q (F0 m 64 ls []))
    (hK_69 : ∀  (w : Wd), K_69  w = some res → ∀ (H : Heap) (locs : List Loc) (ls : Array Slot), Hd D cI cT cII base w H → va_S (fun q => base ≤ q) s.heap H locs → lv_has ls 2 [] → W p l e R s m args below meth c H locs cells slots Q (F0 m 69 ls [])) :
    ∀ (n : Nat)  (w : Wd), fX12_fault_41 p0 K_64 K_69 n  w = some res → ∀ (H : Heap) (locs : List Loc) (ls : Array Slot), Hd D cI cT cII base w H → va_S (fun q => base ≤ q) s.heap H locs → lv_has ls 2 [(0, .ref (base + p0))] → W p l e R s m args below meth c H locs cells slots Q (F0 m 41 ls []) := by
  have hx := X.1
  have hb := X.2.1
  intro n
  induction n with
  | zero =>
    intro  w hF
    rw [fX12_fault_41] at hF
    cases hF
  | succ n ih =>
    intro  w hF H locs ls hH hS hl
    rw [fX12_fault_41] at hF
    refine lv_aload_n hx hb dX12_fault_41 rfl (lv_at hl 0 rfl) ?_
    obtain ⟨x_9, e_9, hF⟩ := bnd hF
    refine m_gI X hH e_9 gg_X12_94 dX12_fault_42 ?_
    refine lv_aload_n hx hb dX12_fault_45 rfl (lv_at hl 0 rfl) ?_
    obtain ⟨x_10, e_10, hF⟩ := bnd hF
    refine m_gI X hH e_10 gg_X12_91 dX12_fault_46 ?_
    refine lv_icmp_ge (tgt := 69) hx hb dX12_fault_49 (by decide) (fun c_11 => ?_) (fun c_11 => ?_)
    · replace hF := itt c_11 hF
      exact hK_69  w hF H locs ls hH hS (lv_sub hl [] rfl)
    · replace hF := itf c_11 hF
      refine lv_aload_n hx hb dX12_fault_52 rfl (lv_at hl 0 rfl) ?_
      obtain ⟨x_12, e_12, hF⟩ := bnd hF
      refine m_gI X hH e_12 gg_X12_94 dX12_fault_53 ?_
      refine lv_istore_n (lv' := [(1, .int x_12), (0, .ref (base + p0))]) hx hb dX12_fault_56 rfl hl (by decide) rfl (fun ls hl => ?_)
      refine lv_aload_n hx hb dX12_fault_57 rfl (lv_at hl 1 rfl) ?_
      obtain ⟨u_13, ou_13, hF⟩ := bnd hF
      obtain ⟨q_14, e_14, hF⟩ := bnd hF
      refine m_callV (As := []) (rest := []) X hH hS hl.1 ou_13 rfl (by decide) (k_X12_readItem l D cI cT cII base p0 w q_14 e_14) q_X12_readItem kw_962 kw_964 kw_25 rfl rfl (Nat.le_of_ble_eq_true rfl) ⟨by decide, by decide⟩ hc dX12_fault_58 (fun H locs hH hS => W.eq (g2 := F0 m 61 ls [.int q_14.1]) rfl ?_)
      refine lv_if_ne (tgt := 66) hx hb dX12_fault_61 (by decide) (fun c_15 => ?_) (fun c_15 => ?_)
      · replace hF := itf c_15 hF
        refine lv_goto (tgt := 41) hx hb dX12_fault_66 (by decide) ?_
        exact ih  q_14.2 hF H locs ls hH hS (lv_sub hl [1] rfl)
      · replace hF := itt c_15 hF
        exact hK_64 x_12 q_14.2 hF H locs ls hH hS (lv_sub hl [0] rfl)
set_option maxHeartbeats 4000000 in
set_option maxRecDepth 100000 in
theorem k_X12_fault (l : Launch) (D : va_G) (cI cT cII : ClassId) (base : Nat) (p0 : Nat) (w : Wd) (res : Int32 × Wd) (hF : fX12_fault p0 w = some res) : Ct l yX12_fault cX12_fault 2 (some .int) { frames := 5, cells := 0, slots := 0, locals := 106 } D cI cT cII base [.ref (base + p0)] w res.2 (some (.int res.1)) 0 0 := by
  unfold fX12_fault at hF
  refine m_enter (by decide) (Nat.le_of_ble_eq_true rfl) ?_
  intro p e s m below meth c ls X hr hlk hnm hH hS hl
  have hx := X.1
  have hb := X.2.1
  have hc : (0 : Nat) ≤ ({ frames := 5, cells := 0, slots := 0, locals := 106 } : Room).cells ∧ (0 : Nat) ≤ ({ frames := 5, cells := 0, slots := 0, locals := 106 } : Room).slots := ⟨Nat.zero_le _, Nat.zero_le _⟩
  obtain ⟨H, hHe⟩ : ∃ H : Heap, H = s.heap := ⟨_, rfl⟩
  obtain ⟨locs, hle⟩ : ∃ L : List Loc, L = [] := ⟨_, rfl⟩
  have hl : lv_has ls 2 [(0, .ref (base + p0))] := hl
  rw [← hHe] at hH
  have hS : va_S (fun q => base ≤ q) s.heap H locs := by rw [hHe, hle]; exact hS
  rw [← hle]
  show W p l e _ s m _ below meth c s.heap locs 0 0 _ _
  rw [← hHe]
  refine lv_aload_n hx hb dX12_fault_0 rfl (lv_at hl 0 rfl) ?_
  refine lv_iconst (v := (0 : Int32)) hx hb dX12_fault_1 (by decide) ?_
  obtain ⟨w_1, e_1, hF⟩ := bnd hF
  refine m_pI X hH hS e_1 gp_X12_94 rfl rfl dX12_fault_2 (fun H locs hH hS => ?_)
  refine lv_aload_n hx hb dX12_fault_5 rfl (lv_at hl 0 rfl) ?_
  refine lv_iconst (v := (0 : Int32)) hx hb dX12_fault_6 (by decide) ?_
  obtain ⟨w_2, e_2, hF⟩ := bnd hF
  refine m_pI X hH hS e_2 gp_X12_105 rfl rfl dX12_fault_7 (fun H locs hH hS => ?_)
  refine lv_aload_n hx hb dX12_fault_10 rfl (lv_at hl 0 rfl) ?_
  refine lv_iconst (v := (0 : Int32)) hx hb dX12_fault_11 (by decide) ?_
  obtain ⟨w_3, e_3, hF⟩ := bnd hF
  refine m_pI X hH hS e_3 gp_X12_114 rfl rfl dX12_fault_12 (fun H locs hH hS => ?_)
  refine lv_aload_n hx hb dX12_fault_15 rfl (lv_at hl 0 rfl) ?_
  refine lv_iconst (v := (0 : Int32)) hx hb dX12_fault_16 (by decide) ?_
  obtain ⟨w_4, e_4, hF⟩ := bnd hF
  refine m_pI X hH hS e_4 gp_X12_121 rfl rfl dX12_fault_17 (fun H locs hH hS => ?_)
  refine lv_iconst (v := (0 : Int32)) hx hb dX12_fault_20 (by decide) ?_
  refine lv_istore_n (lv' := [(1, .int (0 : Int32)), (0, .ref (base + p0))]) hx hb dX12_fault_21 rfl hl (by decide) rfl (fun ls hl => ?_)
  refine l_X12_fault_22 X hc p0 _ res ?_ FV (0 : Int32) w_4 hF H locs ls hH hS (lv_sub hl [1, 0] rfl)
  · intro  w_8 hF H locs ls hH hS hl
    refine l_X12_fault_41 X hc p0 _ _ res ?_ ?_ FV  w_8 hF H locs ls hH hS (lv_sub hl [0] rfl)
    · intro v1_17 w_16 hF H locs ls hH hS hl
      refine lv_iload_n hx hb dX12_fault_64 rfl (lv_at hl 0 rfl) ?_
      have hF := Option.some.inj hF
      subst hF
      exact m_iret X hr hlk hH hS dX12_fault_65
    · intro  w_18 hF H locs ls hH hS hl
      refine lv_bipush (v := (-4 : Int32)) hx hb dX12_fault_69 (by decide) ?_
      have hF := Option.some.inj hF
      subst hF
      exact m_iret X hr hlk hH hS dX12_fault_71
noncomputable def fX12_fromDawn_2 (p0 : Nat) (K_26 : Wd → Option (Unit × Wd)) : Nat → Int32 → Wd → Option (Unit × Wd)
  | 0, _, _ => none
  | n + 1, v1, w => if (7 : Int32) ≤ v1 then K_26  w else (gfR 11 25 p0 w).bind fun r_2 => (gfR 11 26 p0 w).bind fun r_3 => (rdI r_3 v1 w).bind fun x_4 => (wrI r_2 v1 x_4 w).bind fun w_5 => fX12_fromDawn_2 p0 K_26 n (v1 + (1 : Int32)) w_5
noncomputable def fX12_fromDawn (p0 : Nat) (w : Wd) : Option (Unit × Wd) := fX12_fromDawn_2 p0 (fun  (w_6 : Wd) => some ((), w_6)) FV (0 : Int32) w
set_option maxHeartbeats 4000000 in
set_option maxRecDepth 100000 in
theorem l_X12_fromDawn_2 (X : Cx p R s m args c cX12_fromDawn 2 RX12 D cI cT cII 0 0) (hc : cells ≤ R.cells ∧ slots ≤ R.slots) (p0 : Nat) (K_26 : Wd → Option (Unit × Wd)) (res : Unit × Wd)
    (hK_26 : ∀  (w : Wd), K_26  w = some res → ∀ (H : Heap) (locs : List Loc) (ls : Array Slot), Hd D cI cT cII base w H → va_S (fun q => base ≤ q) s.heap H locs → lv_has ls 2 [] → W p l e R s m args below meth c H locs cells slots Q (F0 m 26 ls [])) :
    ∀ (n : Nat) (v1 : Int32) (w : Wd), fX12_fromDawn_2 p0 K_26 n v1 w = some res → ∀ (H : Heap) (locs : List Loc) (ls : Array Slot), Hd D cI cT cII base w H → va_S (fun q => base ≤ q) s.heap H locs → lv_has ls 2 [(0, .ref (base + p0)), (1, .int v1)] → W p l e R s m args below meth c H locs cells slots Q (F0 m 2 ls []) := by
  have hx := X.1
  have hb := X.2.1
  intro n
  induction n with
  | zero =>
    intro v1 w hF
    rw [fX12_fromDawn_2] at hF
    cases hF
  | succ n ih =>
    intro v1 w hF H locs ls hH hS hl
    rw [fX12_fromDawn_2] at hF
    refine lv_iload_n hx hb dX12_fromDawn_2 rfl (lv_at hl 1 rfl) ?_
    refine lv_bipush (v := (7 : Int32)) hx hb dX12_fromDawn_3 (by decide) ?_
    refine lv_icmp_ge (tgt := 26) hx hb dX12_fromDawn_5 (by decide) (fun c_1 => ?_) (fun c_1 => ?_)
    · replace hF := itt c_1 hF
      exact hK_26  w hF H locs ls hH hS (lv_sub hl [] rfl)
    · replace hF := itf c_1 hF
      refine lv_aload_n hx hb dX12_fromDawn_8 rfl (lv_at hl 0 rfl) ?_
      obtain ⟨r_2, e_2, hF⟩ := bnd hF
      refine m_gR X hH e_2 gg_X12_62 dX12_fromDawn_9 ?_
      refine lv_iload_n hx hb dX12_fromDawn_12 rfl (lv_at hl 1 rfl) ?_
      refine lv_aload_n hx hb dX12_fromDawn_13 rfl (lv_at hl 0 rfl) ?_
      obtain ⟨r_3, e_3, hF⟩ := bnd hF
      refine m_gR X hH e_3 gg_X12_65 dX12_fromDawn_14 ?_
      refine lv_iload_n hx hb dX12_fromDawn_17 rfl (lv_at hl 1 rfl) ?_
      obtain ⟨x_4, e_4, hF⟩ := bnd hF
      refine m_rdI X hH e_4 dX12_fromDawn_18 ?_
      obtain ⟨w_5, e_5, hF⟩ := bnd hF
      refine m_wrI X hH hS e_5 dX12_fromDawn_19 (fun H locs hH hS => ?_)
      refine lv_iinc (v := v1 + (1 : Int32)) (lv' := [(1, .int (v1 + (1 : Int32))), (0, .ref (base + p0))]) hx hb dX12_fromDawn_20 hl (k := 1) rfl (congrArg (fun z => v1 + z) (by decide)) (by decide) rfl (fun ls hl => ?_)
      refine lv_goto (tgt := 2) hx hb dX12_fromDawn_23 (by decide) ?_
      exact ih (v1 + (1 : Int32)) w_5 hF H locs ls hH hS (lv_sub hl [1, 0] rfl)
set_option maxHeartbeats 4000000 in
set_option maxRecDepth 100000 in
theorem k_X12_fromDawn (l : Launch) (D : va_G) (cI cT cII : ClassId) (base : Nat) (p0 : Nat) (w : Wd) (res : Unit × Wd) (hF : fX12_fromDawn p0 w = some res) : Ct l yX12_fromDawn cX12_fromDawn 2 none { frames := 0, cells := 0, slots := 0, locals := 0 } D cI cT cII base [.ref (base + p0)] w res.2 none 0 0 := by
  unfold fX12_fromDawn at hF
  refine m_enter (by decide) (Nat.le_of_ble_eq_true rfl) ?_
  intro p e s m below meth c ls X hr hlk hnm hH hS hl
  have hx := X.1
  have hb := X.2.1
  have hc : (0 : Nat) ≤ ({ frames := 0, cells := 0, slots := 0, locals := 0 } : Room).cells ∧ (0 : Nat) ≤ ({ frames := 0, cells := 0, slots := 0, locals := 0 } : Room).slots := ⟨Nat.zero_le _, Nat.zero_le _⟩
  obtain ⟨H, hHe⟩ : ∃ H : Heap, H = s.heap := ⟨_, rfl⟩
  obtain ⟨locs, hle⟩ : ∃ L : List Loc, L = [] := ⟨_, rfl⟩
  have hl : lv_has ls 2 [(0, .ref (base + p0))] := hl
  rw [← hHe] at hH
  have hS : va_S (fun q => base ≤ q) s.heap H locs := by rw [hHe, hle]; exact hS
  rw [← hle]
  show W p l e _ s m _ below meth c s.heap locs 0 0 _ _
  rw [← hHe]
  refine lv_iconst (v := (0 : Int32)) hx hb dX12_fromDawn_0 (by decide) ?_
  refine lv_istore_n (lv' := [(1, .int (0 : Int32)), (0, .ref (base + p0))]) hx hb dX12_fromDawn_1 rfl hl (by decide) rfl (fun ls hl => ?_)
  refine l_X12_fromDawn_2 X hc p0 _ res ?_ FV (0 : Int32) w hF H locs ls hH hS (lv_sub hl [1, 0] rfl)
  · intro  w_6 hF H locs ls hH hS hl
    have hF := Option.some.inj hF
    subst hF
    exact m_vret X hr hlk hH hS dX12_fromDawn_26
noncomputable def fX12_tries (p0 : Nat) (v1 : Int32) (w : Wd) : Option (Unit × Wd) := (isO 11 p0 w).bind fun u_1 => (fX12_fromDawn p0 w).bind fun q_2 => (dvI v1 (2 : Int32)).bind fun x_3 => (gfI 11 0 p0 q_2.2).bind fun x_4 => (rmI x_3 x_4).bind fun x_5 => (isO 11 p0 q_2.2).bind fun u_6 => (fX12_byOf p0 v1 q_2.2).bind fun q_7 => (isO 11 p0 q_7.2).bind fun u_8 => (fX12_turnsBy p0 x_5 q_7.1 q_7.2).bind fun q_9 => (isO 11 p0 q_9.2).bind fun u_10 => (fX12_morning p0 q_9.2).bind fun q_11 => some ((), q_11.2)
set_option maxHeartbeats 4000000 in
set_option maxRecDepth 100000 in
theorem k_X12_tries (l : Launch) (D : va_G) (cI cT cII : ClassId) (base : Nat) (p0 : Nat) (v1 : Int32) (w : Wd) (res : Unit × Wd) (hF : fX12_tries p0 v1 w = some res) : Ct l yX12_tries cX12_tries 2 none { frames := 5, cells := 0, slots := 0, locals := 108 } D cI cT cII base [.ref (base + p0), .int v1] w res.2 none 0 0 := by
  unfold fX12_tries at hF
  refine m_enter (by decide) (Nat.le_of_ble_eq_true rfl) ?_
  intro p e s m below meth c ls X hr hlk hnm hH hS hl
  have hx := X.1
  have hb := X.2.1
  have hc : (0 : Nat) ≤ ({ frames := 5, cells := 0, slots := 0, locals := 108 } : Room).cells ∧ (0 : Nat) ≤ ({ frames := 5, cells := 0, slots := 0, locals := 108 } : Room).slots := ⟨Nat.zero_le _, Nat.zero_le _⟩
  obtain ⟨H, hHe⟩ : ∃ H : Heap, H = s.heap := ⟨_, rfl⟩
  obtain ⟨locs, hle⟩ : ∃ L : List Loc, L = [] := ⟨_, rfl⟩
  have hl : lv_has ls 2 [(0, .ref (base + p0)), (1, .int v1)] := hl
  rw [← hHe] at hH
  have hS : va_S (fun q => base ≤ q) s.heap H locs := by rw [hHe, hle]; exact hS
  rw [← hle]
  show W p l e _ s m _ below meth c s.heap locs 0 0 _ _
  rw [← hHe]
  refine lv_aload_n hx hb dX12_tries_0 rfl (lv_at hl 0 rfl) ?_
  obtain ⟨u_1, ou_1, hF⟩ := bnd hF
  obtain ⟨q_2, e_2, hF⟩ := bnd hF
  refine m_callV (As := []) (rest := []) X hH hS hl.1 ou_1 rfl (by decide) (k_X12_fromDawn l D cI cT cII base p0 w q_2 e_2) q_X12_fromDawn kw_1131 kw_1133 kw_48 rfl rfl (Nat.le_of_ble_eq_true rfl) ⟨by decide, by decide⟩ hc dX12_tries_1 (fun H locs hH hS => W.eq (g2 := F0 m 4 ls []) rfl ?_)
  refine lv_aload_n hx hb dX12_tries_4 rfl (lv_at hl 0 rfl) ?_
  refine lv_iload_n hx hb dX12_tries_5 rfl (lv_at hl 1 rfl) ?_
  refine lv_iconst (v := (2 : Int32)) hx hb dX12_tries_6 (by decide) ?_
  obtain ⟨x_3, e_3, hF⟩ := bnd hF
  refine m_idiv X e_3 dX12_tries_7 ?_
  refine lv_aload_n hx hb dX12_tries_8 rfl (lv_at hl 0 rfl) ?_
  obtain ⟨x_4, e_4, hF⟩ := bnd hF
  refine m_gI X hH e_4 gg_X12_7 dX12_tries_9 ?_
  obtain ⟨x_5, e_5, hF⟩ := bnd hF
  refine m_irem X e_5 dX12_tries_12 ?_
  refine lv_aload_n hx hb dX12_tries_13 rfl (lv_at hl 0 rfl) ?_
  refine lv_iload_n hx hb dX12_tries_14 rfl (lv_at hl 1 rfl) ?_
  obtain ⟨u_6, ou_6, hF⟩ := bnd hF
  obtain ⟨q_7, e_7, hF⟩ := bnd hF
  refine m_callV (As := [.int v1]) (rest := [.int x_5, .ref (base + p0)]) X hH hS hl.1 ou_6 rfl (by decide) (k_X12_byOf l D cI cT cII base p0 v1 q_2.2 q_7 e_7) q_X12_byOf kw_1135 kw_1137 kw_49 rfl rfl (Nat.le_of_ble_eq_true rfl) ⟨by decide, by decide⟩ hc dX12_tries_15 (fun H locs hH hS => W.eq (g2 := F0 m 18 ls [.int q_7.1, .int x_5, .ref (base + p0)]) rfl ?_)
  obtain ⟨u_8, ou_8, hF⟩ := bnd hF
  obtain ⟨q_9, e_9, hF⟩ := bnd hF
  refine m_callV (As := [.int x_5, .int q_7.1]) (rest := []) X hH hS hl.1 ou_8 rfl (by decide) (k_X12_turnsBy l D cI cT cII base p0 x_5 q_7.1 q_7.2 q_9 e_9) q_X12_turnsBy kw_1055 kw_1057 kw_41 rfl rfl (Nat.le_of_ble_eq_true rfl) ⟨by decide, by decide⟩ hc dX12_tries_18 (fun H locs hH hS => W.eq (g2 := F0 m 21 ls []) rfl ?_)
  refine lv_aload_n hx hb dX12_tries_21 rfl (lv_at hl 0 rfl) ?_
  obtain ⟨u_10, ou_10, hF⟩ := bnd hF
  obtain ⟨q_11, e_11, hF⟩ := bnd hF
  refine m_callV (As := []) (rest := []) X hH hS hl.1 ou_10 rfl (by decide) (k_X12_morning l D cI cT cII base p0 q_9.2 q_11 e_11) q_X12_morning kw_1059 kw_1061 kw_42 rfl rfl (Nat.le_of_ble_eq_true rfl) ⟨by decide, by decide⟩ hc dX12_tries_22 (fun H locs hH hS => W.eq (g2 := F0 m 25 ls []) rfl ?_)
  have hF := Option.some.inj hF
  subst hF
  exact m_vret X hr hlk hH hS dX12_tries_25
noncomputable def fX12_fewest_54 (p0 : Nat) (v1 : Int32) (v3 : Int32) (K_77 : Wd → Option (Int32 × Wd)) (K_85 : Wd → Option (Int32 × Wd)) : Nat → Int32 → Wd → Option (Int32 × Wd)
  | 0, _, _ => none
  | n + 1, v4, w => if v3 ≤ v4 then K_85  w else (isO 11 p0 w).bind fun u_12 => (fX12_tries p0 v4 w).bind fun q_13 => (gfI 11 28 p0 q_13.2).bind fun x_14 => if (v1 &&& (x_14 ^^^ (-1 : Int32))) = 0 then K_77  q_13.2 else fX12_fewest_54 p0 v1 v3 K_77 K_85 n (v4 + (1 : Int32)) q_13.2
noncomputable def fX12_fewest_88 (p0 : Nat) (v1 : Int32) (v3 : Int32) (K_161 : Wd → Option (Int32 × Wd)) (K_169 : Wd → Option (Int32 × Wd)) : Nat → Int32 → Wd → Option (Int32 × Wd)
  | 0, _, _ => none
  | n + 1, v4, w => if (v3 * v3) ≤ v4 then K_169  w else (isO 11 p0 w).bind fun u_19 => (fX12_fromDawn p0 w).bind fun q_20 => (dvI v4 v3).bind fun x_21 => (dvI x_21 (2 : Int32)).bind fun x_22 => (gfI 11 0 p0 q_20.2).bind fun x_23 => (rmI x_22 x_23).bind fun x_24 => (dvI v4 v3).bind fun x_25 => (isO 11 p0 q_20.2).bind fun u_26 => (fX12_byOf p0 x_25 q_20.2).bind fun q_27 => (isO 11 p0 q_27.2).bind fun u_28 => (fX12_turnsBy p0 x_24 q_27.1 q_27.2).bind fun q_29 => (rmI v4 v3).bind fun x_30 => (dvI x_30 (2 : Int32)).bind fun x_31 => (gfI 11 0 p0 q_29.2).bind fun x_32 => (rmI x_31 x_32).bind fun x_33 => (rmI v4 v3).bind fun x_34 => (isO 11 p0 q_29.2).bind fun u_35 => (fX12_byOf p0 x_34 q_29.2).bind fun q_36 => (isO 11 p0 q_36.2).bind fun u_37 => (fX12_turnsBy p0 x_33 q_36.1 q_36.2).bind fun q_38 => (isO 11 p0 q_38.2).bind fun u_39 => (fX12_morning p0 q_38.2).bind fun q_40 => (gfI 11 28 p0 q_40.2).bind fun x_41 => if (v1 &&& (x_41 ^^^ (-1 : Int32))) = 0 then K_161  q_40.2 else fX12_fewest_88 p0 v1 v3 K_161 K_169 n (v4 + (1 : Int32)) q_40.2
noncomputable def fX12_fewest (p0 : Nat) (v1 : Int32) (v2 : Int32) (w : Wd) : Option (Int32 × Wd) := (gfI 11 2 p0 w).bind fun x_1 => (fX12_in v1 (0 : Int32) (((1 : Int32) <<< (x_1 &&& 31)) - (1 : Int32)) w).bind fun q_2 => if q_2.1 = 0 then some ((-1 : Int32), q_2.2) else (fX12_isDay v2 q_2.2).bind fun q_4 => if q_4.1 = 0 then some ((-1 : Int32), q_4.2) else (isO 11 p0 q_4.2).bind fun u_6 => (fX12_goes p0 v2 q_4.2).bind fun q_7 => (gfI 11 28 p0 q_7.2).bind fun x_8 => if (v1 &&& (x_8 ^^^ (-1 : Int32))) = 0 then some ((0 : Int32), q_7.2) else (gfI 11 0 p0 q_7.2).bind fun x_10 => fX12_fewest_54 p0 v1 ((40 : Int32) * x_10) (fun  (w_16 : Wd) => some ((1 : Int32), w_16)) (fun  (w_17 : Wd) => fX12_fewest_88 p0 v1 ((40 : Int32) * x_10) (fun  (w_43 : Wd) => some ((2 : Int32), w_43)) (fun  (w_44 : Wd) => some ((-4 : Int32), w_44)) FV (0 : Int32) w_17) FV (0 : Int32) q_7.2
set_option maxHeartbeats 4000000 in
set_option maxRecDepth 100000 in
theorem l_X12_fewest_54 (X : Cx p R s m args c cX12_fewest 5 RX12 D cI cT cII 6 131) (hc : cells ≤ R.cells ∧ slots ≤ R.slots) (p0 : Nat) (v1 : Int32) (v3 : Int32) (K_77 : Wd → Option (Int32 × Wd)) (K_85 : Wd → Option (Int32 × Wd)) (res : Int32 × Wd)
    (hK_77 : ∀  (w : Wd), K_77  w = some res → ∀ (H : Heap) (locs : List Loc) (ls : Array Slot), Hd D cI cT cII base w H → va_S (fun q => base ≤ q) s.heap H locs → lv_has ls 5 [] → W p l e R s m args below meth c H locs cells slots Q (F0 m 77 ls []))
    (hK_85 : ∀  (w : Wd), K_85  w = some res → ∀ (H : Heap) (locs : List Loc) (ls : Array Slot), Hd D cI cT cII base w H → va_S (fun q => base ≤ q) s.heap H locs → lv_has ls 5 [(0, .ref (base + p0)), (1, .int v1), (3, .int v3)] → W p l e R s m args below meth c H locs cells slots Q (F0 m 85 ls [])) :
    ∀ (n : Nat) (v4 : Int32) (w : Wd), fX12_fewest_54 p0 v1 v3 K_77 K_85 n v4 w = some res → ∀ (H : Heap) (locs : List Loc) (ls : Array Slot), Hd D cI cT cII base w H → va_S (fun q => base ≤ q) s.heap H locs → lv_has ls 5 [(0, .ref (base + p0)), (1, .int v1), (3, .int v3), (4, .int v4)] → W p l e R s m args below meth c H locs cells slots Q (F0 m 54 ls []) := by
  have hx := X.1
  have hb := X.2.1
  intro n
  induction n with
  | zero =>
    intro v4 w hF
    rw [fX12_fewest_54] at hF
    cases hF
  | succ n ih =>
    intro v4 w hF H locs ls hH hS hl
    rw [fX12_fewest_54] at hF
    refine lv_iload hx hb dX12_fewest_54 (lv_at hl 3 rfl) ?_
    refine lv_iload_n hx hb dX12_fewest_56 rfl (lv_at hl 2 rfl) ?_
    refine lv_icmp_ge (tgt := 85) hx hb dX12_fewest_57 (by decide) (fun c_11 => ?_) (fun c_11 => ?_)
    · replace hF := itt c_11 hF
      exact hK_85  w hF H locs ls hH hS (lv_sub hl [0, 1, 2] rfl)
    · replace hF := itf c_11 hF
      refine lv_aload_n hx hb dX12_fewest_60 rfl (lv_at hl 0 rfl) ?_
      refine lv_iload hx hb dX12_fewest_61 (lv_at hl 3 rfl) ?_
      obtain ⟨u_12, ou_12, hF⟩ := bnd hF
      obtain ⟨q_13, e_13, hF⟩ := bnd hF
      refine m_callV (As := [.int v4]) (rest := []) X hH hS hl.1 ou_12 rfl (by decide) (k_X12_tries l D cI cT cII base p0 v4 w q_13 e_13) q_X12_tries kw_1127 kw_1129 kw_47 rfl rfl (Nat.le_of_ble_eq_true rfl) ⟨by decide, by decide⟩ hc dX12_fewest_63 (fun H locs hH hS => W.eq (g2 := F0 m 66 ls []) rfl ?_)
      refine lv_iload_n hx hb dX12_fewest_66 rfl (lv_at hl 1 rfl) ?_
      refine lv_aload_n hx hb dX12_fewest_67 rfl (lv_at hl 0 rfl) ?_
      obtain ⟨x_14, e_14, hF⟩ := bnd hF
      refine m_gI X hH e_14 gg_X12_182 dX12_fewest_68 ?_
      refine lv_iconst (v := (-1 : Int32)) hx hb dX12_fewest_71 (by decide) ?_
      refine lv_ixor hx hb dX12_fewest_72 ?_
      refine lv_iand hx hb dX12_fewest_73 ?_
      refine lv_if_ne (tgt := 79) hx hb dX12_fewest_74 (by decide) (fun c_15 => ?_) (fun c_15 => ?_)
      · replace hF := itf c_15 hF
        refine lv_iinc (v := v4 + (1 : Int32)) (lv' := [(4, .int (v4 + (1 : Int32))), (0, .ref (base + p0)), (1, .int v1), (3, .int v3)]) hx hb dX12_fewest_79 hl (k := 3) rfl (congrArg (fun z => v4 + z) (by decide)) (by decide) rfl (fun ls hl => ?_)
        refine lv_goto (tgt := 54) hx hb dX12_fewest_82 (by decide) ?_
        exact ih (v4 + (1 : Int32)) q_13.2 hF H locs ls hH hS (lv_sub hl [1, 2, 3, 0] rfl)
      · replace hF := itt c_15 hF
        exact hK_77  q_13.2 hF H locs ls hH hS (lv_sub hl [] rfl)
set_option maxHeartbeats 4000000 in
set_option maxRecDepth 100000 in
theorem l_X12_fewest_88 (X : Cx p R s m args c cX12_fewest 5 RX12 D cI cT cII 6 131) (hc : cells ≤ R.cells ∧ slots ≤ R.slots) (p0 : Nat) (v1 : Int32) (v3 : Int32) (K_161 : Wd → Option (Int32 × Wd)) (K_169 : Wd → Option (Int32 × Wd)) (res : Int32 × Wd)
    (hK_161 : ∀  (w : Wd), K_161  w = some res → ∀ (H : Heap) (locs : List Loc) (ls : Array Slot), Hd D cI cT cII base w H → va_S (fun q => base ≤ q) s.heap H locs → lv_has ls 5 [] → W p l e R s m args below meth c H locs cells slots Q (F0 m 161 ls []))
    (hK_169 : ∀  (w : Wd), K_169  w = some res → ∀ (H : Heap) (locs : List Loc) (ls : Array Slot), Hd D cI cT cII base w H → va_S (fun q => base ≤ q) s.heap H locs → lv_has ls 5 [] → W p l e R s m args below meth c H locs cells slots Q (F0 m 169 ls [])) :
    ∀ (n : Nat) (v4 : Int32) (w : Wd), fX12_fewest_88 p0 v1 v3 K_161 K_169 n v4 w = some res → ∀ (H : Heap) (locs : List Loc) (ls : Array Slot), Hd D cI cT cII base w H → va_S (fun q => base ≤ q) s.heap H locs → lv_has ls 5 [(0, .ref (base + p0)), (1, .int v1), (3, .int v3), (4, .int v4)] → W p l e R s m args below meth c H locs cells slots Q (F0 m 88 ls []) := by
  have hx := X.1
  have hb := X.2.1
  intro n
  induction n with
  | zero =>
    intro v4 w hF
    rw [fX12_fewest_88] at hF
    cases hF
  | succ n ih =>
    intro v4 w hF H locs ls hH hS hl
    rw [fX12_fewest_88] at hF
    refine lv_iload hx hb dX12_fewest_88 (lv_at hl 3 rfl) ?_
    refine lv_iload_n hx hb dX12_fewest_90 rfl (lv_at hl 2 rfl) ?_
    refine lv_iload_n hx hb dX12_fewest_91 rfl (lv_at hl 2 rfl) ?_
    refine lv_imul hx hb dX12_fewest_92 ?_
    refine lv_icmp_ge (tgt := 169) hx hb dX12_fewest_93 (by decide) (fun c_18 => ?_) (fun c_18 => ?_)
    · replace hF := itt c_18 hF
      exact hK_169  w hF H locs ls hH hS (lv_sub hl [] rfl)
    · replace hF := itf c_18 hF
      refine lv_aload_n hx hb dX12_fewest_96 rfl (lv_at hl 0 rfl) ?_
      obtain ⟨u_19, ou_19, hF⟩ := bnd hF
      obtain ⟨q_20, e_20, hF⟩ := bnd hF
      refine m_callV (As := []) (rest := []) X hH hS hl.1 ou_19 rfl (by decide) (k_X12_fromDawn l D cI cT cII base p0 w q_20 e_20) q_X12_fromDawn kw_1131 kw_1133 kw_48 rfl rfl (Nat.le_of_ble_eq_true rfl) ⟨by decide, by decide⟩ hc dX12_fewest_97 (fun H locs hH hS => W.eq (g2 := F0 m 100 ls []) rfl ?_)
      refine lv_aload_n hx hb dX12_fewest_100 rfl (lv_at hl 0 rfl) ?_
      refine lv_iload hx hb dX12_fewest_101 (lv_at hl 3 rfl) ?_
      refine lv_iload_n hx hb dX12_fewest_103 rfl (lv_at hl 2 rfl) ?_
      obtain ⟨x_21, e_21, hF⟩ := bnd hF
      refine m_idiv X e_21 dX12_fewest_104 ?_
      refine lv_iconst (v := (2 : Int32)) hx hb dX12_fewest_105 (by decide) ?_
      obtain ⟨x_22, e_22, hF⟩ := bnd hF
      refine m_idiv X e_22 dX12_fewest_106 ?_
      refine lv_aload_n hx hb dX12_fewest_107 rfl (lv_at hl 0 rfl) ?_
      obtain ⟨x_23, e_23, hF⟩ := bnd hF
      refine m_gI X hH e_23 gg_X12_7 dX12_fewest_108 ?_
      obtain ⟨x_24, e_24, hF⟩ := bnd hF
      refine m_irem X e_24 dX12_fewest_111 ?_
      refine lv_aload_n hx hb dX12_fewest_112 rfl (lv_at hl 0 rfl) ?_
      refine lv_iload hx hb dX12_fewest_113 (lv_at hl 3 rfl) ?_
      refine lv_iload_n hx hb dX12_fewest_115 rfl (lv_at hl 2 rfl) ?_
      obtain ⟨x_25, e_25, hF⟩ := bnd hF
      refine m_idiv X e_25 dX12_fewest_116 ?_
      obtain ⟨u_26, ou_26, hF⟩ := bnd hF
      obtain ⟨q_27, e_27, hF⟩ := bnd hF
      refine m_callV (As := [.int x_25]) (rest := [.int x_24, .ref (base + p0)]) X hH hS hl.1 ou_26 rfl (by decide) (k_X12_byOf l D cI cT cII base p0 x_25 q_20.2 q_27 e_27) q_X12_byOf kw_1135 kw_1137 kw_49 rfl rfl (Nat.le_of_ble_eq_true rfl) ⟨by decide, by decide⟩ hc dX12_fewest_117 (fun H locs hH hS => W.eq (g2 := F0 m 120 ls [.int q_27.1, .int x_24, .ref (base + p0)]) rfl ?_)
      obtain ⟨u_28, ou_28, hF⟩ := bnd hF
      obtain ⟨q_29, e_29, hF⟩ := bnd hF
      refine m_callV (As := [.int x_24, .int q_27.1]) (rest := []) X hH hS hl.1 ou_28 rfl (by decide) (k_X12_turnsBy l D cI cT cII base p0 x_24 q_27.1 q_27.2 q_29 e_29) q_X12_turnsBy kw_1055 kw_1057 kw_41 rfl rfl (Nat.le_of_ble_eq_true rfl) ⟨by decide, by decide⟩ hc dX12_fewest_120 (fun H locs hH hS => W.eq (g2 := F0 m 123 ls []) rfl ?_)
      refine lv_aload_n hx hb dX12_fewest_123 rfl (lv_at hl 0 rfl) ?_
      refine lv_iload hx hb dX12_fewest_124 (lv_at hl 3 rfl) ?_
      refine lv_iload_n hx hb dX12_fewest_126 rfl (lv_at hl 2 rfl) ?_
      obtain ⟨x_30, e_30, hF⟩ := bnd hF
      refine m_irem X e_30 dX12_fewest_127 ?_
      refine lv_iconst (v := (2 : Int32)) hx hb dX12_fewest_128 (by decide) ?_
      obtain ⟨x_31, e_31, hF⟩ := bnd hF
      refine m_idiv X e_31 dX12_fewest_129 ?_
      refine lv_aload_n hx hb dX12_fewest_130 rfl (lv_at hl 0 rfl) ?_
      obtain ⟨x_32, e_32, hF⟩ := bnd hF
      refine m_gI X hH e_32 gg_X12_7 dX12_fewest_131 ?_
      obtain ⟨x_33, e_33, hF⟩ := bnd hF
      refine m_irem X e_33 dX12_fewest_134 ?_
      refine lv_aload_n hx hb dX12_fewest_135 rfl (lv_at hl 0 rfl) ?_
      refine lv_iload hx hb dX12_fewest_136 (lv_at hl 3 rfl) ?_
      refine lv_iload_n hx hb dX12_fewest_138 rfl (lv_at hl 2 rfl) ?_
      obtain ⟨x_34, e_34, hF⟩ := bnd hF
      refine m_irem X e_34 dX12_fewest_139 ?_
      obtain ⟨u_35, ou_35, hF⟩ := bnd hF
      obtain ⟨q_36, e_36, hF⟩ := bnd hF
      refine m_callV (As := [.int x_34]) (rest := [.int x_33, .ref (base + p0)]) X hH hS hl.1 ou_35 rfl (by decide) (k_X12_byOf l D cI cT cII base p0 x_34 q_29.2 q_36 e_36) q_X12_byOf kw_1135 kw_1137 kw_49 rfl rfl (Nat.le_of_ble_eq_true rfl) ⟨by decide, by decide⟩ hc dX12_fewest_140 (fun H locs hH hS => W.eq (g2 := F0 m 143 ls [.int q_36.1, .int x_33, .ref (base + p0)]) rfl ?_)
      obtain ⟨u_37, ou_37, hF⟩ := bnd hF
      obtain ⟨q_38, e_38, hF⟩ := bnd hF
      refine m_callV (As := [.int x_33, .int q_36.1]) (rest := []) X hH hS hl.1 ou_37 rfl (by decide) (k_X12_turnsBy l D cI cT cII base p0 x_33 q_36.1 q_36.2 q_38 e_38) q_X12_turnsBy kw_1055 kw_1057 kw_41 rfl rfl (Nat.le_of_ble_eq_true rfl) ⟨by decide, by decide⟩ hc dX12_fewest_143 (fun H locs hH hS => W.eq (g2 := F0 m 146 ls []) rfl ?_)
      refine lv_aload_n hx hb dX12_fewest_146 rfl (lv_at hl 0 rfl) ?_
      obtain ⟨u_39, ou_39, hF⟩ := bnd hF
      obtain ⟨q_40, e_40, hF⟩ := bnd hF
      refine m_callV (As := []) (rest := []) X hH hS hl.1 ou_39 rfl (by decide) (k_X12_morning l D cI cT cII base p0 q_38.2 q_40 e_40) q_X12_morning kw_1059 kw_1061 kw_42 rfl rfl (Nat.le_of_ble_eq_true rfl) ⟨by decide, by decide⟩ hc dX12_fewest_147 (fun H locs hH hS => W.eq (g2 := F0 m 150 ls []) rfl ?_)
      refine lv_iload_n hx hb dX12_fewest_150 rfl (lv_at hl 1 rfl) ?_
      refine lv_aload_n hx hb dX12_fewest_151 rfl (lv_at hl 0 rfl) ?_
      obtain ⟨x_41, e_41, hF⟩ := bnd hF
      refine m_gI X hH e_41 gg_X12_182 dX12_fewest_152 ?_
      refine lv_iconst (v := (-1 : Int32)) hx hb dX12_fewest_155 (by decide) ?_
      refine lv_ixor hx hb dX12_fewest_156 ?_
      refine lv_iand hx hb dX12_fewest_157 ?_
      refine lv_if_ne (tgt := 163) hx hb dX12_fewest_158 (by decide) (fun c_42 => ?_) (fun c_42 => ?_)
      · replace hF := itf c_42 hF
        refine lv_iinc (v := v4 + (1 : Int32)) (lv' := [(4, .int (v4 + (1 : Int32))), (0, .ref (base + p0)), (1, .int v1), (3, .int v3)]) hx hb dX12_fewest_163 hl (k := 3) rfl (congrArg (fun z => v4 + z) (by decide)) (by decide) rfl (fun ls hl => ?_)
        refine lv_goto (tgt := 88) hx hb dX12_fewest_166 (by decide) ?_
        exact ih (v4 + (1 : Int32)) q_40.2 hF H locs ls hH hS (lv_sub hl [1, 2, 3, 0] rfl)
      · replace hF := itt c_42 hF
        exact hK_161  q_40.2 hF H locs ls hH hS (lv_sub hl [] rfl)
set_option maxHeartbeats 4000000 in
set_option maxRecDepth 100000 in
theorem k_X12_fewest (l : Launch) (D : va_G) (cI cT cII : ClassId) (base : Nat) (p0 : Nat) (v1 : Int32) (v2 : Int32) (w : Wd) (res : Int32 × Wd) (hF : fX12_fewest p0 v1 v2 w = some res) : Ct l yX12_fewest cX12_fewest 5 (some .int) { frames := 6, cells := 0, slots := 0, locals := 131 } D cI cT cII base [.ref (base + p0), .int v1, .int v2] w res.2 (some (.int res.1)) 0 0 := by
  unfold fX12_fewest at hF
  refine m_enter (by decide) (Nat.le_of_ble_eq_true rfl) ?_
  intro p e s m below meth c ls X hr hlk hnm hH hS hl
  have hx := X.1
  have hb := X.2.1
  have hc : (0 : Nat) ≤ ({ frames := 6, cells := 0, slots := 0, locals := 131 } : Room).cells ∧ (0 : Nat) ≤ ({ frames := 6, cells := 0, slots := 0, locals := 131 } : Room).slots := ⟨Nat.zero_le _, Nat.zero_le _⟩
  obtain ⟨H, hHe⟩ : ∃ H : Heap, H = s.heap := ⟨_, rfl⟩
  obtain ⟨locs, hle⟩ : ∃ L : List Loc, L = [] := ⟨_, rfl⟩
  have hl : lv_has ls 5 [(0, .ref (base + p0)), (1, .int v1), (2, .int v2)] := hl
  rw [← hHe] at hH
  have hS : va_S (fun q => base ≤ q) s.heap H locs := by rw [hHe, hle]; exact hS
  rw [← hle]
  show W p l e _ s m _ below meth c s.heap locs 0 0 _ _
  rw [← hHe]
  refine lv_iload_n hx hb dX12_fewest_0 rfl (lv_at hl 1 rfl) ?_
  refine lv_iconst (v := (0 : Int32)) hx hb dX12_fewest_1 (by decide) ?_
  refine lv_iconst (v := (1 : Int32)) hx hb dX12_fewest_2 (by decide) ?_
  refine lv_aload_n hx hb dX12_fewest_3 rfl (lv_at hl 0 rfl) ?_
  obtain ⟨x_1, e_1, hF⟩ := bnd hF
  refine m_gI X hH e_1 gg_X12_17 dX12_fewest_4 ?_
  refine lv_ishl hx hb dX12_fewest_7 ?_
  refine lv_iconst (v := (1 : Int32)) hx hb dX12_fewest_8 (by decide) ?_
  refine lv_isub hx hb dX12_fewest_9 ?_
  obtain ⟨q_2, e_2, hF⟩ := bnd hF
  refine m_callS (As := [.int v1, .int (0 : Int32), .int (((1 : Int32) <<< (x_1 &&& 31)) - (1 : Int32))]) (rest := []) X hH hS hl.1 (k_X12_in l D cI cT cII base v1 (0 : Int32) (((1 : Int32) <<< (x_1 &&& 31)) - (1 : Int32)) w q_2 e_2) q_X12_in kw_951 kw_952 rfl rfl (Nat.le_of_ble_eq_true rfl) ⟨by decide, by decide⟩ hc dX12_fewest_10 (fun H locs hH hS => W.eq (g2 := F0 m 13 ls [.int q_2.1]) rfl ?_)
  refine lv_if_eq (tgt := 23) hx hb dX12_fewest_13 (by decide) (fun c_3 => ?_) (fun c_3 => ?_)
  · replace hF := itt c_3 hF
    refine lv_iconst (v := (-1 : Int32)) hx hb dX12_fewest_23 (by decide) ?_
    have hF := Option.some.inj hF
    subst hF
    exact m_iret X hr hlk hH hS dX12_fewest_24
  · replace hF := itf c_3 hF
    refine lv_iload_n hx hb dX12_fewest_16 rfl (lv_at hl 2 rfl) ?_
    obtain ⟨q_4, e_4, hF⟩ := bnd hF
    refine m_callS (As := [.int v2]) (rest := []) X hH hS hl.1 (k_X12_isDay l D cI cT cII base v2 q_2.2 q_4 e_4) q_X12_isDay kw_1033 kw_1034 rfl rfl (Nat.le_of_ble_eq_true rfl) ⟨by decide, by decide⟩ hc dX12_fewest_17 (fun H locs hH hS => W.eq (g2 := F0 m 20 ls [.int q_4.1]) rfl ?_)
    refine lv_if_ne (tgt := 25) hx hb dX12_fewest_20 (by decide) (fun c_5 => ?_) (fun c_5 => ?_)
    · replace hF := itf c_5 hF
      refine lv_aload_n hx hb dX12_fewest_25 rfl (lv_at hl 0 rfl) ?_
      refine lv_iload_n hx hb dX12_fewest_26 rfl (lv_at hl 2 rfl) ?_
      obtain ⟨u_6, ou_6, hF⟩ := bnd hF
      obtain ⟨q_7, e_7, hF⟩ := bnd hF
      refine m_callV (As := [.int v2]) (rest := []) X hH hS hl.1 ou_6 rfl (by decide) (k_X12_goes l D cI cT cII base p0 v2 q_4.2 q_7 e_7) q_X12_goes kw_1036 kw_1038 kw_37 rfl rfl (Nat.le_of_ble_eq_true rfl) ⟨by decide, by decide⟩ hc dX12_fewest_27 (fun H locs hH hS => W.eq (g2 := F0 m 30 ls []) rfl ?_)
      refine lv_iload_n hx hb dX12_fewest_30 rfl (lv_at hl 1 rfl) ?_
      refine lv_aload_n hx hb dX12_fewest_31 rfl (lv_at hl 0 rfl) ?_
      obtain ⟨x_8, e_8, hF⟩ := bnd hF
      refine m_gI X hH e_8 gg_X12_182 dX12_fewest_32 ?_
      refine lv_iconst (v := (-1 : Int32)) hx hb dX12_fewest_35 (by decide) ?_
      refine lv_ixor hx hb dX12_fewest_36 ?_
      refine lv_iand hx hb dX12_fewest_37 ?_
      refine lv_if_ne (tgt := 43) hx hb dX12_fewest_38 (by decide) (fun c_9 => ?_) (fun c_9 => ?_)
      · replace hF := itf c_9 hF
        refine lv_bipush (v := (40 : Int32)) hx hb dX12_fewest_43 (by decide) ?_
        refine lv_aload_n hx hb dX12_fewest_45 rfl (lv_at hl 0 rfl) ?_
        obtain ⟨x_10, e_10, hF⟩ := bnd hF
        refine m_gI X hH e_10 gg_X12_7 dX12_fewest_46 ?_
        refine lv_imul hx hb dX12_fewest_49 ?_
        refine lv_istore_n (lv' := [(3, .int ((40 : Int32) * x_10)), (0, .ref (base + p0)), (1, .int v1), (2, .int v2)]) hx hb dX12_fewest_50 rfl hl (by decide) rfl (fun ls hl => ?_)
        refine lv_iconst (v := (0 : Int32)) hx hb dX12_fewest_51 (by decide) ?_
        refine lv_istore (lv' := [(4, .int (0 : Int32)), (3, .int ((40 : Int32) * x_10)), (0, .ref (base + p0)), (1, .int v1), (2, .int v2)]) hx hb dX12_fewest_52 hl (by decide) rfl (fun ls hl => ?_)
        refine l_X12_fewest_54 X hc p0 v1 ((40 : Int32) * x_10) _ _ res ?_ ?_ FV (0 : Int32) q_7.2 hF H locs ls hH hS (lv_sub hl [2, 3, 1, 0] rfl)
        · intro  w_16 hF H locs ls hH hS hl
          refine lv_iconst (v := (1 : Int32)) hx hb dX12_fewest_77 (by decide) ?_
          have hF := Option.some.inj hF
          subst hF
          exact m_iret X hr hlk hH hS dX12_fewest_78
        · intro  w_17 hF H locs ls hH hS hl
          refine lv_iconst (v := (0 : Int32)) hx hb dX12_fewest_85 (by decide) ?_
          refine lv_istore (lv' := [(4, .int (0 : Int32)), (0, .ref (base + p0)), (1, .int v1), (3, .int ((40 : Int32) * x_10))]) hx hb dX12_fewest_86 hl (by decide) rfl (fun ls hl => ?_)
          refine l_X12_fewest_88 X hc p0 v1 ((40 : Int32) * x_10) _ _ res ?_ ?_ FV (0 : Int32) w_17 hF H locs ls hH hS (lv_sub hl [1, 2, 3, 0] rfl)
          · intro  w_43 hF H locs ls hH hS hl
            refine lv_iconst (v := (2 : Int32)) hx hb dX12_fewest_161 (by decide) ?_
            have hF := Option.some.inj hF
            subst hF
            exact m_iret X hr hlk hH hS dX12_fewest_162
          · intro  w_44 hF H locs ls hH hS hl
            refine lv_bipush (v := (-4 : Int32)) hx hb dX12_fewest_169 (by decide) ?_
            have hF := Option.some.inj hF
            subst hF
            exact m_iret X hr hlk hH hS dX12_fewest_171
      · replace hF := itt c_9 hF
        refine lv_iconst (v := (0 : Int32)) hx hb dX12_fewest_41 (by decide) ?_
        have hF := Option.some.inj hF
        subst hF
        exact m_iret X hr hlk hH hS dX12_fewest_42
    · replace hF := itt c_5 hF
      refine lv_iconst (v := (-1 : Int32)) hx hb dX12_fewest_23 (by decide) ?_
      have hF := Option.some.inj hF
      subst hF
      exact m_iret X hr hlk hH hS dX12_fewest_24
noncomputable def fX12_forget (p0 : Nat) (w : Wd) : Option (Int32 × Wd) := (gfI 11 12 p0 w).bind fun x_1 => (pfI 11 12 p0 (0 : Int32) w).bind fun w_2 => some (x_1, w_2)
set_option maxHeartbeats 4000000 in
set_option maxRecDepth 100000 in
theorem k_X12_forget (l : Launch) (D : va_G) (cI cT cII : ClassId) (base : Nat) (p0 : Nat) (w : Wd) (res : Int32 × Wd) (hF : fX12_forget p0 w = some res) : Ct l yX12_forget cX12_forget 2 (some .int) { frames := 0, cells := 0, slots := 0, locals := 0 } D cI cT cII base [.ref (base + p0)] w res.2 (some (.int res.1)) 0 0 := by
  unfold fX12_forget at hF
  refine m_enter (by decide) (Nat.le_of_ble_eq_true rfl) ?_
  intro p e s m below meth c ls X hr hlk hnm hH hS hl
  have hx := X.1
  have hb := X.2.1
  have hc : (0 : Nat) ≤ ({ frames := 0, cells := 0, slots := 0, locals := 0 } : Room).cells ∧ (0 : Nat) ≤ ({ frames := 0, cells := 0, slots := 0, locals := 0 } : Room).slots := ⟨Nat.zero_le _, Nat.zero_le _⟩
  obtain ⟨H, hHe⟩ : ∃ H : Heap, H = s.heap := ⟨_, rfl⟩
  obtain ⟨locs, hle⟩ : ∃ L : List Loc, L = [] := ⟨_, rfl⟩
  have hl : lv_has ls 2 [(0, .ref (base + p0))] := hl
  rw [← hHe] at hH
  have hS : va_S (fun q => base ≤ q) s.heap H locs := by rw [hHe, hle]; exact hS
  rw [← hle]
  show W p l e _ s m _ below meth c s.heap locs 0 0 _ _
  rw [← hHe]
  refine lv_aload_n hx hb dX12_forget_0 rfl (lv_at hl 0 rfl) ?_
  obtain ⟨x_1, e_1, hF⟩ := bnd hF
  refine m_gI X hH e_1 gg_X12_156 dX12_forget_1 ?_
  refine lv_istore_n (lv' := [(1, .int x_1), (0, .ref (base + p0))]) hx hb dX12_forget_4 rfl hl (by decide) rfl (fun ls hl => ?_)
  refine lv_aload_n hx hb dX12_forget_5 rfl (lv_at hl 1 rfl) ?_
  refine lv_iconst (v := (0 : Int32)) hx hb dX12_forget_6 (by decide) ?_
  obtain ⟨w_2, e_2, hF⟩ := bnd hF
  refine m_pI X hH hS e_2 gp_X12_156 rfl rfl dX12_forget_7 (fun H locs hH hS => ?_)
  refine lv_iload_n hx hb dX12_forget_10 rfl (lv_at hl 0 rfl) ?_
  have hF := Option.some.inj hF
  subst hF
  exact m_iret X hr hlk hH hS dX12_forget_11
noncomputable def fX12_frame (p0 : Nat) (v1 : Int32) (v2 : Int32) (w : Wd) : Option (Int32 × Wd) := (isO 11 p0 w).bind fun u_1 => (fX12_isFrame p0 v1 w).bind fun q_2 => if q_2.1 = 0 then some ((-1 : Int32), q_2.2) else (fX12_in v2 (0 : Int32) (3 : Int32) q_2.2).bind fun q_4 => if q_4.1 = 0 then some ((-1 : Int32), q_4.2) else (gfR 11 1 p0 q_4.2).bind fun r_6 => (rdI r_6 (((4 : Int32) * v1) + v2) q_4.2).bind fun x_7 => if v2 = 0 then some (x_7, q_4.2) else if v2 = (2 : Int32) then some (x_7 + (5 : Int32), q_4.2) else some (x_7 + (40 : Int32), q_4.2)
set_option maxHeartbeats 4000000 in
set_option maxRecDepth 100000 in
theorem k_X12_frame (l : Launch) (D : va_G) (cI cT cII : ClassId) (base : Nat) (p0 : Nat) (v1 : Int32) (v2 : Int32) (w : Wd) (res : Int32 × Wd) (hF : fX12_frame p0 v1 v2 w = some res) : Ct l yX12_frame cX12_frame 4 (some .int) { frames := 2, cells := 0, slots := 0, locals := 43 } D cI cT cII base [.ref (base + p0), .int v1, .int v2] w res.2 (some (.int res.1)) 0 0 := by
  unfold fX12_frame at hF
  refine m_enter (by decide) (Nat.le_of_ble_eq_true rfl) ?_
  intro p e s m below meth c ls X hr hlk hnm hH hS hl
  have hx := X.1
  have hb := X.2.1
  have hc : (0 : Nat) ≤ ({ frames := 2, cells := 0, slots := 0, locals := 43 } : Room).cells ∧ (0 : Nat) ≤ ({ frames := 2, cells := 0, slots := 0, locals := 43 } : Room).slots := ⟨Nat.zero_le _, Nat.zero_le _⟩
  obtain ⟨H, hHe⟩ : ∃ H : Heap, H = s.heap := ⟨_, rfl⟩
  obtain ⟨locs, hle⟩ : ∃ L : List Loc, L = [] := ⟨_, rfl⟩
  have hl : lv_has ls 4 [(0, .ref (base + p0)), (1, .int v1), (2, .int v2)] := hl
  rw [← hHe] at hH
  have hS : va_S (fun q => base ≤ q) s.heap H locs := by rw [hHe, hle]; exact hS
  rw [← hle]
  show W p l e _ s m _ below meth c s.heap locs 0 0 _ _
  rw [← hHe]
  refine lv_aload_n hx hb dX12_frame_0 rfl (lv_at hl 0 rfl) ?_
  refine lv_iload_n hx hb dX12_frame_1 rfl (lv_at hl 1 rfl) ?_
  obtain ⟨u_1, ou_1, hF⟩ := bnd hF
  obtain ⟨q_2, e_2, hF⟩ := bnd hF
  refine m_callV (As := [.int v1]) (rest := []) X hH hS hl.1 ou_1 rfl (by decide) (k_X12_isFrame l D cI cT cII base p0 v1 w q_2 e_2) q_X12_isFrame kw_1017 kw_1019 kw_35 rfl rfl (Nat.le_of_ble_eq_true rfl) ⟨by decide, by decide⟩ hc dX12_frame_2 (fun H locs hH hS => W.eq (g2 := F0 m 5 ls [.int q_2.1]) rfl ?_)
  refine lv_if_eq (tgt := 17) hx hb dX12_frame_5 (by decide) (fun c_3 => ?_) (fun c_3 => ?_)
  · replace hF := itt c_3 hF
    refine lv_iconst (v := (-1 : Int32)) hx hb dX12_frame_17 (by decide) ?_
    have hF := Option.some.inj hF
    subst hF
    exact m_iret X hr hlk hH hS dX12_frame_18
  · replace hF := itf c_3 hF
    refine lv_iload_n hx hb dX12_frame_8 rfl (lv_at hl 2 rfl) ?_
    refine lv_iconst (v := (0 : Int32)) hx hb dX12_frame_9 (by decide) ?_
    refine lv_iconst (v := (3 : Int32)) hx hb dX12_frame_10 (by decide) ?_
    obtain ⟨q_4, e_4, hF⟩ := bnd hF
    refine m_callS (As := [.int v2, .int (0 : Int32), .int (3 : Int32)]) (rest := []) X hH hS hl.1 (k_X12_in l D cI cT cII base v2 (0 : Int32) (3 : Int32) q_2.2 q_4 e_4) q_X12_in kw_951 kw_952 rfl rfl (Nat.le_of_ble_eq_true rfl) ⟨by decide, by decide⟩ hc dX12_frame_11 (fun H locs hH hS => W.eq (g2 := F0 m 14 ls [.int q_4.1]) rfl ?_)
    refine lv_if_ne (tgt := 19) hx hb dX12_frame_14 (by decide) (fun c_5 => ?_) (fun c_5 => ?_)
    · replace hF := itf c_5 hF
      refine lv_aload_n hx hb dX12_frame_19 rfl (lv_at hl 0 rfl) ?_
      obtain ⟨r_6, e_6, hF⟩ := bnd hF
      refine m_gR X hH e_6 gg_X12_13 dX12_frame_20 ?_
      refine lv_iconst (v := (4 : Int32)) hx hb dX12_frame_23 (by decide) ?_
      refine lv_iload_n hx hb dX12_frame_24 rfl (lv_at hl 1 rfl) ?_
      refine lv_imul hx hb dX12_frame_25 ?_
      refine lv_iload_n hx hb dX12_frame_26 rfl (lv_at hl 2 rfl) ?_
      refine lv_iadd hx hb dX12_frame_27 ?_
      obtain ⟨x_7, e_7, hF⟩ := bnd hF
      refine m_rdI X hH e_7 dX12_frame_28 ?_
      refine lv_istore_n (lv' := [(3, .int x_7), (0, .ref (base + p0)), (1, .int v1), (2, .int v2)]) hx hb dX12_frame_29 rfl hl (by decide) rfl (fun ls hl => ?_)
      refine lv_iload_n hx hb dX12_frame_30 rfl (lv_at hl 3 rfl) ?_
      refine lv_if_ne (tgt := 38) hx hb dX12_frame_31 (by decide) (fun c_8 => ?_) (fun c_8 => ?_)
      · replace hF := itf c_8 hF
        refine lv_iload_n hx hb dX12_frame_38 rfl (lv_at hl 3 rfl) ?_
        refine lv_iconst (v := (2 : Int32)) hx hb dX12_frame_39 (by decide) ?_
        refine lv_icmp_ne (tgt := 49) hx hb dX12_frame_40 (by decide) (fun c_9 => ?_) (fun c_9 => ?_)
        · replace hF := itf c_9 hF
          refine lv_iload_n hx hb dX12_frame_49 rfl (lv_at hl 0 rfl) ?_
          refine lv_bipush (v := (40 : Int32)) hx hb dX12_frame_50 (by decide) ?_
          refine lv_iadd hx hb dX12_frame_52 ?_
          have hF := Option.some.inj hF
          subst hF
          exact m_iret X hr hlk hH hS dX12_frame_53
        · replace hF := itt c_9 hF
          refine lv_iload_n hx hb dX12_frame_43 rfl (lv_at hl 0 rfl) ?_
          refine lv_iconst (v := (5 : Int32)) hx hb dX12_frame_44 (by decide) ?_
          refine lv_iadd hx hb dX12_frame_45 ?_
          refine lv_goto (tgt := 53) hx hb dX12_frame_46 (by decide) ?_
          have hF := Option.some.inj hF
          subst hF
          exact m_iret X hr hlk hH hS dX12_frame_53
      · replace hF := itt c_8 hF
        refine lv_iload_n hx hb dX12_frame_34 rfl (lv_at hl 0 rfl) ?_
        refine lv_goto (tgt := 53) hx hb dX12_frame_35 (by decide) ?_
        have hF := Option.some.inj hF
        subst hF
        exact m_iret X hr hlk hH hS dX12_frame_53
    · replace hF := itt c_5 hF
      refine lv_iconst (v := (-1 : Int32)) hx hb dX12_frame_17 (by decide) ?_
      have hF := Option.some.inj hF
      subst hF
      exact m_iret X hr hlk hH hS dX12_frame_18
end M08
