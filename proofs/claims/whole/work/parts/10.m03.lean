section M03
variable {p : Program} {l : Launch} {e : Env} {R : Room} {s : State} {m : MethodId} {args : Array Value} {below : List Frame} {meth : Method} {c : Code} {cells slots : Nat} {Q : State → Prop} {D : va_G} {cI cT cII : ClassId} {base : Nat}
noncomputable def fX5_reachAll_2 (p0 : Nat) (p1 : Nat) (p2 : Nat) (K_27 : Wd → Option (Unit × Wd)) : Nat → Int32 → Wd → Option (Unit × Wd)
  | 0, _, _ => none
  | n + 1, v3, w => (gfI 3 4 p1 w).bind fun x_1 => if x_1 ≤ v3 then K_27  w else (rdI p2 v3 w).bind fun x_3 => (isO 4 p0 w).bind fun u_4 => (fX5_reach p0 p1 x_3 v3 (20 : Int32) w).bind fun q_5 => fX5_reachAll_2 p0 p1 p2 K_27 n (v3 + (1 : Int32)) q_5.2
noncomputable def fX5_reachAll (p0 : Nat) (p1 : Nat) (p2 : Nat) (w : Wd) : Option (Unit × Wd) := fX5_reachAll_2 p0 p1 p2 (fun  (w_6 : Wd) => some ((), w_6)) FV (0 : Int32) w
set_option maxHeartbeats 4000000 in
set_option maxRecDepth 100000 in
theorem l_X5_reachAll_2 (X : Cx p R s m args c cX5_reachAll 4 RX5 D cI cT cII 3 66) (hc : cells ≤ R.cells ∧ slots ≤ R.slots) (p0 : Nat) (p1 : Nat) (p2 : Nat) (K_27 : Wd → Option (Unit × Wd)) (res : Unit × Wd)
    (hK_27 : ∀  (w : Wd), K_27  w = some res → ∀ (H : Heap) (locs : List Loc) (ls : Array Slot), Hd D cI cT cII base w H → va_S (fun q => base ≤ q) s.heap H locs → lv_has ls 4 [] → W p l e R s m args below meth c H locs cells slots Q (F0 m 27 ls [])) :
    ∀ (n : Nat) (v3 : Int32) (w : Wd), fX5_reachAll_2 p0 p1 p2 K_27 n v3 w = some res → ∀ (H : Heap) (locs : List Loc) (ls : Array Slot), Hd D cI cT cII base w H → va_S (fun q => base ≤ q) s.heap H locs → lv_has ls 4 [(0, .ref (base + p0)), (1, .ref (base + p1)), (2, .ref (base + p2)), (3, .int v3)] → W p l e R s m args below meth c H locs cells slots Q (F0 m 2 ls []) := by
  have hx := X.1
  have hb := X.2.1
  intro n
  induction n with
  | zero =>
    intro v3 w hF
    rw [fX5_reachAll_2] at hF
    cases hF
  | succ n ih =>
    intro v3 w hF H locs ls hH hS hl
    rw [fX5_reachAll_2] at hF
    refine lv_iload_n hx hb dX5_reachAll_2 rfl (lv_at hl 3 rfl) ?_
    refine lv_aload_n hx hb dX5_reachAll_3 rfl (lv_at hl 1 rfl) ?_
    obtain ⟨x_1, e_1, hF⟩ := bnd hF
    refine m_hI X hH e_1 gg_X5_29 dX5_reachAll_4 ?_
    refine lv_icmp_ge (tgt := 27) hx hb dX5_reachAll_7 (by decide) (fun c_2 => ?_) (fun c_2 => ?_)
    · replace hF := itt c_2 hF
      exact hK_27  w hF H locs ls hH hS (lv_sub hl [] rfl)
    · replace hF := itf c_2 hF
      refine lv_aload_n hx hb dX5_reachAll_10 rfl (lv_at hl 0 rfl) ?_
      refine lv_aload_n hx hb dX5_reachAll_11 rfl (lv_at hl 1 rfl) ?_
      refine lv_aload_n hx hb dX5_reachAll_12 rfl (lv_at hl 2 rfl) ?_
      refine lv_iload_n hx hb dX5_reachAll_13 rfl (lv_at hl 3 rfl) ?_
      obtain ⟨x_3, e_3, hF⟩ := bnd hF
      refine m_rdI X hH e_3 dX5_reachAll_14 ?_
      refine lv_iload_n hx hb dX5_reachAll_15 rfl (lv_at hl 3 rfl) ?_
      refine lv_bipush (v := (20 : Int32)) hx hb dX5_reachAll_16 (by decide) ?_
      obtain ⟨u_4, ou_4, hF⟩ := bnd hF
      obtain ⟨q_5, e_5, hF⟩ := bnd hF
      refine m_callV (As := [.ref (base + p1), .int x_3, .int v3, .int (20 : Int32)]) (rest := []) X hH hS hl.1 ou_4 rfl (by decide) (k_X5_reach l D cI cT cII base p0 p1 x_3 v3 (20 : Int32) w q_5 e_5) q_X5_reach kw_677 kw_679 kw_18 rfl rfl (Nat.le_of_ble_eq_true rfl) ⟨by decide, by decide⟩ hc dX5_reachAll_18 (fun H locs hH hS => W.eq (g2 := F0 m 21 ls []) rfl ?_)
      refine lv_iinc (v := v3 + (1 : Int32)) (lv' := [(3, .int (v3 + (1 : Int32))), (0, .ref (base + p0)), (1, .ref (base + p1)), (2, .ref (base + p2))]) hx hb dX5_reachAll_21 hl (k := 3) rfl (congrArg (fun z => v3 + z) (by decide)) (by decide) rfl (fun ls hl => ?_)
      refine lv_goto (tgt := 2) hx hb dX5_reachAll_24 (by decide) ?_
      exact ih (v3 + (1 : Int32)) q_5.2 hF H locs ls hH hS (lv_sub hl [1, 2, 3, 0] rfl)
set_option maxHeartbeats 4000000 in
set_option maxRecDepth 100000 in
theorem k_X5_reachAll (l : Launch) (D : va_G) (cI cT cII : ClassId) (base : Nat) (p0 : Nat) (p1 : Nat) (p2 : Nat) (w : Wd) (res : Unit × Wd) (hF : fX5_reachAll p0 p1 p2 w = some res) : Ct l yX5_reachAll cX5_reachAll 4 none { frames := 3, cells := 0, slots := 0, locals := 66 } D cI cT cII base [.ref (base + p0), .ref (base + p1), .ref (base + p2)] w res.2 none 0 0 := by
  unfold fX5_reachAll at hF
  refine m_enter (by decide) (Nat.le_of_ble_eq_true rfl) ?_
  intro p e s m below meth c ls X hr hlk hnm hH hS hl
  have hx := X.1
  have hb := X.2.1
  have hc : (0 : Nat) ≤ ({ frames := 3, cells := 0, slots := 0, locals := 66 } : Room).cells ∧ (0 : Nat) ≤ ({ frames := 3, cells := 0, slots := 0, locals := 66 } : Room).slots := ⟨Nat.zero_le _, Nat.zero_le _⟩
  obtain ⟨H, hHe⟩ : ∃ H : Heap, H = s.heap := ⟨_, rfl⟩
  obtain ⟨locs, hle⟩ : ∃ L : List Loc, L = [] := ⟨_, rfl⟩
  have hl : lv_has ls 4 [(0, .ref (base + p0)), (1, .ref (base + p1)), (2, .ref (base + p2))] := hl
  rw [← hHe] at hH
  have hS : va_S (fun q => base ≤ q) s.heap H locs := by rw [hHe, hle]; exact hS
  rw [← hle]
  show W p l e _ s m _ below meth c s.heap locs 0 0 _ _
  rw [← hHe]
  refine lv_iconst (v := (0 : Int32)) hx hb dX5_reachAll_0 (by decide) ?_
  refine lv_istore_n (lv' := [(3, .int (0 : Int32)), (0, .ref (base + p0)), (1, .ref (base + p1)), (2, .ref (base + p2))]) hx hb dX5_reachAll_1 rfl hl (by decide) rfl (fun ls hl => ?_)
  refine l_X5_reachAll_2 X hc p0 p1 p2 _ res ?_ FV (0 : Int32) w hF H locs ls hH hS (lv_sub hl [1, 2, 3, 0] rfl)
  · intro  w_6 hF H locs ls hH hS hl
    have hF := Option.some.inj hF
    subst hF
    exact m_vret X hr hlk hH hS dX5_reachAll_27
noncomputable def fX5_wonWith (p0 : Nat) (p1 : Nat) (p2 : Nat) (v3 : Int32) (v4 : Int32) (w : Wd) : Option (Int32 × Wd) := (gfR 4 0 p0 w).bind fun r_1 => (cpI p2 (0 : Int32) r_1 (0 : Int32) (7 : Int32) w).bind fun w_2 => (gfR 4 0 p0 w_2).bind fun r_3 => (wrI r_3 v3 v4 w_2).bind fun w_4 => (gfR 4 0 p0 w_4).bind fun r_5 => (gfR 4 1 p0 w_4).bind fun r_6 => (isO 3 p1 w_4).bind fun u_7 => (fX4_letCome p1 r_5 r_6 w_4).bind fun q_8 => some (q_8.1, q_8.2)
set_option maxHeartbeats 4000000 in
set_option maxRecDepth 100000 in
theorem k_X5_wonWith (l : Launch) (D : va_G) (cI cT cII : ClassId) (base : Nat) (p0 : Nat) (p1 : Nat) (p2 : Nat) (v3 : Int32) (v4 : Int32) (w : Wd) (res : Int32 × Wd) (hF : fX5_wonWith p0 p1 p2 v3 v4 w = some res) : Ct l yX5_wonWith cX5_wonWith 5 (some .int) { frames := 4, cells := 0, slots := 0, locals := 91 } D cI cT cII base [.ref (base + p0), .ref (base + p1), .ref (base + p2), .int v3, .int v4] w res.2 (some (.int res.1)) 0 0 := by
  unfold fX5_wonWith at hF
  refine m_enter (by decide) (Nat.le_of_ble_eq_true rfl) ?_
  intro p e s m below meth c ls X hr hlk hnm hH hS hl
  have hx := X.1
  have hb := X.2.1
  have hc : (0 : Nat) ≤ ({ frames := 4, cells := 0, slots := 0, locals := 91 } : Room).cells ∧ (0 : Nat) ≤ ({ frames := 4, cells := 0, slots := 0, locals := 91 } : Room).slots := ⟨Nat.zero_le _, Nat.zero_le _⟩
  obtain ⟨H, hHe⟩ : ∃ H : Heap, H = s.heap := ⟨_, rfl⟩
  obtain ⟨locs, hle⟩ : ∃ L : List Loc, L = [] := ⟨_, rfl⟩
  have hl : lv_has ls 5 [(0, .ref (base + p0)), (1, .ref (base + p1)), (2, .ref (base + p2)), (3, .int v3), (4, .int v4)] := hl
  rw [← hHe] at hH
  have hS : va_S (fun q => base ≤ q) s.heap H locs := by rw [hHe, hle]; exact hS
  rw [← hle]
  show W p l e _ s m _ below meth c s.heap locs 0 0 _ _
  rw [← hHe]
  refine lv_aload_n hx hb dX5_wonWith_0 rfl (lv_at hl 2 rfl) ?_
  refine lv_iconst (v := (0 : Int32)) hx hb dX5_wonWith_1 (by decide) ?_
  refine lv_aload_n hx hb dX5_wonWith_2 rfl (lv_at hl 0 rfl) ?_
  obtain ⟨r_1, e_1, hF⟩ := bnd hF
  refine m_gR X hH e_1 gg_X5_9 dX5_wonWith_3 ?_
  refine lv_iconst (v := (0 : Int32)) hx hb dX5_wonWith_6 (by decide) ?_
  refine lv_bipush (v := (7 : Int32)) hx hb dX5_wonWith_7 (by decide) ?_
  obtain ⟨w_2, e_2, hF⟩ := bnd hF
  refine m_cpI X hH hS ⟨hl.2.1, hl.1⟩ e_2 kw_653 kw_530 kw_529 kw_70 (by decide) (Nat.le_of_ble_eq_true rfl) dX5_wonWith_9 (fun H locs hH hS => ?_)
  refine lv_aload_n hx hb dX5_wonWith_12 rfl (lv_at hl 0 rfl) ?_
  obtain ⟨r_3, e_3, hF⟩ := bnd hF
  refine m_gR X hH e_3 gg_X5_9 dX5_wonWith_13 ?_
  refine lv_iload_n hx hb dX5_wonWith_16 rfl (lv_at hl 3 rfl) ?_
  refine lv_iload hx hb dX5_wonWith_17 (lv_at hl 4 rfl) ?_
  obtain ⟨w_4, e_4, hF⟩ := bnd hF
  refine m_wrI X hH hS e_4 dX5_wonWith_19 (fun H locs hH hS => ?_)
  refine lv_aload_n hx hb dX5_wonWith_20 rfl (lv_at hl 1 rfl) ?_
  refine lv_aload_n hx hb dX5_wonWith_21 rfl (lv_at hl 0 rfl) ?_
  obtain ⟨r_5, e_5, hF⟩ := bnd hF
  refine m_gR X hH e_5 gg_X5_9 dX5_wonWith_22 ?_
  refine lv_aload_n hx hb dX5_wonWith_25 rfl (lv_at hl 0 rfl) ?_
  obtain ⟨r_6, e_6, hF⟩ := bnd hF
  refine m_gR X hH e_6 gg_X5_15 dX5_wonWith_26 ?_
  obtain ⟨u_7, ou_7, hF⟩ := bnd hF
  obtain ⟨q_8, e_8, hF⟩ := bnd hF
  refine m_callV (As := [.ref (base + r_5), .ref (base + r_6)]) (rest := []) X hH hS hl.1 ou_7 rfl (by decide) (k_X4_letCome l D cI cT cII base p1 r_5 r_6 w_4 q_8 e_8) q_X4_letCome kw_654 kw_548 kw_549 rfl rfl (Nat.le_of_ble_eq_true rfl) ⟨by decide, by decide⟩ hc dX5_wonWith_29 (fun H locs hH hS => W.eq (g2 := F0 m 32 ls [.int q_8.1]) rfl ?_)
  have hF := Option.some.inj hF
  subst hF
  exact m_iret X hr hlk hH hS dX5_wonWith_32
noncomputable def fX5_isWonByReached_3 (p0 : Nat) (p1 : Nat) (p2 : Nat) (v3 : Int32) (v4 : Int32) (K_38 : Wd → Option (Int32 × Wd)) (K_46 : Wd → Option (Int32 × Wd)) : Nat → Int32 → Wd → Option (Int32 × Wd)
  | 0, _, _ => none
  | n + 1, v5, w => (gfR 4 4 p0 w).bind fun r_1 => (rdI r_1 v3 w).bind fun x_2 => if x_2 ≤ v5 then K_46  w else (gfR 4 3 p0 w).bind fun r_4 => (rdR 14 r_4 v3 w).bind fun r_5 => (rdI r_5 v5 w).bind fun x_6 => (isO 4 p0 w).bind fun u_7 => (fX5_wonWith p0 p1 p2 v3 x_6 w).bind fun q_8 => if (q_8.1 &&& v4) = v4 then K_38  q_8.2 else fX5_isWonByReached_3 p0 p1 p2 v3 v4 K_38 K_46 n (v5 + (1 : Int32)) q_8.2
noncomputable def fX5_isWonByReached (p0 : Nat) (p1 : Nat) (p2 : Nat) (v3 : Int32) (v4 : Int32) (w : Wd) : Option (Int32 × Wd) := fX5_isWonByReached_3 p0 p1 p2 v3 v4 (fun  (w_10 : Wd) => some ((1 : Int32), w_10)) (fun  (w_11 : Wd) => some ((0 : Int32), w_11)) FV (0 : Int32) w
set_option maxHeartbeats 4000000 in
set_option maxRecDepth 100000 in
theorem l_X5_isWonByReached_3 (X : Cx p R s m args c cX5_isWonByReached 6 RX5 D cI cT cII 5 115) (hc : cells ≤ R.cells ∧ slots ≤ R.slots) (p0 : Nat) (p1 : Nat) (p2 : Nat) (v3 : Int32) (v4 : Int32) (K_38 : Wd → Option (Int32 × Wd)) (K_46 : Wd → Option (Int32 × Wd)) (res : Int32 × Wd)
    (hK_38 : ∀  (w : Wd), K_38  w = some res → ∀ (H : Heap) (locs : List Loc) (ls : Array Slot), Hd D cI cT cII base w H → va_S (fun q => base ≤ q) s.heap H locs → lv_has ls 6 [] → W p l e R s m args below meth c H locs cells slots Q (F0 m 38 ls []))
    (hK_46 : ∀  (w : Wd), K_46  w = some res → ∀ (H : Heap) (locs : List Loc) (ls : Array Slot), Hd D cI cT cII base w H → va_S (fun q => base ≤ q) s.heap H locs → lv_has ls 6 [] → W p l e R s m args below meth c H locs cells slots Q (F0 m 46 ls [])) :
    ∀ (n : Nat) (v5 : Int32) (w : Wd), fX5_isWonByReached_3 p0 p1 p2 v3 v4 K_38 K_46 n v5 w = some res → ∀ (H : Heap) (locs : List Loc) (ls : Array Slot), Hd D cI cT cII base w H → va_S (fun q => base ≤ q) s.heap H locs → lv_has ls 6 [(0, .ref (base + p0)), (1, .ref (base + p1)), (2, .ref (base + p2)), (3, .int v3), (4, .int v4), (5, .int v5)] → W p l e R s m args below meth c H locs cells slots Q (F0 m 3 ls []) := by
  have hx := X.1
  have hb := X.2.1
  intro n
  induction n with
  | zero =>
    intro v5 w hF
    rw [fX5_isWonByReached_3] at hF
    cases hF
  | succ n ih =>
    intro v5 w hF H locs ls hH hS hl
    rw [fX5_isWonByReached_3] at hF
    refine lv_iload hx hb dX5_isWonByReached_3 (lv_at hl 5 rfl) ?_
    refine lv_aload_n hx hb dX5_isWonByReached_5 rfl (lv_at hl 0 rfl) ?_
    obtain ⟨r_1, e_1, hF⟩ := bnd hF
    refine m_gR X hH e_1 gg_X5_26 dX5_isWonByReached_6 ?_
    refine lv_iload_n hx hb dX5_isWonByReached_9 rfl (lv_at hl 3 rfl) ?_
    obtain ⟨x_2, e_2, hF⟩ := bnd hF
    refine m_rdI X hH e_2 dX5_isWonByReached_10 ?_
    refine lv_icmp_ge (tgt := 46) hx hb dX5_isWonByReached_11 (by decide) (fun c_3 => ?_) (fun c_3 => ?_)
    · replace hF := itt c_3 hF
      exact hK_46  w hF H locs ls hH hS (lv_sub hl [] rfl)
    · replace hF := itf c_3 hF
      refine lv_aload_n hx hb dX5_isWonByReached_14 rfl (lv_at hl 0 rfl) ?_
      refine lv_aload_n hx hb dX5_isWonByReached_15 rfl (lv_at hl 1 rfl) ?_
      refine lv_aload_n hx hb dX5_isWonByReached_16 rfl (lv_at hl 2 rfl) ?_
      refine lv_iload_n hx hb dX5_isWonByReached_17 rfl (lv_at hl 3 rfl) ?_
      refine lv_aload_n hx hb dX5_isWonByReached_18 rfl (lv_at hl 0 rfl) ?_
      obtain ⟨r_4, e_4, hF⟩ := bnd hF
      refine m_gR X hH e_4 gg_X5_23 dX5_isWonByReached_19 ?_
      refine lv_iload_n hx hb dX5_isWonByReached_22 rfl (lv_at hl 3 rfl) ?_
      obtain ⟨r_5, e_5, hF⟩ := bnd hF
      refine m_rdII X hH e_5 dX5_isWonByReached_23 ?_
      refine lv_iload hx hb dX5_isWonByReached_24 (lv_at hl 5 rfl) ?_
      obtain ⟨x_6, e_6, hF⟩ := bnd hF
      refine m_rdI X hH e_6 dX5_isWonByReached_26 ?_
      obtain ⟨u_7, ou_7, hF⟩ := bnd hF
      obtain ⟨q_8, e_8, hF⟩ := bnd hF
      refine m_callV (As := [.ref (base + p1), .ref (base + p2), .int v3, .int x_6]) (rest := []) X hH hS hl.1 ou_7 rfl (by decide) (k_X5_wonWith l D cI cT cII base p0 p1 p2 v3 x_6 w q_8 e_8) q_X5_wonWith kw_649 kw_651 kw_14 rfl rfl (Nat.le_of_ble_eq_true rfl) ⟨by decide, by decide⟩ hc dX5_isWonByReached_27 (fun H locs hH hS => W.eq (g2 := F0 m 30 ls [.int q_8.1]) rfl ?_)
      refine lv_iload hx hb dX5_isWonByReached_30 (lv_at hl 4 rfl) ?_
      refine lv_iand hx hb dX5_isWonByReached_32 ?_
      refine lv_iload hx hb dX5_isWonByReached_33 (lv_at hl 4 rfl) ?_
      refine lv_icmp_ne (tgt := 40) hx hb dX5_isWonByReached_35 (by decide) (fun c_9 => ?_) (fun c_9 => ?_)
      · replace hF := itf c_9 hF
        refine lv_iinc (v := v5 + (1 : Int32)) (lv' := [(5, .int (v5 + (1 : Int32))), (0, .ref (base + p0)), (1, .ref (base + p1)), (2, .ref (base + p2)), (3, .int v3), (4, .int v4)]) hx hb dX5_isWonByReached_40 hl (k := 5) rfl (congrArg (fun z => v5 + z) (by decide)) (by decide) rfl (fun ls hl => ?_)
        refine lv_goto (tgt := 3) hx hb dX5_isWonByReached_43 (by decide) ?_
        exact ih (v5 + (1 : Int32)) q_8.2 hF H locs ls hH hS (lv_sub hl [1, 2, 3, 4, 5, 0] rfl)
      · replace hF := itt c_9 hF
        exact hK_38  q_8.2 hF H locs ls hH hS (lv_sub hl [] rfl)
set_option maxHeartbeats 4000000 in
set_option maxRecDepth 100000 in
theorem k_X5_isWonByReached (l : Launch) (D : va_G) (cI cT cII : ClassId) (base : Nat) (p0 : Nat) (p1 : Nat) (p2 : Nat) (v3 : Int32) (v4 : Int32) (w : Wd) (res : Int32 × Wd) (hF : fX5_isWonByReached p0 p1 p2 v3 v4 w = some res) : Ct l yX5_isWonByReached cX5_isWonByReached 6 (some .boolean) { frames := 5, cells := 0, slots := 0, locals := 115 } D cI cT cII base [.ref (base + p0), .ref (base + p1), .ref (base + p2), .int v3, .int v4] w res.2 (some (.int res.1)) 0 0 := by
  unfold fX5_isWonByReached at hF
  refine m_enter (by decide) (Nat.le_of_ble_eq_true rfl) ?_
  intro p e s m below meth c ls X hr hlk hnm hH hS hl
  have hx := X.1
  have hb := X.2.1
  have hc : (0 : Nat) ≤ ({ frames := 5, cells := 0, slots := 0, locals := 115 } : Room).cells ∧ (0 : Nat) ≤ ({ frames := 5, cells := 0, slots := 0, locals := 115 } : Room).slots := ⟨Nat.zero_le _, Nat.zero_le _⟩
  obtain ⟨H, hHe⟩ : ∃ H : Heap, H = s.heap := ⟨_, rfl⟩
  obtain ⟨locs, hle⟩ : ∃ L : List Loc, L = [] := ⟨_, rfl⟩
  have hl : lv_has ls 6 [(0, .ref (base + p0)), (1, .ref (base + p1)), (2, .ref (base + p2)), (3, .int v3), (4, .int v4)] := hl
  rw [← hHe] at hH
  have hS : va_S (fun q => base ≤ q) s.heap H locs := by rw [hHe, hle]; exact hS
  rw [← hle]
  show W p l e _ s m _ below meth c s.heap locs 0 0 _ _
  rw [← hHe]
  refine lv_iconst (v := (0 : Int32)) hx hb dX5_isWonByReached_0 (by decide) ?_
  refine lv_istore (lv' := [(5, .int (0 : Int32)), (0, .ref (base + p0)), (1, .ref (base + p1)), (2, .ref (base + p2)), (3, .int v3), (4, .int v4)]) hx hb dX5_isWonByReached_1 hl (by decide) rfl (fun ls hl => ?_)
  refine l_X5_isWonByReached_3 X hc p0 p1 p2 v3 v4 _ _ res ?_ ?_ FV (0 : Int32) w hF H locs ls hH hS (lv_sub hl [1, 2, 3, 4, 5, 0] rfl)
  · intro  w_10 hF H locs ls hH hS hl
    refine lv_iconst (v := (1 : Int32)) hx hb dX5_isWonByReached_38 (by decide) ?_
    have hF := Option.some.inj hF
    subst hF
    exact m_zret (r := (1 : Int32)) X hr hlk (by decide) hH hS dX5_isWonByReached_39
  · intro  w_11 hF H locs ls hH hS hl
    refine lv_iconst (v := (0 : Int32)) hx hb dX5_isWonByReached_46 (by decide) ?_
    have hF := Option.some.inj hF
    subst hF
    exact m_zret (r := (0 : Int32)) X hr hlk (by decide) hH hS dX5_isWonByReached_47
noncomputable def fX5_isWonByBoth_17 (p0 : Nat) (p1 : Nat) (p2 : Nat) (v3 : Int32) (v4 : Int32) (v5 : Int32) (v6 : Int32) (K_93 : Wd → Option (Int32 × Wd)) (K_101 : Wd → Option (Int32 × Wd)) : Nat → Int32 → Wd → Option (Int32 × Wd)
  | 0, _, _ => none
  | n + 1, v7, w => (gfR 4 4 p0 w).bind fun r_4 => (rdI r_4 v4 w).bind fun x_5 => if x_5 ≤ v7 then K_101  w else (gfR 4 0 p0 w).bind fun r_7 => (cpI p2 (0 : Int32) r_7 (0 : Int32) (7 : Int32) w).bind fun w_8 => (gfR 4 0 p0 w_8).bind fun r_9 => (gfR 4 3 p0 w_8).bind fun r_10 => (rdR 14 r_10 v3 w_8).bind fun r_11 => (rdI r_11 v6 w_8).bind fun x_12 => (wrI r_9 v3 x_12 w_8).bind fun w_13 => (gfR 4 0 p0 w_13).bind fun r_14 => (gfR 4 3 p0 w_13).bind fun r_15 => (rdR 14 r_15 v4 w_13).bind fun r_16 => (rdI r_16 v7 w_13).bind fun x_17 => (wrI r_14 v4 x_17 w_13).bind fun w_18 => (gfR 4 0 p0 w_18).bind fun r_19 => (gfR 4 1 p0 w_18).bind fun r_20 => (isO 3 p1 w_18).bind fun u_21 => (fX4_letCome p1 r_19 r_20 w_18).bind fun q_22 => if (q_22.1 &&& v5) = v5 then K_93  q_22.2 else fX5_isWonByBoth_17 p0 p1 p2 v3 v4 v5 v6 K_93 K_101 n (v7 + (1 : Int32)) q_22.2
noncomputable def fX5_isWonByBoth_3 (p0 : Nat) (p1 : Nat) (p2 : Nat) (v3 : Int32) (v4 : Int32) (v5 : Int32) (K_93 : Wd → Option (Int32 × Wd)) (K_107 : Wd → Option (Int32 × Wd)) : Nat → Int32 → Wd → Option (Int32 × Wd)
  | 0, _, _ => none
  | n + 1, v6, w => (gfR 4 4 p0 w).bind fun r_1 => (rdI r_1 v3 w).bind fun x_2 => if x_2 ≤ v6 then K_107  w else fX5_isWonByBoth_17 p0 p1 p2 v3 v4 v5 v6 (fun  (w_24 : Wd) => K_93  w_24) (fun  (w_25 : Wd) => fX5_isWonByBoth_3 p0 p1 p2 v3 v4 v5 K_93 K_107 n (v6 + (1 : Int32)) w_25) FV (0 : Int32) w
noncomputable def fX5_isWonByBoth (p0 : Nat) (p1 : Nat) (p2 : Nat) (v3 : Int32) (v4 : Int32) (v5 : Int32) (w : Wd) : Option (Int32 × Wd) := fX5_isWonByBoth_3 p0 p1 p2 v3 v4 v5 (fun  (w_26 : Wd) => some ((1 : Int32), w_26)) (fun  (w_27 : Wd) => some ((0 : Int32), w_27)) FV (0 : Int32) w
set_option maxHeartbeats 4000000 in
set_option maxRecDepth 100000 in
theorem l_X5_isWonByBoth_17 (X : Cx p R s m args c cX5_isWonByBoth 8 RX5 D cI cT cII 4 91) (hc : cells ≤ R.cells ∧ slots ≤ R.slots) (p0 : Nat) (p1 : Nat) (p2 : Nat) (v3 : Int32) (v4 : Int32) (v5 : Int32) (v6 : Int32) (K_93 : Wd → Option (Int32 × Wd)) (K_101 : Wd → Option (Int32 × Wd)) (res : Int32 × Wd)
    (hK_93 : ∀  (w : Wd), K_93  w = some res → ∀ (H : Heap) (locs : List Loc) (ls : Array Slot), Hd D cI cT cII base w H → va_S (fun q => base ≤ q) s.heap H locs → lv_has ls 8 [] → W p l e R s m args below meth c H locs cells slots Q (F0 m 93 ls []))
    (hK_101 : ∀  (w : Wd), K_101  w = some res → ∀ (H : Heap) (locs : List Loc) (ls : Array Slot), Hd D cI cT cII base w H → va_S (fun q => base ≤ q) s.heap H locs → lv_has ls 8 [(0, .ref (base + p0)), (1, .ref (base + p1)), (2, .ref (base + p2)), (3, .int v3), (4, .int v4), (5, .int v5), (6, .int v6)] → W p l e R s m args below meth c H locs cells slots Q (F0 m 101 ls [])) :
    ∀ (n : Nat) (v7 : Int32) (w : Wd), fX5_isWonByBoth_17 p0 p1 p2 v3 v4 v5 v6 K_93 K_101 n v7 w = some res → ∀ (H : Heap) (locs : List Loc) (ls : Array Slot), Hd D cI cT cII base w H → va_S (fun q => base ≤ q) s.heap H locs → lv_has ls 8 [(0, .ref (base + p0)), (1, .ref (base + p1)), (2, .ref (base + p2)), (3, .int v3), (4, .int v4), (5, .int v5), (6, .int v6), (7, .int v7)] → W p l e R s m args below meth c H locs cells slots Q (F0 m 17 ls []) := by
  have hx := X.1
  have hb := X.2.1
  intro n
  induction n with
  | zero =>
    intro v7 w hF
    rw [fX5_isWonByBoth_17] at hF
    cases hF
  | succ n ih =>
    intro v7 w hF H locs ls hH hS hl
    rw [fX5_isWonByBoth_17] at hF
    refine lv_iload hx hb dX5_isWonByBoth_17 (lv_at hl 7 rfl) ?_
    refine lv_aload_n hx hb dX5_isWonByBoth_19 rfl (lv_at hl 0 rfl) ?_
    obtain ⟨r_4, e_4, hF⟩ := bnd hF
    refine m_gR X hH e_4 gg_X5_26 dX5_isWonByBoth_20 ?_
    refine lv_iload hx hb dX5_isWonByBoth_23 (lv_at hl 4 rfl) ?_
    obtain ⟨x_5, e_5, hF⟩ := bnd hF
    refine m_rdI X hH e_5 dX5_isWonByBoth_25 ?_
    refine lv_icmp_ge (tgt := 101) hx hb dX5_isWonByBoth_26 (by decide) (fun c_6 => ?_) (fun c_6 => ?_)
    · replace hF := itt c_6 hF
      exact hK_101  w hF H locs ls hH hS (lv_sub hl [0, 1, 2, 3, 4, 5, 6] rfl)
    · replace hF := itf c_6 hF
      refine lv_aload_n hx hb dX5_isWonByBoth_29 rfl (lv_at hl 2 rfl) ?_
      refine lv_iconst (v := (0 : Int32)) hx hb dX5_isWonByBoth_30 (by decide) ?_
      refine lv_aload_n hx hb dX5_isWonByBoth_31 rfl (lv_at hl 0 rfl) ?_
      obtain ⟨r_7, e_7, hF⟩ := bnd hF
      refine m_gR X hH e_7 gg_X5_9 dX5_isWonByBoth_32 ?_
      refine lv_iconst (v := (0 : Int32)) hx hb dX5_isWonByBoth_35 (by decide) ?_
      refine lv_bipush (v := (7 : Int32)) hx hb dX5_isWonByBoth_36 (by decide) ?_
      obtain ⟨w_8, e_8, hF⟩ := bnd hF
      refine m_cpI X hH hS ⟨hl.2.1, hl.1⟩ e_8 kw_653 kw_530 kw_529 kw_70 (by decide) (Nat.le_of_ble_eq_true rfl) dX5_isWonByBoth_38 (fun H locs hH hS => ?_)
      refine lv_aload_n hx hb dX5_isWonByBoth_41 rfl (lv_at hl 0 rfl) ?_
      obtain ⟨r_9, e_9, hF⟩ := bnd hF
      refine m_gR X hH e_9 gg_X5_9 dX5_isWonByBoth_42 ?_
      refine lv_iload_n hx hb dX5_isWonByBoth_45 rfl (lv_at hl 3 rfl) ?_
      refine lv_aload_n hx hb dX5_isWonByBoth_46 rfl (lv_at hl 0 rfl) ?_
      obtain ⟨r_10, e_10, hF⟩ := bnd hF
      refine m_gR X hH e_10 gg_X5_23 dX5_isWonByBoth_47 ?_
      refine lv_iload_n hx hb dX5_isWonByBoth_50 rfl (lv_at hl 3 rfl) ?_
      obtain ⟨r_11, e_11, hF⟩ := bnd hF
      refine m_rdII X hH e_11 dX5_isWonByBoth_51 ?_
      refine lv_iload hx hb dX5_isWonByBoth_52 (lv_at hl 6 rfl) ?_
      obtain ⟨x_12, e_12, hF⟩ := bnd hF
      refine m_rdI X hH e_12 dX5_isWonByBoth_54 ?_
      obtain ⟨w_13, e_13, hF⟩ := bnd hF
      refine m_wrI X hH hS e_13 dX5_isWonByBoth_55 (fun H locs hH hS => ?_)
      refine lv_aload_n hx hb dX5_isWonByBoth_56 rfl (lv_at hl 0 rfl) ?_
      obtain ⟨r_14, e_14, hF⟩ := bnd hF
      refine m_gR X hH e_14 gg_X5_9 dX5_isWonByBoth_57 ?_
      refine lv_iload hx hb dX5_isWonByBoth_60 (lv_at hl 4 rfl) ?_
      refine lv_aload_n hx hb dX5_isWonByBoth_62 rfl (lv_at hl 0 rfl) ?_
      obtain ⟨r_15, e_15, hF⟩ := bnd hF
      refine m_gR X hH e_15 gg_X5_23 dX5_isWonByBoth_63 ?_
      refine lv_iload hx hb dX5_isWonByBoth_66 (lv_at hl 4 rfl) ?_
      obtain ⟨r_16, e_16, hF⟩ := bnd hF
      refine m_rdII X hH e_16 dX5_isWonByBoth_68 ?_
      refine lv_iload hx hb dX5_isWonByBoth_69 (lv_at hl 7 rfl) ?_
      obtain ⟨x_17, e_17, hF⟩ := bnd hF
      refine m_rdI X hH e_17 dX5_isWonByBoth_71 ?_
      obtain ⟨w_18, e_18, hF⟩ := bnd hF
      refine m_wrI X hH hS e_18 dX5_isWonByBoth_72 (fun H locs hH hS => ?_)
      refine lv_aload_n hx hb dX5_isWonByBoth_73 rfl (lv_at hl 1 rfl) ?_
      refine lv_aload_n hx hb dX5_isWonByBoth_74 rfl (lv_at hl 0 rfl) ?_
      obtain ⟨r_19, e_19, hF⟩ := bnd hF
      refine m_gR X hH e_19 gg_X5_9 dX5_isWonByBoth_75 ?_
      refine lv_aload_n hx hb dX5_isWonByBoth_78 rfl (lv_at hl 0 rfl) ?_
      obtain ⟨r_20, e_20, hF⟩ := bnd hF
      refine m_gR X hH e_20 gg_X5_15 dX5_isWonByBoth_79 ?_
      obtain ⟨u_21, ou_21, hF⟩ := bnd hF
      obtain ⟨q_22, e_22, hF⟩ := bnd hF
      refine m_callV (As := [.ref (base + r_19), .ref (base + r_20)]) (rest := []) X hH hS hl.1 ou_21 rfl (by decide) (k_X4_letCome l D cI cT cII base p1 r_19 r_20 w_18 q_22 e_22) q_X4_letCome kw_654 kw_548 kw_549 rfl rfl (Nat.le_of_ble_eq_true rfl) ⟨by decide, by decide⟩ hc dX5_isWonByBoth_82 (fun H locs hH hS => W.eq (g2 := F0 m 85 ls [.int q_22.1]) rfl ?_)
      refine lv_iload hx hb dX5_isWonByBoth_85 (lv_at hl 5 rfl) ?_
      refine lv_iand hx hb dX5_isWonByBoth_87 ?_
      refine lv_iload hx hb dX5_isWonByBoth_88 (lv_at hl 5 rfl) ?_
      refine lv_icmp_ne (tgt := 95) hx hb dX5_isWonByBoth_90 (by decide) (fun c_23 => ?_) (fun c_23 => ?_)
      · replace hF := itf c_23 hF
        refine lv_iinc (v := v7 + (1 : Int32)) (lv' := [(7, .int (v7 + (1 : Int32))), (0, .ref (base + p0)), (1, .ref (base + p1)), (2, .ref (base + p2)), (3, .int v3), (4, .int v4), (5, .int v5), (6, .int v6)]) hx hb dX5_isWonByBoth_95 hl (k := 7) rfl (congrArg (fun z => v7 + z) (by decide)) (by decide) rfl (fun ls hl => ?_)
        refine lv_goto (tgt := 17) hx hb dX5_isWonByBoth_98 (by decide) ?_
        exact ih (v7 + (1 : Int32)) q_22.2 hF H locs ls hH hS (lv_sub hl [1, 2, 3, 4, 5, 6, 7, 0] rfl)
      · replace hF := itt c_23 hF
        exact hK_93  q_22.2 hF H locs ls hH hS (lv_sub hl [] rfl)
set_option maxHeartbeats 4000000 in
set_option maxRecDepth 100000 in
theorem l_X5_isWonByBoth_3 (X : Cx p R s m args c cX5_isWonByBoth 8 RX5 D cI cT cII 4 91) (hc : cells ≤ R.cells ∧ slots ≤ R.slots) (p0 : Nat) (p1 : Nat) (p2 : Nat) (v3 : Int32) (v4 : Int32) (v5 : Int32) (K_93 : Wd → Option (Int32 × Wd)) (K_107 : Wd → Option (Int32 × Wd)) (res : Int32 × Wd)
    (hK_93 : ∀  (w : Wd), K_93  w = some res → ∀ (H : Heap) (locs : List Loc) (ls : Array Slot), Hd D cI cT cII base w H → va_S (fun q => base ≤ q) s.heap H locs → lv_has ls 8 [] → W p l e R s m args below meth c H locs cells slots Q (F0 m 93 ls []))
    (hK_107 : ∀  (w : Wd), K_107  w = some res → ∀ (H : Heap) (locs : List Loc) (ls : Array Slot), Hd D cI cT cII base w H → va_S (fun q => base ≤ q) s.heap H locs → lv_has ls 8 [] → W p l e R s m args below meth c H locs cells slots Q (F0 m 107 ls [])) :
    ∀ (n : Nat) (v6 : Int32) (w : Wd), fX5_isWonByBoth_3 p0 p1 p2 v3 v4 v5 K_93 K_107 n v6 w = some res → ∀ (H : Heap) (locs : List Loc) (ls : Array Slot), Hd D cI cT cII base w H → va_S (fun q => base ≤ q) s.heap H locs → lv_has ls 8 [(0, .ref (base + p0)), (1, .ref (base + p1)), (2, .ref (base + p2)), (3, .int v3), (4, .int v4), (5, .int v5), (6, .int v6)] → W p l e R s m args below meth c H locs cells slots Q (F0 m 3 ls []) := by
  have hx := X.1
  have hb := X.2.1
  intro n
  induction n with
  | zero =>
    intro v6 w hF
    rw [fX5_isWonByBoth_3] at hF
    cases hF
  | succ n ih =>
    intro v6 w hF H locs ls hH hS hl
    rw [fX5_isWonByBoth_3] at hF
    refine lv_iload hx hb dX5_isWonByBoth_3 (lv_at hl 6 rfl) ?_
    refine lv_aload_n hx hb dX5_isWonByBoth_5 rfl (lv_at hl 0 rfl) ?_
    obtain ⟨r_1, e_1, hF⟩ := bnd hF
    refine m_gR X hH e_1 gg_X5_26 dX5_isWonByBoth_6 ?_
    refine lv_iload_n hx hb dX5_isWonByBoth_9 rfl (lv_at hl 3 rfl) ?_
    obtain ⟨x_2, e_2, hF⟩ := bnd hF
    refine m_rdI X hH e_2 dX5_isWonByBoth_10 ?_
    refine lv_icmp_ge (tgt := 107) hx hb dX5_isWonByBoth_11 (by decide) (fun c_3 => ?_) (fun c_3 => ?_)
    · replace hF := itt c_3 hF
      exact hK_107  w hF H locs ls hH hS (lv_sub hl [] rfl)
    · replace hF := itf c_3 hF
      refine lv_iconst (v := (0 : Int32)) hx hb dX5_isWonByBoth_14 (by decide) ?_
      refine lv_istore (lv' := [(7, .int (0 : Int32)), (0, .ref (base + p0)), (1, .ref (base + p1)), (2, .ref (base + p2)), (3, .int v3), (4, .int v4), (5, .int v5), (6, .int v6)]) hx hb dX5_isWonByBoth_15 hl (by decide) rfl (fun ls hl => ?_)
      refine l_X5_isWonByBoth_17 X hc p0 p1 p2 v3 v4 v5 v6 _ _ res ?_ ?_ FV (0 : Int32) w hF H locs ls hH hS (lv_sub hl [1, 2, 3, 4, 5, 6, 7, 0] rfl)
      · intro  w_24 hF H locs ls hH hS hl
        exact hK_93  w_24 hF H locs ls hH hS (lv_sub hl [] rfl)
      · intro  w_25 hF H locs ls hH hS hl
        refine lv_iinc (v := v6 + (1 : Int32)) (lv' := [(6, .int (v6 + (1 : Int32))), (0, .ref (base + p0)), (1, .ref (base + p1)), (2, .ref (base + p2)), (3, .int v3), (4, .int v4), (5, .int v5)]) hx hb dX5_isWonByBoth_101 hl (k := 6) rfl (congrArg (fun z => v6 + z) (by decide)) (by decide) rfl (fun ls hl => ?_)
        refine lv_goto (tgt := 3) hx hb dX5_isWonByBoth_104 (by decide) ?_
        exact ih (v6 + (1 : Int32)) w_25 hF H locs ls hH hS (lv_sub hl [1, 2, 3, 4, 5, 6, 0] rfl)
set_option maxHeartbeats 4000000 in
set_option maxRecDepth 100000 in
theorem k_X5_isWonByBoth (l : Launch) (D : va_G) (cI cT cII : ClassId) (base : Nat) (p0 : Nat) (p1 : Nat) (p2 : Nat) (v3 : Int32) (v4 : Int32) (v5 : Int32) (w : Wd) (res : Int32 × Wd) (hF : fX5_isWonByBoth p0 p1 p2 v3 v4 v5 w = some res) : Ct l yX5_isWonByBoth cX5_isWonByBoth 8 (some .boolean) { frames := 4, cells := 0, slots := 0, locals := 91 } D cI cT cII base [.ref (base + p0), .ref (base + p1), .ref (base + p2), .int v3, .int v4, .int v5] w res.2 (some (.int res.1)) 0 0 := by
  unfold fX5_isWonByBoth at hF
  refine m_enter (by decide) (Nat.le_of_ble_eq_true rfl) ?_
  intro p e s m below meth c ls X hr hlk hnm hH hS hl
  have hx := X.1
  have hb := X.2.1
  have hc : (0 : Nat) ≤ ({ frames := 4, cells := 0, slots := 0, locals := 91 } : Room).cells ∧ (0 : Nat) ≤ ({ frames := 4, cells := 0, slots := 0, locals := 91 } : Room).slots := ⟨Nat.zero_le _, Nat.zero_le _⟩
  obtain ⟨H, hHe⟩ : ∃ H : Heap, H = s.heap := ⟨_, rfl⟩
  obtain ⟨locs, hle⟩ : ∃ L : List Loc, L = [] := ⟨_, rfl⟩
  have hl : lv_has ls 8 [(0, .ref (base + p0)), (1, .ref (base + p1)), (2, .ref (base + p2)), (3, .int v3), (4, .int v4), (5, .int v5)] := hl
  rw [← hHe] at hH
  have hS : va_S (fun q => base ≤ q) s.heap H locs := by rw [hHe, hle]; exact hS
  rw [← hle]
  show W p l e _ s m _ below meth c s.heap locs 0 0 _ _
  rw [← hHe]
  refine lv_iconst (v := (0 : Int32)) hx hb dX5_isWonByBoth_0 (by decide) ?_
  refine lv_istore (lv' := [(6, .int (0 : Int32)), (0, .ref (base + p0)), (1, .ref (base + p1)), (2, .ref (base + p2)), (3, .int v3), (4, .int v4), (5, .int v5)]) hx hb dX5_isWonByBoth_1 hl (by decide) rfl (fun ls hl => ?_)
  refine l_X5_isWonByBoth_3 X hc p0 p1 p2 v3 v4 v5 _ _ res ?_ ?_ FV (0 : Int32) w hF H locs ls hH hS (lv_sub hl [1, 2, 3, 4, 5, 6, 0] rfl)
  · intro  w_26 hF H locs ls hH hS hl
    refine lv_iconst (v := (1 : Int32)) hx hb dX5_isWonByBoth_93 (by decide) ?_
    have hF := Option.some.inj hF
    subst hF
    exact m_zret (r := (1 : Int32)) X hr hlk (by decide) hH hS dX5_isWonByBoth_94
  · intro  w_27 hF H locs ls hH hS hl
    refine lv_iconst (v := (0 : Int32)) hx hb dX5_isWonByBoth_107 (by decide) ?_
    have hF := Option.some.inj hF
    subst hF
    exact m_zret (r := (0 : Int32)) X hr hlk (by decide) hH hS dX5_isWonByBoth_108
noncomputable def fX5_oneOrTwo_14 (p0 : Nat) (p1 : Nat) (p2 : Nat) (v3 : Int32) (K_35 : Wd → Option (Int32 × Wd)) (K_43 : Wd → Option (Int32 × Wd)) : Nat → Int32 → Wd → Option (Int32 × Wd)
  | 0, _, _ => none
  | n + 1, v4, w => (gfI 3 4 p1 w).bind fun x_5 => if x_5 ≤ v4 then K_43  w else (isO 4 p0 w).bind fun u_7 => (fX5_isWonByReached p0 p1 p2 v4 v3 w).bind fun q_8 => if q_8.1 = 0 then fX5_oneOrTwo_14 p0 p1 p2 v3 K_35 K_43 n (v4 + (1 : Int32)) q_8.2 else K_35  q_8.2
noncomputable def fX5_oneOrTwo_61 (p0 : Nat) (p1 : Nat) (p2 : Nat) (v3 : Int32) (v4 : Int32) (K_84 : Wd → Option (Int32 × Wd)) (K_92 : Wd → Option (Int32 × Wd)) : Nat → Int32 → Wd → Option (Int32 × Wd)
  | 0, _, _ => none
  | n + 1, v5, w => (gfI 3 4 p1 w).bind fun x_14 => if x_14 ≤ v5 then K_92  w else (isO 4 p0 w).bind fun u_16 => (fX5_isWonByBoth p0 p1 p2 v4 v5 v3 w).bind fun q_17 => if q_17.1 = 0 then fX5_oneOrTwo_61 p0 p1 p2 v3 v4 K_84 K_92 n (v5 + (1 : Int32)) q_17.2 else K_84  q_17.2
noncomputable def fX5_oneOrTwo_46 (p0 : Nat) (p1 : Nat) (p2 : Nat) (v3 : Int32) (K_84 : Wd → Option (Int32 × Wd)) (K_98 : Wd → Option (Int32 × Wd)) : Nat → Int32 → Wd → Option (Int32 × Wd)
  | 0, _, _ => none
  | n + 1, v4, w => (gfI 3 4 p1 w).bind fun x_12 => if x_12 ≤ v4 then K_98  w else fX5_oneOrTwo_61 p0 p1 p2 v3 v4 (fun  (w_19 : Wd) => K_84  w_19) (fun  (w_20 : Wd) => fX5_oneOrTwo_46 p0 p1 p2 v3 K_84 K_98 n (v4 + (1 : Int32)) w_20) FV (v4 + (1 : Int32)) w
noncomputable def fX5_oneOrTwo_101 (p0 : Nat) (p1 : Nat) (p2 : Nat) (v3 : Int32) (K_135 : Wd → Option (Int32 × Wd)) (K_143 : Wd → Option (Int32 × Wd)) : Nat → Int32 → Wd → Option (Int32 × Wd)
  | 0, _, _ => none
  | n + 1, v4, w => (gfI 3 4 p1 w).bind fun x_23 => if x_23 ≤ v4 then K_143  w else (rdI p2 v4 w).bind fun x_25 => (isO 4 p0 w).bind fun u_26 => (fX5_reach p0 p1 x_25 v4 (40 : Int32) w).bind fun q_27 => (isO 4 p0 q_27.2).bind fun u_28 => (fX5_isWonByReached p0 p1 p2 v4 v3 q_27.2).bind fun q_29 => if q_29.1 = 0 then fX5_oneOrTwo_101 p0 p1 p2 v3 K_135 K_143 n (v4 + (1 : Int32)) q_29.2 else K_135  q_29.2
noncomputable def fX5_oneOrTwo (p0 : Nat) (p1 : Nat) (p2 : Nat) (v3 : Int32) (w : Wd) : Option (Int32 × Wd) := (isO 4 p0 w).bind fun u_1 => (fX5_findAlike p0 p1 w).bind fun q_2 => (isO 4 p0 q_2.2).bind fun u_3 => (fX5_reachAll p0 p1 p2 q_2.2).bind fun q_4 => fX5_oneOrTwo_14 p0 p1 p2 v3 (fun  (w_10 : Wd) => some ((1 : Int32), w_10)) (fun  (w_11 : Wd) => fX5_oneOrTwo_46 p0 p1 p2 v3 (fun  (w_21 : Wd) => some ((2 : Int32), w_21)) (fun  (w_22 : Wd) => fX5_oneOrTwo_101 p0 p1 p2 v3 (fun  (w_31 : Wd) => some ((2 : Int32), w_31)) (fun  (w_32 : Wd) => some ((-4 : Int32), w_32)) FV (0 : Int32) w_22) FV (0 : Int32) w_11) FV (0 : Int32) q_4.2
set_option maxHeartbeats 4000000 in
set_option maxRecDepth 100000 in
theorem l_X5_oneOrTwo_14 (X : Cx p R s m args c cX5_oneOrTwo 6 RX5 D cI cT cII 6 140) (hc : cells ≤ R.cells ∧ slots ≤ R.slots) (p0 : Nat) (p1 : Nat) (p2 : Nat) (v3 : Int32) (K_35 : Wd → Option (Int32 × Wd)) (K_43 : Wd → Option (Int32 × Wd)) (res : Int32 × Wd)
    (hK_35 : ∀  (w : Wd), K_35  w = some res → ∀ (H : Heap) (locs : List Loc) (ls : Array Slot), Hd D cI cT cII base w H → va_S (fun q => base ≤ q) s.heap H locs → lv_has ls 6 [] → W p l e R s m args below meth c H locs cells slots Q (F0 m 35 ls []))
    (hK_43 : ∀  (w : Wd), K_43  w = some res → ∀ (H : Heap) (locs : List Loc) (ls : Array Slot), Hd D cI cT cII base w H → va_S (fun q => base ≤ q) s.heap H locs → lv_has ls 6 [(0, .ref (base + p0)), (1, .ref (base + p1)), (2, .ref (base + p2)), (3, .int v3)] → W p l e R s m args below meth c H locs cells slots Q (F0 m 43 ls [])) :
    ∀ (n : Nat) (v4 : Int32) (w : Wd), fX5_oneOrTwo_14 p0 p1 p2 v3 K_35 K_43 n v4 w = some res → ∀ (H : Heap) (locs : List Loc) (ls : Array Slot), Hd D cI cT cII base w H → va_S (fun q => base ≤ q) s.heap H locs → lv_has ls 6 [(0, .ref (base + p0)), (1, .ref (base + p1)), (2, .ref (base + p2)), (3, .int v3), (4, .int v4)] → W p l e R s m args below meth c H locs cells slots Q (F0 m 14 ls []) := by
  have hx := X.1
  have hb := X.2.1
  intro n
  induction n with
  | zero =>
    intro v4 w hF
    rw [fX5_oneOrTwo_14] at hF
    cases hF
  | succ n ih =>
    intro v4 w hF H locs ls hH hS hl
    rw [fX5_oneOrTwo_14] at hF
    refine lv_iload hx hb dX5_oneOrTwo_14 (lv_at hl 4 rfl) ?_
    refine lv_aload_n hx hb dX5_oneOrTwo_16 rfl (lv_at hl 1 rfl) ?_
    obtain ⟨x_5, e_5, hF⟩ := bnd hF
    refine m_hI X hH e_5 gg_X5_29 dX5_oneOrTwo_17 ?_
    refine lv_icmp_ge (tgt := 43) hx hb dX5_oneOrTwo_20 (by decide) (fun c_6 => ?_) (fun c_6 => ?_)
    · replace hF := itt c_6 hF
      exact hK_43  w hF H locs ls hH hS (lv_sub hl [0, 1, 2, 3] rfl)
    · replace hF := itf c_6 hF
      refine lv_aload_n hx hb dX5_oneOrTwo_23 rfl (lv_at hl 0 rfl) ?_
      refine lv_aload_n hx hb dX5_oneOrTwo_24 rfl (lv_at hl 1 rfl) ?_
      refine lv_aload_n hx hb dX5_oneOrTwo_25 rfl (lv_at hl 2 rfl) ?_
      refine lv_iload hx hb dX5_oneOrTwo_26 (lv_at hl 4 rfl) ?_
      refine lv_iload_n hx hb dX5_oneOrTwo_28 rfl (lv_at hl 3 rfl) ?_
      obtain ⟨u_7, ou_7, hF⟩ := bnd hF
      obtain ⟨q_8, e_8, hF⟩ := bnd hF
      refine m_callV (As := [.ref (base + p1), .ref (base + p2), .int v4, .int v3]) (rest := []) X hH hS hl.1 ou_7 rfl (by decide) (k_X5_isWonByReached l D cI cT cII base p0 p1 p2 v4 v3 w q_8 e_8) q_X5_isWonByReached kw_688 kw_690 kw_20 rfl rfl (Nat.le_of_ble_eq_true rfl) ⟨by decide, by decide⟩ hc dX5_oneOrTwo_29 (fun H locs hH hS => W.eq (g2 := F0 m 32 ls [.int q_8.1]) rfl ?_)
      refine lv_if_eq (tgt := 37) hx hb dX5_oneOrTwo_32 (by decide) (fun c_9 => ?_) (fun c_9 => ?_)
      · replace hF := itt c_9 hF
        refine lv_iinc (v := v4 + (1 : Int32)) (lv' := [(4, .int (v4 + (1 : Int32))), (0, .ref (base + p0)), (1, .ref (base + p1)), (2, .ref (base + p2)), (3, .int v3)]) hx hb dX5_oneOrTwo_37 hl (k := 4) rfl (congrArg (fun z => v4 + z) (by decide)) (by decide) rfl (fun ls hl => ?_)
        refine lv_goto (tgt := 14) hx hb dX5_oneOrTwo_40 (by decide) ?_
        exact ih (v4 + (1 : Int32)) q_8.2 hF H locs ls hH hS (lv_sub hl [1, 2, 3, 4, 0] rfl)
      · replace hF := itf c_9 hF
        exact hK_35  q_8.2 hF H locs ls hH hS (lv_sub hl [] rfl)
set_option maxHeartbeats 4000000 in
set_option maxRecDepth 100000 in
theorem l_X5_oneOrTwo_61 (X : Cx p R s m args c cX5_oneOrTwo 6 RX5 D cI cT cII 6 140) (hc : cells ≤ R.cells ∧ slots ≤ R.slots) (p0 : Nat) (p1 : Nat) (p2 : Nat) (v3 : Int32) (v4 : Int32) (K_84 : Wd → Option (Int32 × Wd)) (K_92 : Wd → Option (Int32 × Wd)) (res : Int32 × Wd)
    (hK_84 : ∀  (w : Wd), K_84  w = some res → ∀ (H : Heap) (locs : List Loc) (ls : Array Slot), Hd D cI cT cII base w H → va_S (fun q => base ≤ q) s.heap H locs → lv_has ls 6 [] → W p l e R s m args below meth c H locs cells slots Q (F0 m 84 ls []))
    (hK_92 : ∀  (w : Wd), K_92  w = some res → ∀ (H : Heap) (locs : List Loc) (ls : Array Slot), Hd D cI cT cII base w H → va_S (fun q => base ≤ q) s.heap H locs → lv_has ls 6 [(0, .ref (base + p0)), (1, .ref (base + p1)), (2, .ref (base + p2)), (3, .int v3), (4, .int v4)] → W p l e R s m args below meth c H locs cells slots Q (F0 m 92 ls [])) :
    ∀ (n : Nat) (v5 : Int32) (w : Wd), fX5_oneOrTwo_61 p0 p1 p2 v3 v4 K_84 K_92 n v5 w = some res → ∀ (H : Heap) (locs : List Loc) (ls : Array Slot), Hd D cI cT cII base w H → va_S (fun q => base ≤ q) s.heap H locs → lv_has ls 6 [(0, .ref (base + p0)), (1, .ref (base + p1)), (2, .ref (base + p2)), (3, .int v3), (4, .int v4), (5, .int v5)] → W p l e R s m args below meth c H locs cells slots Q (F0 m 61 ls []) := by
  have hx := X.1
  have hb := X.2.1
  intro n
  induction n with
  | zero =>
    intro v5 w hF
    rw [fX5_oneOrTwo_61] at hF
    cases hF
  | succ n ih =>
    intro v5 w hF H locs ls hH hS hl
    rw [fX5_oneOrTwo_61] at hF
    refine lv_iload hx hb dX5_oneOrTwo_61 (lv_at hl 5 rfl) ?_
    refine lv_aload_n hx hb dX5_oneOrTwo_63 rfl (lv_at hl 1 rfl) ?_
    obtain ⟨x_14, e_14, hF⟩ := bnd hF
    refine m_hI X hH e_14 gg_X5_29 dX5_oneOrTwo_64 ?_
    refine lv_icmp_ge (tgt := 92) hx hb dX5_oneOrTwo_67 (by decide) (fun c_15 => ?_) (fun c_15 => ?_)
    · replace hF := itt c_15 hF
      exact hK_92  w hF H locs ls hH hS (lv_sub hl [0, 1, 2, 3, 4] rfl)
    · replace hF := itf c_15 hF
      refine lv_aload_n hx hb dX5_oneOrTwo_70 rfl (lv_at hl 0 rfl) ?_
      refine lv_aload_n hx hb dX5_oneOrTwo_71 rfl (lv_at hl 1 rfl) ?_
      refine lv_aload_n hx hb dX5_oneOrTwo_72 rfl (lv_at hl 2 rfl) ?_
      refine lv_iload hx hb dX5_oneOrTwo_73 (lv_at hl 4 rfl) ?_
      refine lv_iload hx hb dX5_oneOrTwo_75 (lv_at hl 5 rfl) ?_
      refine lv_iload_n hx hb dX5_oneOrTwo_77 rfl (lv_at hl 3 rfl) ?_
      obtain ⟨u_16, ou_16, hF⟩ := bnd hF
      obtain ⟨q_17, e_17, hF⟩ := bnd hF
      refine m_callV (As := [.ref (base + p1), .ref (base + p2), .int v4, .int v5, .int v3]) (rest := []) X hH hS hl.1 ou_16 rfl (by decide) (k_X5_isWonByBoth l D cI cT cII base p0 p1 p2 v4 v5 v3 w q_17 e_17) q_X5_isWonByBoth kw_692 kw_694 kw_21 rfl rfl (Nat.le_of_ble_eq_true rfl) ⟨by decide, by decide⟩ hc dX5_oneOrTwo_78 (fun H locs hH hS => W.eq (g2 := F0 m 81 ls [.int q_17.1]) rfl ?_)
      refine lv_if_eq (tgt := 86) hx hb dX5_oneOrTwo_81 (by decide) (fun c_18 => ?_) (fun c_18 => ?_)
      · replace hF := itt c_18 hF
        refine lv_iinc (v := v5 + (1 : Int32)) (lv' := [(5, .int (v5 + (1 : Int32))), (0, .ref (base + p0)), (1, .ref (base + p1)), (2, .ref (base + p2)), (3, .int v3), (4, .int v4)]) hx hb dX5_oneOrTwo_86 hl (k := 5) rfl (congrArg (fun z => v5 + z) (by decide)) (by decide) rfl (fun ls hl => ?_)
        refine lv_goto (tgt := 61) hx hb dX5_oneOrTwo_89 (by decide) ?_
        exact ih (v5 + (1 : Int32)) q_17.2 hF H locs ls hH hS (lv_sub hl [1, 2, 3, 4, 5, 0] rfl)
      · replace hF := itf c_18 hF
        exact hK_84  q_17.2 hF H locs ls hH hS (lv_sub hl [] rfl)
set_option maxHeartbeats 4000000 in
set_option maxRecDepth 100000 in
theorem l_X5_oneOrTwo_46 (X : Cx p R s m args c cX5_oneOrTwo 6 RX5 D cI cT cII 6 140) (hc : cells ≤ R.cells ∧ slots ≤ R.slots) (p0 : Nat) (p1 : Nat) (p2 : Nat) (v3 : Int32) (K_84 : Wd → Option (Int32 × Wd)) (K_98 : Wd → Option (Int32 × Wd)) (res : Int32 × Wd)
    (hK_84 : ∀  (w : Wd), K_84  w = some res → ∀ (H : Heap) (locs : List Loc) (ls : Array Slot), Hd D cI cT cII base w H → va_S (fun q => base ≤ q) s.heap H locs → lv_has ls 6 [] → W p l e R s m args below meth c H locs cells slots Q (F0 m 84 ls []))
    (hK_98 : ∀  (w : Wd), K_98  w = some res → ∀ (H : Heap) (locs : List Loc) (ls : Array Slot), Hd D cI cT cII base w H → va_S (fun q => base ≤ q) s.heap H locs → lv_has ls 6 [(0, .ref (base + p0)), (1, .ref (base + p1)), (2, .ref (base + p2)), (3, .int v3)] → W p l e R s m args below meth c H locs cells slots Q (F0 m 98 ls [])) :
    ∀ (n : Nat) (v4 : Int32) (w : Wd), fX5_oneOrTwo_46 p0 p1 p2 v3 K_84 K_98 n v4 w = some res → ∀ (H : Heap) (locs : List Loc) (ls : Array Slot), Hd D cI cT cII base w H → va_S (fun q => base ≤ q) s.heap H locs → lv_has ls 6 [(0, .ref (base + p0)), (1, .ref (base + p1)), (2, .ref (base + p2)), (3, .int v3), (4, .int v4)] → W p l e R s m args below meth c H locs cells slots Q (F0 m 46 ls []) := by
  have hx := X.1
  have hb := X.2.1
  intro n
  induction n with
  | zero =>
    intro v4 w hF
    rw [fX5_oneOrTwo_46] at hF
    cases hF
  | succ n ih =>
    intro v4 w hF H locs ls hH hS hl
    rw [fX5_oneOrTwo_46] at hF
    refine lv_iload hx hb dX5_oneOrTwo_46 (lv_at hl 4 rfl) ?_
    refine lv_aload_n hx hb dX5_oneOrTwo_48 rfl (lv_at hl 1 rfl) ?_
    obtain ⟨x_12, e_12, hF⟩ := bnd hF
    refine m_hI X hH e_12 gg_X5_29 dX5_oneOrTwo_49 ?_
    refine lv_icmp_ge (tgt := 98) hx hb dX5_oneOrTwo_52 (by decide) (fun c_13 => ?_) (fun c_13 => ?_)
    · replace hF := itt c_13 hF
      exact hK_98  w hF H locs ls hH hS (lv_sub hl [0, 1, 2, 3] rfl)
    · replace hF := itf c_13 hF
      refine lv_iload hx hb dX5_oneOrTwo_55 (lv_at hl 4 rfl) ?_
      refine lv_iconst (v := (1 : Int32)) hx hb dX5_oneOrTwo_57 (by decide) ?_
      refine lv_iadd hx hb dX5_oneOrTwo_58 ?_
      refine lv_istore (lv' := [(5, .int (v4 + (1 : Int32))), (0, .ref (base + p0)), (1, .ref (base + p1)), (2, .ref (base + p2)), (3, .int v3), (4, .int v4)]) hx hb dX5_oneOrTwo_59 hl (by decide) rfl (fun ls hl => ?_)
      refine l_X5_oneOrTwo_61 X hc p0 p1 p2 v3 v4 _ _ res ?_ ?_ FV (v4 + (1 : Int32)) w hF H locs ls hH hS (lv_sub hl [1, 2, 3, 4, 5, 0] rfl)
      · intro  w_19 hF H locs ls hH hS hl
        exact hK_84  w_19 hF H locs ls hH hS (lv_sub hl [] rfl)
      · intro  w_20 hF H locs ls hH hS hl
        refine lv_iinc (v := v4 + (1 : Int32)) (lv' := [(4, .int (v4 + (1 : Int32))), (0, .ref (base + p0)), (1, .ref (base + p1)), (2, .ref (base + p2)), (3, .int v3)]) hx hb dX5_oneOrTwo_92 hl (k := 4) rfl (congrArg (fun z => v4 + z) (by decide)) (by decide) rfl (fun ls hl => ?_)
        refine lv_goto (tgt := 46) hx hb dX5_oneOrTwo_95 (by decide) ?_
        exact ih (v4 + (1 : Int32)) w_20 hF H locs ls hH hS (lv_sub hl [1, 2, 3, 4, 0] rfl)
set_option maxHeartbeats 4000000 in
set_option maxRecDepth 100000 in
theorem l_X5_oneOrTwo_101 (X : Cx p R s m args c cX5_oneOrTwo 6 RX5 D cI cT cII 6 140) (hc : cells ≤ R.cells ∧ slots ≤ R.slots) (p0 : Nat) (p1 : Nat) (p2 : Nat) (v3 : Int32) (K_135 : Wd → Option (Int32 × Wd)) (K_143 : Wd → Option (Int32 × Wd)) (res : Int32 × Wd)
    (hK_135 : ∀  (w : Wd), K_135  w = some res → ∀ (H : Heap) (locs : List Loc) (ls : Array Slot), Hd D cI cT cII base w H → va_S (fun q => base ≤ q) s.heap H locs → lv_has ls 6 [] → W p l e R s m args below meth c H locs cells slots Q (F0 m 135 ls []))
    (hK_143 : ∀  (w : Wd), K_143  w = some res → ∀ (H : Heap) (locs : List Loc) (ls : Array Slot), Hd D cI cT cII base w H → va_S (fun q => base ≤ q) s.heap H locs → lv_has ls 6 [] → W p l e R s m args below meth c H locs cells slots Q (F0 m 143 ls [])) :
    ∀ (n : Nat) (v4 : Int32) (w : Wd), fX5_oneOrTwo_101 p0 p1 p2 v3 K_135 K_143 n v4 w = some res → ∀ (H : Heap) (locs : List Loc) (ls : Array Slot), Hd D cI cT cII base w H → va_S (fun q => base ≤ q) s.heap H locs → lv_has ls 6 [(0, .ref (base + p0)), (1, .ref (base + p1)), (2, .ref (base + p2)), (3, .int v3), (4, .int v4)] → W p l e R s m args below meth c H locs cells slots Q (F0 m 101 ls []) := by
  have hx := X.1
  have hb := X.2.1
  intro n
  induction n with
  | zero =>
    intro v4 w hF
    rw [fX5_oneOrTwo_101] at hF
    cases hF
  | succ n ih =>
    intro v4 w hF H locs ls hH hS hl
    rw [fX5_oneOrTwo_101] at hF
    refine lv_iload hx hb dX5_oneOrTwo_101 (lv_at hl 4 rfl) ?_
    refine lv_aload_n hx hb dX5_oneOrTwo_103 rfl (lv_at hl 1 rfl) ?_
    obtain ⟨x_23, e_23, hF⟩ := bnd hF
    refine m_hI X hH e_23 gg_X5_29 dX5_oneOrTwo_104 ?_
    refine lv_icmp_ge (tgt := 143) hx hb dX5_oneOrTwo_107 (by decide) (fun c_24 => ?_) (fun c_24 => ?_)
    · replace hF := itt c_24 hF
      exact hK_143  w hF H locs ls hH hS (lv_sub hl [] rfl)
    · replace hF := itf c_24 hF
      refine lv_aload_n hx hb dX5_oneOrTwo_110 rfl (lv_at hl 0 rfl) ?_
      refine lv_aload_n hx hb dX5_oneOrTwo_111 rfl (lv_at hl 1 rfl) ?_
      refine lv_aload_n hx hb dX5_oneOrTwo_112 rfl (lv_at hl 2 rfl) ?_
      refine lv_iload hx hb dX5_oneOrTwo_113 (lv_at hl 4 rfl) ?_
      obtain ⟨x_25, e_25, hF⟩ := bnd hF
      refine m_rdI X hH e_25 dX5_oneOrTwo_115 ?_
      refine lv_iload hx hb dX5_oneOrTwo_116 (lv_at hl 4 rfl) ?_
      refine lv_bipush (v := (40 : Int32)) hx hb dX5_oneOrTwo_118 (by decide) ?_
      obtain ⟨u_26, ou_26, hF⟩ := bnd hF
      obtain ⟨q_27, e_27, hF⟩ := bnd hF
      refine m_callV (As := [.ref (base + p1), .int x_25, .int v4, .int (40 : Int32)]) (rest := []) X hH hS hl.1 ou_26 rfl (by decide) (k_X5_reach l D cI cT cII base p0 p1 x_25 v4 (40 : Int32) w q_27 e_27) q_X5_reach kw_677 kw_679 kw_18 rfl rfl (Nat.le_of_ble_eq_true rfl) ⟨by decide, by decide⟩ hc dX5_oneOrTwo_120 (fun H locs hH hS => W.eq (g2 := F0 m 123 ls []) rfl ?_)
      refine lv_aload_n hx hb dX5_oneOrTwo_123 rfl (lv_at hl 0 rfl) ?_
      refine lv_aload_n hx hb dX5_oneOrTwo_124 rfl (lv_at hl 1 rfl) ?_
      refine lv_aload_n hx hb dX5_oneOrTwo_125 rfl (lv_at hl 2 rfl) ?_
      refine lv_iload hx hb dX5_oneOrTwo_126 (lv_at hl 4 rfl) ?_
      refine lv_iload_n hx hb dX5_oneOrTwo_128 rfl (lv_at hl 3 rfl) ?_
      obtain ⟨u_28, ou_28, hF⟩ := bnd hF
      obtain ⟨q_29, e_29, hF⟩ := bnd hF
      refine m_callV (As := [.ref (base + p1), .ref (base + p2), .int v4, .int v3]) (rest := []) X hH hS hl.1 ou_28 rfl (by decide) (k_X5_isWonByReached l D cI cT cII base p0 p1 p2 v4 v3 q_27.2 q_29 e_29) q_X5_isWonByReached kw_688 kw_690 kw_20 rfl rfl (Nat.le_of_ble_eq_true rfl) ⟨by decide, by decide⟩ hc dX5_oneOrTwo_129 (fun H locs hH hS => W.eq (g2 := F0 m 132 ls [.int q_29.1]) rfl ?_)
      refine lv_if_eq (tgt := 137) hx hb dX5_oneOrTwo_132 (by decide) (fun c_30 => ?_) (fun c_30 => ?_)
      · replace hF := itt c_30 hF
        refine lv_iinc (v := v4 + (1 : Int32)) (lv' := [(4, .int (v4 + (1 : Int32))), (0, .ref (base + p0)), (1, .ref (base + p1)), (2, .ref (base + p2)), (3, .int v3)]) hx hb dX5_oneOrTwo_137 hl (k := 4) rfl (congrArg (fun z => v4 + z) (by decide)) (by decide) rfl (fun ls hl => ?_)
        refine lv_goto (tgt := 101) hx hb dX5_oneOrTwo_140 (by decide) ?_
        exact ih (v4 + (1 : Int32)) q_29.2 hF H locs ls hH hS (lv_sub hl [1, 2, 3, 4, 0] rfl)
      · replace hF := itf c_30 hF
        exact hK_135  q_29.2 hF H locs ls hH hS (lv_sub hl [] rfl)
set_option maxHeartbeats 4000000 in
set_option maxRecDepth 100000 in
theorem k_X5_oneOrTwo (l : Launch) (D : va_G) (cI cT cII : ClassId) (base : Nat) (p0 : Nat) (p1 : Nat) (p2 : Nat) (v3 : Int32) (w : Wd) (res : Int32 × Wd) (hF : fX5_oneOrTwo p0 p1 p2 v3 w = some res) : Ct l yX5_oneOrTwo cX5_oneOrTwo 6 (some .int) { frames := 6, cells := 0, slots := 0, locals := 140 } D cI cT cII base [.ref (base + p0), .ref (base + p1), .ref (base + p2), .int v3] w res.2 (some (.int res.1)) 0 0 := by
  unfold fX5_oneOrTwo at hF
  refine m_enter (by decide) (Nat.le_of_ble_eq_true rfl) ?_
  intro p e s m below meth c ls X hr hlk hnm hH hS hl
  have hx := X.1
  have hb := X.2.1
  have hc : (0 : Nat) ≤ ({ frames := 6, cells := 0, slots := 0, locals := 140 } : Room).cells ∧ (0 : Nat) ≤ ({ frames := 6, cells := 0, slots := 0, locals := 140 } : Room).slots := ⟨Nat.zero_le _, Nat.zero_le _⟩
  obtain ⟨H, hHe⟩ : ∃ H : Heap, H = s.heap := ⟨_, rfl⟩
  obtain ⟨locs, hle⟩ : ∃ L : List Loc, L = [] := ⟨_, rfl⟩
  have hl : lv_has ls 6 [(0, .ref (base + p0)), (1, .ref (base + p1)), (2, .ref (base + p2)), (3, .int v3)] := hl
  rw [← hHe] at hH
  have hS : va_S (fun q => base ≤ q) s.heap H locs := by rw [hHe, hle]; exact hS
  rw [← hle]
  show W p l e _ s m _ below meth c s.heap locs 0 0 _ _
  rw [← hHe]
  refine lv_aload_n hx hb dX5_oneOrTwo_0 rfl (lv_at hl 0 rfl) ?_
  refine lv_aload_n hx hb dX5_oneOrTwo_1 rfl (lv_at hl 1 rfl) ?_
  obtain ⟨u_1, ou_1, hF⟩ := bnd hF
  obtain ⟨q_2, e_2, hF⟩ := bnd hF
  refine m_callV (As := [.ref (base + p1)]) (rest := []) X hH hS hl.1 ou_1 rfl (by decide) (k_X5_findAlike l D cI cT cII base p0 p1 w q_2 e_2) q_X5_findAlike kw_663 kw_665 kw_15 rfl rfl (Nat.le_of_ble_eq_true rfl) ⟨by decide, by decide⟩ hc dX5_oneOrTwo_2 (fun H locs hH hS => W.eq (g2 := F0 m 5 ls []) rfl ?_)
  refine lv_aload_n hx hb dX5_oneOrTwo_5 rfl (lv_at hl 0 rfl) ?_
  refine lv_aload_n hx hb dX5_oneOrTwo_6 rfl (lv_at hl 1 rfl) ?_
  refine lv_aload_n hx hb dX5_oneOrTwo_7 rfl (lv_at hl 2 rfl) ?_
  obtain ⟨u_3, ou_3, hF⟩ := bnd hF
  obtain ⟨q_4, e_4, hF⟩ := bnd hF
  refine m_callV (As := [.ref (base + p1), .ref (base + p2)]) (rest := []) X hH hS hl.1 ou_3 rfl (by decide) (k_X5_reachAll l D cI cT cII base p0 p1 p2 q_2.2 q_4 e_4) q_X5_reachAll kw_673 kw_675 kw_17 rfl rfl (Nat.le_of_ble_eq_true rfl) ⟨by decide, by decide⟩ hc dX5_oneOrTwo_8 (fun H locs hH hS => W.eq (g2 := F0 m 11 ls []) rfl ?_)
  refine lv_iconst (v := (0 : Int32)) hx hb dX5_oneOrTwo_11 (by decide) ?_
  refine lv_istore (lv' := [(4, .int (0 : Int32)), (0, .ref (base + p0)), (1, .ref (base + p1)), (2, .ref (base + p2)), (3, .int v3)]) hx hb dX5_oneOrTwo_12 hl (by decide) rfl (fun ls hl => ?_)
  refine l_X5_oneOrTwo_14 X hc p0 p1 p2 v3 _ _ res ?_ ?_ FV (0 : Int32) q_4.2 hF H locs ls hH hS (lv_sub hl [1, 2, 3, 4, 0] rfl)
  · intro  w_10 hF H locs ls hH hS hl
    refine lv_iconst (v := (1 : Int32)) hx hb dX5_oneOrTwo_35 (by decide) ?_
    have hF := Option.some.inj hF
    subst hF
    exact m_iret X hr hlk hH hS dX5_oneOrTwo_36
  · intro  w_11 hF H locs ls hH hS hl
    refine lv_iconst (v := (0 : Int32)) hx hb dX5_oneOrTwo_43 (by decide) ?_
    refine lv_istore (lv' := [(4, .int (0 : Int32)), (0, .ref (base + p0)), (1, .ref (base + p1)), (2, .ref (base + p2)), (3, .int v3)]) hx hb dX5_oneOrTwo_44 hl (by decide) rfl (fun ls hl => ?_)
    refine l_X5_oneOrTwo_46 X hc p0 p1 p2 v3 _ _ res ?_ ?_ FV (0 : Int32) w_11 hF H locs ls hH hS (lv_sub hl [1, 2, 3, 4, 0] rfl)
    · intro  w_21 hF H locs ls hH hS hl
      refine lv_iconst (v := (2 : Int32)) hx hb dX5_oneOrTwo_84 (by decide) ?_
      have hF := Option.some.inj hF
      subst hF
      exact m_iret X hr hlk hH hS dX5_oneOrTwo_85
    · intro  w_22 hF H locs ls hH hS hl
      refine lv_iconst (v := (0 : Int32)) hx hb dX5_oneOrTwo_98 (by decide) ?_
      refine lv_istore (lv' := [(4, .int (0 : Int32)), (0, .ref (base + p0)), (1, .ref (base + p1)), (2, .ref (base + p2)), (3, .int v3)]) hx hb dX5_oneOrTwo_99 hl (by decide) rfl (fun ls hl => ?_)
      refine l_X5_oneOrTwo_101 X hc p0 p1 p2 v3 _ _ res ?_ ?_ FV (0 : Int32) w_22 hF H locs ls hH hS (lv_sub hl [1, 2, 3, 4, 0] rfl)
      · intro  w_31 hF H locs ls hH hS hl
        refine lv_iconst (v := (2 : Int32)) hx hb dX5_oneOrTwo_135 (by decide) ?_
        have hF := Option.some.inj hF
        subst hF
        exact m_iret X hr hlk hH hS dX5_oneOrTwo_136
      · intro  w_32 hF H locs ls hH hS hl
        refine lv_bipush (v := (-4 : Int32)) hx hb dX5_oneOrTwo_143 (by decide) ?_
        have hF := Option.some.inj hF
        subst hF
        exact m_iret X hr hlk hH hS dX5_oneOrTwo_145
noncomputable def fX11_fewest (p0 : Nat) (v1 : Int32) (v2 : Int32) (w : Wd) : Option (Int32 × Wd) := (gfR 10 10 p0 w).bind fun r_1 => (gfI 3 7 r_1 w).bind fun x_2 => (fX11_outside v1 ((1 : Int32) <<< (x_2 &&& 31)) w).bind fun q_3 => if q_3.1 = 0 then (fX11_outside v2 (31 : Int32) q_3.2).bind fun q_5 => if q_5.1 = 0 then (isO 10 p0 q_5.2).bind fun u_7 => (fX11_daysNow p0 q_5.2).bind fun q_8 => (gfR 1 3 q_8.1 q_8.2).bind fun r_9 => (rdI r_9 v2 q_8.2).bind fun x_10 => if (x_10 &&& v1) = v1 then some ((0 : Int32), q_8.2) else (gfR 10 6 p0 q_8.2).bind fun r_12 => (gfR 10 10 p0 q_8.2).bind fun r_13 => (gfR 10 5 p0 q_8.2).bind fun r_14 => (gfR 1 0 r_14 q_8.2).bind fun r_15 => (rdR 14 r_15 v2 q_8.2).bind fun r_16 => (isO 4 r_12 q_8.2).bind fun u_17 => (fX5_oneOrTwo r_12 r_13 r_16 v1 q_8.2).bind fun q_18 => some (q_18.1, q_18.2) else some ((-1 : Int32), q_5.2) else some ((-1 : Int32), q_3.2)
set_option maxHeartbeats 4000000 in
set_option maxRecDepth 100000 in
theorem k_X11_fewest (l : Launch) (D : va_G) (cI cT cII : ClassId) (base : Nat) (p0 : Nat) (v1 : Int32) (v2 : Int32) (w : Wd) (res : Int32 × Wd) (hF : fX11_fewest p0 v1 v2 w = some res) : Ct l yX11_fewest cX11_fewest 3 (some .int) { frames := 7, cells := 0, slots := 0, locals := 165 } D cI cT cII base [.ref (base + p0), .int v1, .int v2] w res.2 (some (.int res.1)) 0 0 := by
  unfold fX11_fewest at hF
  refine m_enter (by decide) (Nat.le_of_ble_eq_true rfl) ?_
  intro p e s m below meth c ls X hr hlk hnm hH hS hl
  have hx := X.1
  have hb := X.2.1
  have hc : (0 : Nat) ≤ ({ frames := 7, cells := 0, slots := 0, locals := 165 } : Room).cells ∧ (0 : Nat) ≤ ({ frames := 7, cells := 0, slots := 0, locals := 165 } : Room).slots := ⟨Nat.zero_le _, Nat.zero_le _⟩
  obtain ⟨H, hHe⟩ : ∃ H : Heap, H = s.heap := ⟨_, rfl⟩
  obtain ⟨locs, hle⟩ : ∃ L : List Loc, L = [] := ⟨_, rfl⟩
  have hl : lv_has ls 3 [(0, .ref (base + p0)), (1, .int v1), (2, .int v2)] := hl
  rw [← hHe] at hH
  have hS : va_S (fun q => base ≤ q) s.heap H locs := by rw [hHe, hle]; exact hS
  rw [← hle]
  show W p l e _ s m _ below meth c s.heap locs 0 0 _ _
  rw [← hHe]
  refine lv_iload_n hx hb dX11_fewest_0 rfl (lv_at hl 1 rfl) ?_
  refine lv_iconst (v := (1 : Int32)) hx hb dX11_fewest_1 (by decide) ?_
  refine lv_aload_n hx hb dX11_fewest_2 rfl (lv_at hl 0 rfl) ?_
  obtain ⟨r_1, e_1, hF⟩ := bnd hF
  refine m_gR X hH e_1 gg_X11_80 dX11_fewest_3 ?_
  obtain ⟨x_2, e_2, hF⟩ := bnd hF
  refine m_hI X hH e_2 gg_X11_136 dX11_fewest_6 ?_
  refine lv_ishl hx hb dX11_fewest_9 ?_
  obtain ⟨q_3, e_3, hF⟩ := bnd hF
  refine m_callS (As := [.int v1, .int ((1 : Int32) <<< (x_2 &&& 31))]) (rest := []) X hH hS hl.1 (k_X11_outside l D cI cT cII base v1 ((1 : Int32) <<< (x_2 &&& 31)) w q_3 e_3) q_X11_outside kw_511 kw_391 rfl rfl (Nat.le_of_ble_eq_true rfl) ⟨by decide, by decide⟩ hc dX11_fewest_10 (fun H locs hH hS => W.eq (g2 := F0 m 13 ls [.int q_3.1]) rfl ?_)
  refine lv_if_ne (tgt := 25) hx hb dX11_fewest_13 (by decide) (fun c_4 => ?_) (fun c_4 => ?_)
  · replace hF := itf c_4 hF
    refine lv_iconst (v := (-1 : Int32)) hx hb dX11_fewest_25 (by decide) ?_
    have hF := Option.some.inj hF
    subst hF
    exact m_iret X hr hlk hH hS dX11_fewest_26
  · replace hF := itt c_4 hF
    refine lv_iload_n hx hb dX11_fewest_16 rfl (lv_at hl 2 rfl) ?_
    refine lv_bipush (v := (31 : Int32)) hx hb dX11_fewest_17 (by decide) ?_
    obtain ⟨q_5, e_5, hF⟩ := bnd hF
    refine m_callS (As := [.int v2, .int (31 : Int32)]) (rest := []) X hH hS hl.1 (k_X11_outside l D cI cT cII base v2 (31 : Int32) q_3.2 q_5 e_5) q_X11_outside kw_511 kw_391 rfl rfl (Nat.le_of_ble_eq_true rfl) ⟨by decide, by decide⟩ hc dX11_fewest_19 (fun H locs hH hS => W.eq (g2 := F0 m 22 ls [.int q_5.1]) rfl ?_)
    refine lv_if_eq (tgt := 27) hx hb dX11_fewest_22 (by decide) (fun c_6 => ?_) (fun c_6 => ?_)
    · replace hF := itt c_6 hF
      refine lv_aload_n hx hb dX11_fewest_27 rfl (lv_at hl 0 rfl) ?_
      obtain ⟨u_7, ou_7, hF⟩ := bnd hF
      obtain ⟨q_8, e_8, hF⟩ := bnd hF
      refine m_callV (As := []) (rest := []) X hH hS hl.1 ou_7 rfl (by decide) (k_X11_daysNow l D cI cT cII base p0 q_5.2 q_8 e_8) q_X11_daysNow kw_520 kw_522 kw_9 rfl rfl (Nat.le_of_ble_eq_true rfl) ⟨by decide, by decide⟩ hc dX11_fewest_28 (fun H locs hH hS => W.eq (g2 := F0 m 31 ls [.ref (base + q_8.1)]) rfl ?_)
      obtain ⟨r_9, e_9, hF⟩ := bnd hF
      refine m_hR X hH e_9 gg_X11_153 dX11_fewest_31 ?_
      refine lv_iload_n hx hb dX11_fewest_34 rfl (lv_at hl 2 rfl) ?_
      obtain ⟨x_10, e_10, hF⟩ := bnd hF
      refine m_rdI X hH e_10 dX11_fewest_35 ?_
      refine lv_iload_n hx hb dX11_fewest_36 rfl (lv_at hl 1 rfl) ?_
      refine lv_iand hx hb dX11_fewest_37 ?_
      refine lv_iload_n hx hb dX11_fewest_38 rfl (lv_at hl 1 rfl) ?_
      refine lv_icmp_ne (tgt := 44) hx hb dX11_fewest_39 (by decide) (fun c_11 => ?_) (fun c_11 => ?_)
      · replace hF := itf c_11 hF
        refine lv_aload_n hx hb dX11_fewest_44 rfl (lv_at hl 0 rfl) ?_
        obtain ⟨r_12, e_12, hF⟩ := bnd hF
        refine m_gR X hH e_12 gg_X11_52 dX11_fewest_45 ?_
        refine lv_aload_n hx hb dX11_fewest_48 rfl (lv_at hl 0 rfl) ?_
        obtain ⟨r_13, e_13, hF⟩ := bnd hF
        refine m_gR X hH e_13 gg_X11_80 dX11_fewest_49 ?_
        refine lv_aload_n hx hb dX11_fewest_52 rfl (lv_at hl 0 rfl) ?_
        obtain ⟨r_14, e_14, hF⟩ := bnd hF
        refine m_gR X hH e_14 gg_X11_45 dX11_fewest_53 ?_
        obtain ⟨r_15, e_15, hF⟩ := bnd hF
        refine m_hR X hH e_15 gg_X11_197 dX11_fewest_56 ?_
        refine lv_iload_n hx hb dX11_fewest_59 rfl (lv_at hl 2 rfl) ?_
        obtain ⟨r_16, e_16, hF⟩ := bnd hF
        refine m_rdII X hH e_16 dX11_fewest_60 ?_
        refine lv_iload_n hx hb dX11_fewest_61 rfl (lv_at hl 1 rfl) ?_
        obtain ⟨u_17, ou_17, hF⟩ := bnd hF
        obtain ⟨q_18, e_18, hF⟩ := bnd hF
        refine m_callV (As := [.ref (base + r_13), .ref (base + r_16), .int v1]) (rest := []) X hH hS hl.1 ou_17 rfl (by decide) (k_X5_oneOrTwo l D cI cT cII base r_12 r_13 r_16 v1 q_8.2 q_18 e_18) q_X5_oneOrTwo kw_659 kw_660 kw_661 rfl rfl (Nat.le_of_ble_eq_true rfl) ⟨by decide, by decide⟩ hc dX11_fewest_62 (fun H locs hH hS => W.eq (g2 := F0 m 65 ls [.int q_18.1]) rfl ?_)
        have hF := Option.some.inj hF
        subst hF
        exact m_iret X hr hlk hH hS dX11_fewest_65
      · replace hF := itt c_11 hF
        refine lv_iconst (v := (0 : Int32)) hx hb dX11_fewest_42 (by decide) ?_
        have hF := Option.some.inj hF
        subst hF
        exact m_iret X hr hlk hH hS dX11_fewest_43
    · replace hF := itf c_6 hF
      refine lv_iconst (v := (-1 : Int32)) hx hb dX11_fewest_25 (by decide) ?_
      have hF := Option.some.inj hF
      subst hF
      exact m_iret X hr hlk hH hS dX11_fewest_26
noncomputable def fX8_empty (p0 : Nat) (w : Wd) : Option (Int32 × Wd) := (gfI 7 2 p0 w).bind fun x_1 => (pfI 7 2 p0 (0 : Int32) w).bind fun w_2 => some (x_1, w_2)
set_option maxHeartbeats 4000000 in
set_option maxRecDepth 100000 in
theorem k_X8_empty (l : Launch) (D : va_G) (cI cT cII : ClassId) (base : Nat) (p0 : Nat) (w : Wd) (res : Int32 × Wd) (hF : fX8_empty p0 w = some res) : Ct l yX8_empty cX8_empty 2 (some .int) { frames := 0, cells := 0, slots := 0, locals := 0 } D cI cT cII base [.ref (base + p0)] w res.2 (some (.int res.1)) 0 0 := by
  unfold fX8_empty at hF
  refine m_enter (by decide) (Nat.le_of_ble_eq_true rfl) ?_
  intro p e s m below meth c ls X hr hlk hnm hH hS hl
  have hx := X.1
  have hb := X.2.1
  have hc : (0 : Nat) ≤ ({ frames := 0, cells := 0, slots := 0, locals := 0 } : Room).cells ∧ (0 : Nat) ≤ ({ frames := 0, cells := 0, slots := 0, locals := 0 } : Room).slots := ⟨Nat.zero_le _, Nat.zero_le _⟩
  obtain ⟨H, hHe⟩ : ∃ H : Heap, H = s.heap := ⟨_, rfl⟩
  obtain ⟨locs, hle⟩ : ∃ L : List Loc, L = [] := ⟨_, rfl⟩
  have hl : lv_has ls 2 [(0, .ref (base + p0))] := hl
  rw [← hHe] at hH
  have hS : va_S (fun q => base ≤ q) s.heap H locs := by rw [hHe, hle]; exact hS
  rw [← hle]
  show W p l e _ s m _ below meth c s.heap locs 0 0 _ _
  rw [← hHe]
  refine lv_aload_n hx hb dX8_empty_0 rfl (lv_at hl 0 rfl) ?_
  obtain ⟨x_1, e_1, hF⟩ := bnd hF
  refine m_gI X hH e_1 gg_X8_21 dX8_empty_1 ?_
  refine lv_istore_n (lv' := [(1, .int x_1), (0, .ref (base + p0))]) hx hb dX8_empty_4 rfl hl (by decide) rfl (fun ls hl => ?_)
  refine lv_aload_n hx hb dX8_empty_5 rfl (lv_at hl 1 rfl) ?_
  refine lv_iconst (v := (0 : Int32)) hx hb dX8_empty_6 (by decide) ?_
  obtain ⟨w_2, e_2, hF⟩ := bnd hF
  refine m_pI X hH hS e_2 gp_X8_21 rfl rfl dX8_empty_7 (fun H locs hH hS => ?_)
  refine lv_iload_n hx hb dX8_empty_10 rfl (lv_at hl 0 rfl) ?_
  have hF := Option.some.inj hF
  subst hF
  exact m_iret X hr hlk hH hS dX8_empty_11
noncomputable def fX11_forget (p0 : Nat) (w : Wd) : Option (Int32 × Wd) := (gfR 10 7 p0 w).bind fun r_1 => (isO 7 r_1 w).bind fun u_2 => (fX8_empty r_1 w).bind fun q_3 => some (q_3.1, q_3.2)
set_option maxHeartbeats 4000000 in
set_option maxRecDepth 100000 in
theorem k_X11_forget (l : Launch) (D : va_G) (cI cT cII : ClassId) (base : Nat) (p0 : Nat) (w : Wd) (res : Int32 × Wd) (hF : fX11_forget p0 w = some res) : Ct l yX11_forget cX11_forget 1 (some .int) { frames := 1, cells := 0, slots := 0, locals := 21 } D cI cT cII base [.ref (base + p0)] w res.2 (some (.int res.1)) 0 0 := by
  unfold fX11_forget at hF
  refine m_enter (by decide) (Nat.le_of_ble_eq_true rfl) ?_
  intro p e s m below meth c ls X hr hlk hnm hH hS hl
  have hx := X.1
  have hb := X.2.1
  have hc : (0 : Nat) ≤ ({ frames := 1, cells := 0, slots := 0, locals := 21 } : Room).cells ∧ (0 : Nat) ≤ ({ frames := 1, cells := 0, slots := 0, locals := 21 } : Room).slots := ⟨Nat.zero_le _, Nat.zero_le _⟩
  obtain ⟨H, hHe⟩ : ∃ H : Heap, H = s.heap := ⟨_, rfl⟩
  obtain ⟨locs, hle⟩ : ∃ L : List Loc, L = [] := ⟨_, rfl⟩
  have hl : lv_has ls 1 [(0, .ref (base + p0))] := hl
  rw [← hHe] at hH
  have hS : va_S (fun q => base ≤ q) s.heap H locs := by rw [hHe, hle]; exact hS
  rw [← hle]
  show W p l e _ s m _ below meth c s.heap locs 0 0 _ _
  rw [← hHe]
  refine lv_aload_n hx hb dX11_forget_0 rfl (lv_at hl 0 rfl) ?_
  obtain ⟨r_1, e_1, hF⟩ := bnd hF
  refine m_gR X hH e_1 gg_X11_59 dX11_forget_1 ?_
  obtain ⟨u_2, ou_2, hF⟩ := bnd hF
  obtain ⟨q_3, e_3, hF⟩ := bnd hF
  refine m_callV (As := []) (rest := []) X hH hS hl.1 ou_2 rfl (by decide) (k_X8_empty l D cI cT cII base r_1 w q_3 e_3) q_X8_empty kw_445 kw_446 kw_447 rfl rfl (Nat.le_of_ble_eq_true rfl) ⟨by decide, by decide⟩ hc dX11_forget_4 (fun H locs hH hS => W.eq (g2 := F0 m 7 ls [.int q_3.1]) rfl ?_)
  have hF := Option.some.inj hF
  subst hF
  exact m_iret X hr hlk hH hS dX11_forget_7
noncomputable def fX11_frame (p0 : Nat) (v1 : Int32) (v2 : Int32) (w : Wd) : Option (Int32 × Wd) := (gfR 10 10 p0 w).bind fun r_1 => (gfI 3 4 r_1 w).bind fun x_2 => (fX11_outside v1 x_2 w).bind fun q_3 => if q_3.1 = 0 then if v2 = (0 : Int32) then (gfR 10 10 p0 q_3.2).bind fun r_9 => (gfR 3 0 r_9 q_3.2).bind fun r_10 => (rdI r_10 v1 q_3.2).bind fun x_11 => some (x_11, q_3.2) else if v2 = (1 : Int32) then (gfR 10 10 p0 q_3.2).bind fun r_12 => (gfR 3 1 r_12 q_3.2).bind fun r_13 => (rdI r_13 v1 q_3.2).bind fun x_14 => some (x_14 + (40 : Int32), q_3.2) else if v2 = (2 : Int32) then (gfR 10 10 p0 q_3.2).bind fun r_15 => (gfR 3 2 r_15 q_3.2).bind fun r_16 => (rdI r_16 v1 q_3.2).bind fun x_17 => some (x_17 + (5 : Int32), q_3.2) else if v2 = (3 : Int32) then (gfR 10 10 p0 q_3.2).bind fun r_18 => (gfR 3 3 r_18 q_3.2).bind fun r_19 => (rdI r_19 v1 q_3.2).bind fun x_20 => some (x_20 + (40 : Int32), q_3.2) else some ((-1 : Int32), q_3.2) else some ((-1 : Int32), q_3.2)
set_option maxHeartbeats 4000000 in
set_option maxRecDepth 100000 in
theorem k_X11_frame (l : Launch) (D : va_G) (cI cT cII : ClassId) (base : Nat) (p0 : Nat) (v1 : Int32) (v2 : Int32) (w : Wd) (res : Int32 × Wd) (hF : fX11_frame p0 v1 v2 w = some res) : Ct l yX11_frame cX11_frame 3 (some .int) { frames := 1, cells := 0, slots := 0, locals := 21 } D cI cT cII base [.ref (base + p0), .int v1, .int v2] w res.2 (some (.int res.1)) 0 0 := by
  unfold fX11_frame at hF
  refine m_enter (by decide) (Nat.le_of_ble_eq_true rfl) ?_
  intro p e s m below meth c ls X hr hlk hnm hH hS hl
  have hx := X.1
  have hb := X.2.1
  have hc : (0 : Nat) ≤ ({ frames := 1, cells := 0, slots := 0, locals := 21 } : Room).cells ∧ (0 : Nat) ≤ ({ frames := 1, cells := 0, slots := 0, locals := 21 } : Room).slots := ⟨Nat.zero_le _, Nat.zero_le _⟩
  obtain ⟨H, hHe⟩ : ∃ H : Heap, H = s.heap := ⟨_, rfl⟩
  obtain ⟨locs, hle⟩ : ∃ L : List Loc, L = [] := ⟨_, rfl⟩
  have hl : lv_has ls 3 [(0, .ref (base + p0)), (1, .int v1), (2, .int v2)] := hl
  rw [← hHe] at hH
  have hS : va_S (fun q => base ≤ q) s.heap H locs := by rw [hHe, hle]; exact hS
  rw [← hle]
  show W p l e _ s m _ below meth c s.heap locs 0 0 _ _
  rw [← hHe]
  refine lv_iload_n hx hb dX11_frame_0 rfl (lv_at hl 1 rfl) ?_
  refine lv_aload_n hx hb dX11_frame_1 rfl (lv_at hl 0 rfl) ?_
  obtain ⟨r_1, e_1, hF⟩ := bnd hF
  refine m_gR X hH e_1 gg_X11_80 dX11_frame_2 ?_
  obtain ⟨x_2, e_2, hF⟩ := bnd hF
  refine m_hI X hH e_2 gg_X11_116 dX11_frame_5 ?_
  obtain ⟨q_3, e_3, hF⟩ := bnd hF
  refine m_callS (As := [.int v1, .int x_2]) (rest := []) X hH hS hl.1 (k_X11_outside l D cI cT cII base v1 x_2 w q_3 e_3) q_X11_outside kw_511 kw_391 rfl rfl (Nat.le_of_ble_eq_true rfl) ⟨by decide, by decide⟩ hc dX11_frame_8 (fun H locs hH hS => W.eq (g2 := F0 m 11 ls [.int q_3.1]) rfl ?_)
  refine lv_if_eq (tgt := 16) hx hb dX11_frame_11 (by decide) (fun c_4 => ?_) (fun c_4 => ?_)
  · replace hF := itt c_4 hF
    refine lv_iload_n hx hb dX11_frame_16 rfl (lv_at hl 2 rfl) ?_
    by_cases c_5 : v2 = (0 : Int32)
    · replace hF := itt c_5 hF
      refine lv_tableIn (tgt := 48) hx hb dX11_frame_17 (by rw [c_5]; decide) (by rw [c_5]; decide) (by rw [c_5]; rfl) (by decide) ?_
      refine lv_aload_n hx hb dX11_frame_48 rfl (lv_at hl 0 rfl) ?_
      obtain ⟨r_9, e_9, hF⟩ := bnd hF
      refine m_gR X hH e_9 gg_X11_80 dX11_frame_49 ?_
      obtain ⟨r_10, e_10, hF⟩ := bnd hF
      refine m_hR X hH e_10 gg_X11_123 dX11_frame_52 ?_
      refine lv_iload_n hx hb dX11_frame_55 rfl (lv_at hl 1 rfl) ?_
      obtain ⟨x_11, e_11, hF⟩ := bnd hF
      refine m_rdI X hH e_11 dX11_frame_56 ?_
      have hF := Option.some.inj hF
      subst hF
      exact m_iret X hr hlk hH hS dX11_frame_57
    · replace hF := itf c_5 hF
      by_cases c_6 : v2 = (1 : Int32)
      · replace hF := itt c_6 hF
        refine lv_tableIn (tgt := 58) hx hb dX11_frame_17 (by rw [c_6]; decide) (by rw [c_6]; decide) (by rw [c_6]; rfl) (by decide) ?_
        refine lv_aload_n hx hb dX11_frame_58 rfl (lv_at hl 0 rfl) ?_
        obtain ⟨r_12, e_12, hF⟩ := bnd hF
        refine m_gR X hH e_12 gg_X11_80 dX11_frame_59 ?_
        obtain ⟨r_13, e_13, hF⟩ := bnd hF
        refine m_hR X hH e_13 gg_X11_127 dX11_frame_62 ?_
        refine lv_iload_n hx hb dX11_frame_65 rfl (lv_at hl 1 rfl) ?_
        obtain ⟨x_14, e_14, hF⟩ := bnd hF
        refine m_rdI X hH e_14 dX11_frame_66 ?_
        refine lv_bipush (v := (40 : Int32)) hx hb dX11_frame_67 (by decide) ?_
        refine lv_iadd hx hb dX11_frame_69 ?_
        have hF := Option.some.inj hF
        subst hF
        exact m_iret X hr hlk hH hS dX11_frame_70
      · replace hF := itf c_6 hF
        by_cases c_7 : v2 = (2 : Int32)
        · replace hF := itt c_7 hF
          refine lv_tableIn (tgt := 71) hx hb dX11_frame_17 (by rw [c_7]; decide) (by rw [c_7]; decide) (by rw [c_7]; rfl) (by decide) ?_
          refine lv_aload_n hx hb dX11_frame_71 rfl (lv_at hl 0 rfl) ?_
          obtain ⟨r_15, e_15, hF⟩ := bnd hF
          refine m_gR X hH e_15 gg_X11_80 dX11_frame_72 ?_
          obtain ⟨r_16, e_16, hF⟩ := bnd hF
          refine m_hR X hH e_16 gg_X11_130 dX11_frame_75 ?_
          refine lv_iload_n hx hb dX11_frame_78 rfl (lv_at hl 1 rfl) ?_
          obtain ⟨x_17, e_17, hF⟩ := bnd hF
          refine m_rdI X hH e_17 dX11_frame_79 ?_
          refine lv_iconst (v := (5 : Int32)) hx hb dX11_frame_80 (by decide) ?_
          refine lv_iadd hx hb dX11_frame_81 ?_
          have hF := Option.some.inj hF
          subst hF
          exact m_iret X hr hlk hH hS dX11_frame_82
        · replace hF := itf c_7 hF
          by_cases c_8 : v2 = (3 : Int32)
          · replace hF := itt c_8 hF
            refine lv_tableIn (tgt := 83) hx hb dX11_frame_17 (by rw [c_8]; decide) (by rw [c_8]; decide) (by rw [c_8]; rfl) (by decide) ?_
            refine lv_aload_n hx hb dX11_frame_83 rfl (lv_at hl 0 rfl) ?_
            obtain ⟨r_18, e_18, hF⟩ := bnd hF
            refine m_gR X hH e_18 gg_X11_80 dX11_frame_84 ?_
            obtain ⟨r_19, e_19, hF⟩ := bnd hF
            refine m_hR X hH e_19 gg_X11_133 dX11_frame_87 ?_
            refine lv_iload_n hx hb dX11_frame_90 rfl (lv_at hl 1 rfl) ?_
            obtain ⟨x_20, e_20, hF⟩ := bnd hF
            refine m_rdI X hH e_20 dX11_frame_91 ?_
            refine lv_bipush (v := (40 : Int32)) hx hb dX11_frame_92 (by decide) ?_
            refine lv_iadd hx hb dX11_frame_94 ?_
            have hF := Option.some.inj hF
            subst hF
            exact m_iret X hr hlk hH hS dX11_frame_95
          · replace hF := itf c_8 hF
            have z_c_5 := lv_neT c_5 (show Int32.toInt (0 : Int32) = 0 by decide)
            have z_c_6 := lv_neT c_6 (show Int32.toInt (1 : Int32) = 1 by decide)
            have z_c_7 := lv_neT c_7 (show Int32.toInt (2 : Int32) = 2 by decide)
            have z_c_8 := lv_neT c_8 (show Int32.toInt (3 : Int32) = 3 by decide)
            refine lv_tableOut (tgt := 96) hx hb dX11_frame_17 (by omega) (by decide) ?_
            refine lv_iconst (v := (-1 : Int32)) hx hb dX11_frame_96 (by decide) ?_
            have hF := Option.some.inj hF
            subst hF
            exact m_iret X hr hlk hH hS dX11_frame_97
  · replace hF := itf c_4 hF
    refine lv_iconst (v := (-1 : Int32)) hx hb dX11_frame_14 (by decide) ?_
    have hF := Option.some.inj hF
    subst hF
    exact m_iret X hr hlk hH hS dX11_frame_15
noncomputable def fX4_farthestBorneIn_5 (p0 : Nat) (v1 : Int32) (K_59 : Int32 → Wd → Option (Int32 × Wd)) : Nat → Int32 → Int32 → Wd → Option (Int32 × Wd)
  | 0, _, _, _ => none
  | n + 1, v2, v3, w => (gfI 3 11 p0 w).bind fun x_1 => if x_1 ≤ v3 then K_59 v2 w else (gfR 3 10 p0 w).bind fun r_3 => (rdI r_3 v3 w).bind fun x_4 => if x_4 = v1 then (gfR 3 8 p0 w).bind fun r_6 => (rdI r_6 v3 w).bind fun x_7 => (gfR 3 5 p0 w).bind fun r_8 => (rdI r_8 x_7 w).bind fun x_9 => (gfR 3 6 p0 w).bind fun r_10 => (rdI r_10 x_7 w).bind fun x_11 => (fX3_farthestBorne x_9 x_11 w).bind fun q_12 => fX4_farthestBorneIn_5 p0 v1 K_59 n (imin v2 q_12.1) (v3 + (1 : Int32)) q_12.2 else fX4_farthestBorneIn_5 p0 v1 K_59 n v2 (v3 + (1 : Int32)) w
noncomputable def fX4_farthestBorneIn (p0 : Nat) (v1 : Int32) (w : Wd) : Option (Int32 × Wd) := fX4_farthestBorneIn_5 p0 v1 (fun (v2_14 : Int32) (w_13 : Wd) => some (v2_14, w_13)) FV (40 : Int32) (0 : Int32) w
set_option maxHeartbeats 4000000 in
set_option maxRecDepth 100000 in
theorem l_X4_farthestBorneIn_5 (X : Cx p R s m args c cX4_farthestBorneIn 5 RX4 D cI cT cII 1 21) (hc : cells ≤ R.cells ∧ slots ≤ R.slots) (p0 : Nat) (v1 : Int32) (K_59 : Int32 → Wd → Option (Int32 × Wd)) (res : Int32 × Wd)
    (hK_59 : ∀ (z2 : Int32) (w : Wd), K_59 z2 w = some res → ∀ (H : Heap) (locs : List Loc) (ls : Array Slot), Hd D cI cT cII base w H → va_S (fun q => base ≤ q) s.heap H locs → lv_has ls 5 [(2, .int z2)] → W p l e R s m args below meth c H locs cells slots Q (F0 m 59 ls [])) :
    ∀ (n : Nat) (v2 : Int32) (v3 : Int32) (w : Wd), fX4_farthestBorneIn_5 p0 v1 K_59 n v2 v3 w = some res → ∀ (H : Heap) (locs : List Loc) (ls : Array Slot), Hd D cI cT cII base w H → va_S (fun q => base ≤ q) s.heap H locs → lv_has ls 5 [(0, .ref (base + p0)), (1, .int v1), (2, .int v2), (3, .int v3)] → W p l e R s m args below meth c H locs cells slots Q (F0 m 5 ls []) := by
  have hx := X.1
  have hb := X.2.1
  intro n
  induction n with
  | zero =>
    intro v2 v3 w hF
    rw [fX4_farthestBorneIn_5] at hF
    cases hF
  | succ n ih =>
    intro v2 v3 w hF H locs ls hH hS hl
    rw [fX4_farthestBorneIn_5] at hF
    refine lv_iload_n hx hb dX4_farthestBorneIn_5 rfl (lv_at hl 3 rfl) ?_
    refine lv_aload_n hx hb dX4_farthestBorneIn_6 rfl (lv_at hl 0 rfl) ?_
    obtain ⟨x_1, e_1, hF⟩ := bnd hF
    refine m_gI X hH e_1 gg_X4_53 dX4_farthestBorneIn_7 ?_
    refine lv_icmp_ge (tgt := 59) hx hb dX4_farthestBorneIn_10 (by decide) (fun c_2 => ?_) (fun c_2 => ?_)
    · replace hF := itt c_2 hF
      exact hK_59 v2 w hF H locs ls hH hS (lv_sub hl [2] rfl)
    · replace hF := itf c_2 hF
      refine lv_aload_n hx hb dX4_farthestBorneIn_13 rfl (lv_at hl 0 rfl) ?_
      obtain ⟨r_3, e_3, hF⟩ := bnd hF
      refine m_gR X hH e_3 gg_X4_36 dX4_farthestBorneIn_14 ?_
      refine lv_iload_n hx hb dX4_farthestBorneIn_17 rfl (lv_at hl 3 rfl) ?_
      obtain ⟨x_4, e_4, hF⟩ := bnd hF
      refine m_rdI X hH e_4 dX4_farthestBorneIn_18 ?_
      refine lv_iload_n hx hb dX4_farthestBorneIn_19 rfl (lv_at hl 1 rfl) ?_
      refine lv_icmp_ne (tgt := 53) hx hb dX4_farthestBorneIn_20 (by decide) (fun c_5 => ?_) (fun c_5 => ?_)
      · replace hF := itf c_5 hF
        refine lv_iinc (v := v3 + (1 : Int32)) (lv' := [(3, .int (v3 + (1 : Int32))), (0, .ref (base + p0)), (1, .int v1), (2, .int v2)]) hx hb dX4_farthestBorneIn_53 hl (k := 3) rfl (congrArg (fun z => v3 + z) (by decide)) (by decide) rfl (fun ls hl => ?_)
        refine lv_goto (tgt := 5) hx hb dX4_farthestBorneIn_56 (by decide) ?_
        exact ih v2 (v3 + (1 : Int32)) w hF H locs ls hH hS (lv_sub hl [1, 2, 3, 0] rfl)
      · replace hF := itt c_5 hF
        refine lv_aload_n hx hb dX4_farthestBorneIn_23 rfl (lv_at hl 0 rfl) ?_
        obtain ⟨r_6, e_6, hF⟩ := bnd hF
        refine m_gR X hH e_6 gg_X4_30 dX4_farthestBorneIn_24 ?_
        refine lv_iload_n hx hb dX4_farthestBorneIn_27 rfl (lv_at hl 3 rfl) ?_
        obtain ⟨x_7, e_7, hF⟩ := bnd hF
        refine m_rdI X hH e_7 dX4_farthestBorneIn_28 ?_
        refine lv_istore (lv' := [(4, .int x_7), (0, .ref (base + p0)), (1, .int v1), (2, .int v2), (3, .int v3)]) hx hb dX4_farthestBorneIn_29 hl (by decide) rfl (fun ls hl => ?_)
        refine lv_iload_n hx hb dX4_farthestBorneIn_31 rfl (lv_at hl 3 rfl) ?_
        refine lv_aload_n hx hb dX4_farthestBorneIn_32 rfl (lv_at hl 1 rfl) ?_
        obtain ⟨r_8, e_8, hF⟩ := bnd hF
        refine m_gR X hH e_8 gg_X4_24 dX4_farthestBorneIn_33 ?_
        refine lv_iload hx hb dX4_farthestBorneIn_36 (lv_at hl 0 rfl) ?_
        obtain ⟨x_9, e_9, hF⟩ := bnd hF
        refine m_rdI X hH e_9 dX4_farthestBorneIn_38 ?_
        refine lv_aload_n hx hb dX4_farthestBorneIn_39 rfl (lv_at hl 1 rfl) ?_
        obtain ⟨r_10, e_10, hF⟩ := bnd hF
        refine m_gR X hH e_10 gg_X4_27 dX4_farthestBorneIn_40 ?_
        refine lv_iload hx hb dX4_farthestBorneIn_43 (lv_at hl 0 rfl) ?_
        obtain ⟨x_11, e_11, hF⟩ := bnd hF
        refine m_rdI X hH e_11 dX4_farthestBorneIn_45 ?_
        obtain ⟨q_12, e_12, hF⟩ := bnd hF
        refine m_callS (As := [.int x_9, .int x_11]) (rest := [.int v2]) X hH hS hl.1 (k_X3_farthestBorne l D cI cT cII base x_9 x_11 w q_12 e_12) q_X3_farthestBorne kw_558 kw_559 rfl rfl (Nat.le_of_ble_eq_true rfl) ⟨by decide, by decide⟩ hc dX4_farthestBorneIn_46 (fun H locs hH hS => W.eq (g2 := F0 m 49 ls [.int q_12.1, .int v2]) rfl ?_)
        refine m_mmin X hl.1 kw_713 (by decide) (Nat.le_of_ble_eq_true rfl) hc dX4_farthestBorneIn_49 ?_
        refine lv_istore_n (lv' := [(2, .int (imin v2 q_12.1)), (4, .int x_7), (0, .ref (base + p0)), (1, .int v1), (3, .int v3)]) hx hb dX4_farthestBorneIn_52 rfl hl (by decide) rfl (fun ls hl => ?_)
        refine lv_iinc (v := v3 + (1 : Int32)) (lv' := [(3, .int (v3 + (1 : Int32))), (2, .int (imin v2 q_12.1)), (4, .int x_7), (0, .ref (base + p0)), (1, .int v1)]) hx hb dX4_farthestBorneIn_53 hl (k := 4) rfl (congrArg (fun z => v3 + z) (by decide)) (by decide) rfl (fun ls hl => ?_)
        refine lv_goto (tgt := 5) hx hb dX4_farthestBorneIn_56 (by decide) ?_
        exact ih (imin v2 q_12.1) (v3 + (1 : Int32)) q_12.2 hF H locs ls hH hS (lv_sub hl [3, 4, 1, 0] rfl)
set_option maxHeartbeats 4000000 in
set_option maxRecDepth 100000 in
theorem k_X4_farthestBorneIn (l : Launch) (D : va_G) (cI cT cII : ClassId) (base : Nat) (p0 : Nat) (v1 : Int32) (w : Wd) (res : Int32 × Wd) (hF : fX4_farthestBorneIn p0 v1 w = some res) : Ct l yX4_farthestBorneIn cX4_farthestBorneIn 5 (some .int) { frames := 1, cells := 0, slots := 0, locals := 21 } D cI cT cII base [.ref (base + p0), .int v1] w res.2 (some (.int res.1)) 0 0 := by
  unfold fX4_farthestBorneIn at hF
  refine m_enter (by decide) (Nat.le_of_ble_eq_true rfl) ?_
  intro p e s m below meth c ls X hr hlk hnm hH hS hl
  have hx := X.1
  have hb := X.2.1
  have hc : (0 : Nat) ≤ ({ frames := 1, cells := 0, slots := 0, locals := 21 } : Room).cells ∧ (0 : Nat) ≤ ({ frames := 1, cells := 0, slots := 0, locals := 21 } : Room).slots := ⟨Nat.zero_le _, Nat.zero_le _⟩
  obtain ⟨H, hHe⟩ : ∃ H : Heap, H = s.heap := ⟨_, rfl⟩
  obtain ⟨locs, hle⟩ : ∃ L : List Loc, L = [] := ⟨_, rfl⟩
  have hl : lv_has ls 5 [(0, .ref (base + p0)), (1, .int v1)] := hl
  rw [← hHe] at hH
  have hS : va_S (fun q => base ≤ q) s.heap H locs := by rw [hHe, hle]; exact hS
  rw [← hle]
  show W p l e _ s m _ below meth c s.heap locs 0 0 _ _
  rw [← hHe]
  refine lv_bipush (v := (40 : Int32)) hx hb dX4_farthestBorneIn_0 (by decide) ?_
  refine lv_istore_n (lv' := [(2, .int (40 : Int32)), (0, .ref (base + p0)), (1, .int v1)]) hx hb dX4_farthestBorneIn_2 rfl hl (by decide) rfl (fun ls hl => ?_)
  refine lv_iconst (v := (0 : Int32)) hx hb dX4_farthestBorneIn_3 (by decide) ?_
  refine lv_istore_n (lv' := [(3, .int (0 : Int32)), (2, .int (40 : Int32)), (0, .ref (base + p0)), (1, .int v1)]) hx hb dX4_farthestBorneIn_4 rfl hl (by decide) rfl (fun ls hl => ?_)
  refine l_X4_farthestBorneIn_5 X hc p0 v1 _ res ?_ FV (40 : Int32) (0 : Int32) w hF H locs ls hH hS (lv_sub hl [2, 3, 1, 0] rfl)
  · intro v2_14 w_13 hF H locs ls hH hS hl
    refine lv_iload_n hx hb dX4_farthestBorneIn_59 rfl (lv_at hl 0 rfl) ?_
    have hF := Option.some.inj hF
    subst hF
    exact m_iret X hr hlk hH hS dX4_farthestBorneIn_60
noncomputable def fX11_hang_14 (p0 : Nat) (v1 : Int32) (K_80 : Int32 → Wd → Option (Int32 × Wd)) : Nat → Int32 → Int32 → Wd → Option (Int32 × Wd)
  | 0, _, _, _ => none
  | n + 1, v2, v3, w => (gfR 10 10 p0 w).bind fun r_3 => (gfI 3 4 r_3 w).bind fun x_4 => if x_4 ≤ v3 then K_80 v2 w else (gfR 10 10 p0 w).bind fun r_6 => (gfR 3 1 r_6 w).bind fun r_7 => (rdI r_7 v3 w).bind fun x_8 => (gfR 10 10 p0 w).bind fun r_9 => (gfR 10 10 p0 w).bind fun r_10 => (gfR 3 0 r_10 w).bind fun r_11 => (rdI r_11 v3 w).bind fun x_12 => (isO 3 r_9 w).bind fun u_13 => (fX4_farthestBorneIn r_9 x_12 w).bind fun q_14 => if ((iabs x_8) - q_14.1) ≤ 0 then fX11_hang_14 p0 v1 K_80 n v2 (v3 + (1 : Int32)) q_14.2 else if v1 = 0 then fX11_hang_14 p0 v1 K_80 n (v2 + ((iabs x_8) - q_14.1)) (v3 + (1 : Int32)) q_14.2 else fX11_hang_14 p0 v1 K_80 n (v2 + (1 : Int32)) (v3 + (1 : Int32)) q_14.2
noncomputable def fX11_hang (p0 : Nat) (v1 : Int32) (w : Wd) : Option (Int32 × Wd) := (fX11_outside v1 (2 : Int32) w).bind fun q_1 => if q_1.1 = 0 then fX11_hang_14 p0 v1 (fun (v2_18 : Int32) (w_17 : Wd) => some (v2_18, w_17)) FV (0 : Int32) (0 : Int32) q_1.2 else some ((-1 : Int32), q_1.2)
set_option maxHeartbeats 4000000 in
set_option maxRecDepth 100000 in
theorem l_X11_hang_14 (X : Cx p R s m args c cX11_hang 5 RX11 D cI cT cII 2 45) (hc : cells ≤ R.cells ∧ slots ≤ R.slots) (p0 : Nat) (v1 : Int32) (K_80 : Int32 → Wd → Option (Int32 × Wd)) (res : Int32 × Wd)
    (hK_80 : ∀ (z2 : Int32) (w : Wd), K_80 z2 w = some res → ∀ (H : Heap) (locs : List Loc) (ls : Array Slot), Hd D cI cT cII base w H → va_S (fun q => base ≤ q) s.heap H locs → lv_has ls 5 [(2, .int z2)] → W p l e R s m args below meth c H locs cells slots Q (F0 m 80 ls [])) :
    ∀ (n : Nat) (v2 : Int32) (v3 : Int32) (w : Wd), fX11_hang_14 p0 v1 K_80 n v2 v3 w = some res → ∀ (H : Heap) (locs : List Loc) (ls : Array Slot), Hd D cI cT cII base w H → va_S (fun q => base ≤ q) s.heap H locs → lv_has ls 5 [(0, .ref (base + p0)), (1, .int v1), (2, .int v2), (3, .int v3)] → W p l e R s m args below meth c H locs cells slots Q (F0 m 14 ls []) := by
  have hx := X.1
  have hb := X.2.1
  intro n
  induction n with
  | zero =>
    intro v2 v3 w hF
    rw [fX11_hang_14] at hF
    cases hF
  | succ n ih =>
    intro v2 v3 w hF H locs ls hH hS hl
    rw [fX11_hang_14] at hF
    refine lv_iload_n hx hb dX11_hang_14 rfl (lv_at hl 3 rfl) ?_
    refine lv_aload_n hx hb dX11_hang_15 rfl (lv_at hl 0 rfl) ?_
    obtain ⟨r_3, e_3, hF⟩ := bnd hF
    refine m_gR X hH e_3 gg_X11_80 dX11_hang_16 ?_
    obtain ⟨x_4, e_4, hF⟩ := bnd hF
    refine m_hI X hH e_4 gg_X11_116 dX11_hang_19 ?_
    refine lv_icmp_ge (tgt := 80) hx hb dX11_hang_22 (by decide) (fun c_5 => ?_) (fun c_5 => ?_)
    · replace hF := itt c_5 hF
      exact hK_80 v2 w hF H locs ls hH hS (lv_sub hl [2] rfl)
    · replace hF := itf c_5 hF
      refine lv_aload_n hx hb dX11_hang_25 rfl (lv_at hl 0 rfl) ?_
      obtain ⟨r_6, e_6, hF⟩ := bnd hF
      refine m_gR X hH e_6 gg_X11_80 dX11_hang_26 ?_
      obtain ⟨r_7, e_7, hF⟩ := bnd hF
      refine m_hR X hH e_7 gg_X11_127 dX11_hang_29 ?_
      refine lv_iload_n hx hb dX11_hang_32 rfl (lv_at hl 3 rfl) ?_
      obtain ⟨x_8, e_8, hF⟩ := bnd hF
      refine m_rdI X hH e_8 dX11_hang_33 ?_
      refine m_mabs X hl.1 kw_708 (by decide) (Nat.le_of_ble_eq_true rfl) hc dX11_hang_34 ?_
      refine lv_aload_n hx hb dX11_hang_37 rfl (lv_at hl 0 rfl) ?_
      obtain ⟨r_9, e_9, hF⟩ := bnd hF
      refine m_gR X hH e_9 gg_X11_80 dX11_hang_38 ?_
      refine lv_aload_n hx hb dX11_hang_41 rfl (lv_at hl 0 rfl) ?_
      obtain ⟨r_10, e_10, hF⟩ := bnd hF
      refine m_gR X hH e_10 gg_X11_80 dX11_hang_42 ?_
      obtain ⟨r_11, e_11, hF⟩ := bnd hF
      refine m_hR X hH e_11 gg_X11_123 dX11_hang_45 ?_
      refine lv_iload_n hx hb dX11_hang_48 rfl (lv_at hl 3 rfl) ?_
      obtain ⟨x_12, e_12, hF⟩ := bnd hF
      refine m_rdI X hH e_12 dX11_hang_49 ?_
      obtain ⟨u_13, ou_13, hF⟩ := bnd hF
      obtain ⟨q_14, e_14, hF⟩ := bnd hF
      refine m_callV (As := [.int x_12]) (rest := [.int (iabs x_8)]) X hH hS hl.1 ou_13 rfl (by decide) (k_X4_farthestBorneIn l D cI cT cII base r_9 x_12 w q_14 e_14) q_X4_farthestBorneIn kw_709 kw_710 kw_711 rfl rfl (Nat.le_of_ble_eq_true rfl) ⟨by decide, by decide⟩ hc dX11_hang_50 (fun H locs hH hS => W.eq (g2 := F0 m 53 ls [.int q_14.1, .int (iabs x_8)]) rfl ?_)
      refine lv_isub hx hb dX11_hang_53 ?_
      refine lv_istore (lv' := [(4, .int ((iabs x_8) - q_14.1)), (0, .ref (base + p0)), (1, .int v1), (2, .int v2), (3, .int v3)]) hx hb dX11_hang_54 hl (by decide) rfl (fun ls hl => ?_)
      refine lv_iload hx hb dX11_hang_56 (lv_at hl 0 rfl) ?_
      refine lv_if_le (tgt := 74) hx hb dX11_hang_58 (by decide) (fun c_15 => ?_) (fun c_15 => ?_)
      · replace hF := itt c_15 hF
        refine lv_iinc (v := v3 + (1 : Int32)) (lv' := [(3, .int (v3 + (1 : Int32))), (4, .int ((iabs x_8) - q_14.1)), (0, .ref (base + p0)), (1, .int v1), (2, .int v2)]) hx hb dX11_hang_74 hl (k := 4) rfl (congrArg (fun z => v3 + z) (by decide)) (by decide) rfl (fun ls hl => ?_)
        refine lv_goto (tgt := 14) hx hb dX11_hang_77 (by decide) ?_
        exact ih v2 (v3 + (1 : Int32)) q_14.2 hF H locs ls hH hS (lv_sub hl [2, 3, 4, 0] rfl)
      · replace hF := itf c_15 hF
        refine lv_iload_n hx hb dX11_hang_61 rfl (lv_at hl 3 rfl) ?_
        refine lv_iload_n hx hb dX11_hang_62 rfl (lv_at hl 2 rfl) ?_
        refine lv_if_ne (tgt := 71) hx hb dX11_hang_63 (by decide) (fun c_16 => ?_) (fun c_16 => ?_)
        · replace hF := itf c_16 hF
          refine lv_iconst (v := (1 : Int32)) hx hb dX11_hang_71 (by decide) ?_
          refine lv_iadd hx hb dX11_hang_72 ?_
          refine lv_istore_n (lv' := [(2, .int (v2 + (1 : Int32))), (4, .int ((iabs x_8) - q_14.1)), (0, .ref (base + p0)), (1, .int v1), (3, .int v3)]) hx hb dX11_hang_73 rfl hl (by decide) rfl (fun ls hl => ?_)
          refine lv_iinc (v := v3 + (1 : Int32)) (lv' := [(3, .int (v3 + (1 : Int32))), (2, .int (v2 + (1 : Int32))), (4, .int ((iabs x_8) - q_14.1)), (0, .ref (base + p0)), (1, .int v1)]) hx hb dX11_hang_74 hl (k := 4) rfl (congrArg (fun z => v3 + z) (by decide)) (by decide) rfl (fun ls hl => ?_)
          refine lv_goto (tgt := 14) hx hb dX11_hang_77 (by decide) ?_
          exact ih (v2 + (1 : Int32)) (v3 + (1 : Int32)) q_14.2 hF H locs ls hH hS (lv_sub hl [3, 4, 1, 0] rfl)
        · replace hF := itt c_16 hF
          refine lv_iload hx hb dX11_hang_66 (lv_at hl 0 rfl) ?_
          refine lv_goto (tgt := 72) hx hb dX11_hang_68 (by decide) ?_
          refine lv_iadd hx hb dX11_hang_72 ?_
          refine lv_istore_n (lv' := [(2, .int (v2 + ((iabs x_8) - q_14.1))), (4, .int ((iabs x_8) - q_14.1)), (0, .ref (base + p0)), (1, .int v1), (3, .int v3)]) hx hb dX11_hang_73 rfl hl (by decide) rfl (fun ls hl => ?_)
          refine lv_iinc (v := v3 + (1 : Int32)) (lv' := [(3, .int (v3 + (1 : Int32))), (2, .int (v2 + ((iabs x_8) - q_14.1))), (4, .int ((iabs x_8) - q_14.1)), (0, .ref (base + p0)), (1, .int v1)]) hx hb dX11_hang_74 hl (k := 4) rfl (congrArg (fun z => v3 + z) (by decide)) (by decide) rfl (fun ls hl => ?_)
          refine lv_goto (tgt := 14) hx hb dX11_hang_77 (by decide) ?_
          exact ih (v2 + ((iabs x_8) - q_14.1)) (v3 + (1 : Int32)) q_14.2 hF H locs ls hH hS (lv_sub hl [3, 4, 1, 0] rfl)
set_option maxHeartbeats 4000000 in
set_option maxRecDepth 100000 in
theorem k_X11_hang (l : Launch) (D : va_G) (cI cT cII : ClassId) (base : Nat) (p0 : Nat) (v1 : Int32) (w : Wd) (res : Int32 × Wd) (hF : fX11_hang p0 v1 w = some res) : Ct l yX11_hang cX11_hang 5 (some .int) { frames := 2, cells := 0, slots := 0, locals := 45 } D cI cT cII base [.ref (base + p0), .int v1] w res.2 (some (.int res.1)) 0 0 := by
  unfold fX11_hang at hF
  refine m_enter (by decide) (Nat.le_of_ble_eq_true rfl) ?_
  intro p e s m below meth c ls X hr hlk hnm hH hS hl
  have hx := X.1
  have hb := X.2.1
  have hc : (0 : Nat) ≤ ({ frames := 2, cells := 0, slots := 0, locals := 45 } : Room).cells ∧ (0 : Nat) ≤ ({ frames := 2, cells := 0, slots := 0, locals := 45 } : Room).slots := ⟨Nat.zero_le _, Nat.zero_le _⟩
  obtain ⟨H, hHe⟩ : ∃ H : Heap, H = s.heap := ⟨_, rfl⟩
  obtain ⟨locs, hle⟩ : ∃ L : List Loc, L = [] := ⟨_, rfl⟩
  have hl : lv_has ls 5 [(0, .ref (base + p0)), (1, .int v1)] := hl
  rw [← hHe] at hH
  have hS : va_S (fun q => base ≤ q) s.heap H locs := by rw [hHe, hle]; exact hS
  rw [← hle]
  show W p l e _ s m _ below meth c s.heap locs 0 0 _ _
  rw [← hHe]
  refine lv_iload_n hx hb dX11_hang_0 rfl (lv_at hl 1 rfl) ?_
  refine lv_iconst (v := (2 : Int32)) hx hb dX11_hang_1 (by decide) ?_
  obtain ⟨q_1, e_1, hF⟩ := bnd hF
  refine m_callS (As := [.int v1, .int (2 : Int32)]) (rest := []) X hH hS hl.1 (k_X11_outside l D cI cT cII base v1 (2 : Int32) w q_1 e_1) q_X11_outside kw_511 kw_391 rfl rfl (Nat.le_of_ble_eq_true rfl) ⟨by decide, by decide⟩ hc dX11_hang_2 (fun H locs hH hS => W.eq (g2 := F0 m 5 ls [.int q_1.1]) rfl ?_)
  refine lv_if_eq (tgt := 10) hx hb dX11_hang_5 (by decide) (fun c_2 => ?_) (fun c_2 => ?_)
  · replace hF := itt c_2 hF
    refine lv_iconst (v := (0 : Int32)) hx hb dX11_hang_10 (by decide) ?_
    refine lv_istore_n (lv' := [(2, .int (0 : Int32)), (0, .ref (base + p0)), (1, .int v1)]) hx hb dX11_hang_11 rfl hl (by decide) rfl (fun ls hl => ?_)
    refine lv_iconst (v := (0 : Int32)) hx hb dX11_hang_12 (by decide) ?_
    refine lv_istore_n (lv' := [(3, .int (0 : Int32)), (2, .int (0 : Int32)), (0, .ref (base + p0)), (1, .int v1)]) hx hb dX11_hang_13 rfl hl (by decide) rfl (fun ls hl => ?_)
    refine l_X11_hang_14 X hc p0 v1 _ res ?_ FV (0 : Int32) (0 : Int32) q_1.2 hF H locs ls hH hS (lv_sub hl [2, 3, 1, 0] rfl)
    · intro v2_18 w_17 hF H locs ls hH hS hl
      refine lv_iload_n hx hb dX11_hang_80 rfl (lv_at hl 0 rfl) ?_
      have hF := Option.some.inj hF
      subst hF
      exact m_iret X hr hlk hH hS dX11_hang_81
  · replace hF := itf c_2 hF
    refine lv_iconst (v := (-1 : Int32)) hx hb dX11_hang_8 (by decide) ?_
    have hF := Option.some.inj hF
    subst hF
    exact m_iret X hr hlk hH hS dX11_hang_9
noncomputable def fX11_hers (p0 : Nat) (v1 : Int32) (w : Wd) : Option (Int32 × Wd) := (fX11_outside v1 (31 : Int32) w).bind fun q_1 => if q_1.1 = 0 then (isO 10 p0 q_1.2).bind fun u_3 => (fX11_daysNow p0 q_1.2).bind fun q_4 => (gfR 1 3 q_4.1 q_4.2).bind fun r_5 => (rdI r_5 v1 q_4.2).bind fun x_6 => some (x_6, q_4.2) else some ((-1 : Int32), q_1.2)
set_option maxHeartbeats 4000000 in
set_option maxRecDepth 100000 in
theorem k_X11_hers (l : Launch) (D : va_G) (cI cT cII : ClassId) (base : Nat) (p0 : Nat) (v1 : Int32) (w : Wd) (res : Int32 × Wd) (hF : fX11_hers p0 v1 w = some res) : Ct l yX11_hers cX11_hers 2 (some .int) { frames := 6, cells := 0, slots := 0, locals := 137 } D cI cT cII base [.ref (base + p0), .int v1] w res.2 (some (.int res.1)) 0 0 := by
  unfold fX11_hers at hF
  refine m_enter (by decide) (Nat.le_of_ble_eq_true rfl) ?_
  intro p e s m below meth c ls X hr hlk hnm hH hS hl
  have hx := X.1
  have hb := X.2.1
  have hc : (0 : Nat) ≤ ({ frames := 6, cells := 0, slots := 0, locals := 137 } : Room).cells ∧ (0 : Nat) ≤ ({ frames := 6, cells := 0, slots := 0, locals := 137 } : Room).slots := ⟨Nat.zero_le _, Nat.zero_le _⟩
  obtain ⟨H, hHe⟩ : ∃ H : Heap, H = s.heap := ⟨_, rfl⟩
  obtain ⟨locs, hle⟩ : ∃ L : List Loc, L = [] := ⟨_, rfl⟩
  have hl : lv_has ls 2 [(0, .ref (base + p0)), (1, .int v1)] := hl
  rw [← hHe] at hH
  have hS : va_S (fun q => base ≤ q) s.heap H locs := by rw [hHe, hle]; exact hS
  rw [← hle]
  show W p l e _ s m _ below meth c s.heap locs 0 0 _ _
  rw [← hHe]
  refine lv_iload_n hx hb dX11_hers_0 rfl (lv_at hl 1 rfl) ?_
  refine lv_bipush (v := (31 : Int32)) hx hb dX11_hers_1 (by decide) ?_
  obtain ⟨q_1, e_1, hF⟩ := bnd hF
  refine m_callS (As := [.int v1, .int (31 : Int32)]) (rest := []) X hH hS hl.1 (k_X11_outside l D cI cT cII base v1 (31 : Int32) w q_1 e_1) q_X11_outside kw_511 kw_391 rfl rfl (Nat.le_of_ble_eq_true rfl) ⟨by decide, by decide⟩ hc dX11_hers_3 (fun H locs hH hS => W.eq (g2 := F0 m 6 ls [.int q_1.1]) rfl ?_)
  refine lv_if_eq (tgt := 13) hx hb dX11_hers_6 (by decide) (fun c_2 => ?_) (fun c_2 => ?_)
  · replace hF := itt c_2 hF
    refine lv_aload_n hx hb dX11_hers_13 rfl (lv_at hl 0 rfl) ?_
    obtain ⟨u_3, ou_3, hF⟩ := bnd hF
    obtain ⟨q_4, e_4, hF⟩ := bnd hF
    refine m_callV (As := []) (rest := []) X hH hS hl.1 ou_3 rfl (by decide) (k_X11_daysNow l D cI cT cII base p0 q_1.2 q_4 e_4) q_X11_daysNow kw_520 kw_522 kw_9 rfl rfl (Nat.le_of_ble_eq_true rfl) ⟨by decide, by decide⟩ hc dX11_hers_14 (fun H locs hH hS => W.eq (g2 := F0 m 17 ls [.ref (base + q_4.1)]) rfl ?_)
    obtain ⟨r_5, e_5, hF⟩ := bnd hF
    refine m_hR X hH e_5 gg_X11_153 dX11_hers_17 ?_
    refine lv_iload_n hx hb dX11_hers_20 rfl (lv_at hl 1 rfl) ?_
    obtain ⟨x_6, e_6, hF⟩ := bnd hF
    refine m_rdI X hH e_6 dX11_hers_21 ?_
    have hF := Option.some.inj hF
    subst hF
    exact m_iret X hr hlk hH hS dX11_hers_22
  · replace hF := itf c_2 hF
    refine lv_iconst (v := (-1 : Int32)) hx hb dX11_hers_9 (by decide) ?_
    refine lv_goto (tgt := 22) hx hb dX11_hers_10 (by decide) ?_
    have hF := Option.some.inj hF
    subst hF
    exact m_iret X hr hlk hH hS dX11_hers_22
noncomputable def fX9_add (p0 : Nat) (v1 : Int32) (w : Wd) : Option (Int32 × Wd) := (gfI 8 1 p0 w).bind fun x_1 => if x_1 < (200 : Int32) then (gfR 8 0 p0 w).bind fun r_3 => (gfI 8 1 p0 w).bind fun x_4 => (wrI r_3 x_4 v1 w).bind fun w_5 => (gfI 8 1 p0 w_5).bind fun x_6 => (pfI 8 1 p0 (x_6 + (1 : Int32)) w_5).bind fun w_7 => some ((1 : Int32), w_7) else some ((0 : Int32), w)
set_option maxHeartbeats 4000000 in
set_option maxRecDepth 100000 in
theorem k_X9_add (l : Launch) (D : va_G) (cI cT cII : ClassId) (base : Nat) (p0 : Nat) (v1 : Int32) (w : Wd) (res : Int32 × Wd) (hF : fX9_add p0 v1 w = some res) : Ct l yX9_add cX9_add 2 (some .boolean) { frames := 0, cells := 0, slots := 0, locals := 0 } D cI cT cII base [.ref (base + p0), .int v1] w res.2 (some (.int res.1)) 0 0 := by
  unfold fX9_add at hF
  refine m_enter (by decide) (Nat.le_of_ble_eq_true rfl) ?_
  intro p e s m below meth c ls X hr hlk hnm hH hS hl
  have hx := X.1
  have hb := X.2.1
  have hc : (0 : Nat) ≤ ({ frames := 0, cells := 0, slots := 0, locals := 0 } : Room).cells ∧ (0 : Nat) ≤ ({ frames := 0, cells := 0, slots := 0, locals := 0 } : Room).slots := ⟨Nat.zero_le _, Nat.zero_le _⟩
  obtain ⟨H, hHe⟩ : ∃ H : Heap, H = s.heap := ⟨_, rfl⟩
  obtain ⟨locs, hle⟩ : ∃ L : List Loc, L = [] := ⟨_, rfl⟩
  have hl : lv_has ls 2 [(0, .ref (base + p0)), (1, .int v1)] := hl
  rw [← hHe] at hH
  have hS : va_S (fun q => base ≤ q) s.heap H locs := by rw [hHe, hle]; exact hS
  rw [← hle]
  show W p l e _ s m _ below meth c s.heap locs 0 0 _ _
  rw [← hHe]
  refine lv_aload_n hx hb dX9_add_0 rfl (lv_at hl 0 rfl) ?_
  obtain ⟨x_1, e_1, hF⟩ := bnd hF
  refine m_gI X hH e_1 gg_X9_15 dX9_add_1 ?_
  refine lv_sipush (v := (200 : Int32)) hx hb dX9_add_4 (by decide) ?_
  refine lv_icmp_lt (tgt := 12) hx hb dX9_add_7 (by decide) (fun c_2 => ?_) (fun c_2 => ?_)
  · replace hF := itt c_2 hF
    refine lv_aload_n hx hb dX9_add_12 rfl (lv_at hl 0 rfl) ?_
    obtain ⟨r_3, e_3, hF⟩ := bnd hF
    refine m_gR X hH e_3 gg_X9_9 dX9_add_13 ?_
    refine lv_aload_n hx hb dX9_add_16 rfl (lv_at hl 0 rfl) ?_
    obtain ⟨x_4, e_4, hF⟩ := bnd hF
    refine m_gI X hH e_4 gg_X9_15 dX9_add_17 ?_
    refine lv_iload_n hx hb dX9_add_20 rfl (lv_at hl 1 rfl) ?_
    obtain ⟨w_5, e_5, hF⟩ := bnd hF
    refine m_wrI X hH hS e_5 dX9_add_21 (fun H locs hH hS => ?_)
    refine lv_aload_n hx hb dX9_add_22 rfl (lv_at hl 0 rfl) ?_
    refine lv_dup hx hb dX9_add_23 rfl ?_
    obtain ⟨x_6, e_6, hF⟩ := bnd hF
    refine m_gI X hH e_6 gg_X9_15 dX9_add_24 ?_
    refine lv_iconst (v := (1 : Int32)) hx hb dX9_add_27 (by decide) ?_
    refine lv_iadd hx hb dX9_add_28 ?_
    obtain ⟨w_7, e_7, hF⟩ := bnd hF
    refine m_pI X hH hS e_7 gp_X9_15 rfl rfl dX9_add_29 (fun H locs hH hS => ?_)
    refine lv_iconst (v := (1 : Int32)) hx hb dX9_add_32 (by decide) ?_
    have hF := Option.some.inj hF
    subst hF
    exact m_zret (r := (1 : Int32)) X hr hlk (by decide) hH hS dX9_add_33
  · replace hF := itf c_2 hF
    refine lv_iconst (v := (0 : Int32)) hx hb dX9_add_10 (by decide) ?_
    have hF := Option.some.inj hF
    subst hF
    exact m_zret (r := (0 : Int32)) X hr hlk (by decide) hH hS dX9_add_11
noncomputable def fX11_moveIn (p0 : Nat) (w : Wd) : Option (Unit × Wd) := (gfR 10 10 p0 w).bind fun r_1 => (gfR 10 11 p0 w).bind fun r_2 => (pfR 10 10 p0 r_2 w).bind fun w_3 => (pfR 10 11 p0 r_1 w_3).bind fun w_4 => (gfR 10 2 p0 w_4).bind fun r_5 => (gfR 10 10 p0 w_4).bind fun r_6 => (gfR 3 12 r_6 w_4).bind fun r_7 => (isO 9 r_5 w_4).bind fun u_8 => (fX10_copy r_5 r_7 w_4).bind fun q_9 => (gfR 10 3 p0 q_9.2).bind fun r_10 => (pfI 6 1 r_10 (0 : Int32) q_9.2).bind fun w_11 => (gfR 10 4 p0 w_11).bind fun r_12 => (pfI 6 1 r_12 (0 : Int32) w_11).bind fun w_13 => (gfR 10 7 p0 w_13).bind fun r_14 => (isO 7 r_14 w_13).bind fun u_15 => (fX8_empty r_14 w_13).bind fun q_16 => (gfR 10 5 p0 q_16.2).bind fun r_17 => (pfI 1 4 r_17 (1 : Int32) q_16.2).bind fun w_18 => some ((), w_18)
set_option maxHeartbeats 4000000 in
set_option maxRecDepth 100000 in
theorem k_X11_moveIn (l : Launch) (D : va_G) (cI cT cII : ClassId) (base : Nat) (p0 : Nat) (w : Wd) (res : Unit × Wd) (hF : fX11_moveIn p0 w = some res) : Ct l yX11_moveIn cX11_moveIn 2 none { frames := 2, cells := 0, slots := 0, locals := 45 } D cI cT cII base [.ref (base + p0)] w res.2 none 0 0 := by
  unfold fX11_moveIn at hF
  refine m_enter (by decide) (Nat.le_of_ble_eq_true rfl) ?_
  intro p e s m below meth c ls X hr hlk hnm hH hS hl
  have hx := X.1
  have hb := X.2.1
  have hc : (0 : Nat) ≤ ({ frames := 2, cells := 0, slots := 0, locals := 45 } : Room).cells ∧ (0 : Nat) ≤ ({ frames := 2, cells := 0, slots := 0, locals := 45 } : Room).slots := ⟨Nat.zero_le _, Nat.zero_le _⟩
  obtain ⟨H, hHe⟩ : ∃ H : Heap, H = s.heap := ⟨_, rfl⟩
  obtain ⟨locs, hle⟩ : ∃ L : List Loc, L = [] := ⟨_, rfl⟩
  have hl : lv_has ls 2 [(0, .ref (base + p0))] := hl
  rw [← hHe] at hH
  have hS : va_S (fun q => base ≤ q) s.heap H locs := by rw [hHe, hle]; exact hS
  rw [← hle]
  show W p l e _ s m _ below meth c s.heap locs 0 0 _ _
  rw [← hHe]
  refine lv_aload_n hx hb dX11_moveIn_0 rfl (lv_at hl 0 rfl) ?_
  obtain ⟨r_1, e_1, hF⟩ := bnd hF
  refine m_gR X hH e_1 gg_X11_80 dX11_moveIn_1 ?_
  refine lv_astore_n (lv' := [(1, .ref (base + r_1)), (0, .ref (base + p0))]) hx hb dX11_moveIn_4 rfl hl (by decide) rfl (fun ls hl => ?_)
  refine lv_aload_n hx hb dX11_moveIn_5 rfl (lv_at hl 1 rfl) ?_
  refine lv_aload_n hx hb dX11_moveIn_6 rfl (lv_at hl 1 rfl) ?_
  obtain ⟨r_2, e_2, hF⟩ := bnd hF
  refine m_gR X hH e_2 gg_X11_84 dX11_moveIn_7 ?_
  obtain ⟨w_3, e_3, hF⟩ := bnd hF
  refine m_pR X hH hS e_3 gp_X11_80 rfl rfl dX11_moveIn_10 (fun H locs hH hS => ?_)
  refine lv_aload_n hx hb dX11_moveIn_13 rfl (lv_at hl 1 rfl) ?_
  refine lv_aload_n hx hb dX11_moveIn_14 rfl (lv_at hl 0 rfl) ?_
  obtain ⟨w_4, e_4, hF⟩ := bnd hF
  refine m_pR X hH hS e_4 gp_X11_84 rfl rfl dX11_moveIn_15 (fun H locs hH hS => ?_)
  refine lv_aload_n hx hb dX11_moveIn_18 rfl (lv_at hl 1 rfl) ?_
  obtain ⟨r_5, e_5, hF⟩ := bnd hF
  refine m_gR X hH e_5 gg_X11_26 dX11_moveIn_19 ?_
  refine lv_aload_n hx hb dX11_moveIn_22 rfl (lv_at hl 1 rfl) ?_
  obtain ⟨r_6, e_6, hF⟩ := bnd hF
  refine m_gR X hH e_6 gg_X11_80 dX11_moveIn_23 ?_
  obtain ⟨r_7, e_7, hF⟩ := bnd hF
  refine m_hR X hH e_7 gg_X11_262 dX11_moveIn_26 ?_
  obtain ⟨u_8, ou_8, hF⟩ := bnd hF
  obtain ⟨q_9, e_9, hF⟩ := bnd hF
  refine m_callV (As := [.ref (base + r_7)]) (rest := []) X hH hS hl.1 ou_8 rfl (by decide) (k_X10_copy l D cI cT cII base r_5 r_7 w_4 q_9 e_9) q_X10_copy kw_440 kw_441 kw_442 rfl rfl (Nat.le_of_ble_eq_true rfl) ⟨by decide, by decide⟩ hc dX11_moveIn_29 (fun H locs hH hS => W.eq (g2 := F0 m 32 ls []) rfl ?_)
  refine lv_aload_n hx hb dX11_moveIn_32 rfl (lv_at hl 1 rfl) ?_
  obtain ⟨r_10, e_10, hF⟩ := bnd hF
  refine m_gR X hH e_10 gg_X11_35 dX11_moveIn_33 ?_
  refine lv_iconst (v := (0 : Int32)) hx hb dX11_moveIn_36 (by decide) ?_
  obtain ⟨w_11, e_11, hF⟩ := bnd hF
  refine m_qI X hH hS e_11 gp_X11_196 rfl rfl dX11_moveIn_37 (fun H locs hH hS => ?_)
  refine lv_aload_n hx hb dX11_moveIn_40 rfl (lv_at hl 1 rfl) ?_
  obtain ⟨r_12, e_12, hF⟩ := bnd hF
  refine m_gR X hH e_12 gg_X11_39 dX11_moveIn_41 ?_
  refine lv_iconst (v := (0 : Int32)) hx hb dX11_moveIn_44 (by decide) ?_
  obtain ⟨w_13, e_13, hF⟩ := bnd hF
  refine m_qI X hH hS e_13 gp_X11_196 rfl rfl dX11_moveIn_45 (fun H locs hH hS => ?_)
  refine lv_aload_n hx hb dX11_moveIn_48 rfl (lv_at hl 1 rfl) ?_
  obtain ⟨r_14, e_14, hF⟩ := bnd hF
  refine m_gR X hH e_14 gg_X11_59 dX11_moveIn_49 ?_
  obtain ⟨u_15, ou_15, hF⟩ := bnd hF
  obtain ⟨q_16, e_16, hF⟩ := bnd hF
  refine m_callV (As := []) (rest := []) X hH hS hl.1 ou_15 rfl (by decide) (k_X8_empty l D cI cT cII base r_14 w_13 q_16 e_16) q_X8_empty kw_445 kw_446 kw_447 rfl rfl (Nat.le_of_ble_eq_true rfl) ⟨by decide, by decide⟩ hc dX11_moveIn_52 (fun H locs hH hS => W.eq (g2 := F0 m 55 ls [.int q_16.1]) rfl ?_)
  refine lv_pop hx hb dX11_moveIn_55 rfl ?_
  refine lv_aload_n hx hb dX11_moveIn_56 rfl (lv_at hl 1 rfl) ?_
  obtain ⟨r_17, e_17, hF⟩ := bnd hF
  refine m_gR X hH e_17 gg_X11_45 dX11_moveIn_57 ?_
  refine lv_iconst (v := (1 : Int32)) hx hb dX11_moveIn_60 (by decide) ?_
  obtain ⟨w_18, e_18, hF⟩ := bnd hF
  refine m_qI X hH hS e_18 gp_X11_185 rfl rfl dX11_moveIn_61 (fun H locs hH hS => ?_)
  have hF := Option.some.inj hF
  subst hF
  exact m_vret X hr hlk hH hS dX11_moveIn_64
noncomputable def fX9_empty (p0 : Nat) (w : Wd) : Option (Int32 × Wd) := (gfI 8 1 p0 w).bind fun x_1 => (pfI 8 1 p0 (0 : Int32) w).bind fun w_2 => some (x_1, w_2)
set_option maxHeartbeats 4000000 in
set_option maxRecDepth 100000 in
theorem k_X9_empty (l : Launch) (D : va_G) (cI cT cII : ClassId) (base : Nat) (p0 : Nat) (w : Wd) (res : Int32 × Wd) (hF : fX9_empty p0 w = some res) : Ct l yX9_empty cX9_empty 2 (some .int) { frames := 0, cells := 0, slots := 0, locals := 0 } D cI cT cII base [.ref (base + p0)] w res.2 (some (.int res.1)) 0 0 := by
  unfold fX9_empty at hF
  refine m_enter (by decide) (Nat.le_of_ble_eq_true rfl) ?_
  intro p e s m below meth c ls X hr hlk hnm hH hS hl
  have hx := X.1
  have hb := X.2.1
  have hc : (0 : Nat) ≤ ({ frames := 0, cells := 0, slots := 0, locals := 0 } : Room).cells ∧ (0 : Nat) ≤ ({ frames := 0, cells := 0, slots := 0, locals := 0 } : Room).slots := ⟨Nat.zero_le _, Nat.zero_le _⟩
  obtain ⟨H, hHe⟩ : ∃ H : Heap, H = s.heap := ⟨_, rfl⟩
  obtain ⟨locs, hle⟩ : ∃ L : List Loc, L = [] := ⟨_, rfl⟩
  have hl : lv_has ls 2 [(0, .ref (base + p0))] := hl
  rw [← hHe] at hH
  have hS : va_S (fun q => base ≤ q) s.heap H locs := by rw [hHe, hle]; exact hS
  rw [← hle]
  show W p l e _ s m _ below meth c s.heap locs 0 0 _ _
  rw [← hHe]
  refine lv_aload_n hx hb dX9_empty_0 rfl (lv_at hl 0 rfl) ?_
  obtain ⟨x_1, e_1, hF⟩ := bnd hF
  refine m_gI X hH e_1 gg_X9_15 dX9_empty_1 ?_
  refine lv_istore_n (lv' := [(1, .int x_1), (0, .ref (base + p0))]) hx hb dX9_empty_4 rfl hl (by decide) rfl (fun ls hl => ?_)
  refine lv_aload_n hx hb dX9_empty_5 rfl (lv_at hl 1 rfl) ?_
  refine lv_iconst (v := (0 : Int32)) hx hb dX9_empty_6 (by decide) ?_
  obtain ⟨w_2, e_2, hF⟩ := bnd hF
  refine m_pI X hH hS e_2 gp_X9_15 rfl rfl dX9_empty_7 (fun H locs hH hS => ?_)
  refine lv_iload_n hx hb dX9_empty_10 rfl (lv_at hl 0 rfl) ?_
  have hF := Option.some.inj hF
  subst hF
  exact m_iret X hr hlk hH hS dX9_empty_11
noncomputable def fX7_put_21 (p0 : Nat) (p1 : Nat) (p2 : Nat) (K_52 : Wd → Option (Unit × Wd)) : Nat → Int32 → Wd → Option (Unit × Wd)
  | 0, _, _ => none
  | n + 1, v3, w => (gfR 6 0 p0 w).bind fun r_14 => (lnA 13 r_14 w).bind fun x_15 => if (x_15 - (1 : Int32)) ≤ v3 then K_52  w else (gfR 6 0 p0 w).bind fun r_17 => (gfR 6 0 p0 w).bind fun r_18 => (rdR 13 r_18 (v3 + (1 : Int32)) w).bind fun r_19 => (wrT r_17 v3 r_19 w).bind fun w_20 => fX7_put_21 p0 p1 p2 K_52 n (v3 + (1 : Int32)) w_20
noncomputable def fX7_put (p0 : Nat) (p1 : Nat) (w : Wd) : Option (Unit × Wd) := (gfI 6 1 p0 w).bind fun x_1 => (gfR 6 0 p0 w).bind fun r_2 => (lnA 13 r_2 w).bind fun x_3 => if x_1 < x_3 then (gfR 6 0 p0 w).bind fun r_5 => (gfI 6 1 p0 w).bind fun x_6 => (rdR 13 r_5 x_6 w).bind fun r_7 => (isO 9 r_7 w).bind fun u_8 => (fX10_copy r_7 p1 w).bind fun q_9 => (gfI 6 1 p0 q_9.2).bind fun x_10 => (pfI 6 1 p0 (x_10 + (1 : Int32)) q_9.2).bind fun w_11 => some ((), w_11) else (gfR 6 0 p0 w).bind fun r_12 => (rdR 13 r_12 (0 : Int32) w).bind fun r_13 => fX7_put_21 p0 p1 r_13 (fun  (w_21 : Wd) => (gfR 6 0 p0 w_21).bind fun r_22 => (gfR 6 0 p0 w_21).bind fun r_23 => (lnA 13 r_23 w_21).bind fun x_24 => (wrT r_22 (x_24 - (1 : Int32)) r_13 w_21).bind fun w_25 => (gfR 6 0 p0 w_25).bind fun r_26 => (lnA 13 r_26 w_25).bind fun x_27 => (pfI 6 1 p0 (x_27 - (1 : Int32)) w_25).bind fun w_28 => (gfR 6 0 p0 w_28).bind fun r_29 => (gfI 6 1 p0 w_28).bind fun x_30 => (rdR 13 r_29 x_30 w_28).bind fun r_31 => (isO 9 r_31 w_28).bind fun u_32 => (fX10_copy r_31 p1 w_28).bind fun q_33 => (gfI 6 1 p0 q_33.2).bind fun x_34 => (pfI 6 1 p0 (x_34 + (1 : Int32)) q_33.2).bind fun w_35 => some ((), w_35)) FV (0 : Int32) w
set_option maxHeartbeats 4000000 in
set_option maxRecDepth 100000 in
theorem l_X7_put_21 (X : Cx p R s m args c cX7_put 4 RX7 D cI cT cII 2 45) (hc : cells ≤ R.cells ∧ slots ≤ R.slots) (p0 : Nat) (p1 : Nat) (p2 : Nat) (K_52 : Wd → Option (Unit × Wd)) (res : Unit × Wd)
    (hK_52 : ∀  (w : Wd), K_52  w = some res → ∀ (H : Heap) (locs : List Loc) (ls : Array Slot), Hd D cI cT cII base w H → va_S (fun q => base ≤ q) s.heap H locs → lv_has ls 4 [(0, .ref (base + p0)), (1, .ref (base + p1)), (2, .ref (base + p2))] → W p l e R s m args below meth c H locs cells slots Q (F0 m 52 ls [])) :
    ∀ (n : Nat) (v3 : Int32) (w : Wd), fX7_put_21 p0 p1 p2 K_52 n v3 w = some res → ∀ (H : Heap) (locs : List Loc) (ls : Array Slot), Hd D cI cT cII base w H → va_S (fun q => base ≤ q) s.heap H locs → lv_has ls 4 [(0, .ref (base + p0)), (1, .ref (base + p1)), (2, .ref (base + p2)), (3, .int v3)] → W p l e R s m args below meth c H locs cells slots Q (F0 m 21 ls []) := by
  have hx := X.1
  have hb := X.2.1
  intro n
  induction n with
  | zero =>
    intro v3 w hF
    rw [fX7_put_21] at hF
    cases hF
  | succ n ih =>
    intro v3 w hF H locs ls hH hS hl
    rw [fX7_put_21] at hF
    refine lv_iload_n hx hb dX7_put_21 rfl (lv_at hl 3 rfl) ?_
    refine lv_aload_n hx hb dX7_put_22 rfl (lv_at hl 0 rfl) ?_
    obtain ⟨r_14, e_14, hF⟩ := bnd hF
    refine m_gR X hH e_14 gg_X7_15 dX7_put_23 ?_
    obtain ⟨x_15, e_15, hF⟩ := bnd hF
    refine m_lnT X hH e_15 dX7_put_26 ?_
    refine lv_iconst (v := (1 : Int32)) hx hb dX7_put_27 (by decide) ?_
    refine lv_isub hx hb dX7_put_28 ?_
    refine lv_icmp_ge (tgt := 52) hx hb dX7_put_29 (by decide) (fun c_16 => ?_) (fun c_16 => ?_)
    · replace hF := itt c_16 hF
      exact hK_52  w hF H locs ls hH hS (lv_sub hl [0, 1, 2] rfl)
    · replace hF := itf c_16 hF
      refine lv_aload_n hx hb dX7_put_32 rfl (lv_at hl 0 rfl) ?_
      obtain ⟨r_17, e_17, hF⟩ := bnd hF
      refine m_gR X hH e_17 gg_X7_15 dX7_put_33 ?_
      refine lv_iload_n hx hb dX7_put_36 rfl (lv_at hl 3 rfl) ?_
      refine lv_aload_n hx hb dX7_put_37 rfl (lv_at hl 0 rfl) ?_
      obtain ⟨r_18, e_18, hF⟩ := bnd hF
      refine m_gR X hH e_18 gg_X7_15 dX7_put_38 ?_
      refine lv_iload_n hx hb dX7_put_41 rfl (lv_at hl 3 rfl) ?_
      refine lv_iconst (v := (1 : Int32)) hx hb dX7_put_42 (by decide) ?_
      refine lv_iadd hx hb dX7_put_43 ?_
      obtain ⟨r_19, e_19, hF⟩ := bnd hF
      refine m_rdT X hH e_19 dX7_put_44 ?_
      obtain ⟨w_20, e_20, hF⟩ := bnd hF
      refine m_wrT X hH hS e_20 dX7_put_45 (fun H locs hH hS => ?_)
      refine lv_iinc (v := v3 + (1 : Int32)) (lv' := [(3, .int (v3 + (1 : Int32))), (0, .ref (base + p0)), (1, .ref (base + p1)), (2, .ref (base + p2))]) hx hb dX7_put_46 hl (k := 3) rfl (congrArg (fun z => v3 + z) (by decide)) (by decide) rfl (fun ls hl => ?_)
      refine lv_goto (tgt := 21) hx hb dX7_put_49 (by decide) ?_
      exact ih (v3 + (1 : Int32)) w_20 hF H locs ls hH hS (lv_sub hl [1, 2, 3, 0] rfl)
set_option maxHeartbeats 4000000 in
set_option maxRecDepth 100000 in
theorem k_X7_put (l : Launch) (D : va_G) (cI cT cII : ClassId) (base : Nat) (p0 : Nat) (p1 : Nat) (w : Wd) (res : Unit × Wd) (hF : fX7_put p0 p1 w = some res) : Ct l yX7_put cX7_put 4 none { frames := 2, cells := 0, slots := 0, locals := 45 } D cI cT cII base [.ref (base + p0), .ref (base + p1)] w res.2 none 0 0 := by
  unfold fX7_put at hF
  refine m_enter (by decide) (Nat.le_of_ble_eq_true rfl) ?_
  intro p e s m below meth c ls X hr hlk hnm hH hS hl
  have hx := X.1
  have hb := X.2.1
  have hc : (0 : Nat) ≤ ({ frames := 2, cells := 0, slots := 0, locals := 45 } : Room).cells ∧ (0 : Nat) ≤ ({ frames := 2, cells := 0, slots := 0, locals := 45 } : Room).slots := ⟨Nat.zero_le _, Nat.zero_le _⟩
  obtain ⟨H, hHe⟩ : ∃ H : Heap, H = s.heap := ⟨_, rfl⟩
  obtain ⟨locs, hle⟩ : ∃ L : List Loc, L = [] := ⟨_, rfl⟩
  have hl : lv_has ls 4 [(0, .ref (base + p0)), (1, .ref (base + p1))] := hl
  rw [← hHe] at hH
  have hS : va_S (fun q => base ≤ q) s.heap H locs := by rw [hHe, hle]; exact hS
  rw [← hle]
  show W p l e _ s m _ below meth c s.heap locs 0 0 _ _
  rw [← hHe]
  refine lv_aload_n hx hb dX7_put_0 rfl (lv_at hl 0 rfl) ?_
  obtain ⟨x_1, e_1, hF⟩ := bnd hF
  refine m_gI X hH e_1 gg_X7_22 dX7_put_1 ?_
  refine lv_aload_n hx hb dX7_put_4 rfl (lv_at hl 0 rfl) ?_
  obtain ⟨r_2, e_2, hF⟩ := bnd hF
  refine m_gR X hH e_2 gg_X7_15 dX7_put_5 ?_
  obtain ⟨x_3, e_3, hF⟩ := bnd hF
  refine m_lnT X hH e_3 dX7_put_8 ?_
  refine lv_icmp_lt (tgt := 76) hx hb dX7_put_9 (by decide) (fun c_4 => ?_) (fun c_4 => ?_)
  · replace hF := itt c_4 hF
    refine lv_aload_n hx hb dX7_put_76 rfl (lv_at hl 0 rfl) ?_
    obtain ⟨r_5, e_5, hF⟩ := bnd hF
    refine m_gR X hH e_5 gg_X7_15 dX7_put_77 ?_
    refine lv_aload_n hx hb dX7_put_80 rfl (lv_at hl 0 rfl) ?_
    obtain ⟨x_6, e_6, hF⟩ := bnd hF
    refine m_gI X hH e_6 gg_X7_22 dX7_put_81 ?_
    obtain ⟨r_7, e_7, hF⟩ := bnd hF
    refine m_rdT X hH e_7 dX7_put_84 ?_
    refine lv_aload_n hx hb dX7_put_85 rfl (lv_at hl 1 rfl) ?_
    obtain ⟨u_8, ou_8, hF⟩ := bnd hF
    obtain ⟨q_9, e_9, hF⟩ := bnd hF
    refine m_callV (As := [.ref (base + p1)]) (rest := []) X hH hS hl.1 ou_8 rfl (by decide) (k_X10_copy l D cI cT cII base r_7 p1 w q_9 e_9) q_X10_copy kw_617 kw_441 kw_442 rfl rfl (Nat.le_of_ble_eq_true rfl) ⟨by decide, by decide⟩ hc dX7_put_86 (fun H locs hH hS => W.eq (g2 := F0 m 89 ls []) rfl ?_)
    refine lv_aload_n hx hb dX7_put_89 rfl (lv_at hl 0 rfl) ?_
    refine lv_dup hx hb dX7_put_90 rfl ?_
    obtain ⟨x_10, e_10, hF⟩ := bnd hF
    refine m_gI X hH e_10 gg_X7_22 dX7_put_91 ?_
    refine lv_iconst (v := (1 : Int32)) hx hb dX7_put_94 (by decide) ?_
    refine lv_iadd hx hb dX7_put_95 ?_
    obtain ⟨w_11, e_11, hF⟩ := bnd hF
    refine m_pI X hH hS e_11 gp_X7_22 rfl rfl dX7_put_96 (fun H locs hH hS => ?_)
    have hF := Option.some.inj hF
    subst hF
    exact m_vret X hr hlk hH hS dX7_put_99
  · replace hF := itf c_4 hF
    refine lv_aload_n hx hb dX7_put_12 rfl (lv_at hl 0 rfl) ?_
    obtain ⟨r_12, e_12, hF⟩ := bnd hF
    refine m_gR X hH e_12 gg_X7_15 dX7_put_13 ?_
    refine lv_iconst (v := (0 : Int32)) hx hb dX7_put_16 (by decide) ?_
    obtain ⟨r_13, e_13, hF⟩ := bnd hF
    refine m_rdT X hH e_13 dX7_put_17 ?_
    refine lv_astore_n (lv' := [(2, .ref (base + r_13)), (0, .ref (base + p0)), (1, .ref (base + p1))]) hx hb dX7_put_18 rfl hl (by decide) rfl (fun ls hl => ?_)
    refine lv_iconst (v := (0 : Int32)) hx hb dX7_put_19 (by decide) ?_
    refine lv_istore_n (lv' := [(3, .int (0 : Int32)), (2, .ref (base + r_13)), (0, .ref (base + p0)), (1, .ref (base + p1))]) hx hb dX7_put_20 rfl hl (by decide) rfl (fun ls hl => ?_)
    refine l_X7_put_21 X hc p0 p1 r_13 _ res ?_ FV (0 : Int32) w hF H locs ls hH hS (lv_sub hl [2, 3, 1, 0] rfl)
    · intro  w_21 hF H locs ls hH hS hl
      refine lv_aload_n hx hb dX7_put_52 rfl (lv_at hl 0 rfl) ?_
      obtain ⟨r_22, e_22, hF⟩ := bnd hF
      refine m_gR X hH e_22 gg_X7_15 dX7_put_53 ?_
      refine lv_aload_n hx hb dX7_put_56 rfl (lv_at hl 0 rfl) ?_
      obtain ⟨r_23, e_23, hF⟩ := bnd hF
      refine m_gR X hH e_23 gg_X7_15 dX7_put_57 ?_
      obtain ⟨x_24, e_24, hF⟩ := bnd hF
      refine m_lnT X hH e_24 dX7_put_60 ?_
      refine lv_iconst (v := (1 : Int32)) hx hb dX7_put_61 (by decide) ?_
      refine lv_isub hx hb dX7_put_62 ?_
      refine lv_aload_n hx hb dX7_put_63 rfl (lv_at hl 2 rfl) ?_
      obtain ⟨w_25, e_25, hF⟩ := bnd hF
      refine m_wrT X hH hS e_25 dX7_put_64 (fun H locs hH hS => ?_)
      refine lv_aload_n hx hb dX7_put_65 rfl (lv_at hl 0 rfl) ?_
      refine lv_aload_n hx hb dX7_put_66 rfl (lv_at hl 0 rfl) ?_
      obtain ⟨r_26, e_26, hF⟩ := bnd hF
      refine m_gR X hH e_26 gg_X7_15 dX7_put_67 ?_
      obtain ⟨x_27, e_27, hF⟩ := bnd hF
      refine m_lnT X hH e_27 dX7_put_70 ?_
      refine lv_iconst (v := (1 : Int32)) hx hb dX7_put_71 (by decide) ?_
      refine lv_isub hx hb dX7_put_72 ?_
      obtain ⟨w_28, e_28, hF⟩ := bnd hF
      refine m_pI X hH hS e_28 gp_X7_22 rfl rfl dX7_put_73 (fun H locs hH hS => ?_)
      refine lv_aload_n hx hb dX7_put_76 rfl (lv_at hl 0 rfl) ?_
      obtain ⟨r_29, e_29, hF⟩ := bnd hF
      refine m_gR X hH e_29 gg_X7_15 dX7_put_77 ?_
      refine lv_aload_n hx hb dX7_put_80 rfl (lv_at hl 0 rfl) ?_
      obtain ⟨x_30, e_30, hF⟩ := bnd hF
      refine m_gI X hH e_30 gg_X7_22 dX7_put_81 ?_
      obtain ⟨r_31, e_31, hF⟩ := bnd hF
      refine m_rdT X hH e_31 dX7_put_84 ?_
      refine lv_aload_n hx hb dX7_put_85 rfl (lv_at hl 1 rfl) ?_
      obtain ⟨u_32, ou_32, hF⟩ := bnd hF
      obtain ⟨q_33, e_33, hF⟩ := bnd hF
      refine m_callV (As := [.ref (base + p1)]) (rest := []) X hH hS hl.1 ou_32 rfl (by decide) (k_X10_copy l D cI cT cII base r_31 p1 w_28 q_33 e_33) q_X10_copy kw_617 kw_441 kw_442 rfl rfl (Nat.le_of_ble_eq_true rfl) ⟨by decide, by decide⟩ hc dX7_put_86 (fun H locs hH hS => W.eq (g2 := F0 m 89 ls []) rfl ?_)
      refine lv_aload_n hx hb dX7_put_89 rfl (lv_at hl 0 rfl) ?_
      refine lv_dup hx hb dX7_put_90 rfl ?_
      obtain ⟨x_34, e_34, hF⟩ := bnd hF
      refine m_gI X hH e_34 gg_X7_22 dX7_put_91 ?_
      refine lv_iconst (v := (1 : Int32)) hx hb dX7_put_94 (by decide) ?_
      refine lv_iadd hx hb dX7_put_95 ?_
      obtain ⟨w_35, e_35, hF⟩ := bnd hF
      refine m_pI X hH hS e_35 gp_X7_22 rfl rfl dX7_put_96 (fun H locs hH hS => ?_)
      have hF := Option.some.inj hF
      subst hF
      exact m_vret X hr hlk hH hS dX7_put_99
end M03
