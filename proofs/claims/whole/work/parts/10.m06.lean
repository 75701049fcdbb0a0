section M06
variable {p : Program} {l : Launch} {e : Env} {R : Room} {s : State} {m : MethodId} {args : Array Value} {below : List Frame} {meth : Method} {c : Code} {cells slots : Nat} {Q : State → Prop} {D : va_G} {cI cT cII : ClassId} {base : Nat}
noncomputable def fX11_write (p0 : Nat) (v1 : Int32) (w : Wd) : Option (Int32 × Wd) := if v1 < (32 : Int32) then some ((-1 : Int32), w) else if v1 ≤ (126 : Int32) then (gfR 10 0 p0 w).bind fun r_3 => (isO 8 r_3 w).bind fun u_4 => (fX9_add r_3 v1 w).bind fun q_5 => if q_5.1 = 0 then some ((-3 : Int32), q_5.2) else (gfR 10 0 p0 q_5.2).bind fun r_7 => (gfI 8 1 r_7 q_5.2).bind fun x_8 => some (x_8, q_5.2) else some ((-1 : Int32), w)
set_option maxHeartbeats 4000000 in
set_option maxRecDepth 100000 in
theorem k_X11_write (l : Launch) (D : va_G) (cI cT cII : ClassId) (base : Nat) (p0 : Nat) (v1 : Int32) (w : Wd) (res : Int32 × Wd) (hF : fX11_write p0 v1 w = some res) : Ct l yX11_write cX11_write 2 (some .int) { frames := 1, cells := 0, slots := 0, locals := 21 } D cI cT cII base [.ref (base + p0), .int v1] w res.2 (some (.int res.1)) 0 0 := by
  unfold fX11_write at hF
  refine m_enter (by decide) (Nat.le_of_ble_eq_true rfl) ?_
  intro p e s m below meth c ls X hr hlk hnm hH hS hl
  have hx := X.1
  have hb := X.2.1
  have hc : (0 : Nat) ≤ ({ frames := 1, cells := 0, slots := 0, locals := 21 } : Room).cells ∧ (0 : Nat) ≤ ({ frames := 1, cells := 0, slots := 0, locals := 21 } : Room).slots := ⟨Nat.zero_le _, Nat.zero_le _⟩
  obtain ⟨H, hHe⟩ : ∃ H : Heap, H = s.heap := ⟨_, rfl⟩
  obtain ⟨locs, hle⟩ : ∃ L : List Loc, L = [] := ⟨_, rfl⟩
  have hl : lv_has ls 2 [(0, .ref (base + p0)), (1, .int v1)] := hl
  rw [← hHe] at hH
  have hS : va_S (fun q => base ≤ q) s.heap H locs := by rw [hHe, hle]; exact hS
  rw [← hle]
  show W p l e _ s m _ below meth c s.heap locs 0 0 _ _
  rw [← hHe]
  refine lv_iload_n hx hb dX11_write_0 rfl (lv_at hl 1 rfl) ?_
  refine lv_bipush (v := (32 : Int32)) hx hb dX11_write_1 (by decide) ?_
  refine lv_icmp_lt (tgt := 12) hx hb dX11_write_3 (by decide) (fun c_1 => ?_) (fun c_1 => ?_)
  · replace hF := itt c_1 hF
    refine lv_iconst (v := (-1 : Int32)) hx hb dX11_write_12 (by decide) ?_
    have hF := Option.some.inj hF
    subst hF
    exact m_iret X hr hlk hH hS dX11_write_13
  · replace hF := itf c_1 hF
    refine lv_iload_n hx hb dX11_write_6 rfl (lv_at hl 1 rfl) ?_
    refine lv_bipush (v := (126 : Int32)) hx hb dX11_write_7 (by decide) ?_
    refine lv_icmp_le (tgt := 14) hx hb dX11_write_9 (by decide) (fun c_2 => ?_) (fun c_2 => ?_)
    · replace hF := itt c_2 hF
      refine lv_aload_n hx hb dX11_write_14 rfl (lv_at hl 0 rfl) ?_
      obtain ⟨r_3, e_3, hF⟩ := bnd hF
      refine m_gR X hH e_3 gg_X11_10 dX11_write_15 ?_
      refine lv_iload_n hx hb dX11_write_18 rfl (lv_at hl 1 rfl) ?_
      obtain ⟨u_4, ou_4, hF⟩ := bnd hF
      obtain ⟨q_5, e_5, hF⟩ := bnd hF
      refine m_callV (As := [.int v1]) (rest := []) X hH hS hl.1 ou_4 rfl (by decide) (k_X9_add l D cI cT cII base r_3 v1 w q_5 e_5) q_X9_add kw_370 kw_371 kw_372 rfl rfl (Nat.le_of_ble_eq_true rfl) ⟨by decide, by decide⟩ hc dX11_write_19 (fun H locs hH hS => W.eq (g2 := F0 m 22 ls [.int q_5.1]) rfl ?_)
      refine lv_if_eq (tgt := 35) hx hb dX11_write_22 (by decide) (fun c_6 => ?_) (fun c_6 => ?_)
      · replace hF := itt c_6 hF
        refine lv_bipush (v := (-3 : Int32)) hx hb dX11_write_35 (by decide) ?_
        have hF := Option.some.inj hF
        subst hF
        exact m_iret X hr hlk hH hS dX11_write_37
      · replace hF := itf c_6 hF
        refine lv_aload_n hx hb dX11_write_25 rfl (lv_at hl 0 rfl) ?_
        obtain ⟨r_7, e_7, hF⟩ := bnd hF
        refine m_gR X hH e_7 gg_X11_10 dX11_write_26 ?_
        obtain ⟨x_8, e_8, hF⟩ := bnd hF
        refine m_hI X hH e_8 gg_X11_113 dX11_write_29 ?_
        refine lv_goto (tgt := 37) hx hb dX11_write_32 (by decide) ?_
        have hF := Option.some.inj hF
        subst hF
        exact m_iret X hr hlk hH hS dX11_write_37
    · replace hF := itf c_2 hF
      refine lv_iconst (v := (-1 : Int32)) hx hb dX11_write_12 (by decide) ?_
      have hF := Option.some.inj hF
      subst hF
      exact m_iret X hr hlk hH hS dX11_write_13
noncomputable def fX12_has (v0 : Int32) (v1 : Int32) (w : Wd) : Option (Int32 × Wd) := if ((v0 >>> (v1 &&& 31)) &&& (1 : Int32)) = (1 : Int32) then some ((1 : Int32), w) else some ((0 : Int32), w)
set_option maxHeartbeats 4000000 in
set_option maxRecDepth 100000 in
theorem k_X12_has (l : Launch) (D : va_G) (cI cT cII : ClassId) (base : Nat) (v0 : Int32) (v1 : Int32) (w : Wd) (res : Int32 × Wd) (hF : fX12_has v0 v1 w = some res) : Ct l yX12_has cX12_has 2 (some .boolean) { frames := 0, cells := 0, slots := 0, locals := 0 } D cI cT cII base [.int v0, .int v1] w res.2 (some (.int res.1)) 0 0 := by
  unfold fX12_has at hF
  refine m_enter (by decide) (Nat.le_of_ble_eq_true rfl) ?_
  intro p e s m below meth c ls X hr hlk hnm hH hS hl
  have hx := X.1
  have hb := X.2.1
  have hc : (0 : Nat) ≤ ({ frames := 0, cells := 0, slots := 0, locals := 0 } : Room).cells ∧ (0 : Nat) ≤ ({ frames := 0, cells := 0, slots := 0, locals := 0 } : Room).slots := ⟨Nat.zero_le _, Nat.zero_le _⟩
  obtain ⟨H, hHe⟩ : ∃ H : Heap, H = s.heap := ⟨_, rfl⟩
  obtain ⟨locs, hle⟩ : ∃ L : List Loc, L = [] := ⟨_, rfl⟩
  have hl : lv_has ls 2 [(0, .int v0), (1, .int v1)] := hl
  rw [← hHe] at hH
  have hS : va_S (fun q => base ≤ q) s.heap H locs := by rw [hHe, hle]; exact hS
  rw [← hle]
  show W p l e _ s m _ below meth c s.heap locs 0 0 _ _
  rw [← hHe]
  refine lv_iload_n hx hb dX12_has_0 rfl (lv_at hl 0 rfl) ?_
  refine lv_iload_n hx hb dX12_has_1 rfl (lv_at hl 1 rfl) ?_
  refine lv_ishr hx hb dX12_has_2 ?_
  refine lv_iconst (v := (1 : Int32)) hx hb dX12_has_3 (by decide) ?_
  refine lv_iand hx hb dX12_has_4 ?_
  refine lv_iconst (v := (1 : Int32)) hx hb dX12_has_5 (by decide) ?_
  refine lv_icmp_ne (tgt := 13) hx hb dX12_has_6 (by decide) (fun c_1 => ?_) (fun c_1 => ?_)
  · replace hF := itf c_1 hF
    refine lv_iconst (v := (0 : Int32)) hx hb dX12_has_13 (by decide) ?_
    have hF := Option.some.inj hF
    subst hF
    exact m_zret (r := (0 : Int32)) X hr hlk (by decide) hH hS dX12_has_14
  · replace hF := itt c_1 hF
    refine lv_iconst (v := (1 : Int32)) hx hb dX12_has_9 (by decide) ?_
    refine lv_goto (tgt := 14) hx hb dX12_has_10 (by decide) ?_
    have hF := Option.some.inj hF
    subst hF
    exact m_zret (r := (1 : Int32)) X hr hlk (by decide) hH hS dX12_has_14
noncomputable def fX12_size (v0 : Int32) (w : Wd) : Option (Int32 × Wd) := if 0 ≤ v0 then some (v0, w) else some (-v0, w)
set_option maxHeartbeats 4000000 in
set_option maxRecDepth 100000 in
theorem k_X12_size (l : Launch) (D : va_G) (cI cT cII : ClassId) (base : Nat) (v0 : Int32) (w : Wd) (res : Int32 × Wd) (hF : fX12_size v0 w = some res) : Ct l yX12_size cX12_size 1 (some .int) { frames := 0, cells := 0, slots := 0, locals := 0 } D cI cT cII base [.int v0] w res.2 (some (.int res.1)) 0 0 := by
  unfold fX12_size at hF
  refine m_enter (by decide) (Nat.le_of_ble_eq_true rfl) ?_
  intro p e s m below meth c ls X hr hlk hnm hH hS hl
  have hx := X.1
  have hb := X.2.1
  have hc : (0 : Nat) ≤ ({ frames := 0, cells := 0, slots := 0, locals := 0 } : Room).cells ∧ (0 : Nat) ≤ ({ frames := 0, cells := 0, slots := 0, locals := 0 } : Room).slots := ⟨Nat.zero_le _, Nat.zero_le _⟩
  obtain ⟨H, hHe⟩ : ∃ H : Heap, H = s.heap := ⟨_, rfl⟩
  obtain ⟨locs, hle⟩ : ∃ L : List Loc, L = [] := ⟨_, rfl⟩
  have hl : lv_has ls 1 [(0, .int v0)] := hl
  rw [← hHe] at hH
  have hS : va_S (fun q => base ≤ q) s.heap H locs := by rw [hHe, hle]; exact hS
  rw [← hle]
  show W p l e _ s m _ below meth c s.heap locs 0 0 _ _
  rw [← hHe]
  refine lv_iload_n hx hb dX12_size_0 rfl (lv_at hl 0 rfl) ?_
  refine lv_if_ge (tgt := 9) hx hb dX12_size_1 (by decide) (fun c_1 => ?_) (fun c_1 => ?_)
  · replace hF := itt c_1 hF
    refine lv_iload_n hx hb dX12_size_9 rfl (lv_at hl 0 rfl) ?_
    have hF := Option.some.inj hF
    subst hF
    exact m_iret X hr hlk hH hS dX12_size_10
  · replace hF := itf c_1 hF
    refine lv_iload_n hx hb dX12_size_4 rfl (lv_at hl 0 rfl) ?_
    refine lv_ineg hx hb dX12_size_5 ?_
    refine lv_goto (tgt := 10) hx hb dX12_size_6 (by decide) ?_
    have hF := Option.some.inj hF
    subst hF
    exact m_iret X hr hlk hH hS dX12_size_10
noncomputable def fX12_madeOf (v0 : Int32) (v1 : Int32) (v2 : Int32) (w : Wd) : Option (Int32 × Wd) := (fX12_size v2 w).bind fun q_1 => if v0 = (3 : Int32) then if ((2 : Int32) * v1) < q_1.1 then if v0 = (0 : Int32) then some ((0 : Int32), q_1.2) else if v0 = (1 : Int32) then (dvI v2 (2 : Int32)).bind fun x_14 => some (x_14, q_1.2) else if v0 = (2 : Int32) then (dvI v2 (2 : Int32)).bind fun x_15 => some (-x_15, q_1.2) else if 0 ≤ v2 then some (v1, q_1.2) else some (-v1, q_1.2) else some (v2, q_1.2) else if v1 < q_1.1 then if v0 = (0 : Int32) then some ((0 : Int32), q_1.2) else if v0 = (1 : Int32) then (dvI v2 (2 : Int32)).bind fun x_7 => some (x_7, q_1.2) else if v0 = (2 : Int32) then (dvI v2 (2 : Int32)).bind fun x_8 => some (-x_8, q_1.2) else if 0 ≤ v2 then some (v1, q_1.2) else some (-v1, q_1.2) else some (v2, q_1.2)
set_option maxHeartbeats 4000000 in
set_option maxRecDepth 100000 in
theorem k_X12_madeOf (l : Launch) (D : va_G) (cI cT cII : ClassId) (base : Nat) (v0 : Int32) (v1 : Int32) (v2 : Int32) (w : Wd) (res : Int32 × Wd) (hF : fX12_madeOf v0 v1 v2 w = some res) : Ct l yX12_madeOf cX12_madeOf 3 (some .int) { frames := 1, cells := 0, slots := 0, locals := 20 } D cI cT cII base [.int v0, .int v1, .int v2] w res.2 (some (.int res.1)) 0 0 := by
  unfold fX12_madeOf at hF
  refine m_enter (by decide) (Nat.le_of_ble_eq_true rfl) ?_
  intro p e s m below meth c ls X hr hlk hnm hH hS hl
  have hx := X.1
  have hb := X.2.1
  have hc : (0 : Nat) ≤ ({ frames := 1, cells := 0, slots := 0, locals := 20 } : Room).cells ∧ (0 : Nat) ≤ ({ frames := 1, cells := 0, slots := 0, locals := 20 } : Room).slots := ⟨Nat.zero_le _, Nat.zero_le _⟩
  obtain ⟨H, hHe⟩ : ∃ H : Heap, H = s.heap := ⟨_, rfl⟩
  obtain ⟨locs, hle⟩ : ∃ L : List Loc, L = [] := ⟨_, rfl⟩
  have hl : lv_has ls 3 [(0, .int v0), (1, .int v1), (2, .int v2)] := hl
  rw [← hHe] at hH
  have hS : va_S (fun q => base ≤ q) s.heap H locs := by rw [hHe, hle]; exact hS
  rw [← hle]
  show W p l e _ s m _ below meth c s.heap locs 0 0 _ _
  rw [← hHe]
  refine lv_iload_n hx hb dX12_madeOf_0 rfl (lv_at hl 2 rfl) ?_
  obtain ⟨q_1, e_1, hF⟩ := bnd hF
  refine m_callS (As := [.int v2]) (rest := []) X hH hS hl.1 (k_X12_size l D cI cT cII base v2 w q_1 e_1) q_X12_size kw_1077 kw_1078 rfl rfl (Nat.le_of_ble_eq_true rfl) ⟨by decide, by decide⟩ hc dX12_madeOf_1 (fun H locs hH hS => W.eq (g2 := F0 m 4 ls [.int q_1.1]) rfl ?_)
  refine lv_iload_n hx hb dX12_madeOf_4 rfl (lv_at hl 0 rfl) ?_
  refine lv_iconst (v := (3 : Int32)) hx hb dX12_madeOf_5 (by decide) ?_
  refine lv_icmp_ne (tgt := 15) hx hb dX12_madeOf_6 (by decide) (fun c_2 => ?_) (fun c_2 => ?_)
  · replace hF := itf c_2 hF
    refine lv_iload_n hx hb dX12_madeOf_15 rfl (lv_at hl 1 rfl) ?_
    refine lv_icmp_gt (tgt := 21) hx hb dX12_madeOf_16 (by decide) (fun c_3 => ?_) (fun c_3 => ?_)
    · replace hF := itt c_3 hF
      refine lv_iload_n hx hb dX12_madeOf_21 rfl (lv_at hl 0 rfl) ?_
      by_cases c_4 : v0 = (0 : Int32)
      · replace hF := itt c_4 hF
        refine lv_tableIn (tgt := 48) hx hb dX12_madeOf_22 (by rw [c_4]; decide) (by rw [c_4]; decide) (by rw [c_4]; rfl) (by decide) ?_
        refine lv_iconst (v := (0 : Int32)) hx hb dX12_madeOf_48 (by decide) ?_
        have hF := Option.some.inj hF
        subst hF
        exact m_iret X hr hlk hH hS dX12_madeOf_49
      · replace hF := itf c_4 hF
        by_cases c_5 : v0 = (1 : Int32)
        · replace hF := itt c_5 hF
          refine lv_tableIn (tgt := 50) hx hb dX12_madeOf_22 (by rw [c_5]; decide) (by rw [c_5]; decide) (by rw [c_5]; rfl) (by decide) ?_
          refine lv_iload_n hx hb dX12_madeOf_50 rfl (lv_at hl 2 rfl) ?_
          refine lv_iconst (v := (2 : Int32)) hx hb dX12_madeOf_51 (by decide) ?_
          obtain ⟨x_7, e_7, hF⟩ := bnd hF
          refine m_idiv X e_7 dX12_madeOf_52 ?_
          have hF := Option.some.inj hF
          subst hF
          exact m_iret X hr hlk hH hS dX12_madeOf_53
        · replace hF := itf c_5 hF
          by_cases c_6 : v0 = (2 : Int32)
          · replace hF := itt c_6 hF
            refine lv_tableIn (tgt := 54) hx hb dX12_madeOf_22 (by rw [c_6]; decide) (by rw [c_6]; decide) (by rw [c_6]; rfl) (by decide) ?_
            refine lv_iload_n hx hb dX12_madeOf_54 rfl (lv_at hl 2 rfl) ?_
            refine lv_iconst (v := (2 : Int32)) hx hb dX12_madeOf_55 (by decide) ?_
            obtain ⟨x_8, e_8, hF⟩ := bnd hF
            refine m_idiv X e_8 dX12_madeOf_56 ?_
            refine lv_ineg hx hb dX12_madeOf_57 ?_
            have hF := Option.some.inj hF
            subst hF
            exact m_iret X hr hlk hH hS dX12_madeOf_58
          · replace hF := itf c_6 hF
            have z_c_4 := lv_neT c_4 (show Int32.toInt (0 : Int32) = 0 by decide)
            have z_c_5 := lv_neT c_5 (show Int32.toInt (1 : Int32) = 1 by decide)
            have z_c_6 := lv_neT c_6 (show Int32.toInt (2 : Int32) = 2 by decide)
            refine lv_tableOut (tgt := 59) hx hb dX12_madeOf_22 (by omega) (by decide) ?_
            refine lv_iload_n hx hb dX12_madeOf_59 rfl (lv_at hl 2 rfl) ?_
            refine lv_if_ge (tgt := 68) hx hb dX12_madeOf_60 (by decide) (fun c_9 => ?_) (fun c_9 => ?_)
            · replace hF := itt c_9 hF
              refine lv_iload_n hx hb dX12_madeOf_68 rfl (lv_at hl 1 rfl) ?_
              have hF := Option.some.inj hF
              subst hF
              exact m_iret X hr hlk hH hS dX12_madeOf_69
            · replace hF := itf c_9 hF
              refine lv_iload_n hx hb dX12_madeOf_63 rfl (lv_at hl 1 rfl) ?_
              refine lv_ineg hx hb dX12_madeOf_64 ?_
              refine lv_goto (tgt := 69) hx hb dX12_madeOf_65 (by decide) ?_
              have hF := Option.some.inj hF
              subst hF
              exact m_iret X hr hlk hH hS dX12_madeOf_69
    · replace hF := itf c_3 hF
      refine lv_iload_n hx hb dX12_madeOf_19 rfl (lv_at hl 2 rfl) ?_
      have hF := Option.some.inj hF
      subst hF
      exact m_iret X hr hlk hH hS dX12_madeOf_20
  · replace hF := itt c_2 hF
    refine lv_iconst (v := (2 : Int32)) hx hb dX12_madeOf_9 (by decide) ?_
    refine lv_iload_n hx hb dX12_madeOf_10 rfl (lv_at hl 1 rfl) ?_
    refine lv_imul hx hb dX12_madeOf_11 ?_
    refine lv_goto (tgt := 16) hx hb dX12_madeOf_12 (by decide) ?_
    refine lv_icmp_gt (tgt := 21) hx hb dX12_madeOf_16 (by decide) (fun c_10 => ?_) (fun c_10 => ?_)
    · replace hF := itt c_10 hF
      refine lv_iload_n hx hb dX12_madeOf_21 rfl (lv_at hl 0 rfl) ?_
      by_cases c_11 : v0 = (0 : Int32)
      · replace hF := itt c_11 hF
        refine lv_tableIn (tgt := 48) hx hb dX12_madeOf_22 (by rw [c_11]; decide) (by rw [c_11]; decide) (by rw [c_11]; rfl) (by decide) ?_
        refine lv_iconst (v := (0 : Int32)) hx hb dX12_madeOf_48 (by decide) ?_
        have hF := Option.some.inj hF
        subst hF
        exact m_iret X hr hlk hH hS dX12_madeOf_49
      · replace hF := itf c_11 hF
        by_cases c_12 : v0 = (1 : Int32)
        · replace hF := itt c_12 hF
          refine lv_tableIn (tgt := 50) hx hb dX12_madeOf_22 (by rw [c_12]; decide) (by rw [c_12]; decide) (by rw [c_12]; rfl) (by decide) ?_
          refine lv_iload_n hx hb dX12_madeOf_50 rfl (lv_at hl 2 rfl) ?_
          refine lv_iconst (v := (2 : Int32)) hx hb dX12_madeOf_51 (by decide) ?_
          obtain ⟨x_14, e_14, hF⟩ := bnd hF
          refine m_idiv X e_14 dX12_madeOf_52 ?_
          have hF := Option.some.inj hF
          subst hF
          exact m_iret X hr hlk hH hS dX12_madeOf_53
        · replace hF := itf c_12 hF
          by_cases c_13 : v0 = (2 : Int32)
          · replace hF := itt c_13 hF
            refine lv_tableIn (tgt := 54) hx hb dX12_madeOf_22 (by rw [c_13]; decide) (by rw [c_13]; decide) (by rw [c_13]; rfl) (by decide) ?_
            refine lv_iload_n hx hb dX12_madeOf_54 rfl (lv_at hl 2 rfl) ?_
            refine lv_iconst (v := (2 : Int32)) hx hb dX12_madeOf_55 (by decide) ?_
            obtain ⟨x_15, e_15, hF⟩ := bnd hF
            refine m_idiv X e_15 dX12_madeOf_56 ?_
            refine lv_ineg hx hb dX12_madeOf_57 ?_
            have hF := Option.some.inj hF
            subst hF
            exact m_iret X hr hlk hH hS dX12_madeOf_58
          · replace hF := itf c_13 hF
            have z_c_11 := lv_neT c_11 (show Int32.toInt (0 : Int32) = 0 by decide)
            have z_c_12 := lv_neT c_12 (show Int32.toInt (1 : Int32) = 1 by decide)
            have z_c_13 := lv_neT c_13 (show Int32.toInt (2 : Int32) = 2 by decide)
            refine lv_tableOut (tgt := 59) hx hb dX12_madeOf_22 (by omega) (by decide) ?_
            refine lv_iload_n hx hb dX12_madeOf_59 rfl (lv_at hl 2 rfl) ?_
            refine lv_if_ge (tgt := 68) hx hb dX12_madeOf_60 (by decide) (fun c_16 => ?_) (fun c_16 => ?_)
            · replace hF := itt c_16 hF
              refine lv_iload_n hx hb dX12_madeOf_68 rfl (lv_at hl 1 rfl) ?_
              have hF := Option.some.inj hF
              subst hF
              exact m_iret X hr hlk hH hS dX12_madeOf_69
            · replace hF := itf c_16 hF
              refine lv_iload_n hx hb dX12_madeOf_63 rfl (lv_at hl 1 rfl) ?_
              refine lv_ineg hx hb dX12_madeOf_64 ?_
              refine lv_goto (tgt := 69) hx hb dX12_madeOf_65 (by decide) ?_
              have hF := Option.some.inj hF
              subst hF
              exact m_iret X hr hlk hH hS dX12_madeOf_69
    · replace hF := itf c_10 hF
      refine lv_iload_n hx hb dX12_madeOf_19 rfl (lv_at hl 2 rfl) ?_
      have hF := Option.some.inj hF
      subst hF
      exact m_iret X hr hlk hH hS dX12_madeOf_20
noncomputable def fX12_alike_18 (v0 : Int32) (v1 : Int32) (v2 : Int32) (v3 : Int32) (v4 : Int32) (K_76 : Int32 → Wd → Option (Int32 × Wd)) : Nat → Int32 → Int32 → Wd → Option (Int32 × Wd)
  | 0, _, _, _ => none
  | n + 1, v5, v6, w => if (20 : Int32) < v6 then K_76 v5 w else (fX12_has v0 v4 w).bind fun q_3 => if q_3.1 = 0 then fX12_alike_18 v0 v1 v2 v3 v4 K_76 n (v5 + (0 : Int32)) (v6 + (1 : Int32)) q_3.2 else (fX12_has v0 v6 q_3.2).bind fun q_5 => if q_5.1 = 0 then fX12_alike_18 v0 v1 v2 v3 v4 K_76 n (v5 + (0 : Int32)) (v6 + (1 : Int32)) q_5.2 else (fX12_madeOf v1 v4 v2 q_5.2).bind fun q_7 => (fX12_madeOf v1 v6 v2 q_7.2).bind fun q_8 => if q_7.1 = q_8.1 then fX12_alike_18 v0 v1 v2 v3 v4 K_76 n (v5 + (1 : Int32)) (v6 + (1 : Int32)) q_8.2 else fX12_alike_18 v0 v1 v2 v3 v4 K_76 n (v5 + (0 : Int32)) (v6 + (1 : Int32)) q_8.2
noncomputable def fX12_alike_5 (v0 : Int32) (v1 : Int32) (v2 : Int32) (K_95 : Int32 → Wd → Option (Int32 × Wd)) : Nat → Int32 → Int32 → Wd → Option (Int32 × Wd)
  | 0, _, _, _ => none
  | n + 1, v3, v4, w => if (20 : Int32) < v4 then K_95 v3 w else fX12_alike_18 v0 v1 v2 v3 v4 (fun (v5_11 : Int32) (w_10 : Wd) => if v5_11 ≤ v3 then fX12_alike_5 v0 v1 v2 K_95 n v3 (v4 + (1 : Int32)) w_10 else fX12_alike_5 v0 v1 v2 K_95 n v5_11 (v4 + (1 : Int32)) w_10) FV (0 : Int32) (0 : Int32) w
noncomputable def fX12_alike (v0 : Int32) (v1 : Int32) (v2 : Int32) (w : Wd) : Option (Int32 × Wd) := fX12_alike_5 v0 v1 v2 (fun (v3_14 : Int32) (w_13 : Wd) => some (v3_14, w_13)) FV (0 : Int32) (0 : Int32) w
set_option maxHeartbeats 4000000 in
set_option maxRecDepth 100000 in
theorem l_X12_alike_18 (X : Cx p R s m args c cX12_alike 7 RX12 D cI cT cII 2 42) (hc : cells ≤ R.cells ∧ slots ≤ R.slots) (v0 : Int32) (v1 : Int32) (v2 : Int32) (v3 : Int32) (v4 : Int32) (K_76 : Int32 → Wd → Option (Int32 × Wd)) (res : Int32 × Wd)
    (hK_76 : ∀ (z5 : Int32) (w : Wd), K_76 z5 w = some res → ∀ (H : Heap) (locs : List Loc) (ls : Array Slot), Hd D cI cT cII base w H → va_S (fun q => base ≤ q) s.heap H locs → lv_has ls 7 [(0, .int v0), (1, .int v1), (2, .int v2), (3, .int v3), (4, .int v4), (5, .int z5)] → W p l e R s m args below meth c H locs cells slots Q (F0 m 76 ls [])) :
    ∀ (n : Nat) (v5 : Int32) (v6 : Int32) (w : Wd), fX12_alike_18 v0 v1 v2 v3 v4 K_76 n v5 v6 w = some res → ∀ (H : Heap) (locs : List Loc) (ls : Array Slot), Hd D cI cT cII base w H → va_S (fun q => base ≤ q) s.heap H locs → lv_has ls 7 [(0, .int v0), (1, .int v1), (2, .int v2), (3, .int v3), (4, .int v4), (5, .int v5), (6, .int v6)] → W p l e R s m args below meth c H locs cells slots Q (F0 m 18 ls []) := by
  have hx := X.1
  have hb := X.2.1
  intro n
  induction n with
  | zero =>
    intro v5 v6 w hF
    rw [fX12_alike_18] at hF
    cases hF
  | succ n ih =>
    intro v5 v6 w hF H locs ls hH hS hl
    rw [fX12_alike_18] at hF
    refine lv_iload hx hb dX12_alike_18 (lv_at hl 6 rfl) ?_
    refine lv_bipush (v := (20 : Int32)) hx hb dX12_alike_20 (by decide) ?_
    refine lv_icmp_gt (tgt := 76) hx hb dX12_alike_22 (by decide) (fun c_2 => ?_) (fun c_2 => ?_)
    · replace hF := itt c_2 hF
      exact hK_76 v5 w hF H locs ls hH hS (lv_sub hl [0, 1, 2, 3, 4, 5] rfl)
    · replace hF := itf c_2 hF
      refine lv_iload hx hb dX12_alike_25 (lv_at hl 5 rfl) ?_
      refine lv_iload_n hx hb dX12_alike_27 rfl (lv_at hl 0 rfl) ?_
      refine lv_iload hx hb dX12_alike_28 (lv_at hl 4 rfl) ?_
      obtain ⟨q_3, e_3, hF⟩ := bnd hF
      refine m_callS (As := [.int v0, .int v4]) (rest := [.int v5]) X hH hS hl.1 (k_X12_has l D cI cT cII base v0 v4 w q_3 e_3) q_X12_has kw_1067 kw_1068 rfl rfl (Nat.le_of_ble_eq_true rfl) ⟨by decide, by decide⟩ hc dX12_alike_30 (fun H locs hH hS => W.eq (g2 := F0 m 33 ls [.int q_3.1, .int v5]) rfl ?_)
      refine lv_if_eq (tgt := 66) hx hb dX12_alike_33 (by decide) (fun c_4 => ?_) (fun c_4 => ?_)
      · replace hF := itt c_4 hF
        refine lv_iconst (v := (0 : Int32)) hx hb dX12_alike_66 (by decide) ?_
        refine lv_iadd hx hb dX12_alike_67 ?_
        refine lv_istore (lv' := [(5, .int (v5 + (0 : Int32))), (0, .int v0), (1, .int v1), (2, .int v2), (3, .int v3), (4, .int v4), (6, .int v6)]) hx hb dX12_alike_68 hl (by decide) rfl (fun ls hl => ?_)
        refine lv_iinc (v := v6 + (1 : Int32)) (lv' := [(6, .int (v6 + (1 : Int32))), (5, .int (v5 + (0 : Int32))), (0, .int v0), (1, .int v1), (2, .int v2), (3, .int v3), (4, .int v4)]) hx hb dX12_alike_70 hl (k := 6) rfl (congrArg (fun z => v6 + z) (by decide)) (by decide) rfl (fun ls hl => ?_)
        refine lv_goto (tgt := 18) hx hb dX12_alike_73 (by decide) ?_
        exact ih (v5 + (0 : Int32)) (v6 + (1 : Int32)) q_3.2 hF H locs ls hH hS (lv_sub hl [2, 3, 4, 5, 6, 1, 0] rfl)
      · replace hF := itf c_4 hF
        refine lv_iload_n hx hb dX12_alike_36 rfl (lv_at hl 0 rfl) ?_
        refine lv_iload hx hb dX12_alike_37 (lv_at hl 6 rfl) ?_
        obtain ⟨q_5, e_5, hF⟩ := bnd hF
        refine m_callS (As := [.int v0, .int v6]) (rest := [.int v5]) X hH hS hl.1 (k_X12_has l D cI cT cII base v0 v6 q_3.2 q_5 e_5) q_X12_has kw_1067 kw_1068 rfl rfl (Nat.le_of_ble_eq_true rfl) ⟨by decide, by decide⟩ hc dX12_alike_39 (fun H locs hH hS => W.eq (g2 := F0 m 42 ls [.int q_5.1, .int v5]) rfl ?_)
        refine lv_if_eq (tgt := 66) hx hb dX12_alike_42 (by decide) (fun c_6 => ?_) (fun c_6 => ?_)
        · replace hF := itt c_6 hF
          refine lv_iconst (v := (0 : Int32)) hx hb dX12_alike_66 (by decide) ?_
          refine lv_iadd hx hb dX12_alike_67 ?_
          refine lv_istore (lv' := [(5, .int (v5 + (0 : Int32))), (0, .int v0), (1, .int v1), (2, .int v2), (3, .int v3), (4, .int v4), (6, .int v6)]) hx hb dX12_alike_68 hl (by decide) rfl (fun ls hl => ?_)
          refine lv_iinc (v := v6 + (1 : Int32)) (lv' := [(6, .int (v6 + (1 : Int32))), (5, .int (v5 + (0 : Int32))), (0, .int v0), (1, .int v1), (2, .int v2), (3, .int v3), (4, .int v4)]) hx hb dX12_alike_70 hl (k := 6) rfl (congrArg (fun z => v6 + z) (by decide)) (by decide) rfl (fun ls hl => ?_)
          refine lv_goto (tgt := 18) hx hb dX12_alike_73 (by decide) ?_
          exact ih (v5 + (0 : Int32)) (v6 + (1 : Int32)) q_5.2 hF H locs ls hH hS (lv_sub hl [2, 3, 4, 5, 6, 1, 0] rfl)
        · replace hF := itf c_6 hF
          refine lv_iload_n hx hb dX12_alike_45 rfl (lv_at hl 1 rfl) ?_
          refine lv_iload hx hb dX12_alike_46 (lv_at hl 4 rfl) ?_
          refine lv_iload_n hx hb dX12_alike_48 rfl (lv_at hl 2 rfl) ?_
          obtain ⟨q_7, e_7, hF⟩ := bnd hF
          refine m_callS (As := [.int v1, .int v4, .int v2]) (rest := [.int v5]) X hH hS hl.1 (k_X12_madeOf l D cI cT cII base v1 v4 v2 q_5.2 q_7 e_7) q_X12_madeOf kw_1074 kw_1075 rfl rfl (Nat.le_of_ble_eq_true rfl) ⟨by decide, by decide⟩ hc dX12_alike_49 (fun H locs hH hS => W.eq (g2 := F0 m 52 ls [.int q_7.1, .int v5]) rfl ?_)
          refine lv_iload_n hx hb dX12_alike_52 rfl (lv_at hl 1 rfl) ?_
          refine lv_iload hx hb dX12_alike_53 (lv_at hl 6 rfl) ?_
          refine lv_iload_n hx hb dX12_alike_55 rfl (lv_at hl 2 rfl) ?_
          obtain ⟨q_8, e_8, hF⟩ := bnd hF
          refine m_callS (As := [.int v1, .int v6, .int v2]) (rest := [.int q_7.1, .int v5]) X hH hS hl.1 (k_X12_madeOf l D cI cT cII base v1 v6 v2 q_7.2 q_8 e_8) q_X12_madeOf kw_1074 kw_1075 rfl rfl (Nat.le_of_ble_eq_true rfl) ⟨by decide, by decide⟩ hc dX12_alike_56 (fun H locs hH hS => W.eq (g2 := F0 m 59 ls [.int q_8.1, .int q_7.1, .int v5]) rfl ?_)
          refine lv_icmp_ne (tgt := 66) hx hb dX12_alike_59 (by decide) (fun c_9 => ?_) (fun c_9 => ?_)
          · replace hF := itf c_9 hF
            refine lv_iconst (v := (0 : Int32)) hx hb dX12_alike_66 (by decide) ?_
            refine lv_iadd hx hb dX12_alike_67 ?_
            refine lv_istore (lv' := [(5, .int (v5 + (0 : Int32))), (0, .int v0), (1, .int v1), (2, .int v2), (3, .int v3), (4, .int v4), (6, .int v6)]) hx hb dX12_alike_68 hl (by decide) rfl (fun ls hl => ?_)
            refine lv_iinc (v := v6 + (1 : Int32)) (lv' := [(6, .int (v6 + (1 : Int32))), (5, .int (v5 + (0 : Int32))), (0, .int v0), (1, .int v1), (2, .int v2), (3, .int v3), (4, .int v4)]) hx hb dX12_alike_70 hl (k := 6) rfl (congrArg (fun z => v6 + z) (by decide)) (by decide) rfl (fun ls hl => ?_)
            refine lv_goto (tgt := 18) hx hb dX12_alike_73 (by decide) ?_
            exact ih (v5 + (0 : Int32)) (v6 + (1 : Int32)) q_8.2 hF H locs ls hH hS (lv_sub hl [2, 3, 4, 5, 6, 1, 0] rfl)
          · replace hF := itt c_9 hF
            refine lv_iconst (v := (1 : Int32)) hx hb dX12_alike_62 (by decide) ?_
            refine lv_goto (tgt := 67) hx hb dX12_alike_63 (by decide) ?_
            refine lv_iadd hx hb dX12_alike_67 ?_
            refine lv_istore (lv' := [(5, .int (v5 + (1 : Int32))), (0, .int v0), (1, .int v1), (2, .int v2), (3, .int v3), (4, .int v4), (6, .int v6)]) hx hb dX12_alike_68 hl (by decide) rfl (fun ls hl => ?_)
            refine lv_iinc (v := v6 + (1 : Int32)) (lv' := [(6, .int (v6 + (1 : Int32))), (5, .int (v5 + (1 : Int32))), (0, .int v0), (1, .int v1), (2, .int v2), (3, .int v3), (4, .int v4)]) hx hb dX12_alike_70 hl (k := 6) rfl (congrArg (fun z => v6 + z) (by decide)) (by decide) rfl (fun ls hl => ?_)
            refine lv_goto (tgt := 18) hx hb dX12_alike_73 (by decide) ?_
            exact ih (v5 + (1 : Int32)) (v6 + (1 : Int32)) q_8.2 hF H locs ls hH hS (lv_sub hl [2, 3, 4, 5, 6, 1, 0] rfl)
set_option maxHeartbeats 4000000 in
set_option maxRecDepth 100000 in
theorem l_X12_alike_5 (X : Cx p R s m args c cX12_alike 7 RX12 D cI cT cII 2 42) (hc : cells ≤ R.cells ∧ slots ≤ R.slots) (v0 : Int32) (v1 : Int32) (v2 : Int32) (K_95 : Int32 → Wd → Option (Int32 × Wd)) (res : Int32 × Wd)
    (hK_95 : ∀ (z3 : Int32) (w : Wd), K_95 z3 w = some res → ∀ (H : Heap) (locs : List Loc) (ls : Array Slot), Hd D cI cT cII base w H → va_S (fun q => base ≤ q) s.heap H locs → lv_has ls 7 [(3, .int z3)] → W p l e R s m args below meth c H locs cells slots Q (F0 m 95 ls [])) :
    ∀ (n : Nat) (v3 : Int32) (v4 : Int32) (w : Wd), fX12_alike_5 v0 v1 v2 K_95 n v3 v4 w = some res → ∀ (H : Heap) (locs : List Loc) (ls : Array Slot), Hd D cI cT cII base w H → va_S (fun q => base ≤ q) s.heap H locs → lv_has ls 7 [(0, .int v0), (1, .int v1), (2, .int v2), (3, .int v3), (4, .int v4)] → W p l e R s m args below meth c H locs cells slots Q (F0 m 5 ls []) := by
  have hx := X.1
  have hb := X.2.1
  intro n
  induction n with
  | zero =>
    intro v3 v4 w hF
    rw [fX12_alike_5] at hF
    cases hF
  | succ n ih =>
    intro v3 v4 w hF H locs ls hH hS hl
    rw [fX12_alike_5] at hF
    refine lv_iload hx hb dX12_alike_5 (lv_at hl 4 rfl) ?_
    refine lv_bipush (v := (20 : Int32)) hx hb dX12_alike_7 (by decide) ?_
    refine lv_icmp_gt (tgt := 95) hx hb dX12_alike_9 (by decide) (fun c_1 => ?_) (fun c_1 => ?_)
    · replace hF := itt c_1 hF
      exact hK_95 v3 w hF H locs ls hH hS (lv_sub hl [3] rfl)
    · replace hF := itf c_1 hF
      refine lv_iconst (v := (0 : Int32)) hx hb dX12_alike_12 (by decide) ?_
      refine lv_istore (lv' := [(5, .int (0 : Int32)), (0, .int v0), (1, .int v1), (2, .int v2), (3, .int v3), (4, .int v4)]) hx hb dX12_alike_13 hl (by decide) rfl (fun ls hl => ?_)
      refine lv_iconst (v := (0 : Int32)) hx hb dX12_alike_15 (by decide) ?_
      refine lv_istore (lv' := [(6, .int (0 : Int32)), (5, .int (0 : Int32)), (0, .int v0), (1, .int v1), (2, .int v2), (3, .int v3), (4, .int v4)]) hx hb dX12_alike_16 hl (by decide) rfl (fun ls hl => ?_)
      refine l_X12_alike_18 X hc v0 v1 v2 v3 v4 _ res ?_ FV (0 : Int32) (0 : Int32) w hF H locs ls hH hS (lv_sub hl [2, 3, 4, 5, 6, 1, 0] rfl)
      · intro v5_11 w_10 hF H locs ls hH hS hl
        refine lv_iload hx hb dX12_alike_76 (lv_at hl 5 rfl) ?_
        refine lv_iload_n hx hb dX12_alike_78 rfl (lv_at hl 3 rfl) ?_
        refine lv_icmp_le (tgt := 87) hx hb dX12_alike_79 (by decide) (fun c_12 => ?_) (fun c_12 => ?_)
        · replace hF := itt c_12 hF
          refine lv_iload_n hx hb dX12_alike_87 rfl (lv_at hl 3 rfl) ?_
          refine lv_istore_n (lv' := [(3, .int v3), (0, .int v0), (1, .int v1), (2, .int v2), (4, .int v4), (5, .int v5_11)]) hx hb dX12_alike_88 rfl hl (by decide) rfl (fun ls hl => ?_)
          refine lv_iinc (v := v4 + (1 : Int32)) (lv' := [(4, .int (v4 + (1 : Int32))), (3, .int v3), (0, .int v0), (1, .int v1), (2, .int v2), (5, .int v5_11)]) hx hb dX12_alike_89 hl (k := 4) rfl (congrArg (fun z => v4 + z) (by decide)) (by decide) rfl (fun ls hl => ?_)
          refine lv_goto (tgt := 5) hx hb dX12_alike_92 (by decide) ?_
          exact ih v3 (v4 + (1 : Int32)) w_10 hF H locs ls hH hS (lv_sub hl [2, 3, 4, 1, 0] rfl)
        · replace hF := itf c_12 hF
          refine lv_iload hx hb dX12_alike_82 (lv_at hl 5 rfl) ?_
          refine lv_goto (tgt := 88) hx hb dX12_alike_84 (by decide) ?_
          refine lv_istore_n (lv' := [(3, .int v5_11), (0, .int v0), (1, .int v1), (2, .int v2), (4, .int v4), (5, .int v5_11)]) hx hb dX12_alike_88 rfl hl (by decide) rfl (fun ls hl => ?_)
          refine lv_iinc (v := v4 + (1 : Int32)) (lv' := [(4, .int (v4 + (1 : Int32))), (3, .int v5_11), (0, .int v0), (1, .int v1), (2, .int v2), (5, .int v5_11)]) hx hb dX12_alike_89 hl (k := 4) rfl (congrArg (fun z => v4 + z) (by decide)) (by decide) rfl (fun ls hl => ?_)
          refine lv_goto (tgt := 5) hx hb dX12_alike_92 (by decide) ?_
          exact ih v5_11 (v4 + (1 : Int32)) w_10 hF H locs ls hH hS (lv_sub hl [2, 3, 4, 1, 0] rfl)
set_option maxHeartbeats 4000000 in
set_option maxRecDepth 100000 in
theorem k_X12_alike (l : Launch) (D : va_G) (cI cT cII : ClassId) (base : Nat) (v0 : Int32) (v1 : Int32) (v2 : Int32) (w : Wd) (res : Int32 × Wd) (hF : fX12_alike v0 v1 v2 w = some res) : Ct l yX12_alike cX12_alike 7 (some .int) { frames := 2, cells := 0, slots := 0, locals := 42 } D cI cT cII base [.int v0, .int v1, .int v2] w res.2 (some (.int res.1)) 0 0 := by
  unfold fX12_alike at hF
  refine m_enter (by decide) (Nat.le_of_ble_eq_true rfl) ?_
  intro p e s m below meth c ls X hr hlk hnm hH hS hl
  have hx := X.1
  have hb := X.2.1
  have hc : (0 : Nat) ≤ ({ frames := 2, cells := 0, slots := 0, locals := 42 } : Room).cells ∧ (0 : Nat) ≤ ({ frames := 2, cells := 0, slots := 0, locals := 42 } : Room).slots := ⟨Nat.zero_le _, Nat.zero_le _⟩
  obtain ⟨H, hHe⟩ : ∃ H : Heap, H = s.heap := ⟨_, rfl⟩
  obtain ⟨locs, hle⟩ : ∃ L : List Loc, L = [] := ⟨_, rfl⟩
  have hl : lv_has ls 7 [(0, .int v0), (1, .int v1), (2, .int v2)] := hl
  rw [← hHe] at hH
  have hS : va_S (fun q => base ≤ q) s.heap H locs := by rw [hHe, hle]; exact hS
  rw [← hle]
  show W p l e _ s m _ below meth c s.heap locs 0 0 _ _
  rw [← hHe]
  refine lv_iconst (v := (0 : Int32)) hx hb dX12_alike_0 (by decide) ?_
  refine lv_istore_n (lv' := [(3, .int (0 : Int32)), (0, .int v0), (1, .int v1), (2, .int v2)]) hx hb dX12_alike_1 rfl hl (by decide) rfl (fun ls hl => ?_)
  refine lv_iconst (v := (0 : Int32)) hx hb dX12_alike_2 (by decide) ?_
  refine lv_istore (lv' := [(4, .int (0 : Int32)), (3, .int (0 : Int32)), (0, .int v0), (1, .int v1), (2, .int v2)]) hx hb dX12_alike_3 hl (by decide) rfl (fun ls hl => ?_)
  refine l_X12_alike_5 X hc v0 v1 v2 _ res ?_ FV (0 : Int32) (0 : Int32) w hF H locs ls hH hS (lv_sub hl [2, 3, 4, 1, 0] rfl)
  · intro v3_14 w_13 hF H locs ls hH hS hl
    refine lv_iload_n hx hb dX12_alike_95 rfl (lv_at hl 0 rfl) ?_
    have hF := Option.some.inj hF
    subst hF
    exact m_iret X hr hlk hH hS dX12_alike_96
noncomputable def fX12_in (v0 : Int32) (v1 : Int32) (v2 : Int32) (w : Wd) : Option (Int32 × Wd) := if v0 < v1 then some ((0 : Int32), w) else if v2 < v0 then some ((0 : Int32), w) else some ((1 : Int32), w)
set_option maxHeartbeats 4000000 in
set_option maxRecDepth 100000 in
theorem k_X12_in (l : Launch) (D : va_G) (cI cT cII : ClassId) (base : Nat) (v0 : Int32) (v1 : Int32) (v2 : Int32) (w : Wd) (res : Int32 × Wd) (hF : fX12_in v0 v1 v2 w = some res) : Ct l yX12_in cX12_in 3 (some .boolean) { frames := 0, cells := 0, slots := 0, locals := 0 } D cI cT cII base [.int v0, .int v1, .int v2] w res.2 (some (.int res.1)) 0 0 := by
  unfold fX12_in at hF
  refine m_enter (by decide) (Nat.le_of_ble_eq_true rfl) ?_
  intro p e s m below meth c ls X hr hlk hnm hH hS hl
  have hx := X.1
  have hb := X.2.1
  have hc : (0 : Nat) ≤ ({ frames := 0, cells := 0, slots := 0, locals := 0 } : Room).cells ∧ (0 : Nat) ≤ ({ frames := 0, cells := 0, slots := 0, locals := 0 } : Room).slots := ⟨Nat.zero_le _, Nat.zero_le _⟩
  obtain ⟨H, hHe⟩ : ∃ H : Heap, H = s.heap := ⟨_, rfl⟩
  obtain ⟨locs, hle⟩ : ∃ L : List Loc, L = [] := ⟨_, rfl⟩
  have hl : lv_has ls 3 [(0, .int v0), (1, .int v1), (2, .int v2)] := hl
  rw [← hHe] at hH
  have hS : va_S (fun q => base ≤ q) s.heap H locs := by rw [hHe, hle]; exact hS
  rw [← hle]
  show W p l e _ s m _ below meth c s.heap locs 0 0 _ _
  rw [← hHe]
  refine lv_iload_n hx hb dX12_in_0 rfl (lv_at hl 0 rfl) ?_
  refine lv_iload_n hx hb dX12_in_1 rfl (lv_at hl 1 rfl) ?_
  refine lv_icmp_lt (tgt := 14) hx hb dX12_in_2 (by decide) (fun c_1 => ?_) (fun c_1 => ?_)
  · replace hF := itt c_1 hF
    refine lv_iconst (v := (0 : Int32)) hx hb dX12_in_14 (by decide) ?_
    have hF := Option.some.inj hF
    subst hF
    exact m_zret (r := (0 : Int32)) X hr hlk (by decide) hH hS dX12_in_15
  · replace hF := itf c_1 hF
    refine lv_iload_n hx hb dX12_in_5 rfl (lv_at hl 0 rfl) ?_
    refine lv_iload_n hx hb dX12_in_6 rfl (lv_at hl 2 rfl) ?_
    refine lv_icmp_gt (tgt := 14) hx hb dX12_in_7 (by decide) (fun c_2 => ?_) (fun c_2 => ?_)
    · replace hF := itt c_2 hF
      refine lv_iconst (v := (0 : Int32)) hx hb dX12_in_14 (by decide) ?_
      have hF := Option.some.inj hF
      subst hF
      exact m_zret (r := (0 : Int32)) X hr hlk (by decide) hH hS dX12_in_15
    · replace hF := itf c_2 hF
      refine lv_iconst (v := (1 : Int32)) hx hb dX12_in_10 (by decide) ?_
      refine lv_goto (tgt := 15) hx hb dX12_in_11 (by decide) ?_
      have hF := Option.some.inj hF
      subst hF
      exact m_zret (r := (1 : Int32)) X hr hlk (by decide) hH hS dX12_in_15
noncomputable def fX12_isFrame (p0 : Nat) (v1 : Int32) (w : Wd) : Option (Int32 × Wd) := (gfI 11 0 p0 w).bind fun x_1 => (fX12_in v1 (0 : Int32) (x_1 - (1 : Int32)) w).bind fun q_2 => (bz q_2.1).bind fun x_3 => some (x_3, q_2.2)
set_option maxHeartbeats 4000000 in
set_option maxRecDepth 100000 in
theorem k_X12_isFrame (l : Launch) (D : va_G) (cI cT cII : ClassId) (base : Nat) (p0 : Nat) (v1 : Int32) (w : Wd) (res : Int32 × Wd) (hF : fX12_isFrame p0 v1 w = some res) : Ct l yX12_isFrame cX12_isFrame 2 (some .boolean) { frames := 1, cells := 0, slots := 0, locals := 22 } D cI cT cII base [.ref (base + p0), .int v1] w res.2 (some (.int res.1)) 0 0 := by
  unfold fX12_isFrame at hF
  refine m_enter (by decide) (Nat.le_of_ble_eq_true rfl) ?_
  intro p e s m below meth c ls X hr hlk hnm hH hS hl
  have hx := X.1
  have hb := X.2.1
  have hc : (0 : Nat) ≤ ({ frames := 1, cells := 0, slots := 0, locals := 22 } : Room).cells ∧ (0 : Nat) ≤ ({ frames := 1, cells := 0, slots := 0, locals := 22 } : Room).slots := ⟨Nat.zero_le _, Nat.zero_le _⟩
  obtain ⟨H, hHe⟩ : ∃ H : Heap, H = s.heap := ⟨_, rfl⟩
  obtain ⟨locs, hle⟩ : ∃ L : List Loc, L = [] := ⟨_, rfl⟩
  have hl : lv_has ls 2 [(0, .ref (base + p0)), (1, .int v1)] := hl
  rw [← hHe] at hH
  have hS : va_S (fun q => base ≤ q) s.heap H locs := by rw [hHe, hle]; exact hS
  rw [← hle]
  show W p l e _ s m _ below meth c s.heap locs 0 0 _ _
  rw [← hHe]
  refine lv_iload_n hx hb dX12_isFrame_0 rfl (lv_at hl 1 rfl) ?_
  refine lv_iconst (v := (0 : Int32)) hx hb dX12_isFrame_1 (by decide) ?_
  refine lv_aload_n hx hb dX12_isFrame_2 rfl (lv_at hl 0 rfl) ?_
  obtain ⟨x_1, e_1, hF⟩ := bnd hF
  refine m_gI X hH e_1 gg_X12_7 dX12_isFrame_3 ?_
  refine lv_iconst (v := (1 : Int32)) hx hb dX12_isFrame_6 (by decide) ?_
  refine lv_isub hx hb dX12_isFrame_7 ?_
  obtain ⟨q_2, e_2, hF⟩ := bnd hF
  refine m_callS (As := [.int v1, .int (0 : Int32), .int (x_1 - (1 : Int32))]) (rest := []) X hH hS hl.1 (k_X12_in l D cI cT cII base v1 (0 : Int32) (x_1 - (1 : Int32)) w q_2 e_2) q_X12_in kw_951 kw_952 rfl rfl (Nat.le_of_ble_eq_true rfl) ⟨by decide, by decide⟩ hc dX12_isFrame_8 (fun H locs hH hS => W.eq (g2 := F0 m 11 ls [.int q_2.1]) rfl ?_)
  obtain ⟨x_3, e_3, hF⟩ := bnd hF
  obtain ⟨z_x_3, rfl⟩ := isn e_3
  have hF := Option.some.inj hF
  subst hF
  exact m_zret X hr hlk (if_pos z_x_3) hH hS dX12_isFrame_11
noncomputable def fX12_isDay (v0 : Int32) (w : Wd) : Option (Int32 × Wd) := (fX12_in v0 (0 : Int32) (30 : Int32) w).bind fun q_1 => (bz q_1.1).bind fun x_2 => some (x_2, q_1.2)
set_option maxHeartbeats 4000000 in
set_option maxRecDepth 100000 in
theorem k_X12_isDay (l : Launch) (D : va_G) (cI cT cII : ClassId) (base : Nat) (v0 : Int32) (w : Wd) (res : Int32 × Wd) (hF : fX12_isDay v0 w = some res) : Ct l yX12_isDay cX12_isDay 1 (some .boolean) { frames := 1, cells := 0, slots := 0, locals := 22 } D cI cT cII base [.int v0] w res.2 (some (.int res.1)) 0 0 := by
  unfold fX12_isDay at hF
  refine m_enter (by decide) (Nat.le_of_ble_eq_true rfl) ?_
  intro p e s m below meth c ls X hr hlk hnm hH hS hl
  have hx := X.1
  have hb := X.2.1
  have hc : (0 : Nat) ≤ ({ frames := 1, cells := 0, slots := 0, locals := 22 } : Room).cells ∧ (0 : Nat) ≤ ({ frames := 1, cells := 0, slots := 0, locals := 22 } : Room).slots := ⟨Nat.zero_le _, Nat.zero_le _⟩
  obtain ⟨H, hHe⟩ : ∃ H : Heap, H = s.heap := ⟨_, rfl⟩
  obtain ⟨locs, hle⟩ : ∃ L : List Loc, L = [] := ⟨_, rfl⟩
  have hl : lv_has ls 1 [(0, .int v0)] := hl
  rw [← hHe] at hH
  have hS : va_S (fun q => base ≤ q) s.heap H locs := by rw [hHe, hle]; exact hS
  rw [← hle]
  show W p l e _ s m _ below meth c s.heap locs 0 0 _ _
  rw [← hHe]
  refine lv_iload_n hx hb dX12_isDay_0 rfl (lv_at hl 0 rfl) ?_
  refine lv_iconst (v := (0 : Int32)) hx hb dX12_isDay_1 (by decide) ?_
  refine lv_bipush (v := (30 : Int32)) hx hb dX12_isDay_2 (by decide) ?_
  obtain ⟨q_1, e_1, hF⟩ := bnd hF
  refine m_callS (As := [.int v0, .int (0 : Int32), .int (30 : Int32)]) (rest := []) X hH hS hl.1 (k_X12_in l D cI cT cII base v0 (0 : Int32) (30 : Int32) w q_1 e_1) q_X12_in kw_951 kw_952 rfl rfl (Nat.le_of_ble_eq_true rfl) ⟨by decide, by decide⟩ hc dX12_isDay_4 (fun H locs hH hS => W.eq (g2 := F0 m 7 ls [.int q_1.1]) rfl ?_)
  obtain ⟨x_2, e_2, hF⟩ := bnd hF
  obtain ⟨z_x_2, rfl⟩ := isn e_2
  have hF := Option.some.inj hF
  subst hF
  exact m_zret X hr hlk (if_pos z_x_2) hH hS dX12_isDay_7
noncomputable def fX12_begins_2 (p0 : Nat) (K_30 : Wd → Option (Unit × Wd)) : Nat → Int32 → Wd → Option (Unit × Wd)
  | 0, _, _ => none
  | n + 1, v1, w => if (7 : Int32) ≤ v1 then K_30  w else (gfR 11 25 p0 w).bind fun r_2 => (gfR 11 1 p0 w).bind fun r_3 => (rdI r_3 (((4 : Int32) * v1) + (1 : Int32)) w).bind fun x_4 => (wrI r_2 v1 x_4 w).bind fun w_5 => fX12_begins_2 p0 K_30 n (v1 + (1 : Int32)) w_5
noncomputable def fX12_begins (p0 : Nat) (w : Wd) : Option (Unit × Wd) := fX12_begins_2 p0 (fun  (w_6 : Wd) => some ((), w_6)) FV (0 : Int32) w
set_option maxHeartbeats 4000000 in
set_option maxRecDepth 100000 in
theorem l_X12_begins_2 (X : Cx p R s m args c cX12_begins 2 RX12 D cI cT cII 0 0) (hc : cells ≤ R.cells ∧ slots ≤ R.slots) (p0 : Nat) (K_30 : Wd → Option (Unit × Wd)) (res : Unit × Wd)
    (hK_30 : ∀  (w : Wd), K_30  w = some res → ∀ (H : Heap) (locs : List Loc) (ls : Array Slot), Hd D cI cT cII base w H → va_S (fun q => base ≤ q) s.heap H locs → lv_has ls 2 [] → W p l e R s m args below meth c H locs cells slots Q (F0 m 30 ls [])) :
    ∀ (n : Nat) (v1 : Int32) (w : Wd), fX12_begins_2 p0 K_30 n v1 w = some res → ∀ (H : Heap) (locs : List Loc) (ls : Array Slot), Hd D cI cT cII base w H → va_S (fun q => base ≤ q) s.heap H locs → lv_has ls 2 [(0, .ref (base + p0)), (1, .int v1)] → W p l e R s m args below meth c H locs cells slots Q (F0 m 2 ls []) := by
  have hx := X.1
  have hb := X.2.1
  intro n
  induction n with
  | zero =>
    intro v1 w hF
    rw [fX12_begins_2] at hF
    cases hF
  | succ n ih =>
    intro v1 w hF H locs ls hH hS hl
    rw [fX12_begins_2] at hF
    refine lv_iload_n hx hb dX12_begins_2 rfl (lv_at hl 1 rfl) ?_
    refine lv_bipush (v := (7 : Int32)) hx hb dX12_begins_3 (by decide) ?_
    refine lv_icmp_ge (tgt := 30) hx hb dX12_begins_5 (by decide) (fun c_1 => ?_) (fun c_1 => ?_)
    · replace hF := itt c_1 hF
      exact hK_30  w hF H locs ls hH hS (lv_sub hl [] rfl)
    · replace hF := itf c_1 hF
      refine lv_aload_n hx hb dX12_begins_8 rfl (lv_at hl 0 rfl) ?_
      obtain ⟨r_2, e_2, hF⟩ := bnd hF
      refine m_gR X hH e_2 gg_X12_62 dX12_begins_9 ?_
      refine lv_iload_n hx hb dX12_begins_12 rfl (lv_at hl 1 rfl) ?_
      refine lv_aload_n hx hb dX12_begins_13 rfl (lv_at hl 0 rfl) ?_
      obtain ⟨r_3, e_3, hF⟩ := bnd hF
      refine m_gR X hH e_3 gg_X12_13 dX12_begins_14 ?_
      refine lv_iconst (v := (4 : Int32)) hx hb dX12_begins_17 (by decide) ?_
      refine lv_iload_n hx hb dX12_begins_18 rfl (lv_at hl 1 rfl) ?_
      refine lv_imul hx hb dX12_begins_19 ?_
      refine lv_iconst (v := (1 : Int32)) hx hb dX12_begins_20 (by decide) ?_
      refine lv_iadd hx hb dX12_begins_21 ?_
      obtain ⟨x_4, e_4, hF⟩ := bnd hF
      refine m_rdI X hH e_4 dX12_begins_22 ?_
      obtain ⟨w_5, e_5, hF⟩ := bnd hF
      refine m_wrI X hH hS e_5 dX12_begins_23 (fun H locs hH hS => ?_)
      refine lv_iinc (v := v1 + (1 : Int32)) (lv' := [(1, .int (v1 + (1 : Int32))), (0, .ref (base + p0))]) hx hb dX12_begins_24 hl (k := 1) rfl (congrArg (fun z => v1 + z) (by decide)) (by decide) rfl (fun ls hl => ?_)
      refine lv_goto (tgt := 2) hx hb dX12_begins_27 (by decide) ?_
      exact ih (v1 + (1 : Int32)) w_5 hF H locs ls hH hS (lv_sub hl [1, 0] rfl)
set_option maxHeartbeats 4000000 in
set_option maxRecDepth 100000 in
theorem k_X12_begins (l : Launch) (D : va_G) (cI cT cII : ClassId) (base : Nat) (p0 : Nat) (w : Wd) (res : Unit × Wd) (hF : fX12_begins p0 w = some res) : Ct l yX12_begins cX12_begins 2 none { frames := 0, cells := 0, slots := 0, locals := 0 } D cI cT cII base [.ref (base + p0)] w res.2 none 0 0 := by
  unfold fX12_begins at hF
  refine m_enter (by decide) (Nat.le_of_ble_eq_true rfl) ?_
  intro p e s m below meth c ls X hr hlk hnm hH hS hl
  have hx := X.1
  have hb := X.2.1
  have hc : (0 : Nat) ≤ ({ frames := 0, cells := 0, slots := 0, locals := 0 } : Room).cells ∧ (0 : Nat) ≤ ({ frames := 0, cells := 0, slots := 0, locals := 0 } : Room).slots := ⟨Nat.zero_le _, Nat.zero_le _⟩
  obtain ⟨H, hHe⟩ : ∃ H : Heap, H = s.heap := ⟨_, rfl⟩
  obtain ⟨locs, hle⟩ : ∃ L : List Loc, L = [] := ⟨_, rfl⟩
  have hl : lv_has ls 2 [(0, .ref (base + p0))] := hl
  rw [← hHe] at hH
  have hS : va_S (fun q => base ≤ q) s.heap H locs := by rw [hHe, hle]; exact hS
  rw [← hle]
  show W p l e _ s m _ below meth c s.heap locs 0 0 _ _
  rw [← hHe]
  refine lv_iconst (v := (0 : Int32)) hx hb dX12_begins_0 (by decide) ?_
  refine lv_istore_n (lv' := [(1, .int (0 : Int32)), (0, .ref (base + p0))]) hx hb dX12_begins_1 rfl hl (by decide) rfl (fun ls hl => ?_)
  refine l_X12_begins_2 X hc p0 _ res ?_ FV (0 : Int32) w hF H locs ls hH hS (lv_sub hl [1, 0] rfl)
  · intro  w_6 hF H locs ls hH hS hl
    have hF := Option.some.inj hF
    subst hF
    exact m_vret X hr hlk hH hS dX12_begins_30
noncomputable def fX12_within (v0 : Int32) (w : Wd) : Option (Int32 × Wd) := if (-40 : Int32) ≤ v0 then if v0 ≤ (40 : Int32) then some (v0, w) else some ((40 : Int32), w) else some ((-40 : Int32), w)
set_option maxHeartbeats 4000000 in
set_option maxRecDepth 100000 in
theorem k_X12_within (l : Launch) (D : va_G) (cI cT cII : ClassId) (base : Nat) (v0 : Int32) (w : Wd) (res : Int32 × Wd) (hF : fX12_within v0 w = some res) : Ct l yX12_within cX12_within 1 (some .int) { frames := 0, cells := 0, slots := 0, locals := 0 } D cI cT cII base [.int v0] w res.2 (some (.int res.1)) 0 0 := by
  unfold fX12_within at hF
  refine m_enter (by decide) (Nat.le_of_ble_eq_true rfl) ?_
  intro p e s m below meth c ls X hr hlk hnm hH hS hl
  have hx := X.1
  have hb := X.2.1
  have hc : (0 : Nat) ≤ ({ frames := 0, cells := 0, slots := 0, locals := 0 } : Room).cells ∧ (0 : Nat) ≤ ({ frames := 0, cells := 0, slots := 0, locals := 0 } : Room).slots := ⟨Nat.zero_le _, Nat.zero_le _⟩
  obtain ⟨H, hHe⟩ : ∃ H : Heap, H = s.heap := ⟨_, rfl⟩
  obtain ⟨locs, hle⟩ : ∃ L : List Loc, L = [] := ⟨_, rfl⟩
  have hl : lv_has ls 1 [(0, .int v0)] := hl
  rw [← hHe] at hH
  have hS : va_S (fun q => base ≤ q) s.heap H locs := by rw [hHe, hle]; exact hS
  rw [← hle]
  show W p l e _ s m _ below meth c s.heap locs 0 0 _ _
  rw [← hHe]
  refine lv_iload_n hx hb dX12_within_0 rfl (lv_at hl 0 rfl) ?_
  refine lv_bipush (v := (-40 : Int32)) hx hb dX12_within_1 (by decide) ?_
  refine lv_icmp_ge (tgt := 11) hx hb dX12_within_3 (by decide) (fun c_1 => ?_) (fun c_1 => ?_)
  · replace hF := itt c_1 hF
    refine lv_iload_n hx hb dX12_within_11 rfl (lv_at hl 0 rfl) ?_
    refine lv_bipush (v := (40 : Int32)) hx hb dX12_within_12 (by decide) ?_
    refine lv_icmp_le (tgt := 22) hx hb dX12_within_14 (by decide) (fun c_2 => ?_) (fun c_2 => ?_)
    · replace hF := itt c_2 hF
      refine lv_iload_n hx hb dX12_within_22 rfl (lv_at hl 0 rfl) ?_
      have hF := Option.some.inj hF
      subst hF
      exact m_iret X hr hlk hH hS dX12_within_23
    · replace hF := itf c_2 hF
      refine lv_bipush (v := (40 : Int32)) hx hb dX12_within_17 (by decide) ?_
      refine lv_goto (tgt := 23) hx hb dX12_within_19 (by decide) ?_
      have hF := Option.some.inj hF
      subst hF
      exact m_iret X hr hlk hH hS dX12_within_23
  · replace hF := itf c_1 hF
    refine lv_bipush (v := (-40 : Int32)) hx hb dX12_within_6 (by decide) ?_
    refine lv_goto (tgt := 23) hx hb dX12_within_8 (by decide) ?_
    have hF := Option.some.inj hF
    subst hF
    exact m_iret X hr hlk hH hS dX12_within_23
noncomputable def fX12_twists_2 (p0 : Nat) (K_42 : Wd → Option (Unit × Wd)) : Nat → Int32 → Wd → Option (Unit × Wd)
  | 0, _, _ => none
  | n + 1, v1, w => (gfI 11 0 p0 w).bind fun x_1 => if x_1 ≤ v1 then K_42  w else (gfR 11 25 p0 w).bind fun r_3 => (gfR 11 25 p0 w).bind fun r_4 => (rdI r_4 v1 w).bind fun x_5 => (gfR 11 1 p0 w).bind fun r_6 => (rdI r_6 (((4 : Int32) * v1) + (2 : Int32)) w).bind fun x_7 => (fX12_within (x_5 + x_7) w).bind fun q_8 => (wrI r_3 v1 q_8.1 q_8.2).bind fun w_9 => fX12_twists_2 p0 K_42 n (v1 + (1 : Int32)) w_9
noncomputable def fX12_twists (p0 : Nat) (w : Wd) : Option (Unit × Wd) := fX12_twists_2 p0 (fun  (w_10 : Wd) => some ((), w_10)) FV (0 : Int32) w
set_option maxHeartbeats 4000000 in
set_option maxRecDepth 100000 in
theorem l_X12_twists_2 (X : Cx p R s m args c cX12_twists 2 RX12 D cI cT cII 1 20) (hc : cells ≤ R.cells ∧ slots ≤ R.slots) (p0 : Nat) (K_42 : Wd → Option (Unit × Wd)) (res : Unit × Wd)
    (hK_42 : ∀  (w : Wd), K_42  w = some res → ∀ (H : Heap) (locs : List Loc) (ls : Array Slot), Hd D cI cT cII base w H → va_S (fun q => base ≤ q) s.heap H locs → lv_has ls 2 [] → W p l e R s m args below meth c H locs cells slots Q (F0 m 42 ls [])) :
    ∀ (n : Nat) (v1 : Int32) (w : Wd), fX12_twists_2 p0 K_42 n v1 w = some res → ∀ (H : Heap) (locs : List Loc) (ls : Array Slot), Hd D cI cT cII base w H → va_S (fun q => base ≤ q) s.heap H locs → lv_has ls 2 [(0, .ref (base + p0)), (1, .int v1)] → W p l e R s m args below meth c H locs cells slots Q (F0 m 2 ls []) := by
  have hx := X.1
  have hb := X.2.1
  intro n
  induction n with
  | zero =>
    intro v1 w hF
    rw [fX12_twists_2] at hF
    cases hF
  | succ n ih =>
    intro v1 w hF H locs ls hH hS hl
    rw [fX12_twists_2] at hF
    refine lv_iload_n hx hb dX12_twists_2 rfl (lv_at hl 1 rfl) ?_
    refine lv_aload_n hx hb dX12_twists_3 rfl (lv_at hl 0 rfl) ?_
    obtain ⟨x_1, e_1, hF⟩ := bnd hF
    refine m_gI X hH e_1 gg_X12_7 dX12_twists_4 ?_
    refine lv_icmp_ge (tgt := 42) hx hb dX12_twists_7 (by decide) (fun c_2 => ?_) (fun c_2 => ?_)
    · replace hF := itt c_2 hF
      exact hK_42  w hF H locs ls hH hS (lv_sub hl [] rfl)
    · replace hF := itf c_2 hF
      refine lv_aload_n hx hb dX12_twists_10 rfl (lv_at hl 0 rfl) ?_
      obtain ⟨r_3, e_3, hF⟩ := bnd hF
      refine m_gR X hH e_3 gg_X12_62 dX12_twists_11 ?_
      refine lv_iload_n hx hb dX12_twists_14 rfl (lv_at hl 1 rfl) ?_
      refine lv_aload_n hx hb dX12_twists_15 rfl (lv_at hl 0 rfl) ?_
      obtain ⟨r_4, e_4, hF⟩ := bnd hF
      refine m_gR X hH e_4 gg_X12_62 dX12_twists_16 ?_
      refine lv_iload_n hx hb dX12_twists_19 rfl (lv_at hl 1 rfl) ?_
      obtain ⟨x_5, e_5, hF⟩ := bnd hF
      refine m_rdI X hH e_5 dX12_twists_20 ?_
      refine lv_aload_n hx hb dX12_twists_21 rfl (lv_at hl 0 rfl) ?_
      obtain ⟨r_6, e_6, hF⟩ := bnd hF
      refine m_gR X hH e_6 gg_X12_13 dX12_twists_22 ?_
      refine lv_iconst (v := (4 : Int32)) hx hb dX12_twists_25 (by decide) ?_
      refine lv_iload_n hx hb dX12_twists_26 rfl (lv_at hl 1 rfl) ?_
      refine lv_imul hx hb dX12_twists_27 ?_
      refine lv_iconst (v := (2 : Int32)) hx hb dX12_twists_28 (by decide) ?_
      refine lv_iadd hx hb dX12_twists_29 ?_
      obtain ⟨x_7, e_7, hF⟩ := bnd hF
      refine m_rdI X hH e_7 dX12_twists_30 ?_
      refine lv_iadd hx hb dX12_twists_31 ?_
      obtain ⟨q_8, e_8, hF⟩ := bnd hF
      refine m_callS (As := [.int (x_5 + x_7)]) (rest := [.int v1, .ref (base + r_3)]) X hH hS hl.1 (k_X12_within l D cI cT cII base (x_5 + x_7) w q_8 e_8) q_X12_within kw_1052 kw_1053 rfl rfl (Nat.le_of_ble_eq_true rfl) ⟨by decide, by decide⟩ hc dX12_twists_32 (fun H locs hH hS => W.eq (g2 := F0 m 35 ls [.int q_8.1, .int v1, .ref (base + r_3)]) rfl ?_)
      obtain ⟨w_9, e_9, hF⟩ := bnd hF
      refine m_wrI X hH hS e_9 dX12_twists_35 (fun H locs hH hS => ?_)
      refine lv_iinc (v := v1 + (1 : Int32)) (lv' := [(1, .int (v1 + (1 : Int32))), (0, .ref (base + p0))]) hx hb dX12_twists_36 hl (k := 1) rfl (congrArg (fun z => v1 + z) (by decide)) (by decide) rfl (fun ls hl => ?_)
      refine lv_goto (tgt := 2) hx hb dX12_twists_39 (by decide) ?_
      exact ih (v1 + (1 : Int32)) w_9 hF H locs ls hH hS (lv_sub hl [1, 0] rfl)
set_option maxHeartbeats 4000000 in
set_option maxRecDepth 100000 in
theorem k_X12_twists (l : Launch) (D : va_G) (cI cT cII : ClassId) (base : Nat) (p0 : Nat) (w : Wd) (res : Unit × Wd) (hF : fX12_twists p0 w = some res) : Ct l yX12_twists cX12_twists 2 none { frames := 1, cells := 0, slots := 0, locals := 20 } D cI cT cII base [.ref (base + p0)] w res.2 none 0 0 := by
  unfold fX12_twists at hF
  refine m_enter (by decide) (Nat.le_of_ble_eq_true rfl) ?_
  intro p e s m below meth c ls X hr hlk hnm hH hS hl
  have hx := X.1
  have hb := X.2.1
  have hc : (0 : Nat) ≤ ({ frames := 1, cells := 0, slots := 0, locals := 20 } : Room).cells ∧ (0 : Nat) ≤ ({ frames := 1, cells := 0, slots := 0, locals := 20 } : Room).slots := ⟨Nat.zero_le _, Nat.zero_le _⟩
  obtain ⟨H, hHe⟩ : ∃ H : Heap, H = s.heap := ⟨_, rfl⟩
  obtain ⟨locs, hle⟩ : ∃ L : List Loc, L = [] := ⟨_, rfl⟩
  have hl : lv_has ls 2 [(0, .ref (base + p0))] := hl
  rw [← hHe] at hH
  have hS : va_S (fun q => base ≤ q) s.heap H locs := by rw [hHe, hle]; exact hS
  rw [← hle]
  show W p l e _ s m _ below meth c s.heap locs 0 0 _ _
  rw [← hHe]
  refine lv_iconst (v := (0 : Int32)) hx hb dX12_twists_0 (by decide) ?_
  refine lv_istore_n (lv' := [(1, .int (0 : Int32)), (0, .ref (base + p0))]) hx hb dX12_twists_1 rfl hl (by decide) rfl (fun ls hl => ?_)
  refine l_X12_twists_2 X hc p0 _ res ?_ FV (0 : Int32) w hF H locs ls hH hS (lv_sub hl [1, 0] rfl)
  · intro  w_10 hF H locs ls hH hS hl
    have hF := Option.some.inj hF
    subst hF
    exact m_vret X hr hlk hH hS dX12_twists_42
noncomputable def fX12_turnsBy (p0 : Nat) (v1 : Int32) (v2 : Int32) (w : Wd) : Option (Unit × Wd) := (gfR 11 25 p0 w).bind fun r_1 => (gfR 11 25 p0 w).bind fun r_2 => (rdI r_2 v1 w).bind fun x_3 => (fX12_within (x_3 + v2) w).bind fun q_4 => (wrI r_1 v1 q_4.1 q_4.2).bind fun w_5 => some ((), w_5)
set_option maxHeartbeats 4000000 in
set_option maxRecDepth 100000 in
theorem k_X12_turnsBy (l : Launch) (D : va_G) (cI cT cII : ClassId) (base : Nat) (p0 : Nat) (v1 : Int32) (v2 : Int32) (w : Wd) (res : Unit × Wd) (hF : fX12_turnsBy p0 v1 v2 w = some res) : Ct l yX12_turnsBy cX12_turnsBy 3 none { frames := 1, cells := 0, slots := 0, locals := 20 } D cI cT cII base [.ref (base + p0), .int v1, .int v2] w res.2 none 0 0 := by
  unfold fX12_turnsBy at hF
  refine m_enter (by decide) (Nat.le_of_ble_eq_true rfl) ?_
  intro p e s m below meth c ls X hr hlk hnm hH hS hl
  have hx := X.1
  have hb := X.2.1
  have hc : (0 : Nat) ≤ ({ frames := 1, cells := 0, slots := 0, locals := 20 } : Room).cells ∧ (0 : Nat) ≤ ({ frames := 1, cells := 0, slots := 0, locals := 20 } : Room).slots := ⟨Nat.zero_le _, Nat.zero_le _⟩
  obtain ⟨H, hHe⟩ : ∃ H : Heap, H = s.heap := ⟨_, rfl⟩
  obtain ⟨locs, hle⟩ : ∃ L : List Loc, L = [] := ⟨_, rfl⟩
  have hl : lv_has ls 3 [(0, .ref (base + p0)), (1, .int v1), (2, .int v2)] := hl
  rw [← hHe] at hH
  have hS : va_S (fun q => base ≤ q) s.heap H locs := by rw [hHe, hle]; exact hS
  rw [← hle]
  show W p l e _ s m _ below meth c s.heap locs 0 0 _ _
  rw [← hHe]
  refine lv_aload_n hx hb dX12_turnsBy_0 rfl (lv_at hl 0 rfl) ?_
  obtain ⟨r_1, e_1, hF⟩ := bnd hF
  refine m_gR X hH e_1 gg_X12_62 dX12_turnsBy_1 ?_
  refine lv_iload_n hx hb dX12_turnsBy_4 rfl (lv_at hl 1 rfl) ?_
  refine lv_aload_n hx hb dX12_turnsBy_5 rfl (lv_at hl 0 rfl) ?_
  obtain ⟨r_2, e_2, hF⟩ := bnd hF
  refine m_gR X hH e_2 gg_X12_62 dX12_turnsBy_6 ?_
  refine lv_iload_n hx hb dX12_turnsBy_9 rfl (lv_at hl 1 rfl) ?_
  obtain ⟨x_3, e_3, hF⟩ := bnd hF
  refine m_rdI X hH e_3 dX12_turnsBy_10 ?_
  refine lv_iload_n hx hb dX12_turnsBy_11 rfl (lv_at hl 2 rfl) ?_
  refine lv_iadd hx hb dX12_turnsBy_12 ?_
  obtain ⟨q_4, e_4, hF⟩ := bnd hF
  refine m_callS (As := [.int (x_3 + v2)]) (rest := [.int v1, .ref (base + r_1)]) X hH hS hl.1 (k_X12_within l D cI cT cII base (x_3 + v2) w q_4 e_4) q_X12_within kw_1052 kw_1053 rfl rfl (Nat.le_of_ble_eq_true rfl) ⟨by decide, by decide⟩ hc dX12_turnsBy_13 (fun H locs hH hS => W.eq (g2 := F0 m 16 ls [.int q_4.1, .int v1, .ref (base + r_1)]) rfl ?_)
  obtain ⟨w_5, e_5, hF⟩ := bnd hF
  refine m_wrI X hH hS e_5 dX12_turnsBy_16 (fun H locs hH hS => ?_)
  have hF := Option.some.inj hF
  subst hF
  exact m_vret X hr hlk hH hS dX12_turnsBy_17
noncomputable def fX12_nightOf_6 (p0 : Nat) (v1 : Int32) (K_64 : Wd → Option (Unit × Wd)) : Nat → Int32 → Wd → Option (Unit × Wd)
  | 0, _, _ => none
  | n + 1, v2, w => (gfR 11 7 p0 w).bind fun r_3 => (rdI r_3 (0 : Int32) w).bind fun x_4 => if x_4 ≤ v2 then K_64  w else (gfR 11 7 p0 w).bind fun r_6 => (rdI r_6 ((1 : Int32) + ((3 : Int32) * v2)) w).bind fun x_7 => if x_7 = v1 then (gfR 11 7 p0 w).bind fun r_9 => (rdI r_9 (((1 : Int32) + ((3 : Int32) * v2)) + (1 : Int32)) w).bind fun x_10 => (gfR 11 7 p0 w).bind fun r_11 => (rdI r_11 (((1 : Int32) + ((3 : Int32) * v2)) + (2 : Int32)) w).bind fun x_12 => (isO 11 p0 w).bind fun u_13 => (fX12_turnsBy p0 x_10 x_12 w).bind fun q_14 => fX12_nightOf_6 p0 v1 K_64 n (v2 + (1 : Int32)) q_14.2 else fX12_nightOf_6 p0 v1 K_64 n (v2 + (1 : Int32)) w
noncomputable def fX12_nightOf (p0 : Nat) (v1 : Int32) (w : Wd) : Option (Unit × Wd) := (isO 11 p0 w).bind fun u_1 => (fX12_twists p0 w).bind fun q_2 => fX12_nightOf_6 p0 v1 (fun  (w_15 : Wd) => some ((), w_15)) FV (0 : Int32) q_2.2
set_option maxHeartbeats 4000000 in
set_option maxRecDepth 100000 in
theorem l_X12_nightOf_6 (X : Cx p R s m args c cX12_nightOf 3 RX12 D cI cT cII 2 42) (hc : cells ≤ R.cells ∧ slots ≤ R.slots) (p0 : Nat) (v1 : Int32) (K_64 : Wd → Option (Unit × Wd)) (res : Unit × Wd)
    (hK_64 : ∀  (w : Wd), K_64  w = some res → ∀ (H : Heap) (locs : List Loc) (ls : Array Slot), Hd D cI cT cII base w H → va_S (fun q => base ≤ q) s.heap H locs → lv_has ls 3 [] → W p l e R s m args below meth c H locs cells slots Q (F0 m 64 ls [])) :
    ∀ (n : Nat) (v2 : Int32) (w : Wd), fX12_nightOf_6 p0 v1 K_64 n v2 w = some res → ∀ (H : Heap) (locs : List Loc) (ls : Array Slot), Hd D cI cT cII base w H → va_S (fun q => base ≤ q) s.heap H locs → lv_has ls 3 [(0, .ref (base + p0)), (1, .int v1), (2, .int v2)] → W p l e R s m args below meth c H locs cells slots Q (F0 m 6 ls []) := by
  have hx := X.1
  have hb := X.2.1
  intro n
  induction n with
  | zero =>
    intro v2 w hF
    rw [fX12_nightOf_6] at hF
    cases hF
  | succ n ih =>
    intro v2 w hF H locs ls hH hS hl
    rw [fX12_nightOf_6] at hF
    refine lv_iload_n hx hb dX12_nightOf_6 rfl (lv_at hl 2 rfl) ?_
    refine lv_aload_n hx hb dX12_nightOf_7 rfl (lv_at hl 0 rfl) ?_
    obtain ⟨r_3, e_3, hF⟩ := bnd hF
    refine m_gR X hH e_3 gg_X12_32 dX12_nightOf_8 ?_
    refine lv_iconst (v := (0 : Int32)) hx hb dX12_nightOf_11 (by decide) ?_
    obtain ⟨x_4, e_4, hF⟩ := bnd hF
    refine m_rdI X hH e_4 dX12_nightOf_12 ?_
    refine lv_icmp_ge (tgt := 64) hx hb dX12_nightOf_13 (by decide) (fun c_5 => ?_) (fun c_5 => ?_)
    · replace hF := itt c_5 hF
      exact hK_64  w hF H locs ls hH hS (lv_sub hl [] rfl)
    · replace hF := itf c_5 hF
      refine lv_aload_n hx hb dX12_nightOf_16 rfl (lv_at hl 0 rfl) ?_
      obtain ⟨r_6, e_6, hF⟩ := bnd hF
      refine m_gR X hH e_6 gg_X12_32 dX12_nightOf_17 ?_
      refine lv_iconst (v := (1 : Int32)) hx hb dX12_nightOf_20 (by decide) ?_
      refine lv_iconst (v := (3 : Int32)) hx hb dX12_nightOf_21 (by decide) ?_
      refine lv_iload_n hx hb dX12_nightOf_22 rfl (lv_at hl 2 rfl) ?_
      refine lv_imul hx hb dX12_nightOf_23 ?_
      refine lv_iadd hx hb dX12_nightOf_24 ?_
      obtain ⟨x_7, e_7, hF⟩ := bnd hF
      refine m_rdI X hH e_7 dX12_nightOf_25 ?_
      refine lv_iload_n hx hb dX12_nightOf_26 rfl (lv_at hl 1 rfl) ?_
      refine lv_icmp_ne (tgt := 58) hx hb dX12_nightOf_27 (by decide) (fun c_8 => ?_) (fun c_8 => ?_)
      · replace hF := itf c_8 hF
        refine lv_iinc (v := v2 + (1 : Int32)) (lv' := [(2, .int (v2 + (1 : Int32))), (0, .ref (base + p0)), (1, .int v1)]) hx hb dX12_nightOf_58 hl (k := 2) rfl (congrArg (fun z => v2 + z) (by decide)) (by decide) rfl (fun ls hl => ?_)
        refine lv_goto (tgt := 6) hx hb dX12_nightOf_61 (by decide) ?_
        exact ih (v2 + (1 : Int32)) w hF H locs ls hH hS (lv_sub hl [1, 2, 0] rfl)
      · replace hF := itt c_8 hF
        refine lv_aload_n hx hb dX12_nightOf_30 rfl (lv_at hl 0 rfl) ?_
        refine lv_aload_n hx hb dX12_nightOf_31 rfl (lv_at hl 0 rfl) ?_
        obtain ⟨r_9, e_9, hF⟩ := bnd hF
        refine m_gR X hH e_9 gg_X12_32 dX12_nightOf_32 ?_
        refine lv_iconst (v := (1 : Int32)) hx hb dX12_nightOf_35 (by decide) ?_
        refine lv_iconst (v := (3 : Int32)) hx hb dX12_nightOf_36 (by decide) ?_
        refine lv_iload_n hx hb dX12_nightOf_37 rfl (lv_at hl 2 rfl) ?_
        refine lv_imul hx hb dX12_nightOf_38 ?_
        refine lv_iadd hx hb dX12_nightOf_39 ?_
        refine lv_iconst (v := (1 : Int32)) hx hb dX12_nightOf_40 (by decide) ?_
        refine lv_iadd hx hb dX12_nightOf_41 ?_
        obtain ⟨x_10, e_10, hF⟩ := bnd hF
        refine m_rdI X hH e_10 dX12_nightOf_42 ?_
        refine lv_aload_n hx hb dX12_nightOf_43 rfl (lv_at hl 0 rfl) ?_
        obtain ⟨r_11, e_11, hF⟩ := bnd hF
        refine m_gR X hH e_11 gg_X12_32 dX12_nightOf_44 ?_
        refine lv_iconst (v := (1 : Int32)) hx hb dX12_nightOf_47 (by decide) ?_
        refine lv_iconst (v := (3 : Int32)) hx hb dX12_nightOf_48 (by decide) ?_
        refine lv_iload_n hx hb dX12_nightOf_49 rfl (lv_at hl 2 rfl) ?_
        refine lv_imul hx hb dX12_nightOf_50 ?_
        refine lv_iadd hx hb dX12_nightOf_51 ?_
        refine lv_iconst (v := (2 : Int32)) hx hb dX12_nightOf_52 (by decide) ?_
        refine lv_iadd hx hb dX12_nightOf_53 ?_
        obtain ⟨x_12, e_12, hF⟩ := bnd hF
        refine m_rdI X hH e_12 dX12_nightOf_54 ?_
        obtain ⟨u_13, ou_13, hF⟩ := bnd hF
        obtain ⟨q_14, e_14, hF⟩ := bnd hF
        refine m_callV (As := [.int x_10, .int x_12]) (rest := []) X hH hS hl.1 ou_13 rfl (by decide) (k_X12_turnsBy l D cI cT cII base p0 x_10 x_12 w q_14 e_14) q_X12_turnsBy kw_1055 kw_1057 kw_41 rfl rfl (Nat.le_of_ble_eq_true rfl) ⟨by decide, by decide⟩ hc dX12_nightOf_55 (fun H locs hH hS => W.eq (g2 := F0 m 58 ls []) rfl ?_)
        refine lv_iinc (v := v2 + (1 : Int32)) (lv' := [(2, .int (v2 + (1 : Int32))), (0, .ref (base + p0)), (1, .int v1)]) hx hb dX12_nightOf_58 hl (k := 2) rfl (congrArg (fun z => v2 + z) (by decide)) (by decide) rfl (fun ls hl => ?_)
        refine lv_goto (tgt := 6) hx hb dX12_nightOf_61 (by decide) ?_
        exact ih (v2 + (1 : Int32)) q_14.2 hF H locs ls hH hS (lv_sub hl [1, 2, 0] rfl)
set_option maxHeartbeats 4000000 in
set_option maxRecDepth 100000 in
theorem k_X12_nightOf (l : Launch) (D : va_G) (cI cT cII : ClassId) (base : Nat) (p0 : Nat) (v1 : Int32) (w : Wd) (res : Unit × Wd) (hF : fX12_nightOf p0 v1 w = some res) : Ct l yX12_nightOf cX12_nightOf 3 none { frames := 2, cells := 0, slots := 0, locals := 42 } D cI cT cII base [.ref (base + p0), .int v1] w res.2 none 0 0 := by
  unfold fX12_nightOf at hF
  refine m_enter (by decide) (Nat.le_of_ble_eq_true rfl) ?_
  intro p e s m below meth c ls X hr hlk hnm hH hS hl
  have hx := X.1
  have hb := X.2.1
  have hc : (0 : Nat) ≤ ({ frames := 2, cells := 0, slots := 0, locals := 42 } : Room).cells ∧ (0 : Nat) ≤ ({ frames := 2, cells := 0, slots := 0, locals := 42 } : Room).slots := ⟨Nat.zero_le _, Nat.zero_le _⟩
  obtain ⟨H, hHe⟩ : ∃ H : Heap, H = s.heap := ⟨_, rfl⟩
  obtain ⟨locs, hle⟩ : ∃ L : List Loc, L = [] := ⟨_, rfl⟩
  have hl : lv_has ls 3 [(0, .ref (base + p0)), (1, .int v1)] := hl
  rw [← hHe] at hH
  have hS : va_S (fun q => base ≤ q) s.heap H locs := by rw [hHe, hle]; exact hS
  rw [← hle]
  show W p l e _ s m _ below meth c s.heap locs 0 0 _ _
  rw [← hHe]
  refine lv_aload_n hx hb dX12_nightOf_0 rfl (lv_at hl 0 rfl) ?_
  obtain ⟨u_1, ou_1, hF⟩ := bnd hF
  obtain ⟨q_2, e_2, hF⟩ := bnd hF
  refine m_callV (As := []) (rest := []) X hH hS hl.1 ou_1 rfl (by decide) (k_X12_twists l D cI cT cII base p0 w q_2 e_2) q_X12_twists kw_1048 kw_1050 kw_40 rfl rfl (Nat.le_of_ble_eq_true rfl) ⟨by decide, by decide⟩ hc dX12_nightOf_1 (fun H locs hH hS => W.eq (g2 := F0 m 4 ls []) rfl ?_)
  refine lv_iconst (v := (0 : Int32)) hx hb dX12_nightOf_4 (by decide) ?_
  refine lv_istore_n (lv' := [(2, .int (0 : Int32)), (0, .ref (base + p0)), (1, .int v1)]) hx hb dX12_nightOf_5 rfl hl (by decide) rfl (fun ls hl => ?_)
  refine l_X12_nightOf_6 X hc p0 v1 _ res ?_ FV (0 : Int32) q_2.2 hF H locs ls hH hS (lv_sub hl [1, 2, 0] rfl)
  · intro  w_15 hF H locs ls hH hS hl
    have hF := Option.some.inj hF
    subst hF
    exact m_vret X hr hlk hH hS dX12_nightOf_64
noncomputable def fX12_madeBy (p0 : Nat) (v1 : Int32) (v2 : Int32) (w : Wd) : Option (Int32 × Wd) := (gfR 11 3 p0 w).bind fun r_1 => (rdI r_1 ((2 : Int32) * v1) w).bind fun x_2 => (gfR 11 3 p0 w).bind fun r_3 => (rdI r_3 (((2 : Int32) * v1) + (1 : Int32)) w).bind fun x_4 => (fX12_madeOf x_2 x_4 v2 w).bind fun q_5 => some (q_5.1, q_5.2)
set_option maxHeartbeats 4000000 in
set_option maxRecDepth 100000 in
theorem k_X12_madeBy (l : Launch) (D : va_G) (cI cT cII : ClassId) (base : Nat) (p0 : Nat) (v1 : Int32) (v2 : Int32) (w : Wd) (res : Int32 × Wd) (hF : fX12_madeBy p0 v1 v2 w = some res) : Ct l yX12_madeBy cX12_madeBy 3 (some .int) { frames := 2, cells := 0, slots := 0, locals := 42 } D cI cT cII base [.ref (base + p0), .int v1, .int v2] w res.2 (some (.int res.1)) 0 0 := by
  unfold fX12_madeBy at hF
  refine m_enter (by decide) (Nat.le_of_ble_eq_true rfl) ?_
  intro p e s m below meth c ls X hr hlk hnm hH hS hl
  have hx := X.1
  have hb := X.2.1
  have hc : (0 : Nat) ≤ ({ frames := 2, cells := 0, slots := 0, locals := 42 } : Room).cells ∧ (0 : Nat) ≤ ({ frames := 2, cells := 0, slots := 0, locals := 42 } : Room).slots := ⟨Nat.zero_le _, Nat.zero_le _⟩
  obtain ⟨H, hHe⟩ : ∃ H : Heap, H = s.heap := ⟨_, rfl⟩
  obtain ⟨locs, hle⟩ : ∃ L : List Loc, L = [] := ⟨_, rfl⟩
  have hl : lv_has ls 3 [(0, .ref (base + p0)), (1, .int v1), (2, .int v2)] := hl
  rw [← hHe] at hH
  have hS : va_S (fun q => base ≤ q) s.heap H locs := by rw [hHe, hle]; exact hS
  rw [← hle]
  show W p l e _ s m _ below meth c s.heap locs 0 0 _ _
  rw [← hHe]
  refine lv_aload_n hx hb dX12_madeBy_0 rfl (lv_at hl 0 rfl) ?_
  obtain ⟨r_1, e_1, hF⟩ := bnd hF
  refine m_gR X hH e_1 gg_X12_20 dX12_madeBy_1 ?_
  refine lv_iconst (v := (2 : Int32)) hx hb dX12_madeBy_4 (by decide) ?_
  refine lv_iload_n hx hb dX12_madeBy_5 rfl (lv_at hl 1 rfl) ?_
  refine lv_imul hx hb dX12_madeBy_6 ?_
  obtain ⟨x_2, e_2, hF⟩ := bnd hF
  refine m_rdI X hH e_2 dX12_madeBy_7 ?_
  refine lv_aload_n hx hb dX12_madeBy_8 rfl (lv_at hl 0 rfl) ?_
  obtain ⟨r_3, e_3, hF⟩ := bnd hF
  refine m_gR X hH e_3 gg_X12_20 dX12_madeBy_9 ?_
  refine lv_iconst (v := (2 : Int32)) hx hb dX12_madeBy_12 (by decide) ?_
  refine lv_iload_n hx hb dX12_madeBy_13 rfl (lv_at hl 1 rfl) ?_
  refine lv_imul hx hb dX12_madeBy_14 ?_
  refine lv_iconst (v := (1 : Int32)) hx hb dX12_madeBy_15 (by decide) ?_
  refine lv_iadd hx hb dX12_madeBy_16 ?_
  obtain ⟨x_4, e_4, hF⟩ := bnd hF
  refine m_rdI X hH e_4 dX12_madeBy_17 ?_
  refine lv_iload_n hx hb dX12_madeBy_18 rfl (lv_at hl 2 rfl) ?_
  obtain ⟨q_5, e_5, hF⟩ := bnd hF
  refine m_callS (As := [.int x_2, .int x_4, .int v2]) (rest := []) X hH hS hl.1 (k_X12_madeOf l D cI cT cII base x_2 x_4 v2 w q_5 e_5) q_X12_madeOf kw_1074 kw_1075 rfl rfl (Nat.le_of_ble_eq_true rfl) ⟨by decide, by decide⟩ hc dX12_madeBy_19 (fun H locs hH hS => W.eq (g2 := F0 m 22 ls [.int q_5.1]) rfl ?_)
  have hF := Option.some.inj hF
  subst hF
  exact m_iret X hr hlk hH hS dX12_madeBy_22
noncomputable def fX12_comes_2 (p0 : Nat) (v1 : Int32) (v2 : Int32) (K_95 : Wd → Option (Unit × Wd)) : Nat → Int32 → Wd → Option (Unit × Wd)
  | 0, _, _ => none
  | n + 1, v3, w => (gfI 11 0 p0 w).bind fun x_1 => if x_1 ≤ v3 then K_95  w else (gfI 11 28 p0 w).bind fun x_3 => (fX12_has x_3 v1 w).bind fun q_4 => if q_4.1 = 0 then (gfR 11 1 p0 q_4.2).bind fun r_6 => (rdI r_6 ((4 : Int32) * v3) q_4.2).bind fun x_7 => if x_7 = v2 then (gfR 11 25 p0 q_4.2).bind fun r_9 => (rdI r_9 v3 q_4.2).bind fun x_10 => (isO 11 p0 q_4.2).bind fun u_11 => (fX12_madeBy p0 v1 x_10 q_4.2).bind fun q_12 => (gfR 11 25 p0 q_12.2).bind fun r_13 => (rdI r_13 v3 q_12.2).bind fun x_14 => if q_12.1 = x_14 then fX12_comes_2 p0 v1 v2 K_95 n (v3 + (1 : Int32)) q_12.2 else (gfR 11 25 p0 q_12.2).bind fun r_16 => (gfR 11 25 p0 q_12.2).bind fun r_17 => (rdI r_17 v3 q_12.2).bind fun x_18 => (isO 11 p0 q_12.2).bind fun u_19 => (fX12_madeBy p0 v1 x_18 q_12.2).bind fun q_20 => (wrI r_16 v3 q_20.1 q_20.2).bind fun w_21 => (gfR 11 27 p0 w_21).bind fun r_22 => (wrI r_22 v1 v3 w_21).bind fun w_23 => (gfI 11 28 p0 w_23).bind fun x_24 => (pfI 11 28 p0 (x_24 ||| ((1 : Int32) <<< (v1 &&& 31))) w_23).bind fun w_25 => fX12_comes_2 p0 v1 v2 K_95 n (v3 + (1 : Int32)) w_25 else fX12_comes_2 p0 v1 v2 K_95 n (v3 + (1 : Int32)) q_4.2 else K_95  q_4.2
noncomputable def fX12_comes (p0 : Nat) (v1 : Int32) (v2 : Int32) (w : Wd) : Option (Unit × Wd) := fX12_comes_2 p0 v1 v2 (fun  (w_26 : Wd) => some ((), w_26)) FV (0 : Int32) w
set_option maxHeartbeats 4000000 in
set_option maxRecDepth 100000 in
theorem l_X12_comes_2 (X : Cx p R s m args c cX12_comes 4 RX12 D cI cT cII 3 64) (hc : cells ≤ R.cells ∧ slots ≤ R.slots) (p0 : Nat) (v1 : Int32) (v2 : Int32) (K_95 : Wd → Option (Unit × Wd)) (res : Unit × Wd)
    (hK_95 : ∀  (w : Wd), K_95  w = some res → ∀ (H : Heap) (locs : List Loc) (ls : Array Slot), Hd D cI cT cII base w H → va_S (fun q => base ≤ q) s.heap H locs → lv_has ls 4 [] → W p l e R s m args below meth c H locs cells slots Q (F0 m 95 ls [])) :
    ∀ (n : Nat) (v3 : Int32) (w : Wd), fX12_comes_2 p0 v1 v2 K_95 n v3 w = some res → ∀ (H : Heap) (locs : List Loc) (ls : Array Slot), Hd D cI cT cII base w H → va_S (fun q => base ≤ q) s.heap H locs → lv_has ls 4 [(0, .ref (base + p0)), (1, .int v1), (2, .int v2), (3, .int v3)] → W p l e R s m args below meth c H locs cells slots Q (F0 m 2 ls []) := by
  have hx := X.1
  have hb := X.2.1
  intro n
  induction n with
  | zero =>
    intro v3 w hF
    rw [fX12_comes_2] at hF
    cases hF
  | succ n ih =>
    intro v3 w hF H locs ls hH hS hl
    rw [fX12_comes_2] at hF
    refine lv_iload_n hx hb dX12_comes_2 rfl (lv_at hl 3 rfl) ?_
    refine lv_aload_n hx hb dX12_comes_3 rfl (lv_at hl 0 rfl) ?_
    obtain ⟨x_1, e_1, hF⟩ := bnd hF
    refine m_gI X hH e_1 gg_X12_7 dX12_comes_4 ?_
    refine lv_icmp_ge (tgt := 95) hx hb dX12_comes_7 (by decide) (fun c_2 => ?_) (fun c_2 => ?_)
    · replace hF := itt c_2 hF
      exact hK_95  w hF H locs ls hH hS (lv_sub hl [] rfl)
    · replace hF := itf c_2 hF
      refine lv_aload_n hx hb dX12_comes_10 rfl (lv_at hl 0 rfl) ?_
      obtain ⟨x_3, e_3, hF⟩ := bnd hF
      refine m_gI X hH e_3 gg_X12_182 dX12_comes_11 ?_
      refine lv_iload_n hx hb dX12_comes_14 rfl (lv_at hl 1 rfl) ?_
      obtain ⟨q_4, e_4, hF⟩ := bnd hF
      refine m_callS (As := [.int x_3, .int v1]) (rest := []) X hH hS hl.1 (k_X12_has l D cI cT cII base x_3 v1 w q_4 e_4) q_X12_has kw_1067 kw_1068 rfl rfl (Nat.le_of_ble_eq_true rfl) ⟨by decide, by decide⟩ hc dX12_comes_15 (fun H locs hH hS => W.eq (g2 := F0 m 18 ls [.int q_4.1]) rfl ?_)
      refine lv_if_ne (tgt := 95) hx hb dX12_comes_18 (by decide) (fun c_5 => ?_) (fun c_5 => ?_)
      · replace hF := itf c_5 hF
        exact hK_95  q_4.2 hF H locs ls hH hS (lv_sub hl [] rfl)
      · replace hF := itt c_5 hF
        refine lv_aload_n hx hb dX12_comes_21 rfl (lv_at hl 0 rfl) ?_
        obtain ⟨r_6, e_6, hF⟩ := bnd hF
        refine m_gR X hH e_6 gg_X12_13 dX12_comes_22 ?_
        refine lv_iconst (v := (4 : Int32)) hx hb dX12_comes_25 (by decide) ?_
        refine lv_iload_n hx hb dX12_comes_26 rfl (lv_at hl 3 rfl) ?_
        refine lv_imul hx hb dX12_comes_27 ?_
        obtain ⟨x_7, e_7, hF⟩ := bnd hF
        refine m_rdI X hH e_7 dX12_comes_28 ?_
        refine lv_iload_n hx hb dX12_comes_29 rfl (lv_at hl 2 rfl) ?_
        refine lv_icmp_ne (tgt := 89) hx hb dX12_comes_30 (by decide) (fun c_8 => ?_) (fun c_8 => ?_)
        · replace hF := itf c_8 hF
          refine lv_iinc (v := v3 + (1 : Int32)) (lv' := [(3, .int (v3 + (1 : Int32))), (0, .ref (base + p0)), (1, .int v1), (2, .int v2)]) hx hb dX12_comes_89 hl (k := 3) rfl (congrArg (fun z => v3 + z) (by decide)) (by decide) rfl (fun ls hl => ?_)
          refine lv_goto (tgt := 2) hx hb dX12_comes_92 (by decide) ?_
          exact ih (v3 + (1 : Int32)) q_4.2 hF H locs ls hH hS (lv_sub hl [1, 2, 3, 0] rfl)
        · replace hF := itt c_8 hF
          refine lv_aload_n hx hb dX12_comes_33 rfl (lv_at hl 0 rfl) ?_
          refine lv_iload_n hx hb dX12_comes_34 rfl (lv_at hl 1 rfl) ?_
          refine lv_aload_n hx hb dX12_comes_35 rfl (lv_at hl 0 rfl) ?_
          obtain ⟨r_9, e_9, hF⟩ := bnd hF
          refine m_gR X hH e_9 gg_X12_62 dX12_comes_36 ?_
          refine lv_iload_n hx hb dX12_comes_39 rfl (lv_at hl 3 rfl) ?_
          obtain ⟨x_10, e_10, hF⟩ := bnd hF
          refine m_rdI X hH e_10 dX12_comes_40 ?_
          obtain ⟨u_11, ou_11, hF⟩ := bnd hF
          obtain ⟨q_12, e_12, hF⟩ := bnd hF
          refine m_callV (As := [.int v1, .int x_10]) (rest := []) X hH hS hl.1 ou_11 rfl (by decide) (k_X12_madeBy l D cI cT cII base p0 v1 x_10 q_4.2 q_12 e_12) q_X12_madeBy kw_1070 kw_1072 kw_44 rfl rfl (Nat.le_of_ble_eq_true rfl) ⟨by decide, by decide⟩ hc dX12_comes_41 (fun H locs hH hS => W.eq (g2 := F0 m 44 ls [.int q_12.1]) rfl ?_)
          refine lv_aload_n hx hb dX12_comes_44 rfl (lv_at hl 0 rfl) ?_
          obtain ⟨r_13, e_13, hF⟩ := bnd hF
          refine m_gR X hH e_13 gg_X12_62 dX12_comes_45 ?_
          refine lv_iload_n hx hb dX12_comes_48 rfl (lv_at hl 3 rfl) ?_
          obtain ⟨x_14, e_14, hF⟩ := bnd hF
          refine m_rdI X hH e_14 dX12_comes_49 ?_
          refine lv_icmp_eq (tgt := 89) hx hb dX12_comes_50 (by decide) (fun c_15 => ?_) (fun c_15 => ?_)
          · replace hF := itt c_15 hF
            refine lv_iinc (v := v3 + (1 : Int32)) (lv' := [(3, .int (v3 + (1 : Int32))), (0, .ref (base + p0)), (1, .int v1), (2, .int v2)]) hx hb dX12_comes_89 hl (k := 3) rfl (congrArg (fun z => v3 + z) (by decide)) (by decide) rfl (fun ls hl => ?_)
            refine lv_goto (tgt := 2) hx hb dX12_comes_92 (by decide) ?_
            exact ih (v3 + (1 : Int32)) q_12.2 hF H locs ls hH hS (lv_sub hl [1, 2, 3, 0] rfl)
          · replace hF := itf c_15 hF
            refine lv_aload_n hx hb dX12_comes_53 rfl (lv_at hl 0 rfl) ?_
            obtain ⟨r_16, e_16, hF⟩ := bnd hF
            refine m_gR X hH e_16 gg_X12_62 dX12_comes_54 ?_
            refine lv_iload_n hx hb dX12_comes_57 rfl (lv_at hl 3 rfl) ?_
            refine lv_aload_n hx hb dX12_comes_58 rfl (lv_at hl 0 rfl) ?_
            refine lv_iload_n hx hb dX12_comes_59 rfl (lv_at hl 1 rfl) ?_
            refine lv_aload_n hx hb dX12_comes_60 rfl (lv_at hl 0 rfl) ?_
            obtain ⟨r_17, e_17, hF⟩ := bnd hF
            refine m_gR X hH e_17 gg_X12_62 dX12_comes_61 ?_
            refine lv_iload_n hx hb dX12_comes_64 rfl (lv_at hl 3 rfl) ?_
            obtain ⟨x_18, e_18, hF⟩ := bnd hF
            refine m_rdI X hH e_18 dX12_comes_65 ?_
            obtain ⟨u_19, ou_19, hF⟩ := bnd hF
            obtain ⟨q_20, e_20, hF⟩ := bnd hF
            refine m_callV (As := [.int v1, .int x_18]) (rest := [.int v3, .ref (base + r_16)]) X hH hS hl.1 ou_19 rfl (by decide) (k_X12_madeBy l D cI cT cII base p0 v1 x_18 q_12.2 q_20 e_20) q_X12_madeBy kw_1070 kw_1072 kw_44 rfl rfl (Nat.le_of_ble_eq_true rfl) ⟨by decide, by decide⟩ hc dX12_comes_66 (fun H locs hH hS => W.eq (g2 := F0 m 69 ls [.int q_20.1, .int v3, .ref (base + r_16)]) rfl ?_)
            obtain ⟨w_21, e_21, hF⟩ := bnd hF
            refine m_wrI X hH hS e_21 dX12_comes_69 (fun H locs hH hS => ?_)
            refine lv_aload_n hx hb dX12_comes_70 rfl (lv_at hl 0 rfl) ?_
            obtain ⟨r_22, e_22, hF⟩ := bnd hF
            refine m_gR X hH e_22 gg_X12_68 dX12_comes_71 ?_
            refine lv_iload_n hx hb dX12_comes_74 rfl (lv_at hl 1 rfl) ?_
            refine lv_iload_n hx hb dX12_comes_75 rfl (lv_at hl 3 rfl) ?_
            obtain ⟨w_23, e_23, hF⟩ := bnd hF
            refine m_wrI X hH hS e_23 dX12_comes_76 (fun H locs hH hS => ?_)
            refine lv_aload_n hx hb dX12_comes_77 rfl (lv_at hl 0 rfl) ?_
            refine lv_dup hx hb dX12_comes_78 rfl ?_
            obtain ⟨x_24, e_24, hF⟩ := bnd hF
            refine m_gI X hH e_24 gg_X12_182 dX12_comes_79 ?_
            refine lv_iconst (v := (1 : Int32)) hx hb dX12_comes_82 (by decide) ?_
            refine lv_iload_n hx hb dX12_comes_83 rfl (lv_at hl 1 rfl) ?_
            refine lv_ishl hx hb dX12_comes_84 ?_
            refine lv_ior hx hb dX12_comes_85 ?_
            obtain ⟨w_25, e_25, hF⟩ := bnd hF
            refine m_pI X hH hS e_25 gp_X12_182 rfl rfl dX12_comes_86 (fun H locs hH hS => ?_)
            refine lv_iinc (v := v3 + (1 : Int32)) (lv' := [(3, .int (v3 + (1 : Int32))), (0, .ref (base + p0)), (1, .int v1), (2, .int v2)]) hx hb dX12_comes_89 hl (k := 3) rfl (congrArg (fun z => v3 + z) (by decide)) (by decide) rfl (fun ls hl => ?_)
            refine lv_goto (tgt := 2) hx hb dX12_comes_92 (by decide) ?_
            exact ih (v3 + (1 : Int32)) w_25 hF H locs ls hH hS (lv_sub hl [1, 2, 3, 0] rfl)
set_option maxHeartbeats 4000000 in
set_option maxRecDepth 100000 in
theorem k_X12_comes (l : Launch) (D : va_G) (cI cT cII : ClassId) (base : Nat) (p0 : Nat) (v1 : Int32) (v2 : Int32) (w : Wd) (res : Unit × Wd) (hF : fX12_comes p0 v1 v2 w = some res) : Ct l yX12_comes cX12_comes 4 none { frames := 3, cells := 0, slots := 0, locals := 64 } D cI cT cII base [.ref (base + p0), .int v1, .int v2] w res.2 none 0 0 := by
  unfold fX12_comes at hF
  refine m_enter (by decide) (Nat.le_of_ble_eq_true rfl) ?_
  intro p e s m below meth c ls X hr hlk hnm hH hS hl
  have hx := X.1
  have hb := X.2.1
  have hc : (0 : Nat) ≤ ({ frames := 3, cells := 0, slots := 0, locals := 64 } : Room).cells ∧ (0 : Nat) ≤ ({ frames := 3, cells := 0, slots := 0, locals := 64 } : Room).slots := ⟨Nat.zero_le _, Nat.zero_le _⟩
  obtain ⟨H, hHe⟩ : ∃ H : Heap, H = s.heap := ⟨_, rfl⟩
  obtain ⟨locs, hle⟩ : ∃ L : List Loc, L = [] := ⟨_, rfl⟩
  have hl : lv_has ls 4 [(0, .ref (base + p0)), (1, .int v1), (2, .int v2)] := hl
  rw [← hHe] at hH
  have hS : va_S (fun q => base ≤ q) s.heap H locs := by rw [hHe, hle]; exact hS
  rw [← hle]
  show W p l e _ s m _ below meth c s.heap locs 0 0 _ _
  rw [← hHe]
  refine lv_iconst (v := (0 : Int32)) hx hb dX12_comes_0 (by decide) ?_
  refine lv_istore_n (lv' := [(3, .int (0 : Int32)), (0, .ref (base + p0)), (1, .int v1), (2, .int v2)]) hx hb dX12_comes_1 rfl hl (by decide) rfl (fun ls hl => ?_)
  refine l_X12_comes_2 X hc p0 v1 v2 _ res ?_ FV (0 : Int32) w hF H locs ls hH hS (lv_sub hl [1, 2, 3, 0] rfl)
  · intro  w_26 hF H locs ls hH hS hl
    have hF := Option.some.inj hF
    subst hF
    exact m_vret X hr hlk hH hS dX12_comes_95
noncomputable def fX12_morning_7 (p0 : Nat) (K_26 : Wd → Option (Unit × Wd)) : Nat → Int32 → Wd → Option (Unit × Wd)
  | 0, _, _ => none
  | n + 1, v1, w => if (5 : Int32) ≤ v1 then K_26  w else (gfR 11 27 p0 w).bind fun r_3 => (wrI r_3 v1 (-4 : Int32) w).bind fun w_4 => fX12_morning_7 p0 K_26 n (v1 + (1 : Int32)) w_4
noncomputable def fX12_morning_28 (p0 : Nat) (K_74 : Wd → Option (Unit × Wd)) : Nat → Int32 → Wd → Option (Unit × Wd)
  | 0, _, _ => none
  | n + 1, v1, w => (gfI 11 4 p0 w).bind fun x_6 => if x_6 ≤ v1 then K_74  w else (gfR 11 5 p0 w).bind fun r_8 => (gfR 11 6 p0 w).bind fun r_9 => (rdI r_9 v1 w).bind fun x_10 => (rdI r_8 ((3 : Int32) * x_10) w).bind fun x_11 => (gfR 11 5 p0 w).bind fun r_12 => (gfR 11 6 p0 w).bind fun r_13 => (rdI r_13 v1 w).bind fun x_14 => (rdI r_12 (((3 : Int32) * x_14) + (2 : Int32)) w).bind fun x_15 => (isO 11 p0 w).bind fun u_16 => (fX12_comes p0 x_11 x_15 w).bind fun q_17 => fX12_morning_28 p0 K_74 n (v1 + (1 : Int32)) q_17.2
noncomputable def fX12_morning (p0 : Nat) (w : Wd) : Option (Unit × Wd) := (pfI 11 28 p0 (0 : Int32) w).bind fun w_1 => fX12_morning_7 p0 (fun  (w_5 : Wd) => fX12_morning_28 p0 (fun  (w_18 : Wd) => some ((), w_18)) FV (0 : Int32) w_5) FV (0 : Int32) w_1
set_option maxHeartbeats 4000000 in
set_option maxRecDepth 100000 in
theorem l_X12_morning_7 (X : Cx p R s m args c cX12_morning 2 RX12 D cI cT cII 4 87) (hc : cells ≤ R.cells ∧ slots ≤ R.slots) (p0 : Nat) (K_26 : Wd → Option (Unit × Wd)) (res : Unit × Wd)
    (hK_26 : ∀  (w : Wd), K_26  w = some res → ∀ (H : Heap) (locs : List Loc) (ls : Array Slot), Hd D cI cT cII base w H → va_S (fun q => base ≤ q) s.heap H locs → lv_has ls 2 [(0, .ref (base + p0))] → W p l e R s m args below meth c H locs cells slots Q (F0 m 26 ls [])) :
    ∀ (n : Nat) (v1 : Int32) (w : Wd), fX12_morning_7 p0 K_26 n v1 w = some res → ∀ (H : Heap) (locs : List Loc) (ls : Array Slot), Hd D cI cT cII base w H → va_S (fun q => base ≤ q) s.heap H locs → lv_has ls 2 [(0, .ref (base + p0)), (1, .int v1)] → W p l e R s m args below meth c H locs cells slots Q (F0 m 7 ls []) := by
  have hx := X.1
  have hb := X.2.1
  intro n
  induction n with
  | zero =>
    intro v1 w hF
    rw [fX12_morning_7] at hF
    cases hF
  | succ n ih =>
    intro v1 w hF H locs ls hH hS hl
    rw [fX12_morning_7] at hF
    refine lv_iload_n hx hb dX12_morning_7 rfl (lv_at hl 1 rfl) ?_
    refine lv_iconst (v := (5 : Int32)) hx hb dX12_morning_8 (by decide) ?_
    refine lv_icmp_ge (tgt := 26) hx hb dX12_morning_9 (by decide) (fun c_2 => ?_) (fun c_2 => ?_)
    · replace hF := itt c_2 hF
      exact hK_26  w hF H locs ls hH hS (lv_sub hl [0] rfl)
    · replace hF := itf c_2 hF
      refine lv_aload_n hx hb dX12_morning_12 rfl (lv_at hl 0 rfl) ?_
      obtain ⟨r_3, e_3, hF⟩ := bnd hF
      refine m_gR X hH e_3 gg_X12_68 dX12_morning_13 ?_
      refine lv_iload_n hx hb dX12_morning_16 rfl (lv_at hl 1 rfl) ?_
      refine lv_bipush (v := (-4 : Int32)) hx hb dX12_morning_17 (by decide) ?_
      obtain ⟨w_4, e_4, hF⟩ := bnd hF
      refine m_wrI X hH hS e_4 dX12_morning_19 (fun H locs hH hS => ?_)
      refine lv_iinc (v := v1 + (1 : Int32)) (lv' := [(1, .int (v1 + (1 : Int32))), (0, .ref (base + p0))]) hx hb dX12_morning_20 hl (k := 1) rfl (congrArg (fun z => v1 + z) (by decide)) (by decide) rfl (fun ls hl => ?_)
      refine lv_goto (tgt := 7) hx hb dX12_morning_23 (by decide) ?_
      exact ih (v1 + (1 : Int32)) w_4 hF H locs ls hH hS (lv_sub hl [1, 0] rfl)
set_option maxHeartbeats 4000000 in
set_option maxRecDepth 100000 in
theorem l_X12_morning_28 (X : Cx p R s m args c cX12_morning 2 RX12 D cI cT cII 4 87) (hc : cells ≤ R.cells ∧ slots ≤ R.slots) (p0 : Nat) (K_74 : Wd → Option (Unit × Wd)) (res : Unit × Wd)
    (hK_74 : ∀  (w : Wd), K_74  w = some res → ∀ (H : Heap) (locs : List Loc) (ls : Array Slot), Hd D cI cT cII base w H → va_S (fun q => base ≤ q) s.heap H locs → lv_has ls 2 [] → W p l e R s m args below meth c H locs cells slots Q (F0 m 74 ls [])) :
    ∀ (n : Nat) (v1 : Int32) (w : Wd), fX12_morning_28 p0 K_74 n v1 w = some res → ∀ (H : Heap) (locs : List Loc) (ls : Array Slot), Hd D cI cT cII base w H → va_S (fun q => base ≤ q) s.heap H locs → lv_has ls 2 [(0, .ref (base + p0)), (1, .int v1)] → W p l e R s m args below meth c H locs cells slots Q (F0 m 28 ls []) := by
  have hx := X.1
  have hb := X.2.1
  intro n
  induction n with
  | zero =>
    intro v1 w hF
    rw [fX12_morning_28] at hF
    cases hF
  | succ n ih =>
    intro v1 w hF H locs ls hH hS hl
    rw [fX12_morning_28] at hF
    refine lv_iload_n hx hb dX12_morning_28 rfl (lv_at hl 1 rfl) ?_
    refine lv_aload_n hx hb dX12_morning_29 rfl (lv_at hl 0 rfl) ?_
    obtain ⟨x_6, e_6, hF⟩ := bnd hF
    refine m_gI X hH e_6 gg_X12_23 dX12_morning_30 ?_
    refine lv_icmp_ge (tgt := 74) hx hb dX12_morning_33 (by decide) (fun c_7 => ?_) (fun c_7 => ?_)
    · replace hF := itt c_7 hF
      exact hK_74  w hF H locs ls hH hS (lv_sub hl [] rfl)
    · replace hF := itf c_7 hF
      refine lv_aload_n hx hb dX12_morning_36 rfl (lv_at hl 0 rfl) ?_
      refine lv_aload_n hx hb dX12_morning_37 rfl (lv_at hl 0 rfl) ?_
      obtain ⟨r_8, e_8, hF⟩ := bnd hF
      refine m_gR X hH e_8 gg_X12_26 dX12_morning_38 ?_
      refine lv_iconst (v := (3 : Int32)) hx hb dX12_morning_41 (by decide) ?_
      refine lv_aload_n hx hb dX12_morning_42 rfl (lv_at hl 0 rfl) ?_
      obtain ⟨r_9, e_9, hF⟩ := bnd hF
      refine m_gR X hH e_9 gg_X12_29 dX12_morning_43 ?_
      refine lv_iload_n hx hb dX12_morning_46 rfl (lv_at hl 1 rfl) ?_
      obtain ⟨x_10, e_10, hF⟩ := bnd hF
      refine m_rdI X hH e_10 dX12_morning_47 ?_
      refine lv_imul hx hb dX12_morning_48 ?_
      obtain ⟨x_11, e_11, hF⟩ := bnd hF
      refine m_rdI X hH e_11 dX12_morning_49 ?_
      refine lv_aload_n hx hb dX12_morning_50 rfl (lv_at hl 0 rfl) ?_
      obtain ⟨r_12, e_12, hF⟩ := bnd hF
      refine m_gR X hH e_12 gg_X12_26 dX12_morning_51 ?_
      refine lv_iconst (v := (3 : Int32)) hx hb dX12_morning_54 (by decide) ?_
      refine lv_aload_n hx hb dX12_morning_55 rfl (lv_at hl 0 rfl) ?_
      obtain ⟨r_13, e_13, hF⟩ := bnd hF
      refine m_gR X hH e_13 gg_X12_29 dX12_morning_56 ?_
      refine lv_iload_n hx hb dX12_morning_59 rfl (lv_at hl 1 rfl) ?_
      obtain ⟨x_14, e_14, hF⟩ := bnd hF
      refine m_rdI X hH e_14 dX12_morning_60 ?_
      refine lv_imul hx hb dX12_morning_61 ?_
      refine lv_iconst (v := (2 : Int32)) hx hb dX12_morning_62 (by decide) ?_
      refine lv_iadd hx hb dX12_morning_63 ?_
      obtain ⟨x_15, e_15, hF⟩ := bnd hF
      refine m_rdI X hH e_15 dX12_morning_64 ?_
      obtain ⟨u_16, ou_16, hF⟩ := bnd hF
      obtain ⟨q_17, e_17, hF⟩ := bnd hF
      refine m_callV (As := [.int x_11, .int x_15]) (rest := []) X hH hS hl.1 ou_16 rfl (by decide) (k_X12_comes l D cI cT cII base p0 x_11 x_15 w q_17 e_17) q_X12_comes kw_1063 kw_1065 kw_43 rfl rfl (Nat.le_of_ble_eq_true rfl) ⟨by decide, by decide⟩ hc dX12_morning_65 (fun H locs hH hS => W.eq (g2 := F0 m 68 ls []) rfl ?_)
      refine lv_iinc (v := v1 + (1 : Int32)) (lv' := [(1, .int (v1 + (1 : Int32))), (0, .ref (base + p0))]) hx hb dX12_morning_68 hl (k := 1) rfl (congrArg (fun z => v1 + z) (by decide)) (by decide) rfl (fun ls hl => ?_)
      refine lv_goto (tgt := 28) hx hb dX12_morning_71 (by decide) ?_
      exact ih (v1 + (1 : Int32)) q_17.2 hF H locs ls hH hS (lv_sub hl [1, 0] rfl)
set_option maxHeartbeats 4000000 in
set_option maxRecDepth 100000 in
theorem k_X12_morning (l : Launch) (D : va_G) (cI cT cII : ClassId) (base : Nat) (p0 : Nat) (w : Wd) (res : Unit × Wd) (hF : fX12_morning p0 w = some res) : Ct l yX12_morning cX12_morning 2 none { frames := 4, cells := 0, slots := 0, locals := 87 } D cI cT cII base [.ref (base + p0)] w res.2 none 0 0 := by
  unfold fX12_morning at hF
  refine m_enter (by decide) (Nat.le_of_ble_eq_true rfl) ?_
  intro p e s m below meth c ls X hr hlk hnm hH hS hl
  have hx := X.1
  have hb := X.2.1
  have hc : (0 : Nat) ≤ ({ frames := 4, cells := 0, slots := 0, locals := 87 } : Room).cells ∧ (0 : Nat) ≤ ({ frames := 4, cells := 0, slots := 0, locals := 87 } : Room).slots := ⟨Nat.zero_le _, Nat.zero_le _⟩
  obtain ⟨H, hHe⟩ : ∃ H : Heap, H = s.heap := ⟨_, rfl⟩
  obtain ⟨locs, hle⟩ : ∃ L : List Loc, L = [] := ⟨_, rfl⟩
  have hl : lv_has ls 2 [(0, .ref (base + p0))] := hl
  rw [← hHe] at hH
  have hS : va_S (fun q => base ≤ q) s.heap H locs := by rw [hHe, hle]; exact hS
  rw [← hle]
  show W p l e _ s m _ below meth c s.heap locs 0 0 _ _
  rw [← hHe]
  refine lv_aload_n hx hb dX12_morning_0 rfl (lv_at hl 0 rfl) ?_
  refine lv_iconst (v := (0 : Int32)) hx hb dX12_morning_1 (by decide) ?_
  obtain ⟨w_1, e_1, hF⟩ := bnd hF
  refine m_pI X hH hS e_1 gp_X12_182 rfl rfl dX12_morning_2 (fun H locs hH hS => ?_)
  refine lv_iconst (v := (0 : Int32)) hx hb dX12_morning_5 (by decide) ?_
  refine lv_istore_n (lv' := [(1, .int (0 : Int32)), (0, .ref (base + p0))]) hx hb dX12_morning_6 rfl hl (by decide) rfl (fun ls hl => ?_)
  refine l_X12_morning_7 X hc p0 _ res ?_ FV (0 : Int32) w_1 hF H locs ls hH hS (lv_sub hl [1, 0] rfl)
  · intro  w_5 hF H locs ls hH hS hl
    refine lv_iconst (v := (0 : Int32)) hx hb dX12_morning_26 (by decide) ?_
    refine lv_istore_n (lv' := [(1, .int (0 : Int32)), (0, .ref (base + p0))]) hx hb dX12_morning_27 rfl hl (by decide) rfl (fun ls hl => ?_)
    refine l_X12_morning_28 X hc p0 _ res ?_ FV (0 : Int32) w_5 hF H locs ls hH hS (lv_sub hl [1, 0] rfl)
    · intro  w_18 hF H locs ls hH hS hl
      have hF := Option.some.inj hF
      subst hF
      exact m_vret X hr hlk hH hS dX12_morning_74
noncomputable def fX12_goes_18 (p0 : Nat) (v1 : Int32) (v2 : Int32) (K_42 : Wd → Option (Unit × Wd)) : Nat → Int32 → Wd → Option (Unit × Wd)
  | 0, _, _ => none
  | n + 1, v3, w => if (7 : Int32) ≤ v3 then K_42  w else (gfR 11 26 p0 w).bind fun r_7 => (gfR 11 25 p0 w).bind fun r_8 => (rdI r_8 v3 w).bind fun x_9 => (wrI r_7 v3 x_9 w).bind fun w_10 => fX12_goes_18 p0 v1 v2 K_42 n (v3 + (1 : Int32)) w_10
noncomputable def fX12_goes_6 (p0 : Nat) (v1 : Int32) (K_52 : Wd → Option (Unit × Wd)) : Nat → Int32 → Wd → Option (Unit × Wd)
  | 0, _, _ => none
  | n + 1, v2, w => if v1 < v2 then K_52  w else (isO 11 p0 w).bind fun u_4 => (fX12_nightOf p0 v2 w).bind fun q_5 => fX12_goes_18 p0 v1 v2 (fun  (w_11 : Wd) => (isO 11 p0 w_11).bind fun u_12 => (fX12_morning p0 w_11).bind fun q_13 => fX12_goes_6 p0 v1 K_52 n (v2 + (1 : Int32)) q_13.2) FV (0 : Int32) q_5.2
noncomputable def fX12_goes (p0 : Nat) (v1 : Int32) (w : Wd) : Option (Unit × Wd) := (isO 11 p0 w).bind fun u_1 => (fX12_begins p0 w).bind fun q_2 => fX12_goes_6 p0 v1 (fun  (w_14 : Wd) => some ((), w_14)) FV (0 : Int32) q_2.2
set_option maxHeartbeats 4000000 in
set_option maxRecDepth 100000 in
theorem l_X12_goes_18 (X : Cx p R s m args c cX12_goes 4 RX12 D cI cT cII 5 108) (hc : cells ≤ R.cells ∧ slots ≤ R.slots) (p0 : Nat) (v1 : Int32) (v2 : Int32) (K_42 : Wd → Option (Unit × Wd)) (res : Unit × Wd)
    (hK_42 : ∀  (w : Wd), K_42  w = some res → ∀ (H : Heap) (locs : List Loc) (ls : Array Slot), Hd D cI cT cII base w H → va_S (fun q => base ≤ q) s.heap H locs → lv_has ls 4 [(0, .ref (base + p0)), (1, .int v1), (2, .int v2)] → W p l e R s m args below meth c H locs cells slots Q (F0 m 42 ls [])) :
    ∀ (n : Nat) (v3 : Int32) (w : Wd), fX12_goes_18 p0 v1 v2 K_42 n v3 w = some res → ∀ (H : Heap) (locs : List Loc) (ls : Array Slot), Hd D cI cT cII base w H → va_S (fun q => base ≤ q) s.heap H locs → lv_has ls 4 [(0, .ref (base + p0)), (1, .int v1), (2, .int v2), (3, .int v3)] → W p l e R s m args below meth c H locs cells slots Q (F0 m 18 ls []) := by
  have hx := X.1
  have hb := X.2.1
  intro n
  induction n with
  | zero =>
    intro v3 w hF
    rw [fX12_goes_18] at hF
    cases hF
  | succ n ih =>
    intro v3 w hF H locs ls hH hS hl
    rw [fX12_goes_18] at hF
    refine lv_iload_n hx hb dX12_goes_18 rfl (lv_at hl 3 rfl) ?_
    refine lv_bipush (v := (7 : Int32)) hx hb dX12_goes_19 (by decide) ?_
    refine lv_icmp_ge (tgt := 42) hx hb dX12_goes_21 (by decide) (fun c_6 => ?_) (fun c_6 => ?_)
    · replace hF := itt c_6 hF
      exact hK_42  w hF H locs ls hH hS (lv_sub hl [0, 1, 2] rfl)
    · replace hF := itf c_6 hF
      refine lv_aload_n hx hb dX12_goes_24 rfl (lv_at hl 0 rfl) ?_
      obtain ⟨r_7, e_7, hF⟩ := bnd hF
      refine m_gR X hH e_7 gg_X12_65 dX12_goes_25 ?_
      refine lv_iload_n hx hb dX12_goes_28 rfl (lv_at hl 3 rfl) ?_
      refine lv_aload_n hx hb dX12_goes_29 rfl (lv_at hl 0 rfl) ?_
      obtain ⟨r_8, e_8, hF⟩ := bnd hF
      refine m_gR X hH e_8 gg_X12_62 dX12_goes_30 ?_
      refine lv_iload_n hx hb dX12_goes_33 rfl (lv_at hl 3 rfl) ?_
      obtain ⟨x_9, e_9, hF⟩ := bnd hF
      refine m_rdI X hH e_9 dX12_goes_34 ?_
      obtain ⟨w_10, e_10, hF⟩ := bnd hF
      refine m_wrI X hH hS e_10 dX12_goes_35 (fun H locs hH hS => ?_)
      refine lv_iinc (v := v3 + (1 : Int32)) (lv' := [(3, .int (v3 + (1 : Int32))), (0, .ref (base + p0)), (1, .int v1), (2, .int v2)]) hx hb dX12_goes_36 hl (k := 3) rfl (congrArg (fun z => v3 + z) (by decide)) (by decide) rfl (fun ls hl => ?_)
      refine lv_goto (tgt := 18) hx hb dX12_goes_39 (by decide) ?_
      exact ih (v3 + (1 : Int32)) w_10 hF H locs ls hH hS (lv_sub hl [1, 2, 3, 0] rfl)
set_option maxHeartbeats 4000000 in
set_option maxRecDepth 100000 in
theorem l_X12_goes_6 (X : Cx p R s m args c cX12_goes 4 RX12 D cI cT cII 5 108) (hc : cells ≤ R.cells ∧ slots ≤ R.slots) (p0 : Nat) (v1 : Int32) (K_52 : Wd → Option (Unit × Wd)) (res : Unit × Wd)
    (hK_52 : ∀  (w : Wd), K_52  w = some res → ∀ (H : Heap) (locs : List Loc) (ls : Array Slot), Hd D cI cT cII base w H → va_S (fun q => base ≤ q) s.heap H locs → lv_has ls 4 [] → W p l e R s m args below meth c H locs cells slots Q (F0 m 52 ls [])) :
    ∀ (n : Nat) (v2 : Int32) (w : Wd), fX12_goes_6 p0 v1 K_52 n v2 w = some res → ∀ (H : Heap) (locs : List Loc) (ls : Array Slot), Hd D cI cT cII base w H → va_S (fun q => base ≤ q) s.heap H locs → lv_has ls 4 [(0, .ref (base + p0)), (1, .int v1), (2, .int v2)] → W p l e R s m args below meth c H locs cells slots Q (F0 m 6 ls []) := by
  have hx := X.1
  have hb := X.2.1
  intro n
  induction n with
  | zero =>
    intro v2 w hF
    rw [fX12_goes_6] at hF
    cases hF
  | succ n ih =>
    intro v2 w hF H locs ls hH hS hl
    rw [fX12_goes_6] at hF
    refine lv_iload_n hx hb dX12_goes_6 rfl (lv_at hl 2 rfl) ?_
    refine lv_iload_n hx hb dX12_goes_7 rfl (lv_at hl 1 rfl) ?_
    refine lv_icmp_gt (tgt := 52) hx hb dX12_goes_8 (by decide) (fun c_3 => ?_) (fun c_3 => ?_)
    · replace hF := itt c_3 hF
      exact hK_52  w hF H locs ls hH hS (lv_sub hl [] rfl)
    · replace hF := itf c_3 hF
      refine lv_aload_n hx hb dX12_goes_11 rfl (lv_at hl 0 rfl) ?_
      refine lv_iload_n hx hb dX12_goes_12 rfl (lv_at hl 2 rfl) ?_
      obtain ⟨u_4, ou_4, hF⟩ := bnd hF
      obtain ⟨q_5, e_5, hF⟩ := bnd hF
      refine m_callV (As := [.int v2]) (rest := []) X hH hS hl.1 ou_4 rfl (by decide) (k_X12_nightOf l D cI cT cII base p0 v2 w q_5 e_5) q_X12_nightOf kw_1044 kw_1046 kw_39 rfl rfl (Nat.le_of_ble_eq_true rfl) ⟨by decide, by decide⟩ hc dX12_goes_13 (fun H locs hH hS => W.eq (g2 := F0 m 16 ls []) rfl ?_)
      refine lv_iconst (v := (0 : Int32)) hx hb dX12_goes_16 (by decide) ?_
      refine lv_istore_n (lv' := [(3, .int (0 : Int32)), (0, .ref (base + p0)), (1, .int v1), (2, .int v2)]) hx hb dX12_goes_17 rfl hl (by decide) rfl (fun ls hl => ?_)
      refine l_X12_goes_18 X hc p0 v1 v2 _ res ?_ FV (0 : Int32) q_5.2 hF H locs ls hH hS (lv_sub hl [1, 2, 3, 0] rfl)
      · intro  w_11 hF H locs ls hH hS hl
        refine lv_aload_n hx hb dX12_goes_42 rfl (lv_at hl 0 rfl) ?_
        obtain ⟨u_12, ou_12, hF⟩ := bnd hF
        obtain ⟨q_13, e_13, hF⟩ := bnd hF
        refine m_callV (As := []) (rest := []) X hH hS hl.1 ou_12 rfl (by decide) (k_X12_morning l D cI cT cII base p0 w_11 q_13 e_13) q_X12_morning kw_1059 kw_1061 kw_42 rfl rfl (Nat.le_of_ble_eq_true rfl) ⟨by decide, by decide⟩ hc dX12_goes_43 (fun H locs hH hS => W.eq (g2 := F0 m 46 ls []) rfl ?_)
        refine lv_iinc (v := v2 + (1 : Int32)) (lv' := [(2, .int (v2 + (1 : Int32))), (0, .ref (base + p0)), (1, .int v1)]) hx hb dX12_goes_46 hl (k := 2) rfl (congrArg (fun z => v2 + z) (by decide)) (by decide) rfl (fun ls hl => ?_)
        refine lv_goto (tgt := 6) hx hb dX12_goes_49 (by decide) ?_
        exact ih (v2 + (1 : Int32)) q_13.2 hF H locs ls hH hS (lv_sub hl [1, 2, 0] rfl)
set_option maxHeartbeats 4000000 in
set_option maxRecDepth 100000 in
theorem k_X12_goes (l : Launch) (D : va_G) (cI cT cII : ClassId) (base : Nat) (p0 : Nat) (v1 : Int32) (w : Wd) (res : Unit × Wd) (hF : fX12_goes p0 v1 w = some res) : Ct l yX12_goes cX12_goes 4 none { frames := 5, cells := 0, slots := 0, locals := 108 } D cI cT cII base [.ref (base + p0), .int v1] w res.2 none 0 0 := by
  unfold fX12_goes at hF
  refine m_enter (by decide) (Nat.le_of_ble_eq_true rfl) ?_
  intro p e s m below meth c ls X hr hlk hnm hH hS hl
  have hx := X.1
  have hb := X.2.1
  have hc : (0 : Nat) ≤ ({ frames := 5, cells := 0, slots := 0, locals := 108 } : Room).cells ∧ (0 : Nat) ≤ ({ frames := 5, cells := 0, slots := 0, locals := 108 } : Room).slots := ⟨Nat.zero_le _, Nat.zero_le _⟩
  obtain ⟨H, hHe⟩ : ∃ H : Heap, H = s.heap := ⟨_, rfl⟩
  obtain ⟨locs, hle⟩ : ∃ L : List Loc, L = [] := ⟨_, rfl⟩
  have hl : lv_has ls 4 [(0, .ref (base + p0)), (1, .int v1)] := hl
  rw [← hHe] at hH
  have hS : va_S (fun q => base ≤ q) s.heap H locs := by rw [hHe, hle]; exact hS
  rw [← hle]
  show W p l e _ s m _ below meth c s.heap locs 0 0 _ _
  rw [← hHe]
  refine lv_aload_n hx hb dX12_goes_0 rfl (lv_at hl 0 rfl) ?_
  obtain ⟨u_1, ou_1, hF⟩ := bnd hF
  obtain ⟨q_2, e_2, hF⟩ := bnd hF
  refine m_callV (As := []) (rest := []) X hH hS hl.1 ou_1 rfl (by decide) (k_X12_begins l D cI cT cII base p0 w q_2 e_2) q_X12_begins kw_1040 kw_1042 kw_38 rfl rfl (Nat.le_of_ble_eq_true rfl) ⟨by decide, by decide⟩ hc dX12_goes_1 (fun H locs hH hS => W.eq (g2 := F0 m 4 ls []) rfl ?_)
  refine lv_iconst (v := (0 : Int32)) hx hb dX12_goes_4 (by decide) ?_
  refine lv_istore_n (lv' := [(2, .int (0 : Int32)), (0, .ref (base + p0)), (1, .int v1)]) hx hb dX12_goes_5 rfl hl (by decide) rfl (fun ls hl => ?_)
  refine l_X12_goes_6 X hc p0 v1 _ res ?_ FV (0 : Int32) q_2.2 hF H locs ls hH hS (lv_sub hl [1, 2, 0] rfl)
  · intro  w_14 hF H locs ls hH hS hl
    have hF := Option.some.inj hF
    subst hF
    exact m_vret X hr hlk hH hS dX12_goes_52
noncomputable def fX12_angle (p0 : Nat) (v1 : Int32) (v2 : Int32) (w : Wd) : Option (Int32 × Wd) := (isO 11 p0 w).bind fun u_1 => (fX12_isFrame p0 v1 w).bind fun q_2 => if q_2.1 = 0 then some ((-1 : Int32), q_2.2) else (fX12_isDay v2 q_2.2).bind fun q_4 => if q_4.1 = 0 then some ((-1 : Int32), q_4.2) else (isO 11 p0 q_4.2).bind fun u_6 => (fX12_goes p0 v2 q_4.2).bind fun q_7 => (gfR 11 25 p0 q_7.2).bind fun r_8 => (rdI r_8 v1 q_7.2).bind fun x_9 => some (x_9 + (40 : Int32), q_7.2)
set_option maxHeartbeats 4000000 in
set_option maxRecDepth 100000 in
theorem k_X12_angle (l : Launch) (D : va_G) (cI cT cII : ClassId) (base : Nat) (p0 : Nat) (v1 : Int32) (v2 : Int32) (w : Wd) (res : Int32 × Wd) (hF : fX12_angle p0 v1 v2 w = some res) : Ct l yX12_angle cX12_angle 3 (some .int) { frames := 6, cells := 0, slots := 0, locals := 131 } D cI cT cII base [.ref (base + p0), .int v1, .int v2] w res.2 (some (.int res.1)) 0 0 := by
  unfold fX12_angle at hF
  refine m_enter (by decide) (Nat.le_of_ble_eq_true rfl) ?_
  intro p e s m below meth c ls X hr hlk hnm hH hS hl
  have hx := X.1
  have hb := X.2.1
  have hc : (0 : Nat) ≤ ({ frames := 6, cells := 0, slots := 0, locals := 131 } : Room).cells ∧ (0 : Nat) ≤ ({ frames := 6, cells := 0, slots := 0, locals := 131 } : Room).slots := ⟨Nat.zero_le _, Nat.zero_le _⟩
  obtain ⟨H, hHe⟩ : ∃ H : Heap, H = s.heap := ⟨_, rfl⟩
  obtain ⟨locs, hle⟩ : ∃ L : List Loc, L = [] := ⟨_, rfl⟩
  have hl : lv_has ls 3 [(0, .ref (base + p0)), (1, .int v1), (2, .int v2)] := hl
  rw [← hHe] at hH
  have hS : va_S (fun q => base ≤ q) s.heap H locs := by rw [hHe, hle]; exact hS
  rw [← hle]
  show W p l e _ s m _ below meth c s.heap locs 0 0 _ _
  rw [← hHe]
  refine lv_aload_n hx hb dX12_angle_0 rfl (lv_at hl 0 rfl) ?_
  refine lv_iload_n hx hb dX12_angle_1 rfl (lv_at hl 1 rfl) ?_
  obtain ⟨u_1, ou_1, hF⟩ := bnd hF
  obtain ⟨q_2, e_2, hF⟩ := bnd hF
  refine m_callV (As := [.int v1]) (rest := []) X hH hS hl.1 ou_1 rfl (by decide) (k_X12_isFrame l D cI cT cII base p0 v1 w q_2 e_2) q_X12_isFrame kw_1017 kw_1019 kw_35 rfl rfl (Nat.le_of_ble_eq_true rfl) ⟨by decide, by decide⟩ hc dX12_angle_2 (fun H locs hH hS => W.eq (g2 := F0 m 5 ls [.int q_2.1]) rfl ?_)
  refine lv_if_eq (tgt := 15) hx hb dX12_angle_5 (by decide) (fun c_3 => ?_) (fun c_3 => ?_)
  · replace hF := itt c_3 hF
    refine lv_iconst (v := (-1 : Int32)) hx hb dX12_angle_15 (by decide) ?_
    have hF := Option.some.inj hF
    subst hF
    exact m_iret X hr hlk hH hS dX12_angle_16
  · replace hF := itf c_3 hF
    refine lv_iload_n hx hb dX12_angle_8 rfl (lv_at hl 2 rfl) ?_
    obtain ⟨q_4, e_4, hF⟩ := bnd hF
    refine m_callS (As := [.int v2]) (rest := []) X hH hS hl.1 (k_X12_isDay l D cI cT cII base v2 q_2.2 q_4 e_4) q_X12_isDay kw_1033 kw_1034 rfl rfl (Nat.le_of_ble_eq_true rfl) ⟨by decide, by decide⟩ hc dX12_angle_9 (fun H locs hH hS => W.eq (g2 := F0 m 12 ls [.int q_4.1]) rfl ?_)
    refine lv_if_ne (tgt := 17) hx hb dX12_angle_12 (by decide) (fun c_5 => ?_) (fun c_5 => ?_)
    · replace hF := itf c_5 hF
      refine lv_aload_n hx hb dX12_angle_17 rfl (lv_at hl 0 rfl) ?_
      refine lv_iload_n hx hb dX12_angle_18 rfl (lv_at hl 2 rfl) ?_
      obtain ⟨u_6, ou_6, hF⟩ := bnd hF
      obtain ⟨q_7, e_7, hF⟩ := bnd hF
      refine m_callV (As := [.int v2]) (rest := []) X hH hS hl.1 ou_6 rfl (by decide) (k_X12_goes l D cI cT cII base p0 v2 q_4.2 q_7 e_7) q_X12_goes kw_1036 kw_1038 kw_37 rfl rfl (Nat.le_of_ble_eq_true rfl) ⟨by decide, by decide⟩ hc dX12_angle_19 (fun H locs hH hS => W.eq (g2 := F0 m 22 ls []) rfl ?_)
      refine lv_aload_n hx hb dX12_angle_22 rfl (lv_at hl 0 rfl) ?_
      obtain ⟨r_8, e_8, hF⟩ := bnd hF
      refine m_gR X hH e_8 gg_X12_62 dX12_angle_23 ?_
      refine lv_iload_n hx hb dX12_angle_26 rfl (lv_at hl 1 rfl) ?_
      obtain ⟨x_9, e_9, hF⟩ := bnd hF
      refine m_rdI X hH e_9 dX12_angle_27 ?_
      refine lv_bipush (v := (40 : Int32)) hx hb dX12_angle_28 (by decide) ?_
      refine lv_iadd hx hb dX12_angle_30 ?_
      have hF := Option.some.inj hF
      subst hF
      exact m_iret X hr hlk hH hS dX12_angle_31
    · replace hF := itt c_5 hF
      refine lv_iconst (v := (-1 : Int32)) hx hb dX12_angle_15 (by decide) ?_
      have hF := Option.some.inj hF
      subst hF
      exact m_iret X hr hlk hH hS dX12_angle_16
noncomputable def fX12_back_22 (p0 : Nat) (K_54 : Wd → Option (Int32 × Wd)) : Nat → Int32 → Wd → Option (Int32 × Wd)
  | 0, _, _ => none
  | n + 1, v1, w => if (25 : Int32) ≤ v1 then K_54  w else (gfR 11 7 p0 w).bind fun r_6 => (gfR 11 11 p0 w).bind fun r_7 => (gfI 11 10 p0 w).bind fun x_8 => (rdI r_7 (((25 : Int32) * x_8) + v1) w).bind fun x_9 => (wrI r_6 v1 x_9 w).bind fun w_10 => fX12_back_22 p0 K_54 n (v1 + (1 : Int32)) w_10
noncomputable def fX12_back (p0 : Nat) (w : Wd) : Option (Int32 × Wd) := (gfI 11 10 p0 w).bind fun x_1 => if x_1 = 0 then some ((-2 : Int32), w) else (gfI 11 10 p0 w).bind fun x_3 => (pfI 11 10 p0 (x_3 - (1 : Int32)) w).bind fun w_4 => fX12_back_22 p0 (fun  (w_11 : Wd) => (pfI 11 8 p0 (0 : Int32) w_11).bind fun w_12 => (gfI 11 10 p0 w_12).bind fun x_13 => some (x_13, w_12)) FV (0 : Int32) w_4
set_option maxHeartbeats 4000000 in
set_option maxRecDepth 100000 in
theorem l_X12_back_22 (X : Cx p R s m args c cX12_back 2 RX12 D cI cT cII 0 0) (hc : cells ≤ R.cells ∧ slots ≤ R.slots) (p0 : Nat) (K_54 : Wd → Option (Int32 × Wd)) (res : Int32 × Wd)
    (hK_54 : ∀  (w : Wd), K_54  w = some res → ∀ (H : Heap) (locs : List Loc) (ls : Array Slot), Hd D cI cT cII base w H → va_S (fun q => base ≤ q) s.heap H locs → lv_has ls 2 [(0, .ref (base + p0))] → W p l e R s m args below meth c H locs cells slots Q (F0 m 54 ls [])) :
    ∀ (n : Nat) (v1 : Int32) (w : Wd), fX12_back_22 p0 K_54 n v1 w = some res → ∀ (H : Heap) (locs : List Loc) (ls : Array Slot), Hd D cI cT cII base w H → va_S (fun q => base ≤ q) s.heap H locs → lv_has ls 2 [(0, .ref (base + p0)), (1, .int v1)] → W p l e R s m args below meth c H locs cells slots Q (F0 m 22 ls []) := by
  have hx := X.1
  have hb := X.2.1
  intro n
  induction n with
  | zero =>
    intro v1 w hF
    rw [fX12_back_22] at hF
    cases hF
  | succ n ih =>
    intro v1 w hF H locs ls hH hS hl
    rw [fX12_back_22] at hF
    refine lv_iload_n hx hb dX12_back_22 rfl (lv_at hl 1 rfl) ?_
    refine lv_bipush (v := (25 : Int32)) hx hb dX12_back_23 (by decide) ?_
    refine lv_icmp_ge (tgt := 54) hx hb dX12_back_25 (by decide) (fun c_5 => ?_) (fun c_5 => ?_)
    · replace hF := itt c_5 hF
      exact hK_54  w hF H locs ls hH hS (lv_sub hl [0] rfl)
    · replace hF := itf c_5 hF
      refine lv_aload_n hx hb dX12_back_28 rfl (lv_at hl 0 rfl) ?_
      obtain ⟨r_6, e_6, hF⟩ := bnd hF
      refine m_gR X hH e_6 gg_X12_32 dX12_back_29 ?_
      refine lv_iload_n hx hb dX12_back_32 rfl (lv_at hl 1 rfl) ?_
      refine lv_aload_n hx hb dX12_back_33 rfl (lv_at hl 0 rfl) ?_
      obtain ⟨r_7, e_7, hF⟩ := bnd hF
      refine m_gR X hH e_7 gg_X12_38 dX12_back_34 ?_
      refine lv_bipush (v := (25 : Int32)) hx hb dX12_back_37 (by decide) ?_
      refine lv_aload_n hx hb dX12_back_39 rfl (lv_at hl 0 rfl) ?_
      obtain ⟨x_8, e_8, hF⟩ := bnd hF
      refine m_gI X hH e_8 gg_X12_153 dX12_back_40 ?_
      refine lv_imul hx hb dX12_back_43 ?_
      refine lv_iload_n hx hb dX12_back_44 rfl (lv_at hl 1 rfl) ?_
      refine lv_iadd hx hb dX12_back_45 ?_
      obtain ⟨x_9, e_9, hF⟩ := bnd hF
      refine m_rdI X hH e_9 dX12_back_46 ?_
      obtain ⟨w_10, e_10, hF⟩ := bnd hF
      refine m_wrI X hH hS e_10 dX12_back_47 (fun H locs hH hS => ?_)
      refine lv_iinc (v := v1 + (1 : Int32)) (lv' := [(1, .int (v1 + (1 : Int32))), (0, .ref (base + p0))]) hx hb dX12_back_48 hl (k := 1) rfl (congrArg (fun z => v1 + z) (by decide)) (by decide) rfl (fun ls hl => ?_)
      refine lv_goto (tgt := 22) hx hb dX12_back_51 (by decide) ?_
      exact ih (v1 + (1 : Int32)) w_10 hF H locs ls hH hS (lv_sub hl [1, 0] rfl)
set_option maxHeartbeats 4000000 in
set_option maxRecDepth 100000 in
theorem k_X12_back (l : Launch) (D : va_G) (cI cT cII : ClassId) (base : Nat) (p0 : Nat) (w : Wd) (res : Int32 × Wd) (hF : fX12_back p0 w = some res) : Ct l yX12_back cX12_back 2 (some .int) { frames := 0, cells := 0, slots := 0, locals := 0 } D cI cT cII base [.ref (base + p0)] w res.2 (some (.int res.1)) 0 0 := by
  unfold fX12_back at hF
  refine m_enter (by decide) (Nat.le_of_ble_eq_true rfl) ?_
  intro p e s m below meth c ls X hr hlk hnm hH hS hl
  have hx := X.1
  have hb := X.2.1
  have hc : (0 : Nat) ≤ ({ frames := 0, cells := 0, slots := 0, locals := 0 } : Room).cells ∧ (0 : Nat) ≤ ({ frames := 0, cells := 0, slots := 0, locals := 0 } : Room).slots := ⟨Nat.zero_le _, Nat.zero_le _⟩
  obtain ⟨H, hHe⟩ : ∃ H : Heap, H = s.heap := ⟨_, rfl⟩
  obtain ⟨locs, hle⟩ : ∃ L : List Loc, L = [] := ⟨_, rfl⟩
  have hl : lv_has ls 2 [(0, .ref (base + p0))] := hl
  rw [← hHe] at hH
  have hS : va_S (fun q => base ≤ q) s.heap H locs := by rw [hHe, hle]; exact hS
  rw [← hle]
  show W p l e _ s m _ below meth c s.heap locs 0 0 _ _
  rw [← hHe]
  refine lv_aload_n hx hb dX12_back_0 rfl (lv_at hl 0 rfl) ?_
  obtain ⟨x_1, e_1, hF⟩ := bnd hF
  refine m_gI X hH e_1 gg_X12_153 dX12_back_1 ?_
  refine lv_if_ne (tgt := 10) hx hb dX12_back_4 (by decide) (fun c_2 => ?_) (fun c_2 => ?_)
  · replace hF := itf c_2 hF
    refine lv_aload_n hx hb dX12_back_10 rfl (lv_at hl 0 rfl) ?_
    refine lv_dup hx hb dX12_back_11 rfl ?_
    obtain ⟨x_3, e_3, hF⟩ := bnd hF
    refine m_gI X hH e_3 gg_X12_153 dX12_back_12 ?_
    refine lv_iconst (v := (1 : Int32)) hx hb dX12_back_15 (by decide) ?_
    refine lv_isub hx hb dX12_back_16 ?_
    obtain ⟨w_4, e_4, hF⟩ := bnd hF
    refine m_pI X hH hS e_4 gp_X12_153 rfl rfl dX12_back_17 (fun H locs hH hS => ?_)
    refine lv_iconst (v := (0 : Int32)) hx hb dX12_back_20 (by decide) ?_
    refine lv_istore_n (lv' := [(1, .int (0 : Int32)), (0, .ref (base + p0))]) hx hb dX12_back_21 rfl hl (by decide) rfl (fun ls hl => ?_)
    refine l_X12_back_22 X hc p0 _ res ?_ FV (0 : Int32) w_4 hF H locs ls hH hS (lv_sub hl [1, 0] rfl)
    · intro  w_11 hF H locs ls hH hS hl
      refine lv_aload_n hx hb dX12_back_54 rfl (lv_at hl 0 rfl) ?_
      refine lv_iconst (v := (0 : Int32)) hx hb dX12_back_55 (by decide) ?_
      obtain ⟨w_12, e_12, hF⟩ := bnd hF
      refine m_pI X hH hS e_12 gp_X12_150 rfl rfl dX12_back_56 (fun H locs hH hS => ?_)
      refine lv_aload_n hx hb dX12_back_59 rfl (lv_at hl 0 rfl) ?_
      obtain ⟨x_13, e_13, hF⟩ := bnd hF
      refine m_gI X hH e_13 gg_X12_153 dX12_back_60 ?_
      have hF := Option.some.inj hF
      subst hF
      exact m_iret X hr hlk hH hS dX12_back_63
  · replace hF := itt c_2 hF
    refine lv_bipush (v := (-2 : Int32)) hx hb dX12_back_7 (by decide) ?_
    have hF := Option.some.inj hF
    subst hF
    exact m_iret X hr hlk hH hS dX12_back_9
end M06
