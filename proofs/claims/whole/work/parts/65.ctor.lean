/-! the constructors -/
def lnE (c p : Nat) (x : Int32) (w : Wd) : Option Unit := if lnA c p w = some x then some () else none
theorem lnE_e {c p : Nat} {x : Int32} {w : Wd} {u : Unit} (h : lnE c p x w = some u) : lnA c p w = some x := (isn h).1
theorem hN_nw {b a c ci n : Nat} {w : Wd} (h : b + wN w = a + c) : b + wN (nw ci n w) = a + (c + 1) := by
  show b + (wN w + 1) = _
  omega
theorem hN_nw2 {b a c n k : Nat} {w : Wd} (h : b + wN w = a + c) : b + wN (nw2 n k w) = a + (c + 1 + n) := by
  show b + (wN w + 1 + n) = _
  omega
theorem hN_eq {b x : Nat} {w w' : Wd} (e : wN w' = wN w) (h : b + wN w = x) : b + wN w' = x := by rw [e]; exact h
theorem hN_add {b a c mc : Nat} {w w' : Wd} (e : wN w' = wN w + mc) (h : b + wN w = a + c) : b + wN w' = a + (c + mc) := by rw [e]; omega
section CTOR
variable {p : Program} {l : Launch} {e : Env} {R : Room} {s : State} {m : MethodId} {args : Array Value} {below : List Frame} {meth : Method} {c : Code} {cells slots : Nat} {Q : State → Prop} {D : va_G} {cI cT cII : ClassId} {base : Nat}

noncomputable def fX10_init (p0 : Nat) (w : Wd) : Option (Unit × Wd) := (pfR 9 0 p0 (wN w) (nw 12 8 w)).bind fun w_1 => (pfR 9 1 p0 (wN w_1) (nw 12 8 w_1)).bind fun w_2 => (pfR 9 2 p0 (wN w_2) (nw 12 8 w_2)).bind fun w_3 => some ((), w_3)
set_option maxHeartbeats 4000000 in
set_option maxRecDepth 100000 in
theorem n_X10_init {p0 : Nat} {w : Wd} {res : Unit × Wd} (hF : fX10_init p0 w = some res) : wN res.2 = wN w + 3 := by
  unfold fX10_init at hF
  have hN : 0 + wN w = wN w + 0 := Nat.zero_add _
  replace hN := hN_nw (ci := 12) (n := 8) hN
  obtain ⟨w_1, e_1, hF⟩ := bnd hF
  replace hN := hN_eq (pfR_N e_1) hN
  replace hN := hN_nw (ci := 12) (n := 8) hN
  obtain ⟨w_2, e_2, hF⟩ := bnd hF
  replace hN := hN_eq (pfR_N e_2) hN
  replace hN := hN_nw (ci := 12) (n := 8) hN
  obtain ⟨w_3, e_3, hF⟩ := bnd hF
  replace hN := hN_eq (pfR_N e_3) hN
  have hF := Option.some.inj hF
  subst hF
  exact (Nat.zero_add _).symm.trans hN
set_option maxHeartbeats 4000000 in
set_option maxRecDepth 100000 in
theorem k_X10_init (l : Launch) (D : va_G) (cI cT cII : ClassId) (base : Nat) (aK aV : Nat → Nat) (v0 : Value) (p0 : Nat) (w : Wd) (res : Unit × Wd) (hF : fX10_init p0 w = some res) : CtE true l yX10_init cX10_init 1 none { frames := 1, cells := 3, slots := 24, locals := 20 } D cI cT cII base aK aV v0 [.ref (base + p0)] w res.2 none 3 24 := by
  unfold fX10_init at hF
  refine m_enterE (by decide) (Nat.le_of_ble_eq_true rfl) ?_
  intro p e s m below meth c ls X hE hz hr hlk hnm hH hS hl
  have hx := X.1
  have hb := X.2.1
  have hnm : meth.name = "<init>" := hnm
  have hN : base + wN w = s.heap.size + 0 := (hz rfl).symm
  have hbs : base ≤ s.heap.size := by rw [hz rfl]; exact Nat.le_add_right _ _
  obtain ⟨H, hHe⟩ : ∃ H : Heap, H = s.heap := ⟨_, rfl⟩
  obtain ⟨locs, hle⟩ : ∃ L : List Loc, L = [] := ⟨_, rfl⟩
  have hl : lv_has ls 1 [(0, .ref (base + p0))] := hl
  rw [← hHe] at hH
  have hS : va_S (fun q => base ≤ q) s.heap H locs := by rw [hHe, hle]; exact hS
  rw [← hle]
  show W p l e _ s m _ below meth c s.heap locs 0 0 _ _
  rw [← hHe]
  refine lv_aload_n hx hb dX10_init_0 rfl (lv_at hl 0 rfl) ?_
  refine m_obj X hl.1 kw_116 kO_i kO_c (by decide) (Nat.le_of_ble_eq_true rfl) dX10_init_1 ?_
  refine lv_aload_n hx hb dX10_init_4 rfl (lv_at hl 0 rfl) ?_
  refine lv_bipush (v := (8 : Int32)) hx hb dX10_init_5 (by decide) ?_
  refine m_newI (K := 8) X hH hS hN hbs kA_int (by decide) (by decide) (by decide) ⟨Nat.le_of_ble_eq_true rfl, Nat.le_of_ble_eq_true rfl⟩ dX10_init_7 (fun H hH hS => ?_)
  replace hN := hN_nw (ci := 12) (n := 8) hN
  obtain ⟨w_1, e_1, hF⟩ := bnd hF
  refine m_rR X hH hS e_1 gr_X10_9 hnm rfl rfl dX10_init_9 (fun H locs hH hS => ?_)
  replace hN := hN_eq (pfR_N e_1) hN
  refine lv_aload_n hx hb dX10_init_12 rfl (lv_at hl 0 rfl) ?_
  refine lv_bipush (v := (8 : Int32)) hx hb dX10_init_13 (by decide) ?_
  refine m_newI (K := 8) X hH hS hN hbs kA_int (by decide) (by decide) (by decide) ⟨Nat.le_of_ble_eq_true rfl, Nat.le_of_ble_eq_true rfl⟩ dX10_init_15 (fun H hH hS => ?_)
  replace hN := hN_nw (ci := 12) (n := 8) hN
  obtain ⟨w_2, e_2, hF⟩ := bnd hF
  refine m_rR X hH hS e_2 gr_X10_15 hnm rfl rfl dX10_init_17 (fun H locs hH hS => ?_)
  replace hN := hN_eq (pfR_N e_2) hN
  refine lv_aload_n hx hb dX10_init_20 rfl (lv_at hl 0 rfl) ?_
  refine lv_bipush (v := (8 : Int32)) hx hb dX10_init_21 (by decide) ?_
  refine m_newI (K := 8) X hH hS hN hbs kA_int (by decide) (by decide) (by decide) ⟨Nat.le_of_ble_eq_true rfl, Nat.le_of_ble_eq_true rfl⟩ dX10_init_23 (fun H hH hS => ?_)
  replace hN := hN_nw (ci := 12) (n := 8) hN
  obtain ⟨w_3, e_3, hF⟩ := bnd hF
  refine m_rR X hH hS e_3 gr_X10_18 hnm rfl rfl dX10_init_25 (fun H locs hH hS => ?_)
  replace hN := hN_eq (pfR_N e_3) hN
  have hF := Option.some.inj hF
  subst hF
  exact m_vret X hr hlk hH hS dX10_init_28
noncomputable def fX0_init (p0 : Nat) (w : Wd) : Option (Unit × Wd) := (pfR 0 0 p0 (wN w) (nw 12 15 w)).bind fun w_1 => (pfR 0 1 p0 (wN w_1) (nw 12 15 w_1)).bind fun w_2 => some ((), w_2)
set_option maxHeartbeats 4000000 in
set_option maxRecDepth 100000 in
theorem n_X0_init {p0 : Nat} {w : Wd} {res : Unit × Wd} (hF : fX0_init p0 w = some res) : wN res.2 = wN w + 2 := by
  unfold fX0_init at hF
  have hN : 0 + wN w = wN w + 0 := Nat.zero_add _
  replace hN := hN_nw (ci := 12) (n := 15) hN
  obtain ⟨w_1, e_1, hF⟩ := bnd hF
  replace hN := hN_eq (pfR_N e_1) hN
  replace hN := hN_nw (ci := 12) (n := 15) hN
  obtain ⟨w_2, e_2, hF⟩ := bnd hF
  replace hN := hN_eq (pfR_N e_2) hN
  have hF := Option.some.inj hF
  subst hF
  exact (Nat.zero_add _).symm.trans hN
set_option maxHeartbeats 4000000 in
set_option maxRecDepth 100000 in
theorem k_X0_init (l : Launch) (D : va_G) (cI cT cII : ClassId) (base : Nat) (aK aV : Nat → Nat) (v0 : Value) (p0 : Nat) (w : Wd) (res : Unit × Wd) (hF : fX0_init p0 w = some res) : CtE true l yX0_init cX0_init 1 none { frames := 1, cells := 2, slots := 30, locals := 20 } D cI cT cII base aK aV v0 [.ref (base + p0)] w res.2 none 2 30 := by
  unfold fX0_init at hF
  refine m_enterE (by decide) (Nat.le_of_ble_eq_true rfl) ?_
  intro p e s m below meth c ls X hE hz hr hlk hnm hH hS hl
  have hx := X.1
  have hb := X.2.1
  have hnm : meth.name = "<init>" := hnm
  have hN : base + wN w = s.heap.size + 0 := (hz rfl).symm
  have hbs : base ≤ s.heap.size := by rw [hz rfl]; exact Nat.le_add_right _ _
  obtain ⟨H, hHe⟩ : ∃ H : Heap, H = s.heap := ⟨_, rfl⟩
  obtain ⟨locs, hle⟩ : ∃ L : List Loc, L = [] := ⟨_, rfl⟩
  have hl : lv_has ls 1 [(0, .ref (base + p0))] := hl
  rw [← hHe] at hH
  have hS : va_S (fun q => base ≤ q) s.heap H locs := by rw [hHe, hle]; exact hS
  rw [← hle]
  show W p l e _ s m _ below meth c s.heap locs 0 0 _ _
  rw [← hHe]
  refine lv_aload_n hx hb dX0_init_0 rfl (lv_at hl 0 rfl) ?_
  refine m_obj X hl.1 kw_246 kO_i kO_c (by decide) (Nat.le_of_ble_eq_true rfl) dX0_init_1 ?_
  refine lv_aload_n hx hb dX0_init_4 rfl (lv_at hl 0 rfl) ?_
  refine lv_bipush (v := (15 : Int32)) hx hb dX0_init_5 (by decide) ?_
  refine m_newI (K := 15) X hH hS hN hbs kA_int (by decide) (by decide) (by decide) ⟨Nat.le_of_ble_eq_true rfl, Nat.le_of_ble_eq_true rfl⟩ dX0_init_7 (fun H hH hS => ?_)
  replace hN := hN_nw (ci := 12) (n := 15) hN
  obtain ⟨w_1, e_1, hF⟩ := bnd hF
  refine m_pR X hH hS e_1 gp_X0_11 rfl rfl dX0_init_9 (fun H locs hH hS => ?_)
  replace hN := hN_eq (pfR_N e_1) hN
  refine lv_aload_n hx hb dX0_init_12 rfl (lv_at hl 0 rfl) ?_
  refine lv_bipush (v := (15 : Int32)) hx hb dX0_init_13 (by decide) ?_
  refine m_newI (K := 15) X hH hS hN hbs kA_int (by decide) (by decide) (by decide) ⟨Nat.le_of_ble_eq_true rfl, Nat.le_of_ble_eq_true rfl⟩ dX0_init_15 (fun H hH hS => ?_)
  replace hN := hN_nw (ci := 12) (n := 15) hN
  obtain ⟨w_2, e_2, hF⟩ := bnd hF
  refine m_pR X hH hS e_2 gp_X0_15 rfl rfl dX0_init_17 (fun H locs hH hS => ?_)
  replace hN := hN_eq (pfR_N e_2) hN
  have hF := Option.some.inj hF
  subst hF
  exact m_vret X hr hlk hH hS dX0_init_20
noncomputable def fX2_init (p0 : Nat) (w : Wd) : Option (Unit × Wd) := (pfR 2 0 p0 (wN w) (nw 12 7 w)).bind fun w_1 => (pfR 2 1 p0 (wN w_1) (nw 12 5 w_1)).bind fun w_2 => some ((), w_2)
set_option maxHeartbeats 4000000 in
set_option maxRecDepth 100000 in
theorem n_X2_init {p0 : Nat} {w : Wd} {res : Unit × Wd} (hF : fX2_init p0 w = some res) : wN res.2 = wN w + 2 := by
  unfold fX2_init at hF
  have hN : 0 + wN w = wN w + 0 := Nat.zero_add _
  replace hN := hN_nw (ci := 12) (n := 7) hN
  obtain ⟨w_1, e_1, hF⟩ := bnd hF
  replace hN := hN_eq (pfR_N e_1) hN
  replace hN := hN_nw (ci := 12) (n := 5) hN
  obtain ⟨w_2, e_2, hF⟩ := bnd hF
  replace hN := hN_eq (pfR_N e_2) hN
  have hF := Option.some.inj hF
  subst hF
  exact (Nat.zero_add _).symm.trans hN
set_option maxHeartbeats 4000000 in
set_option maxRecDepth 100000 in
theorem k_X2_init (l : Launch) (D : va_G) (cI cT cII : ClassId) (base : Nat) (aK aV : Nat → Nat) (v0 : Value) (p0 : Nat) (w : Wd) (res : Unit × Wd) (hF : fX2_init p0 w = some res) : CtE true l yX2_init cX2_init 1 none { frames := 1, cells := 2, slots := 12, locals := 20 } D cI cT cII base aK aV v0 [.ref (base + p0)] w res.2 none 2 12 := by
  unfold fX2_init at hF
  refine m_enterE (by decide) (Nat.le_of_ble_eq_true rfl) ?_
  intro p e s m below meth c ls X hE hz hr hlk hnm hH hS hl
  have hx := X.1
  have hb := X.2.1
  have hnm : meth.name = "<init>" := hnm
  have hN : base + wN w = s.heap.size + 0 := (hz rfl).symm
  have hbs : base ≤ s.heap.size := by rw [hz rfl]; exact Nat.le_add_right _ _
  obtain ⟨H, hHe⟩ : ∃ H : Heap, H = s.heap := ⟨_, rfl⟩
  obtain ⟨locs, hle⟩ : ∃ L : List Loc, L = [] := ⟨_, rfl⟩
  have hl : lv_has ls 1 [(0, .ref (base + p0))] := hl
  rw [← hHe] at hH
  have hS : va_S (fun q => base ≤ q) s.heap H locs := by rw [hHe, hle]; exact hS
  rw [← hle]
  show W p l e _ s m _ below meth c s.heap locs 0 0 _ _
  rw [← hHe]
  refine lv_aload_n hx hb dX2_init_0 rfl (lv_at hl 0 rfl) ?_
  refine m_obj X hl.1 kw_232 kO_i kO_c (by decide) (Nat.le_of_ble_eq_true rfl) dX2_init_1 ?_
  refine lv_aload_n hx hb dX2_init_4 rfl (lv_at hl 0 rfl) ?_
  refine lv_bipush (v := (7 : Int32)) hx hb dX2_init_5 (by decide) ?_
  refine m_newI (K := 7) X hH hS hN hbs kA_int (by decide) (by decide) (by decide) ⟨Nat.le_of_ble_eq_true rfl, Nat.le_of_ble_eq_true rfl⟩ dX2_init_7 (fun H hH hS => ?_)
  replace hN := hN_nw (ci := 12) (n := 7) hN
  obtain ⟨w_1, e_1, hF⟩ := bnd hF
  refine m_rR X hH hS e_1 gr_X2_9 hnm rfl rfl dX2_init_9 (fun H locs hH hS => ?_)
  replace hN := hN_eq (pfR_N e_1) hN
  refine lv_aload_n hx hb dX2_init_12 rfl (lv_at hl 0 rfl) ?_
  refine lv_iconst (v := (5 : Int32)) hx hb dX2_init_13 (by decide) ?_
  refine m_newI (K := 5) X hH hS hN hbs kA_int (by decide) (by decide) (by decide) ⟨Nat.le_of_ble_eq_true rfl, Nat.le_of_ble_eq_true rfl⟩ dX2_init_14 (fun H hH hS => ?_)
  replace hN := hN_nw (ci := 12) (n := 5) hN
  obtain ⟨w_2, e_2, hF⟩ := bnd hF
  refine m_rR X hH hS e_2 gr_X2_15 hnm rfl rfl dX2_init_16 (fun H locs hH hS => ?_)
  replace hN := hN_eq (pfR_N e_2) hN
  have hF := Option.some.inj hF
  subst hF
  exact m_vret X hr hlk hH hS dX2_init_19
noncomputable def fX6_init (p0 : Nat) (w : Wd) : Option (Unit × Wd) := (pfR 5 0 p0 (wN w) (nw 12 3 w)).bind fun w_1 => some ((), w_1)
set_option maxHeartbeats 4000000 in
set_option maxRecDepth 100000 in
theorem n_X6_init {p0 : Nat} {w : Wd} {res : Unit × Wd} (hF : fX6_init p0 w = some res) : wN res.2 = wN w + 1 := by
  unfold fX6_init at hF
  have hN : 0 + wN w = wN w + 0 := Nat.zero_add _
  replace hN := hN_nw (ci := 12) (n := 3) hN
  obtain ⟨w_1, e_1, hF⟩ := bnd hF
  replace hN := hN_eq (pfR_N e_1) hN
  have hF := Option.some.inj hF
  subst hF
  exact (Nat.zero_add _).symm.trans hN
set_option maxHeartbeats 4000000 in
set_option maxRecDepth 100000 in
theorem k_X6_init (l : Launch) (D : va_G) (cI cT cII : ClassId) (base : Nat) (aK aV : Nat → Nat) (v0 : Value) (p0 : Nat) (w : Wd) (res : Unit × Wd) (hF : fX6_init p0 w = some res) : CtE true l yX6_init cX6_init 1 none { frames := 1, cells := 1, slots := 3, locals := 20 } D cI cT cII base aK aV v0 [.ref (base + p0)] w res.2 none 1 3 := by
  unfold fX6_init at hF
  refine m_enterE (by decide) (Nat.le_of_ble_eq_true rfl) ?_
  intro p e s m below meth c ls X hE hz hr hlk hnm hH hS hl
  have hx := X.1
  have hb := X.2.1
  have hnm : meth.name = "<init>" := hnm
  have hN : base + wN w = s.heap.size + 0 := (hz rfl).symm
  have hbs : base ≤ s.heap.size := by rw [hz rfl]; exact Nat.le_add_right _ _
  obtain ⟨H, hHe⟩ : ∃ H : Heap, H = s.heap := ⟨_, rfl⟩
  obtain ⟨locs, hle⟩ : ∃ L : List Loc, L = [] := ⟨_, rfl⟩
  have hl : lv_has ls 1 [(0, .ref (base + p0))] := hl
  rw [← hHe] at hH
  have hS : va_S (fun q => base ≤ q) s.heap H locs := by rw [hHe, hle]; exact hS
  rw [← hle]
  show W p l e _ s m _ below meth c s.heap locs 0 0 _ _
  rw [← hHe]
  refine lv_aload_n hx hb dX6_init_0 rfl (lv_at hl 0 rfl) ?_
  refine m_obj X hl.1 kw_103 kO_i kO_c (by decide) (Nat.le_of_ble_eq_true rfl) dX6_init_1 ?_
  refine lv_aload_n hx hb dX6_init_4 rfl (lv_at hl 0 rfl) ?_
  refine lv_iconst (v := (3 : Int32)) hx hb dX6_init_5 (by decide) ?_
  refine m_newI (K := 3) X hH hS hN hbs kA_int (by decide) (by decide) (by decide) ⟨Nat.le_of_ble_eq_true rfl, Nat.le_of_ble_eq_true rfl⟩ dX6_init_6 (fun H hH hS => ?_)
  replace hN := hN_nw (ci := 12) (n := 3) hN
  obtain ⟨w_1, e_1, hF⟩ := bnd hF
  refine m_rR X hH hS e_1 gr_X6_11 hnm rfl rfl dX6_init_8 (fun H locs hH hS => ?_)
  replace hN := hN_eq (pfR_N e_1) hN
  have hF := Option.some.inj hF
  subst hF
  exact m_vret X hr hlk hH hS dX6_init_11
noncomputable def fX8_init (p0 : Nat) (w : Wd) : Option (Unit × Wd) := (pfR 7 0 p0 (wN w) (nw 12 8 w)).bind fun w_1 => (pfR 7 1 p0 (wN w_1) (nw 12 8 w_1)).bind fun w_2 => (pfR 7 3 p0 (wN w_2) (nw 12 81 w_2)).bind fun w_3 => some ((), w_3)
set_option maxHeartbeats 4000000 in
set_option maxRecDepth 100000 in
theorem n_X8_init {p0 : Nat} {w : Wd} {res : Unit × Wd} (hF : fX8_init p0 w = some res) : wN res.2 = wN w + 3 := by
  unfold fX8_init at hF
  have hN : 0 + wN w = wN w + 0 := Nat.zero_add _
  replace hN := hN_nw (ci := 12) (n := 8) hN
  obtain ⟨w_1, e_1, hF⟩ := bnd hF
  replace hN := hN_eq (pfR_N e_1) hN
  replace hN := hN_nw (ci := 12) (n := 8) hN
  obtain ⟨w_2, e_2, hF⟩ := bnd hF
  replace hN := hN_eq (pfR_N e_2) hN
  replace hN := hN_nw (ci := 12) (n := 81) hN
  obtain ⟨w_3, e_3, hF⟩ := bnd hF
  replace hN := hN_eq (pfR_N e_3) hN
  have hF := Option.some.inj hF
  subst hF
  exact (Nat.zero_add _).symm.trans hN
set_option maxHeartbeats 4000000 in
set_option maxRecDepth 100000 in
theorem k_X8_init (l : Launch) (D : va_G) (cI cT cII : ClassId) (base : Nat) (aK aV : Nat → Nat) (v0 : Value) (p0 : Nat) (w : Wd) (res : Unit × Wd) (hF : fX8_init p0 w = some res) : CtE true l yX8_init cX8_init 1 none { frames := 1, cells := 3, slots := 97, locals := 20 } D cI cT cII base aK aV v0 [.ref (base + p0)] w res.2 none 3 97 := by
  unfold fX8_init at hF
  refine m_enterE (by decide) (Nat.le_of_ble_eq_true rfl) ?_
  intro p e s m below meth c ls X hE hz hr hlk hnm hH hS hl
  have hx := X.1
  have hb := X.2.1
  have hnm : meth.name = "<init>" := hnm
  have hN : base + wN w = s.heap.size + 0 := (hz rfl).symm
  have hbs : base ≤ s.heap.size := by rw [hz rfl]; exact Nat.le_add_right _ _
  obtain ⟨H, hHe⟩ : ∃ H : Heap, H = s.heap := ⟨_, rfl⟩
  obtain ⟨locs, hle⟩ : ∃ L : List Loc, L = [] := ⟨_, rfl⟩
  have hl : lv_has ls 1 [(0, .ref (base + p0))] := hl
  rw [← hHe] at hH
  have hS : va_S (fun q => base ≤ q) s.heap H locs := by rw [hHe, hle]; exact hS
  rw [← hle]
  show W p l e _ s m _ below meth c s.heap locs 0 0 _ _
  rw [← hHe]
  refine lv_aload_n hx hb dX8_init_0 rfl (lv_at hl 0 rfl) ?_
  refine m_obj X hl.1 kw_212 kO_i kO_c (by decide) (Nat.le_of_ble_eq_true rfl) dX8_init_1 ?_
  refine lv_aload_n hx hb dX8_init_4 rfl (lv_at hl 0 rfl) ?_
  refine lv_bipush (v := (8 : Int32)) hx hb dX8_init_5 (by decide) ?_
  refine m_newI (K := 8) X hH hS hN hbs kA_int (by decide) (by decide) (by decide) ⟨Nat.le_of_ble_eq_true rfl, Nat.le_of_ble_eq_true rfl⟩ dX8_init_7 (fun H hH hS => ?_)
  replace hN := hN_nw (ci := 12) (n := 8) hN
  obtain ⟨w_1, e_1, hF⟩ := bnd hF
  refine m_rR X hH hS e_1 gr_X8_9 hnm rfl rfl dX8_init_9 (fun H locs hH hS => ?_)
  replace hN := hN_eq (pfR_N e_1) hN
  refine lv_aload_n hx hb dX8_init_12 rfl (lv_at hl 0 rfl) ?_
  refine lv_bipush (v := (8 : Int32)) hx hb dX8_init_13 (by decide) ?_
  refine m_newI (K := 8) X hH hS hN hbs kA_int (by decide) (by decide) (by decide) ⟨Nat.le_of_ble_eq_true rfl, Nat.le_of_ble_eq_true rfl⟩ dX8_init_15 (fun H hH hS => ?_)
  replace hN := hN_nw (ci := 12) (n := 8) hN
  obtain ⟨w_2, e_2, hF⟩ := bnd hF
  refine m_rR X hH hS e_2 gr_X8_15 hnm rfl rfl dX8_init_17 (fun H locs hH hS => ?_)
  replace hN := hN_eq (pfR_N e_2) hN
  refine lv_aload_n hx hb dX8_init_20 rfl (lv_at hl 0 rfl) ?_
  refine lv_bipush (v := (81 : Int32)) hx hb dX8_init_21 (by decide) ?_
  refine m_newI (K := 81) X hH hS hN hbs kA_int (by decide) (by decide) (by decide) ⟨Nat.le_of_ble_eq_true rfl, Nat.le_of_ble_eq_true rfl⟩ dX8_init_23 (fun H hH hS => ?_)
  replace hN := hN_nw (ci := 12) (n := 81) hN
  obtain ⟨w_3, e_3, hF⟩ := bnd hF
  refine m_rR X hH hS e_3 gr_X8_18 hnm rfl rfl dX8_init_25 (fun H locs hH hS => ?_)
  replace hN := hN_eq (pfR_N e_3) hN
  have hF := Option.some.inj hF
  subst hF
  exact m_vret X hr hlk hH hS dX8_init_28
noncomputable def fX9_init (p0 : Nat) (w : Wd) : Option (Unit × Wd) := (pfR 8 0 p0 (wN w) (nw 12 200 w)).bind fun w_1 => some ((), w_1)
set_option maxHeartbeats 4000000 in
set_option maxRecDepth 100000 in
theorem n_X9_init {p0 : Nat} {w : Wd} {res : Unit × Wd} (hF : fX9_init p0 w = some res) : wN res.2 = wN w + 1 := by
  unfold fX9_init at hF
  have hN : 0 + wN w = wN w + 0 := Nat.zero_add _
  replace hN := hN_nw (ci := 12) (n := 200) hN
  obtain ⟨w_1, e_1, hF⟩ := bnd hF
  replace hN := hN_eq (pfR_N e_1) hN
  have hF := Option.some.inj hF
  subst hF
  exact (Nat.zero_add _).symm.trans hN
set_option maxHeartbeats 4000000 in
set_option maxRecDepth 100000 in
theorem k_X9_init (l : Launch) (D : va_G) (cI cT cII : ClassId) (base : Nat) (aK aV : Nat → Nat) (v0 : Value) (p0 : Nat) (w : Wd) (res : Unit × Wd) (hF : fX9_init p0 w = some res) : CtE true l yX9_init cX9_init 1 none { frames := 1, cells := 1, slots := 200, locals := 20 } D cI cT cII base aK aV v0 [.ref (base + p0)] w res.2 none 1 200 := by
  unfold fX9_init at hF
  refine m_enterE (by decide) (Nat.le_of_ble_eq_true rfl) ?_
  intro p e s m below meth c ls X hE hz hr hlk hnm hH hS hl
  have hx := X.1
  have hb := X.2.1
  have hnm : meth.name = "<init>" := hnm
  have hN : base + wN w = s.heap.size + 0 := (hz rfl).symm
  have hbs : base ≤ s.heap.size := by rw [hz rfl]; exact Nat.le_add_right _ _
  obtain ⟨H, hHe⟩ : ∃ H : Heap, H = s.heap := ⟨_, rfl⟩
  obtain ⟨locs, hle⟩ : ∃ L : List Loc, L = [] := ⟨_, rfl⟩
  have hl : lv_has ls 1 [(0, .ref (base + p0))] := hl
  rw [← hHe] at hH
  have hS : va_S (fun q => base ≤ q) s.heap H locs := by rw [hHe, hle]; exact hS
  rw [← hle]
  show W p l e _ s m _ below meth c s.heap locs 0 0 _ _
  rw [← hHe]
  refine lv_aload_n hx hb dX9_init_0 rfl (lv_at hl 0 rfl) ?_
  refine m_obj X hl.1 kw_87 kO_i kO_c (by decide) (Nat.le_of_ble_eq_true rfl) dX9_init_1 ?_
  refine lv_aload_n hx hb dX9_init_4 rfl (lv_at hl 0 rfl) ?_
  refine lv_sipush (v := (200 : Int32)) hx hb dX9_init_5 (by decide) ?_
  refine m_newI (K := 200) X hH hS hN hbs kA_int (by decide) (by decide) (by decide) ⟨Nat.le_of_ble_eq_true rfl, Nat.le_of_ble_eq_true rfl⟩ dX9_init_8 (fun H hH hS => ?_)
  replace hN := hN_nw (ci := 12) (n := 200) hN
  obtain ⟨w_1, e_1, hF⟩ := bnd hF
  refine m_rR X hH hS e_1 gr_X9_9 hnm rfl rfl dX9_init_10 (fun H locs hH hS => ?_)
  replace hN := hN_eq (pfR_N e_1) hN
  have hF := Option.some.inj hF
  subst hF
  exact m_vret X hr hlk hH hS dX9_init_13
noncomputable def fX1_init (p0 : Nat) (w : Wd) : Option (Unit × Wd) := (pfR 1 0 p0 (wN w) (nw2 31 7 w)).bind fun w_1 => (pfR 1 1 p0 (wN w_1) (nw2 31 7 w_1)).bind fun w_2 => (pfR 1 2 p0 (wN w_2) (nw2 31 5 w_2)).bind fun w_3 => (pfR 1 3 p0 (wN w_3) (nw 12 31 w_3)).bind fun w_4 => (pfI 1 4 p0 (1 : Int32) w_4).bind fun w_5 => some ((), w_5)
set_option maxHeartbeats 4000000 in
set_option maxRecDepth 100000 in
theorem n_X1_init {p0 : Nat} {w : Wd} {res : Unit × Wd} (hF : fX1_init p0 w = some res) : wN res.2 = wN w + 97 := by
  unfold fX1_init at hF
  have hN : 0 + wN w = wN w + 0 := Nat.zero_add _
  replace hN := hN_nw2 (n := 31) (k := 7) hN
  obtain ⟨w_1, e_1, hF⟩ := bnd hF
  replace hN := hN_eq (pfR_N e_1) hN
  replace hN := hN_nw2 (n := 31) (k := 7) hN
  obtain ⟨w_2, e_2, hF⟩ := bnd hF
  replace hN := hN_eq (pfR_N e_2) hN
  replace hN := hN_nw2 (n := 31) (k := 5) hN
  obtain ⟨w_3, e_3, hF⟩ := bnd hF
  replace hN := hN_eq (pfR_N e_3) hN
  replace hN := hN_nw (ci := 12) (n := 31) hN
  obtain ⟨w_4, e_4, hF⟩ := bnd hF
  replace hN := hN_eq (pfR_N e_4) hN
  obtain ⟨w_5, e_5, hF⟩ := bnd hF
  replace hN := hN_eq (pfI_N e_5) hN
  have hF := Option.some.inj hF
  subst hF
  exact (Nat.zero_add _).symm.trans hN
set_option maxHeartbeats 4000000 in
set_option maxRecDepth 100000 in
theorem k_X1_init (l : Launch) (D : va_G) (cI cT cII : ClassId) (base : Nat) (aK aV : Nat → Nat) (v0 : Value) (p0 : Nat) (w : Wd) (res : Unit × Wd) (hF : fX1_init p0 w = some res) : CtE true l yX1_init cX1_init 1 none { frames := 1, cells := 97, slots := 713, locals := 20 } D cI cT cII base aK aV v0 [.ref (base + p0)] w res.2 none 97 713 := by
  unfold fX1_init at hF
  refine m_enterE (by decide) (Nat.le_of_ble_eq_true rfl) ?_
  intro p e s m below meth c ls X hE hz hr hlk hnm hH hS hl
  have hx := X.1
  have hb := X.2.1
  have hnm : meth.name = "<init>" := hnm
  have hN : base + wN w = s.heap.size + 0 := (hz rfl).symm
  have hbs : base ≤ s.heap.size := by rw [hz rfl]; exact Nat.le_add_right _ _
  obtain ⟨H, hHe⟩ : ∃ H : Heap, H = s.heap := ⟨_, rfl⟩
  obtain ⟨locs, hle⟩ : ∃ L : List Loc, L = [] := ⟨_, rfl⟩
  have hl : lv_has ls 1 [(0, .ref (base + p0))] := hl
  rw [← hHe] at hH
  have hS : va_S (fun q => base ≤ q) s.heap H locs := by rw [hHe, hle]; exact hS
  rw [← hle]
  show W p l e _ s m _ below meth c s.heap locs 0 0 _ _
  rw [← hHe]
  refine lv_aload_n hx hb dX1_init_0 rfl (lv_at hl 0 rfl) ?_
  refine m_obj X hl.1 kw_160 kO_i kO_c (by decide) (Nat.le_of_ble_eq_true rfl) dX1_init_1 ?_
  refine lv_aload_n hx hb dX1_init_4 rfl (lv_at hl 0 rfl) ?_
  refine lv_bipush (v := (31 : Int32)) hx hb dX1_init_5 (by decide) ?_
  refine lv_bipush (v := (7 : Int32)) hx hb dX1_init_7 (by decide) ?_
  refine m_newII (N := 31) (K := 7) X hE hH hS hN hbs kw_161 kA_int (by decide) (by decide) (by decide) (by decide) (by decide) (by decide) ⟨Nat.le_of_ble_eq_true rfl, Nat.le_of_ble_eq_true rfl⟩ dX1_init_9 (fun H hH hS => ?_)
  replace hN := hN_nw2 (n := 31) (k := 7) hN
  obtain ⟨w_1, e_1, hF⟩ := bnd hF
  refine m_rR X hH hS e_1 gr_X1_11 hnm rfl rfl dX1_init_13 (fun H locs hH hS => ?_)
  replace hN := hN_eq (pfR_N e_1) hN
  refine lv_aload_n hx hb dX1_init_16 rfl (lv_at hl 0 rfl) ?_
  refine lv_bipush (v := (31 : Int32)) hx hb dX1_init_17 (by decide) ?_
  refine lv_bipush (v := (7 : Int32)) hx hb dX1_init_19 (by decide) ?_
  refine m_newII (N := 31) (K := 7) X hE hH hS hN hbs kw_161 kA_int (by decide) (by decide) (by decide) (by decide) (by decide) (by decide) ⟨Nat.le_of_ble_eq_true rfl, Nat.le_of_ble_eq_true rfl⟩ dX1_init_21 (fun H hH hS => ?_)
  replace hN := hN_nw2 (n := 31) (k := 7) hN
  obtain ⟨w_2, e_2, hF⟩ := bnd hF
  refine m_rR X hH hS e_2 gr_X1_16 hnm rfl rfl dX1_init_25 (fun H locs hH hS => ?_)
  replace hN := hN_eq (pfR_N e_2) hN
  refine lv_aload_n hx hb dX1_init_28 rfl (lv_at hl 0 rfl) ?_
  refine lv_bipush (v := (31 : Int32)) hx hb dX1_init_29 (by decide) ?_
  refine lv_iconst (v := (5 : Int32)) hx hb dX1_init_31 (by decide) ?_
  refine m_newII (N := 31) (K := 5) X hE hH hS hN hbs kw_161 kA_int (by decide) (by decide) (by decide) (by decide) (by decide) (by decide) ⟨Nat.le_of_ble_eq_true rfl, Nat.le_of_ble_eq_true rfl⟩ dX1_init_32 (fun H hH hS => ?_)
  replace hN := hN_nw2 (n := 31) (k := 5) hN
  obtain ⟨w_3, e_3, hF⟩ := bnd hF
  refine m_rR X hH hS e_3 gr_X1_19 hnm rfl rfl dX1_init_36 (fun H locs hH hS => ?_)
  replace hN := hN_eq (pfR_N e_3) hN
  refine lv_aload_n hx hb dX1_init_39 rfl (lv_at hl 0 rfl) ?_
  refine lv_bipush (v := (31 : Int32)) hx hb dX1_init_40 (by decide) ?_
  refine m_newI (K := 31) X hH hS hN hbs kA_int (by decide) (by decide) (by decide) ⟨Nat.le_of_ble_eq_true rfl, Nat.le_of_ble_eq_true rfl⟩ dX1_init_42 (fun H hH hS => ?_)
  replace hN := hN_nw (ci := 12) (n := 31) hN
  obtain ⟨w_4, e_4, hF⟩ := bnd hF
  refine m_rR X hH hS e_4 gr_X1_22 hnm rfl rfl dX1_init_44 (fun H locs hH hS => ?_)
  replace hN := hN_eq (pfR_N e_4) hN
  refine lv_aload_n hx hb dX1_init_47 rfl (lv_at hl 0 rfl) ?_
  refine lv_iconst (v := (1 : Int32)) hx hb dX1_init_48 (by decide) ?_
  obtain ⟨w_5, e_5, hF⟩ := bnd hF
  refine m_pI X hH hS e_5 gp_X1_26 rfl rfl dX1_init_49 (fun H locs hH hS => ?_)
  replace hN := hN_eq (pfI_N e_5) hN
  have hF := Option.some.inj hF
  subst hF
  exact m_vret X hr hlk hH hS dX1_init_52
noncomputable def fX5_init (p0 : Nat) (w : Wd) : Option (Unit × Wd) := (pfR 4 0 p0 (wN w) (nw 12 7 w)).bind fun w_1 => (pfR 4 1 p0 (wN w_1) (nw 12 5 w_1)).bind fun w_2 => (pfR 4 2 p0 (wN w_2) (nw 12 41 w_2)).bind fun w_3 => (pfR 4 3 p0 (wN w_3) (nw2 7 41 w_3)).bind fun w_4 => (pfR 4 4 p0 (wN w_4) (nw 12 7 w_4)).bind fun w_5 => some ((), w_5)
set_option maxHeartbeats 4000000 in
set_option maxRecDepth 100000 in
theorem n_X5_init {p0 : Nat} {w : Wd} {res : Unit × Wd} (hF : fX5_init p0 w = some res) : wN res.2 = wN w + 12 := by
  unfold fX5_init at hF
  have hN : 0 + wN w = wN w + 0 := Nat.zero_add _
  replace hN := hN_nw (ci := 12) (n := 7) hN
  obtain ⟨w_1, e_1, hF⟩ := bnd hF
  replace hN := hN_eq (pfR_N e_1) hN
  replace hN := hN_nw (ci := 12) (n := 5) hN
  obtain ⟨w_2, e_2, hF⟩ := bnd hF
  replace hN := hN_eq (pfR_N e_2) hN
  replace hN := hN_nw (ci := 12) (n := 41) hN
  obtain ⟨w_3, e_3, hF⟩ := bnd hF
  replace hN := hN_eq (pfR_N e_3) hN
  replace hN := hN_nw2 (n := 7) (k := 41) hN
  obtain ⟨w_4, e_4, hF⟩ := bnd hF
  replace hN := hN_eq (pfR_N e_4) hN
  replace hN := hN_nw (ci := 12) (n := 7) hN
  obtain ⟨w_5, e_5, hF⟩ := bnd hF
  replace hN := hN_eq (pfR_N e_5) hN
  have hF := Option.some.inj hF
  subst hF
  exact (Nat.zero_add _).symm.trans hN
set_option maxHeartbeats 4000000 in
set_option maxRecDepth 100000 in
theorem k_X5_init (l : Launch) (D : va_G) (cI cT cII : ClassId) (base : Nat) (aK aV : Nat → Nat) (v0 : Value) (p0 : Nat) (w : Wd) (res : Unit × Wd) (hF : fX5_init p0 w = some res) : CtE true l yX5_init cX5_init 1 none { frames := 1, cells := 12, slots := 354, locals := 20 } D cI cT cII base aK aV v0 [.ref (base + p0)] w res.2 none 12 354 := by
  unfold fX5_init at hF
  refine m_enterE (by decide) (Nat.le_of_ble_eq_true rfl) ?_
  intro p e s m below meth c ls X hE hz hr hlk hnm hH hS hl
  have hx := X.1
  have hb := X.2.1
  have hnm : meth.name = "<init>" := hnm
  have hN : base + wN w = s.heap.size + 0 := (hz rfl).symm
  have hbs : base ≤ s.heap.size := by rw [hz rfl]; exact Nat.le_add_right _ _
  obtain ⟨H, hHe⟩ : ∃ H : Heap, H = s.heap := ⟨_, rfl⟩
  obtain ⟨locs, hle⟩ : ∃ L : List Loc, L = [] := ⟨_, rfl⟩
  have hl : lv_has ls 1 [(0, .ref (base + p0))] := hl
  rw [← hHe] at hH
  have hS : va_S (fun q => base ≤ q) s.heap H locs := by rw [hHe, hle]; exact hS
  rw [← hle]
  show W p l e _ s m _ below meth c s.heap locs 0 0 _ _
  rw [← hHe]
  refine lv_aload_n hx hb dX5_init_0 rfl (lv_at hl 0 rfl) ?_
  refine m_obj X hl.1 kw_189 kO_i kO_c (by decide) (Nat.le_of_ble_eq_true rfl) dX5_init_1 ?_
  refine lv_aload_n hx hb dX5_init_4 rfl (lv_at hl 0 rfl) ?_
  refine lv_bipush (v := (7 : Int32)) hx hb dX5_init_5 (by decide) ?_
  refine m_newI (K := 7) X hH hS hN hbs kA_int (by decide) (by decide) (by decide) ⟨Nat.le_of_ble_eq_true rfl, Nat.le_of_ble_eq_true rfl⟩ dX5_init_7 (fun H hH hS => ?_)
  replace hN := hN_nw (ci := 12) (n := 7) hN
  obtain ⟨w_1, e_1, hF⟩ := bnd hF
  refine m_rR X hH hS e_1 gr_X5_9 hnm rfl rfl dX5_init_9 (fun H locs hH hS => ?_)
  replace hN := hN_eq (pfR_N e_1) hN
  refine lv_aload_n hx hb dX5_init_12 rfl (lv_at hl 0 rfl) ?_
  refine lv_iconst (v := (5 : Int32)) hx hb dX5_init_13 (by decide) ?_
  refine m_newI (K := 5) X hH hS hN hbs kA_int (by decide) (by decide) (by decide) ⟨Nat.le_of_ble_eq_true rfl, Nat.le_of_ble_eq_true rfl⟩ dX5_init_14 (fun H hH hS => ?_)
  replace hN := hN_nw (ci := 12) (n := 5) hN
  obtain ⟨w_2, e_2, hF⟩ := bnd hF
  refine m_rR X hH hS e_2 gr_X5_15 hnm rfl rfl dX5_init_16 (fun H locs hH hS => ?_)
  replace hN := hN_eq (pfR_N e_2) hN
  refine lv_aload_n hx hb dX5_init_19 rfl (lv_at hl 0 rfl) ?_
  refine lv_bipush (v := (41 : Int32)) hx hb dX5_init_20 (by decide) ?_
  refine m_newI (K := 41) X hH hS hN hbs kA_int (by decide) (by decide) (by decide) ⟨Nat.le_of_ble_eq_true rfl, Nat.le_of_ble_eq_true rfl⟩ dX5_init_22 (fun H hH hS => ?_)
  replace hN := hN_nw (ci := 12) (n := 41) hN
  obtain ⟨w_3, e_3, hF⟩ := bnd hF
  refine m_rR X hH hS e_3 gr_X5_18 hnm rfl rfl dX5_init_24 (fun H locs hH hS => ?_)
  replace hN := hN_eq (pfR_N e_3) hN
  refine lv_aload_n hx hb dX5_init_27 rfl (lv_at hl 0 rfl) ?_
  refine lv_bipush (v := (7 : Int32)) hx hb dX5_init_28 (by decide) ?_
  refine lv_bipush (v := (41 : Int32)) hx hb dX5_init_30 (by decide) ?_
  refine m_newII (N := 7) (K := 41) X hE hH hS hN hbs kw_190 kA_int (by decide) (by decide) (by decide) (by decide) (by decide) (by decide) ⟨Nat.le_of_ble_eq_true rfl, Nat.le_of_ble_eq_true rfl⟩ dX5_init_32 (fun H hH hS => ?_)
  replace hN := hN_nw2 (n := 7) (k := 41) hN
  obtain ⟨w_4, e_4, hF⟩ := bnd hF
  refine m_rR X hH hS e_4 gr_X5_23 hnm rfl rfl dX5_init_36 (fun H locs hH hS => ?_)
  replace hN := hN_eq (pfR_N e_4) hN
  refine lv_aload_n hx hb dX5_init_39 rfl (lv_at hl 0 rfl) ?_
  refine lv_bipush (v := (7 : Int32)) hx hb dX5_init_40 (by decide) ?_
  refine m_newI (K := 7) X hH hS hN hbs kA_int (by decide) (by decide) (by decide) ⟨Nat.le_of_ble_eq_true rfl, Nat.le_of_ble_eq_true rfl⟩ dX5_init_42 (fun H hH hS => ?_)
  replace hN := hN_nw (ci := 12) (n := 7) hN
  obtain ⟨w_5, e_5, hF⟩ := bnd hF
  refine m_rR X hH hS e_5 gr_X5_26 hnm rfl rfl dX5_init_44 (fun H locs hH hS => ?_)
  replace hN := hN_eq (pfR_N e_5) hN
  have hF := Option.some.inj hF
  subst hF
  exact m_vret X hr hlk hH hS dX5_init_47
noncomputable def fX4_init (p0 : Nat) (w : Wd) : Option (Unit × Wd) := (pfR 3 0 p0 (wN w) (nw 12 7 w)).bind fun w_1 => (pfR 3 1 p0 (wN w_1) (nw 12 7 w_1)).bind fun w_2 => (pfR 3 2 p0 (wN w_2) (nw 12 7 w_2)).bind fun w_3 => (pfR 3 3 p0 (wN w_3) (nw 12 7 w_3)).bind fun w_4 => (pfR 3 5 p0 (wN w_4) (nw 12 5 w_4)).bind fun w_5 => (pfR 3 6 p0 (wN w_5) (nw 12 5 w_5)).bind fun w_6 => (pfR 3 8 p0 (wN w_6) (nw 12 10 w_6)).bind fun w_7 => (pfR 3 9 p0 (wN w_7) (nw 12 10 w_7)).bind fun w_8 => (pfR 3 10 p0 (wN w_8) (nw 12 10 w_8)).bind fun w_9 => (fX10_init (wN w_9) (nw 9 0 w_9)).bind fun q_10 => (pfR 3 12 p0 (wN w_9) q_10.2).bind fun w_11 => some ((), w_11)
set_option maxHeartbeats 4000000 in
set_option maxRecDepth 100000 in
theorem n_X4_init {p0 : Nat} {w : Wd} {res : Unit × Wd} (hF : fX4_init p0 w = some res) : wN res.2 = wN w + 13 := by
  unfold fX4_init at hF
  have hN : 0 + wN w = wN w + 0 := Nat.zero_add _
  replace hN := hN_nw (ci := 12) (n := 7) hN
  obtain ⟨w_1, e_1, hF⟩ := bnd hF
  replace hN := hN_eq (pfR_N e_1) hN
  replace hN := hN_nw (ci := 12) (n := 7) hN
  obtain ⟨w_2, e_2, hF⟩ := bnd hF
  replace hN := hN_eq (pfR_N e_2) hN
  replace hN := hN_nw (ci := 12) (n := 7) hN
  obtain ⟨w_3, e_3, hF⟩ := bnd hF
  replace hN := hN_eq (pfR_N e_3) hN
  replace hN := hN_nw (ci := 12) (n := 7) hN
  obtain ⟨w_4, e_4, hF⟩ := bnd hF
  replace hN := hN_eq (pfR_N e_4) hN
  replace hN := hN_nw (ci := 12) (n := 5) hN
  obtain ⟨w_5, e_5, hF⟩ := bnd hF
  replace hN := hN_eq (pfR_N e_5) hN
  replace hN := hN_nw (ci := 12) (n := 5) hN
  obtain ⟨w_6, e_6, hF⟩ := bnd hF
  replace hN := hN_eq (pfR_N e_6) hN
  replace hN := hN_nw (ci := 12) (n := 10) hN
  obtain ⟨w_7, e_7, hF⟩ := bnd hF
  replace hN := hN_eq (pfR_N e_7) hN
  replace hN := hN_nw (ci := 12) (n := 10) hN
  obtain ⟨w_8, e_8, hF⟩ := bnd hF
  replace hN := hN_eq (pfR_N e_8) hN
  replace hN := hN_nw (ci := 12) (n := 10) hN
  obtain ⟨w_9, e_9, hF⟩ := bnd hF
  replace hN := hN_eq (pfR_N e_9) hN
  replace hN := hN_nw (ci := 9) (n := 0) hN
  obtain ⟨q_10, e_10, hF⟩ := bnd hF
  replace hN := hN_add (n_X10_init e_10) hN
  obtain ⟨w_11, e_11, hF⟩ := bnd hF
  replace hN := hN_eq (pfR_N e_11) hN
  have hF := Option.some.inj hF
  subst hF
  exact (Nat.zero_add _).symm.trans hN
set_option maxHeartbeats 4000000 in
set_option maxRecDepth 100000 in
theorem k_X4_init (l : Launch) (D : va_G) (cI cT cII : ClassId) (base : Nat) (aK aV : Nat → Nat) (v0 : Value) (p0 : Nat) (w : Wd) (res : Unit × Wd) (hF : fX4_init p0 w = some res) : CtE true l yX4_init cX4_init 1 none { frames := 2, cells := 13, slots := 96, locals := 40 } D cI cT cII base aK aV v0 [.ref (base + p0)] w res.2 none 13 96 := by
  unfold fX4_init at hF
  refine m_enterE (by decide) (Nat.le_of_ble_eq_true rfl) ?_
  intro p e s m below meth c ls X hE hz hr hlk hnm hH hS hl
  have hx := X.1
  have hb := X.2.1
  have hnm : meth.name = "<init>" := hnm
  have hN : base + wN w = s.heap.size + 0 := (hz rfl).symm
  have hbs : base ≤ s.heap.size := by rw [hz rfl]; exact Nat.le_add_right _ _
  obtain ⟨H, hHe⟩ : ∃ H : Heap, H = s.heap := ⟨_, rfl⟩
  obtain ⟨locs, hle⟩ : ∃ L : List Loc, L = [] := ⟨_, rfl⟩
  have hl : lv_has ls 1 [(0, .ref (base + p0))] := hl
  rw [← hHe] at hH
  have hS : va_S (fun q => base ≤ q) s.heap H locs := by rw [hHe, hle]; exact hS
  rw [← hle]
  show W p l e _ s m _ below meth c s.heap locs 0 0 _ _
  rw [← hHe]
  refine lv_aload_n hx hb dX4_init_0 rfl (lv_at hl 0 rfl) ?_
  refine m_obj X hl.1 kw_259 kO_i kO_c (by decide) (Nat.le_of_ble_eq_true rfl) dX4_init_1 ?_
  refine lv_aload_n hx hb dX4_init_4 rfl (lv_at hl 0 rfl) ?_
  refine lv_bipush (v := (7 : Int32)) hx hb dX4_init_5 (by decide) ?_
  refine m_newI (K := 7) X hH hS hN hbs kA_int (by decide) (by decide) (by decide) ⟨Nat.le_of_ble_eq_true rfl, Nat.le_of_ble_eq_true rfl⟩ dX4_init_7 (fun H hH hS => ?_)
  replace hN := hN_nw (ci := 12) (n := 7) hN
  obtain ⟨w_1, e_1, hF⟩ := bnd hF
  refine m_rR X hH hS e_1 gr_X4_9 hnm rfl rfl dX4_init_9 (fun H locs hH hS => ?_)
  replace hN := hN_eq (pfR_N e_1) hN
  refine lv_aload_n hx hb dX4_init_12 rfl (lv_at hl 0 rfl) ?_
  refine lv_bipush (v := (7 : Int32)) hx hb dX4_init_13 (by decide) ?_
  refine m_newI (K := 7) X hH hS hN hbs kA_int (by decide) (by decide) (by decide) ⟨Nat.le_of_ble_eq_true rfl, Nat.le_of_ble_eq_true rfl⟩ dX4_init_15 (fun H hH hS => ?_)
  replace hN := hN_nw (ci := 12) (n := 7) hN
  obtain ⟨w_2, e_2, hF⟩ := bnd hF
  refine m_rR X hH hS e_2 gr_X4_15 hnm rfl rfl dX4_init_17 (fun H locs hH hS => ?_)
  replace hN := hN_eq (pfR_N e_2) hN
  refine lv_aload_n hx hb dX4_init_20 rfl (lv_at hl 0 rfl) ?_
  refine lv_bipush (v := (7 : Int32)) hx hb dX4_init_21 (by decide) ?_
  refine m_newI (K := 7) X hH hS hN hbs kA_int (by decide) (by decide) (by decide) ⟨Nat.le_of_ble_eq_true rfl, Nat.le_of_ble_eq_true rfl⟩ dX4_init_23 (fun H hH hS => ?_)
  replace hN := hN_nw (ci := 12) (n := 7) hN
  obtain ⟨w_3, e_3, hF⟩ := bnd hF
  refine m_rR X hH hS e_3 gr_X4_18 hnm rfl rfl dX4_init_25 (fun H locs hH hS => ?_)
  replace hN := hN_eq (pfR_N e_3) hN
  refine lv_aload_n hx hb dX4_init_28 rfl (lv_at hl 0 rfl) ?_
  refine lv_bipush (v := (7 : Int32)) hx hb dX4_init_29 (by decide) ?_
  refine m_newI (K := 7) X hH hS hN hbs kA_int (by decide) (by decide) (by decide) ⟨Nat.le_of_ble_eq_true rfl, Nat.le_of_ble_eq_true rfl⟩ dX4_init_31 (fun H hH hS => ?_)
  replace hN := hN_nw (ci := 12) (n := 7) hN
  obtain ⟨w_4, e_4, hF⟩ := bnd hF
  refine m_rR X hH hS e_4 gr_X4_21 hnm rfl rfl dX4_init_33 (fun H locs hH hS => ?_)
  replace hN := hN_eq (pfR_N e_4) hN
  refine lv_aload_n hx hb dX4_init_36 rfl (lv_at hl 0 rfl) ?_
  refine lv_iconst (v := (5 : Int32)) hx hb dX4_init_37 (by decide) ?_
  refine m_newI (K := 5) X hH hS hN hbs kA_int (by decide) (by decide) (by decide) ⟨Nat.le_of_ble_eq_true rfl, Nat.le_of_ble_eq_true rfl⟩ dX4_init_38 (fun H hH hS => ?_)
  replace hN := hN_nw (ci := 12) (n := 5) hN
  obtain ⟨w_5, e_5, hF⟩ := bnd hF
  refine m_rR X hH hS e_5 gr_X4_24 hnm rfl rfl dX4_init_40 (fun H locs hH hS => ?_)
  replace hN := hN_eq (pfR_N e_5) hN
  refine lv_aload_n hx hb dX4_init_43 rfl (lv_at hl 0 rfl) ?_
  refine lv_iconst (v := (5 : Int32)) hx hb dX4_init_44 (by decide) ?_
  refine m_newI (K := 5) X hH hS hN hbs kA_int (by decide) (by decide) (by decide) ⟨Nat.le_of_ble_eq_true rfl, Nat.le_of_ble_eq_true rfl⟩ dX4_init_45 (fun H hH hS => ?_)
  replace hN := hN_nw (ci := 12) (n := 5) hN
  obtain ⟨w_6, e_6, hF⟩ := bnd hF
  refine m_rR X hH hS e_6 gr_X4_27 hnm rfl rfl dX4_init_47 (fun H locs hH hS => ?_)
  replace hN := hN_eq (pfR_N e_6) hN
  refine lv_aload_n hx hb dX4_init_50 rfl (lv_at hl 0 rfl) ?_
  refine lv_bipush (v := (10 : Int32)) hx hb dX4_init_51 (by decide) ?_
  refine m_newI (K := 10) X hH hS hN hbs kA_int (by decide) (by decide) (by decide) ⟨Nat.le_of_ble_eq_true rfl, Nat.le_of_ble_eq_true rfl⟩ dX4_init_53 (fun H hH hS => ?_)
  replace hN := hN_nw (ci := 12) (n := 10) hN
  obtain ⟨w_7, e_7, hF⟩ := bnd hF
  refine m_rR X hH hS e_7 gr_X4_30 hnm rfl rfl dX4_init_55 (fun H locs hH hS => ?_)
  replace hN := hN_eq (pfR_N e_7) hN
  refine lv_aload_n hx hb dX4_init_58 rfl (lv_at hl 0 rfl) ?_
  refine lv_bipush (v := (10 : Int32)) hx hb dX4_init_59 (by decide) ?_
  refine m_newI (K := 10) X hH hS hN hbs kA_int (by decide) (by decide) (by decide) ⟨Nat.le_of_ble_eq_true rfl, Nat.le_of_ble_eq_true rfl⟩ dX4_init_61 (fun H hH hS => ?_)
  replace hN := hN_nw (ci := 12) (n := 10) hN
  obtain ⟨w_8, e_8, hF⟩ := bnd hF
  refine m_rR X hH hS e_8 gr_X4_33 hnm rfl rfl dX4_init_63 (fun H locs hH hS => ?_)
  replace hN := hN_eq (pfR_N e_8) hN
  refine lv_aload_n hx hb dX4_init_66 rfl (lv_at hl 0 rfl) ?_
  refine lv_bipush (v := (10 : Int32)) hx hb dX4_init_67 (by decide) ?_
  refine m_newI (K := 10) X hH hS hN hbs kA_int (by decide) (by decide) (by decide) ⟨Nat.le_of_ble_eq_true rfl, Nat.le_of_ble_eq_true rfl⟩ dX4_init_69 (fun H hH hS => ?_)
  replace hN := hN_nw (ci := 12) (n := 10) hN
  obtain ⟨w_9, e_9, hF⟩ := bnd hF
  refine m_rR X hH hS e_9 gr_X4_36 hnm rfl rfl dX4_init_71 (fun H locs hH hS => ?_)
  replace hN := hN_eq (pfR_N e_9) hN
  refine lv_aload_n hx hb dX4_init_74 rfl (lv_at hl 0 rfl) ?_
  refine m_new X hH hS hN hbs gn_X4_39 ⟨Nat.le_of_ble_eq_true rfl, Nat.le_of_ble_eq_true rfl⟩ dX4_init_75 (fun H hH hS => ?_)
  replace hN := hN_nw (ci := 9) (n := 0) hN
  refine lv_dup hx hb dX4_init_78 rfl ?_
  obtain ⟨q_10, e_10, hF⟩ := bnd hF
  refine m_callIN (As := []) (rest := [.ref (base + (wN w_9)), .ref (base + p0)]) X hE hH hS hN hbs hl.1 (k_X10_init l D cI cT cII base aK aV v0 (wN w_9) (nw 9 0 w_9) q_10 e_10) q_X10_init rfl kw_261 kw_114 rfl rfl (Nat.le_of_ble_eq_true rfl) ⟨by decide, by decide⟩ ⟨Nat.le_of_ble_eq_true rfl, Nat.le_of_ble_eq_true rfl⟩ dX4_init_79 (fun H locs hH hS => ?_)
  replace hN := hN_add (n_X10_init e_10) hN
  obtain ⟨w_11, e_11, hF⟩ := bnd hF
  refine m_rR X hH hS e_11 gr_X4_42 hnm rfl rfl dX4_init_82 (fun H locs hH hS => ?_)
  replace hN := hN_eq (pfR_N e_11) hN
  have hF := Option.some.inj hF
  subst hF
  exact m_vret X hr hlk hH hS dX4_init_85
noncomputable def fX7_init8 (p0 : Nat) (w : Wd) : Option (Unit × Wd) := (pfR 6 0 p0 (wN w) (nw 13 8 w)).bind fun w_1 => (gfR 6 0 p0 w_1).bind fun r_2 => (lnE 13 r_2 (8 : Int32) w_1).bind fun u_3 => (gfR 6 0 p0 w_1).bind fun r_4 => (fX10_init (wN w_1) (nw 9 0 w_1)).bind fun q_5 => (wrT r_4 (0 : Int32) (wN w_1) q_5.2).bind fun w_6 => (gfR 6 0 p0 w_6).bind fun r_7 => (lnE 13 r_7 (8 : Int32) w_6).bind fun u_8 => (gfR 6 0 p0 w_6).bind fun r_9 => (fX10_init (wN w_6) (nw 9 0 w_6)).bind fun q_10 => (wrT r_9 (1 : Int32) (wN w_6) q_10.2).bind fun w_11 => (gfR 6 0 p0 w_11).bind fun r_12 => (lnE 13 r_12 (8 : Int32) w_11).bind fun u_13 => (gfR 6 0 p0 w_11).bind fun r_14 => (fX10_init (wN w_11) (nw 9 0 w_11)).bind fun q_15 => (wrT r_14 (2 : Int32) (wN w_11) q_15.2).bind fun w_16 => (gfR 6 0 p0 w_16).bind fun r_17 => (lnE 13 r_17 (8 : Int32) w_16).bind fun u_18 => (gfR 6 0 p0 w_16).bind fun r_19 => (fX10_init (wN w_16) (nw 9 0 w_16)).bind fun q_20 => (wrT r_19 (3 : Int32) (wN w_16) q_20.2).bind fun w_21 => (gfR 6 0 p0 w_21).bind fun r_22 => (lnE 13 r_22 (8 : Int32) w_21).bind fun u_23 => (gfR 6 0 p0 w_21).bind fun r_24 => (fX10_init (wN w_21) (nw 9 0 w_21)).bind fun q_25 => (wrT r_24 (4 : Int32) (wN w_21) q_25.2).bind fun w_26 => (gfR 6 0 p0 w_26).bind fun r_27 => (lnE 13 r_27 (8 : Int32) w_26).bind fun u_28 => (gfR 6 0 p0 w_26).bind fun r_29 => (fX10_init (wN w_26) (nw 9 0 w_26)).bind fun q_30 => (wrT r_29 (5 : Int32) (wN w_26) q_30.2).bind fun w_31 => (gfR 6 0 p0 w_31).bind fun r_32 => (lnE 13 r_32 (8 : Int32) w_31).bind fun u_33 => (gfR 6 0 p0 w_31).bind fun r_34 => (fX10_init (wN w_31) (nw 9 0 w_31)).bind fun q_35 => (wrT r_34 (6 : Int32) (wN w_31) q_35.2).bind fun w_36 => (gfR 6 0 p0 w_36).bind fun r_37 => (lnE 13 r_37 (8 : Int32) w_36).bind fun u_38 => (gfR 6 0 p0 w_36).bind fun r_39 => (fX10_init (wN w_36) (nw 9 0 w_36)).bind fun q_40 => (wrT r_39 (7 : Int32) (wN w_36) q_40.2).bind fun w_41 => (gfR 6 0 p0 w_41).bind fun r_42 => (lnE 13 r_42 (8 : Int32) w_41).bind fun u_43 => some ((), w_41)
set_option maxHeartbeats 4000000 in
set_option maxRecDepth 100000 in
theorem n_X7_init8 {p0 : Nat} {w : Wd} {res : Unit × Wd} (hF : fX7_init8 p0 w = some res) : wN res.2 = wN w + 33 := by
  unfold fX7_init8 at hF
  have hN : 0 + wN w = wN w + 0 := Nat.zero_add _
  replace hN := hN_nw (ci := 13) (n := 8) hN
  obtain ⟨w_1, e_1, hF⟩ := bnd hF
  replace hN := hN_eq (pfR_N e_1) hN
  obtain ⟨r_2, e_2, hF⟩ := bnd hF
  obtain ⟨u_3, e_3, hF⟩ := bnd hF
  obtain ⟨r_4, e_4, hF⟩ := bnd hF
  replace hN := hN_nw (ci := 9) (n := 0) hN
  obtain ⟨q_5, e_5, hF⟩ := bnd hF
  replace hN := hN_add (n_X10_init e_5) hN
  obtain ⟨w_6, e_6, hF⟩ := bnd hF
  replace hN := hN_eq (wrT_N e_6) hN
  obtain ⟨r_7, e_7, hF⟩ := bnd hF
  obtain ⟨u_8, e_8, hF⟩ := bnd hF
  obtain ⟨r_9, e_9, hF⟩ := bnd hF
  replace hN := hN_nw (ci := 9) (n := 0) hN
  obtain ⟨q_10, e_10, hF⟩ := bnd hF
  replace hN := hN_add (n_X10_init e_10) hN
  obtain ⟨w_11, e_11, hF⟩ := bnd hF
  replace hN := hN_eq (wrT_N e_11) hN
  obtain ⟨r_12, e_12, hF⟩ := bnd hF
  obtain ⟨u_13, e_13, hF⟩ := bnd hF
  obtain ⟨r_14, e_14, hF⟩ := bnd hF
  replace hN := hN_nw (ci := 9) (n := 0) hN
  obtain ⟨q_15, e_15, hF⟩ := bnd hF
  replace hN := hN_add (n_X10_init e_15) hN
  obtain ⟨w_16, e_16, hF⟩ := bnd hF
  replace hN := hN_eq (wrT_N e_16) hN
  obtain ⟨r_17, e_17, hF⟩ := bnd hF
  obtain ⟨u_18, e_18, hF⟩ := bnd hF
  obtain ⟨r_19, e_19, hF⟩ := bnd hF
  replace hN := hN_nw (ci := 9) (n := 0) hN
  obtain ⟨q_20, e_20, hF⟩ := bnd hF
  replace hN := hN_add (n_X10_init e_20) hN
  obtain ⟨w_21, e_21, hF⟩ := bnd hF
  replace hN := hN_eq (wrT_N e_21) hN
  obtain ⟨r_22, e_22, hF⟩ := bnd hF
  obtain ⟨u_23, e_23, hF⟩ := bnd hF
  obtain ⟨r_24, e_24, hF⟩ := bnd hF
  replace hN := hN_nw (ci := 9) (n := 0) hN
  obtain ⟨q_25, e_25, hF⟩ := bnd hF
  replace hN := hN_add (n_X10_init e_25) hN
  obtain ⟨w_26, e_26, hF⟩ := bnd hF
  replace hN := hN_eq (wrT_N e_26) hN
  obtain ⟨r_27, e_27, hF⟩ := bnd hF
  obtain ⟨u_28, e_28, hF⟩ := bnd hF
  obtain ⟨r_29, e_29, hF⟩ := bnd hF
  replace hN := hN_nw (ci := 9) (n := 0) hN
  obtain ⟨q_30, e_30, hF⟩ := bnd hF
  replace hN := hN_add (n_X10_init e_30) hN
  obtain ⟨w_31, e_31, hF⟩ := bnd hF
  replace hN := hN_eq (wrT_N e_31) hN
  obtain ⟨r_32, e_32, hF⟩ := bnd hF
  obtain ⟨u_33, e_33, hF⟩ := bnd hF
  obtain ⟨r_34, e_34, hF⟩ := bnd hF
  replace hN := hN_nw (ci := 9) (n := 0) hN
  obtain ⟨q_35, e_35, hF⟩ := bnd hF
  replace hN := hN_add (n_X10_init e_35) hN
  obtain ⟨w_36, e_36, hF⟩ := bnd hF
  replace hN := hN_eq (wrT_N e_36) hN
  obtain ⟨r_37, e_37, hF⟩ := bnd hF
  obtain ⟨u_38, e_38, hF⟩ := bnd hF
  obtain ⟨r_39, e_39, hF⟩ := bnd hF
  replace hN := hN_nw (ci := 9) (n := 0) hN
  obtain ⟨q_40, e_40, hF⟩ := bnd hF
  replace hN := hN_add (n_X10_init e_40) hN
  obtain ⟨w_41, e_41, hF⟩ := bnd hF
  replace hN := hN_eq (wrT_N e_41) hN
  obtain ⟨r_42, e_42, hF⟩ := bnd hF
  obtain ⟨u_43, e_43, hF⟩ := bnd hF
  have hF := Option.some.inj hF
  subst hF
  exact (Nat.zero_add _).symm.trans hN
set_option maxHeartbeats 4000000 in
set_option maxRecDepth 100000 in
theorem k_X7_init8 (l : Launch) (D : va_G) (cI cT cII : ClassId) (base : Nat) (aK aV : Nat → Nat) (v0 : Value) (p0 : Nat) (w : Wd) (res : Unit × Wd) (hF : fX7_init8 p0 w = some res) : CtE true l yX7_init cX7_init 3 none { frames := 2, cells := 33, slots := 232, locals := 40 } D cI cT cII base aK aV v0 [.ref (base + p0), .int (8 : Int32)] w res.2 none 33 232 := by
  unfold fX7_init8 at hF
  refine m_enterE (by decide) (Nat.le_of_ble_eq_true rfl) ?_
  intro p e s m below meth c ls X hE hz hr hlk hnm hH hS hl
  have hx := X.1
  have hb := X.2.1
  have hnm : meth.name = "<init>" := hnm
  have hN : base + wN w = s.heap.size + 0 := (hz rfl).symm
  have hbs : base ≤ s.heap.size := by rw [hz rfl]; exact Nat.le_add_right _ _
  obtain ⟨H, hHe⟩ : ∃ H : Heap, H = s.heap := ⟨_, rfl⟩
  obtain ⟨locs, hle⟩ : ∃ L : List Loc, L = [] := ⟨_, rfl⟩
  have hl : lv_has ls 3 [(0, .ref (base + p0)), (1, .int (8 : Int32))] := hl
  rw [← hHe] at hH
  have hS : va_S (fun q => base ≤ q) s.heap H locs := by rw [hHe, hle]; exact hS
  rw [← hle]
  show W p l e _ s m _ below meth c s.heap locs 0 0 _ _
  rw [← hHe]
  refine lv_aload_n hx hb dX7_init_0 rfl (lv_at hl 0 rfl) ?_
  refine m_obj X hl.1 kw_140 kO_i kO_c (by decide) (Nat.le_of_ble_eq_true rfl) dX7_init_1 ?_
  refine lv_aload_n hx hb dX7_init_4 rfl (lv_at hl 0 rfl) ?_
  refine lv_iconst (v := (1 : Int32)) hx hb dX7_init_5 (by decide) ?_
  refine lv_iload_n hx hb dX7_init_6 rfl (lv_at hl 1 rfl) ?_
  refine m_mmax X hl.1 kw_141 (by decide) (Nat.le_of_ble_eq_true rfl) ⟨Nat.le_of_ble_eq_true rfl, Nat.le_of_ble_eq_true rfl⟩ dX7_init_7 ?_
  rw [show imax (1 : Int32) (8 : Int32) = (8 : Int32) from by decide]
  refine m_newT (K := 8) X hE hH hS hN hbs kw_144 (by decide) (by decide) (by decide) ⟨Nat.le_of_ble_eq_true rfl, Nat.le_of_ble_eq_true rfl⟩ dX7_init_10 (fun H hH hS => ?_)
  replace hN := hN_nw (ci := 13) (n := 8) hN
  obtain ⟨w_1, e_1, hF⟩ := bnd hF
  refine m_rR X hH hS e_1 gr_X7_15 hnm rfl rfl dX7_init_13 (fun H locs hH hS => ?_)
  replace hN := hN_eq (pfR_N e_1) hN
  refine lv_iconst (v := (0 : Int32)) hx hb dX7_init_16 (by decide) ?_
  refine lv_istore_n (lv' := [(2, .int (0 : Int32)), (0, .ref (base + p0)), (1, .int (8 : Int32))]) hx hb dX7_init_17 rfl hl (by decide) rfl (fun ls hl => ?_)
  refine lv_iload_n hx hb dX7_init_18 rfl (lv_at hl 0 rfl) ?_
  refine lv_aload_n hx hb dX7_init_19 rfl (lv_at hl 1 rfl) ?_
  obtain ⟨r_2, e_2, hF⟩ := bnd hF
  refine m_gR X hH e_2 gg_X7_15 dX7_init_20 ?_
  obtain ⟨u_3, e_3, hF⟩ := bnd hF
  refine m_lnT X hH (lnE_e e_3) dX7_init_23 ?_
  refine lv_icmp_ge (tgt := 46) hx hb dX7_init_24 (by decide) (fun h => absurd h (by decide)) (fun _ => ?_)
  refine lv_aload_n hx hb dX7_init_27 rfl (lv_at hl 1 rfl) ?_
  obtain ⟨r_4, e_4, hF⟩ := bnd hF
  refine m_gR X hH e_4 gg_X7_15 dX7_init_28 ?_
  refine lv_iload_n hx hb dX7_init_31 rfl (lv_at hl 0 rfl) ?_
  refine m_new X hH hS hN hbs gn_X7_13 ⟨Nat.le_of_ble_eq_true rfl, Nat.le_of_ble_eq_true rfl⟩ dX7_init_32 (fun H hH hS => ?_)
  replace hN := hN_nw (ci := 9) (n := 0) hN
  refine lv_dup hx hb dX7_init_35 rfl ?_
  obtain ⟨q_5, e_5, hF⟩ := bnd hF
  refine m_callIN (As := []) (rest := [.ref (base + (wN w_1)), .int (0 : Int32), .ref (base + r_4)]) X hE hH hS hN hbs hl.1 (k_X10_init l D cI cT cII base aK aV v0 (wN w_1) (nw 9 0 w_1) q_5 e_5) q_X10_init rfl kw_146 kw_114 rfl rfl (Nat.le_of_ble_eq_true rfl) ⟨by decide, by decide⟩ ⟨Nat.le_of_ble_eq_true rfl, Nat.le_of_ble_eq_true rfl⟩ dX7_init_36 (fun H locs hH hS => ?_)
  replace hN := hN_add (n_X10_init e_5) hN
  obtain ⟨w_6, e_6, hF⟩ := bnd hF
  refine m_wrT X hH hS e_6 dX7_init_39 (fun H locs hH hS => ?_)
  replace hN := hN_eq (wrT_N e_6) hN
  refine lv_iinc (v := (1 : Int32)) (lv' := [(2, .int (1 : Int32)), (0, .ref (base + p0)), (1, .int (8 : Int32))]) hx hb dX7_init_40 hl (k := 0) rfl (by decide) (by decide) rfl (fun ls hl => ?_)
  refine lv_goto (tgt := 18) hx hb dX7_init_43 (by decide) ?_
  refine lv_iload_n hx hb dX7_init_18 rfl (lv_at hl 0 rfl) ?_
  refine lv_aload_n hx hb dX7_init_19 rfl (lv_at hl 1 rfl) ?_
  obtain ⟨r_7, e_7, hF⟩ := bnd hF
  refine m_gR X hH e_7 gg_X7_15 dX7_init_20 ?_
  obtain ⟨u_8, e_8, hF⟩ := bnd hF
  refine m_lnT X hH (lnE_e e_8) dX7_init_23 ?_
  refine lv_icmp_ge (tgt := 46) hx hb dX7_init_24 (by decide) (fun h => absurd h (by decide)) (fun _ => ?_)
  refine lv_aload_n hx hb dX7_init_27 rfl (lv_at hl 1 rfl) ?_
  obtain ⟨r_9, e_9, hF⟩ := bnd hF
  refine m_gR X hH e_9 gg_X7_15 dX7_init_28 ?_
  refine lv_iload_n hx hb dX7_init_31 rfl (lv_at hl 0 rfl) ?_
  refine m_new X hH hS hN hbs gn_X7_13 ⟨Nat.le_of_ble_eq_true rfl, Nat.le_of_ble_eq_true rfl⟩ dX7_init_32 (fun H hH hS => ?_)
  replace hN := hN_nw (ci := 9) (n := 0) hN
  refine lv_dup hx hb dX7_init_35 rfl ?_
  obtain ⟨q_10, e_10, hF⟩ := bnd hF
  refine m_callIN (As := []) (rest := [.ref (base + (wN w_6)), .int (1 : Int32), .ref (base + r_9)]) X hE hH hS hN hbs hl.1 (k_X10_init l D cI cT cII base aK aV v0 (wN w_6) (nw 9 0 w_6) q_10 e_10) q_X10_init rfl kw_146 kw_114 rfl rfl (Nat.le_of_ble_eq_true rfl) ⟨by decide, by decide⟩ ⟨Nat.le_of_ble_eq_true rfl, Nat.le_of_ble_eq_true rfl⟩ dX7_init_36 (fun H locs hH hS => ?_)
  replace hN := hN_add (n_X10_init e_10) hN
  obtain ⟨w_11, e_11, hF⟩ := bnd hF
  refine m_wrT X hH hS e_11 dX7_init_39 (fun H locs hH hS => ?_)
  replace hN := hN_eq (wrT_N e_11) hN
  refine lv_iinc (v := (2 : Int32)) (lv' := [(2, .int (2 : Int32)), (0, .ref (base + p0)), (1, .int (8 : Int32))]) hx hb dX7_init_40 hl (k := 0) rfl (by decide) (by decide) rfl (fun ls hl => ?_)
  refine lv_goto (tgt := 18) hx hb dX7_init_43 (by decide) ?_
  refine lv_iload_n hx hb dX7_init_18 rfl (lv_at hl 0 rfl) ?_
  refine lv_aload_n hx hb dX7_init_19 rfl (lv_at hl 1 rfl) ?_
  obtain ⟨r_12, e_12, hF⟩ := bnd hF
  refine m_gR X hH e_12 gg_X7_15 dX7_init_20 ?_
  obtain ⟨u_13, e_13, hF⟩ := bnd hF
  refine m_lnT X hH (lnE_e e_13) dX7_init_23 ?_
  refine lv_icmp_ge (tgt := 46) hx hb dX7_init_24 (by decide) (fun h => absurd h (by decide)) (fun _ => ?_)
  refine lv_aload_n hx hb dX7_init_27 rfl (lv_at hl 1 rfl) ?_
  obtain ⟨r_14, e_14, hF⟩ := bnd hF
  refine m_gR X hH e_14 gg_X7_15 dX7_init_28 ?_
  refine lv_iload_n hx hb dX7_init_31 rfl (lv_at hl 0 rfl) ?_
  refine m_new X hH hS hN hbs gn_X7_13 ⟨Nat.le_of_ble_eq_true rfl, Nat.le_of_ble_eq_true rfl⟩ dX7_init_32 (fun H hH hS => ?_)
  replace hN := hN_nw (ci := 9) (n := 0) hN
  refine lv_dup hx hb dX7_init_35 rfl ?_
  obtain ⟨q_15, e_15, hF⟩ := bnd hF
  refine m_callIN (As := []) (rest := [.ref (base + (wN w_11)), .int (2 : Int32), .ref (base + r_14)]) X hE hH hS hN hbs hl.1 (k_X10_init l D cI cT cII base aK aV v0 (wN w_11) (nw 9 0 w_11) q_15 e_15) q_X10_init rfl kw_146 kw_114 rfl rfl (Nat.le_of_ble_eq_true rfl) ⟨by decide, by decide⟩ ⟨Nat.le_of_ble_eq_true rfl, Nat.le_of_ble_eq_true rfl⟩ dX7_init_36 (fun H locs hH hS => ?_)
  replace hN := hN_add (n_X10_init e_15) hN
  obtain ⟨w_16, e_16, hF⟩ := bnd hF
  refine m_wrT X hH hS e_16 dX7_init_39 (fun H locs hH hS => ?_)
  replace hN := hN_eq (wrT_N e_16) hN
  refine lv_iinc (v := (3 : Int32)) (lv' := [(2, .int (3 : Int32)), (0, .ref (base + p0)), (1, .int (8 : Int32))]) hx hb dX7_init_40 hl (k := 0) rfl (by decide) (by decide) rfl (fun ls hl => ?_)
  refine lv_goto (tgt := 18) hx hb dX7_init_43 (by decide) ?_
  refine lv_iload_n hx hb dX7_init_18 rfl (lv_at hl 0 rfl) ?_
  refine lv_aload_n hx hb dX7_init_19 rfl (lv_at hl 1 rfl) ?_
  obtain ⟨r_17, e_17, hF⟩ := bnd hF
  refine m_gR X hH e_17 gg_X7_15 dX7_init_20 ?_
  obtain ⟨u_18, e_18, hF⟩ := bnd hF
  refine m_lnT X hH (lnE_e e_18) dX7_init_23 ?_
  refine lv_icmp_ge (tgt := 46) hx hb dX7_init_24 (by decide) (fun h => absurd h (by decide)) (fun _ => ?_)
  refine lv_aload_n hx hb dX7_init_27 rfl (lv_at hl 1 rfl) ?_
  obtain ⟨r_19, e_19, hF⟩ := bnd hF
  refine m_gR X hH e_19 gg_X7_15 dX7_init_28 ?_
  refine lv_iload_n hx hb dX7_init_31 rfl (lv_at hl 0 rfl) ?_
  refine m_new X hH hS hN hbs gn_X7_13 ⟨Nat.le_of_ble_eq_true rfl, Nat.le_of_ble_eq_true rfl⟩ dX7_init_32 (fun H hH hS => ?_)
  replace hN := hN_nw (ci := 9) (n := 0) hN
  refine lv_dup hx hb dX7_init_35 rfl ?_
  obtain ⟨q_20, e_20, hF⟩ := bnd hF
  refine m_callIN (As := []) (rest := [.ref (base + (wN w_16)), .int (3 : Int32), .ref (base + r_19)]) X hE hH hS hN hbs hl.1 (k_X10_init l D cI cT cII base aK aV v0 (wN w_16) (nw 9 0 w_16) q_20 e_20) q_X10_init rfl kw_146 kw_114 rfl rfl (Nat.le_of_ble_eq_true rfl) ⟨by decide, by decide⟩ ⟨Nat.le_of_ble_eq_true rfl, Nat.le_of_ble_eq_true rfl⟩ dX7_init_36 (fun H locs hH hS => ?_)
  replace hN := hN_add (n_X10_init e_20) hN
  obtain ⟨w_21, e_21, hF⟩ := bnd hF
  refine m_wrT X hH hS e_21 dX7_init_39 (fun H locs hH hS => ?_)
  replace hN := hN_eq (wrT_N e_21) hN
  refine lv_iinc (v := (4 : Int32)) (lv' := [(2, .int (4 : Int32)), (0, .ref (base + p0)), (1, .int (8 : Int32))]) hx hb dX7_init_40 hl (k := 0) rfl (by decide) (by decide) rfl (fun ls hl => ?_)
  refine lv_goto (tgt := 18) hx hb dX7_init_43 (by decide) ?_
  refine lv_iload_n hx hb dX7_init_18 rfl (lv_at hl 0 rfl) ?_
  refine lv_aload_n hx hb dX7_init_19 rfl (lv_at hl 1 rfl) ?_
  obtain ⟨r_22, e_22, hF⟩ := bnd hF
  refine m_gR X hH e_22 gg_X7_15 dX7_init_20 ?_
  obtain ⟨u_23, e_23, hF⟩ := bnd hF
  refine m_lnT X hH (lnE_e e_23) dX7_init_23 ?_
  refine lv_icmp_ge (tgt := 46) hx hb dX7_init_24 (by decide) (fun h => absurd h (by decide)) (fun _ => ?_)
  refine lv_aload_n hx hb dX7_init_27 rfl (lv_at hl 1 rfl) ?_
  obtain ⟨r_24, e_24, hF⟩ := bnd hF
  refine m_gR X hH e_24 gg_X7_15 dX7_init_28 ?_
  refine lv_iload_n hx hb dX7_init_31 rfl (lv_at hl 0 rfl) ?_
  refine m_new X hH hS hN hbs gn_X7_13 ⟨Nat.le_of_ble_eq_true rfl, Nat.le_of_ble_eq_true rfl⟩ dX7_init_32 (fun H hH hS => ?_)
  replace hN := hN_nw (ci := 9) (n := 0) hN
  refine lv_dup hx hb dX7_init_35 rfl ?_
  obtain ⟨q_25, e_25, hF⟩ := bnd hF
  refine m_callIN (As := []) (rest := [.ref (base + (wN w_21)), .int (4 : Int32), .ref (base + r_24)]) X hE hH hS hN hbs hl.1 (k_X10_init l D cI cT cII base aK aV v0 (wN w_21) (nw 9 0 w_21) q_25 e_25) q_X10_init rfl kw_146 kw_114 rfl rfl (Nat.le_of_ble_eq_true rfl) ⟨by decide, by decide⟩ ⟨Nat.le_of_ble_eq_true rfl, Nat.le_of_ble_eq_true rfl⟩ dX7_init_36 (fun H locs hH hS => ?_)
  replace hN := hN_add (n_X10_init e_25) hN
  obtain ⟨w_26, e_26, hF⟩ := bnd hF
  refine m_wrT X hH hS e_26 dX7_init_39 (fun H locs hH hS => ?_)
  replace hN := hN_eq (wrT_N e_26) hN
  refine lv_iinc (v := (5 : Int32)) (lv' := [(2, .int (5 : Int32)), (0, .ref (base + p0)), (1, .int (8 : Int32))]) hx hb dX7_init_40 hl (k := 0) rfl (by decide) (by decide) rfl (fun ls hl => ?_)
  refine lv_goto (tgt := 18) hx hb dX7_init_43 (by decide) ?_
  refine lv_iload_n hx hb dX7_init_18 rfl (lv_at hl 0 rfl) ?_
  refine lv_aload_n hx hb dX7_init_19 rfl (lv_at hl 1 rfl) ?_
  obtain ⟨r_27, e_27, hF⟩ := bnd hF
  refine m_gR X hH e_27 gg_X7_15 dX7_init_20 ?_
  obtain ⟨u_28, e_28, hF⟩ := bnd hF
  refine m_lnT X hH (lnE_e e_28) dX7_init_23 ?_
  refine lv_icmp_ge (tgt := 46) hx hb dX7_init_24 (by decide) (fun h => absurd h (by decide)) (fun _ => ?_)
  refine lv_aload_n hx hb dX7_init_27 rfl (lv_at hl 1 rfl) ?_
  obtain ⟨r_29, e_29, hF⟩ := bnd hF
  refine m_gR X hH e_29 gg_X7_15 dX7_init_28 ?_
  refine lv_iload_n hx hb dX7_init_31 rfl (lv_at hl 0 rfl) ?_
  refine m_new X hH hS hN hbs gn_X7_13 ⟨Nat.le_of_ble_eq_true rfl, Nat.le_of_ble_eq_true rfl⟩ dX7_init_32 (fun H hH hS => ?_)
  replace hN := hN_nw (ci := 9) (n := 0) hN
  refine lv_dup hx hb dX7_init_35 rfl ?_
  obtain ⟨q_30, e_30, hF⟩ := bnd hF
  refine m_callIN (As := []) (rest := [.ref (base + (wN w_26)), .int (5 : Int32), .ref (base + r_29)]) X hE hH hS hN hbs hl.1 (k_X10_init l D cI cT cII base aK aV v0 (wN w_26) (nw 9 0 w_26) q_30 e_30) q_X10_init rfl kw_146 kw_114 rfl rfl (Nat.le_of_ble_eq_true rfl) ⟨by decide, by decide⟩ ⟨Nat.le_of_ble_eq_true rfl, Nat.le_of_ble_eq_true rfl⟩ dX7_init_36 (fun H locs hH hS => ?_)
  replace hN := hN_add (n_X10_init e_30) hN
  obtain ⟨w_31, e_31, hF⟩ := bnd hF
  refine m_wrT X hH hS e_31 dX7_init_39 (fun H locs hH hS => ?_)
  replace hN := hN_eq (wrT_N e_31) hN
  refine lv_iinc (v := (6 : Int32)) (lv' := [(2, .int (6 : Int32)), (0, .ref (base + p0)), (1, .int (8 : Int32))]) hx hb dX7_init_40 hl (k := 0) rfl (by decide) (by decide) rfl (fun ls hl => ?_)
  refine lv_goto (tgt := 18) hx hb dX7_init_43 (by decide) ?_
  refine lv_iload_n hx hb dX7_init_18 rfl (lv_at hl 0 rfl) ?_
  refine lv_aload_n hx hb dX7_init_19 rfl (lv_at hl 1 rfl) ?_
  obtain ⟨r_32, e_32, hF⟩ := bnd hF
  refine m_gR X hH e_32 gg_X7_15 dX7_init_20 ?_
  obtain ⟨u_33, e_33, hF⟩ := bnd hF
  refine m_lnT X hH (lnE_e e_33) dX7_init_23 ?_
  refine lv_icmp_ge (tgt := 46) hx hb dX7_init_24 (by decide) (fun h => absurd h (by decide)) (fun _ => ?_)
  refine lv_aload_n hx hb dX7_init_27 rfl (lv_at hl 1 rfl) ?_
  obtain ⟨r_34, e_34, hF⟩ := bnd hF
  refine m_gR X hH e_34 gg_X7_15 dX7_init_28 ?_
  refine lv_iload_n hx hb dX7_init_31 rfl (lv_at hl 0 rfl) ?_
  refine m_new X hH hS hN hbs gn_X7_13 ⟨Nat.le_of_ble_eq_true rfl, Nat.le_of_ble_eq_true rfl⟩ dX7_init_32 (fun H hH hS => ?_)
  replace hN := hN_nw (ci := 9) (n := 0) hN
  refine lv_dup hx hb dX7_init_35 rfl ?_
  obtain ⟨q_35, e_35, hF⟩ := bnd hF
  refine m_callIN (As := []) (rest := [.ref (base + (wN w_31)), .int (6 : Int32), .ref (base + r_34)]) X hE hH hS hN hbs hl.1 (k_X10_init l D cI cT cII base aK aV v0 (wN w_31) (nw 9 0 w_31) q_35 e_35) q_X10_init rfl kw_146 kw_114 rfl rfl (Nat.le_of_ble_eq_true rfl) ⟨by decide, by decide⟩ ⟨Nat.le_of_ble_eq_true rfl, Nat.le_of_ble_eq_true rfl⟩ dX7_init_36 (fun H locs hH hS => ?_)
  replace hN := hN_add (n_X10_init e_35) hN
  obtain ⟨w_36, e_36, hF⟩ := bnd hF
  refine m_wrT X hH hS e_36 dX7_init_39 (fun H locs hH hS => ?_)
  replace hN := hN_eq (wrT_N e_36) hN
  refine lv_iinc (v := (7 : Int32)) (lv' := [(2, .int (7 : Int32)), (0, .ref (base + p0)), (1, .int (8 : Int32))]) hx hb dX7_init_40 hl (k := 0) rfl (by decide) (by decide) rfl (fun ls hl => ?_)
  refine lv_goto (tgt := 18) hx hb dX7_init_43 (by decide) ?_
  refine lv_iload_n hx hb dX7_init_18 rfl (lv_at hl 0 rfl) ?_
  refine lv_aload_n hx hb dX7_init_19 rfl (lv_at hl 1 rfl) ?_
  obtain ⟨r_37, e_37, hF⟩ := bnd hF
  refine m_gR X hH e_37 gg_X7_15 dX7_init_20 ?_
  obtain ⟨u_38, e_38, hF⟩ := bnd hF
  refine m_lnT X hH (lnE_e e_38) dX7_init_23 ?_
  refine lv_icmp_ge (tgt := 46) hx hb dX7_init_24 (by decide) (fun h => absurd h (by decide)) (fun _ => ?_)
  refine lv_aload_n hx hb dX7_init_27 rfl (lv_at hl 1 rfl) ?_
  obtain ⟨r_39, e_39, hF⟩ := bnd hF
  refine m_gR X hH e_39 gg_X7_15 dX7_init_28 ?_
  refine lv_iload_n hx hb dX7_init_31 rfl (lv_at hl 0 rfl) ?_
  refine m_new X hH hS hN hbs gn_X7_13 ⟨Nat.le_of_ble_eq_true rfl, Nat.le_of_ble_eq_true rfl⟩ dX7_init_32 (fun H hH hS => ?_)
  replace hN := hN_nw (ci := 9) (n := 0) hN
  refine lv_dup hx hb dX7_init_35 rfl ?_
  obtain ⟨q_40, e_40, hF⟩ := bnd hF
  refine m_callIN (As := []) (rest := [.ref (base + (wN w_36)), .int (7 : Int32), .ref (base + r_39)]) X hE hH hS hN hbs hl.1 (k_X10_init l D cI cT cII base aK aV v0 (wN w_36) (nw 9 0 w_36) q_40 e_40) q_X10_init rfl kw_146 kw_114 rfl rfl (Nat.le_of_ble_eq_true rfl) ⟨by decide, by decide⟩ ⟨Nat.le_of_ble_eq_true rfl, Nat.le_of_ble_eq_true rfl⟩ dX7_init_36 (fun H locs hH hS => ?_)
  replace hN := hN_add (n_X10_init e_40) hN
  obtain ⟨w_41, e_41, hF⟩ := bnd hF
  refine m_wrT X hH hS e_41 dX7_init_39 (fun H locs hH hS => ?_)
  replace hN := hN_eq (wrT_N e_41) hN
  refine lv_iinc (v := (8 : Int32)) (lv' := [(2, .int (8 : Int32)), (0, .ref (base + p0)), (1, .int (8 : Int32))]) hx hb dX7_init_40 hl (k := 0) rfl (by decide) (by decide) rfl (fun ls hl => ?_)
  refine lv_goto (tgt := 18) hx hb dX7_init_43 (by decide) ?_
  refine lv_iload_n hx hb dX7_init_18 rfl (lv_at hl 0 rfl) ?_
  refine lv_aload_n hx hb dX7_init_19 rfl (lv_at hl 1 rfl) ?_
  obtain ⟨r_42, e_42, hF⟩ := bnd hF
  refine m_gR X hH e_42 gg_X7_15 dX7_init_20 ?_
  obtain ⟨u_43, e_43, hF⟩ := bnd hF
  refine m_lnT X hH (lnE_e e_43) dX7_init_23 ?_
  refine lv_icmp_ge (tgt := 46) hx hb dX7_init_24 (by decide) (fun _ => ?_) (fun h => absurd (show (8 : Int32) ≤ 8 by decide) h)
  have hF := Option.some.inj hF
  subst hF
  exact m_vret X hr hlk hH hS dX7_init_46
noncomputable def fX7_init2 (p0 : Nat) (w : Wd) : Option (Unit × Wd) := (pfR 6 0 p0 (wN w) (nw 13 2 w)).bind fun w_1 => (gfR 6 0 p0 w_1).bind fun r_2 => (lnE 13 r_2 (2 : Int32) w_1).bind fun u_3 => (gfR 6 0 p0 w_1).bind fun r_4 => (fX10_init (wN w_1) (nw 9 0 w_1)).bind fun q_5 => (wrT r_4 (0 : Int32) (wN w_1) q_5.2).bind fun w_6 => (gfR 6 0 p0 w_6).bind fun r_7 => (lnE 13 r_7 (2 : Int32) w_6).bind fun u_8 => (gfR 6 0 p0 w_6).bind fun r_9 => (fX10_init (wN w_6) (nw 9 0 w_6)).bind fun q_10 => (wrT r_9 (1 : Int32) (wN w_6) q_10.2).bind fun w_11 => (gfR 6 0 p0 w_11).bind fun r_12 => (lnE 13 r_12 (2 : Int32) w_11).bind fun u_13 => some ((), w_11)
set_option maxHeartbeats 4000000 in
set_option maxRecDepth 100000 in
theorem n_X7_init2 {p0 : Nat} {w : Wd} {res : Unit × Wd} (hF : fX7_init2 p0 w = some res) : wN res.2 = wN w + 9 := by
  unfold fX7_init2 at hF
  have hN : 0 + wN w = wN w + 0 := Nat.zero_add _
  replace hN := hN_nw (ci := 13) (n := 2) hN
  obtain ⟨w_1, e_1, hF⟩ := bnd hF
  replace hN := hN_eq (pfR_N e_1) hN
  obtain ⟨r_2, e_2, hF⟩ := bnd hF
  obtain ⟨u_3, e_3, hF⟩ := bnd hF
  obtain ⟨r_4, e_4, hF⟩ := bnd hF
  replace hN := hN_nw (ci := 9) (n := 0) hN
  obtain ⟨q_5, e_5, hF⟩ := bnd hF
  replace hN := hN_add (n_X10_init e_5) hN
  obtain ⟨w_6, e_6, hF⟩ := bnd hF
  replace hN := hN_eq (wrT_N e_6) hN
  obtain ⟨r_7, e_7, hF⟩ := bnd hF
  obtain ⟨u_8, e_8, hF⟩ := bnd hF
  obtain ⟨r_9, e_9, hF⟩ := bnd hF
  replace hN := hN_nw (ci := 9) (n := 0) hN
  obtain ⟨q_10, e_10, hF⟩ := bnd hF
  replace hN := hN_add (n_X10_init e_10) hN
  obtain ⟨w_11, e_11, hF⟩ := bnd hF
  replace hN := hN_eq (wrT_N e_11) hN
  obtain ⟨r_12, e_12, hF⟩ := bnd hF
  obtain ⟨u_13, e_13, hF⟩ := bnd hF
  have hF := Option.some.inj hF
  subst hF
  exact (Nat.zero_add _).symm.trans hN
set_option maxHeartbeats 4000000 in
set_option maxRecDepth 100000 in
theorem k_X7_init2 (l : Launch) (D : va_G) (cI cT cII : ClassId) (base : Nat) (aK aV : Nat → Nat) (v0 : Value) (p0 : Nat) (w : Wd) (res : Unit × Wd) (hF : fX7_init2 p0 w = some res) : CtE true l yX7_init cX7_init 3 none { frames := 2, cells := 9, slots := 58, locals := 40 } D cI cT cII base aK aV v0 [.ref (base + p0), .int (2 : Int32)] w res.2 none 9 58 := by
  unfold fX7_init2 at hF
  refine m_enterE (by decide) (Nat.le_of_ble_eq_true rfl) ?_
  intro p e s m below meth c ls X hE hz hr hlk hnm hH hS hl
  have hx := X.1
  have hb := X.2.1
  have hnm : meth.name = "<init>" := hnm
  have hN : base + wN w = s.heap.size + 0 := (hz rfl).symm
  have hbs : base ≤ s.heap.size := by rw [hz rfl]; exact Nat.le_add_right _ _
  obtain ⟨H, hHe⟩ : ∃ H : Heap, H = s.heap := ⟨_, rfl⟩
  obtain ⟨locs, hle⟩ : ∃ L : List Loc, L = [] := ⟨_, rfl⟩
  have hl : lv_has ls 3 [(0, .ref (base + p0)), (1, .int (2 : Int32))] := hl
  rw [← hHe] at hH
  have hS : va_S (fun q => base ≤ q) s.heap H locs := by rw [hHe, hle]; exact hS
  rw [← hle]
  show W p l e _ s m _ below meth c s.heap locs 0 0 _ _
  rw [← hHe]
  refine lv_aload_n hx hb dX7_init_0 rfl (lv_at hl 0 rfl) ?_
  refine m_obj X hl.1 kw_140 kO_i kO_c (by decide) (Nat.le_of_ble_eq_true rfl) dX7_init_1 ?_
  refine lv_aload_n hx hb dX7_init_4 rfl (lv_at hl 0 rfl) ?_
  refine lv_iconst (v := (1 : Int32)) hx hb dX7_init_5 (by decide) ?_
  refine lv_iload_n hx hb dX7_init_6 rfl (lv_at hl 1 rfl) ?_
  refine m_mmax X hl.1 kw_141 (by decide) (Nat.le_of_ble_eq_true rfl) ⟨Nat.le_of_ble_eq_true rfl, Nat.le_of_ble_eq_true rfl⟩ dX7_init_7 ?_
  rw [show imax (1 : Int32) (2 : Int32) = (2 : Int32) from by decide]
  refine m_newT (K := 2) X hE hH hS hN hbs kw_144 (by decide) (by decide) (by decide) ⟨Nat.le_of_ble_eq_true rfl, Nat.le_of_ble_eq_true rfl⟩ dX7_init_10 (fun H hH hS => ?_)
  replace hN := hN_nw (ci := 13) (n := 2) hN
  obtain ⟨w_1, e_1, hF⟩ := bnd hF
  refine m_rR X hH hS e_1 gr_X7_15 hnm rfl rfl dX7_init_13 (fun H locs hH hS => ?_)
  replace hN := hN_eq (pfR_N e_1) hN
  refine lv_iconst (v := (0 : Int32)) hx hb dX7_init_16 (by decide) ?_
  refine lv_istore_n (lv' := [(2, .int (0 : Int32)), (0, .ref (base + p0)), (1, .int (2 : Int32))]) hx hb dX7_init_17 rfl hl (by decide) rfl (fun ls hl => ?_)
  refine lv_iload_n hx hb dX7_init_18 rfl (lv_at hl 0 rfl) ?_
  refine lv_aload_n hx hb dX7_init_19 rfl (lv_at hl 1 rfl) ?_
  obtain ⟨r_2, e_2, hF⟩ := bnd hF
  refine m_gR X hH e_2 gg_X7_15 dX7_init_20 ?_
  obtain ⟨u_3, e_3, hF⟩ := bnd hF
  refine m_lnT X hH (lnE_e e_3) dX7_init_23 ?_
  refine lv_icmp_ge (tgt := 46) hx hb dX7_init_24 (by decide) (fun h => absurd h (by decide)) (fun _ => ?_)
  refine lv_aload_n hx hb dX7_init_27 rfl (lv_at hl 1 rfl) ?_
  obtain ⟨r_4, e_4, hF⟩ := bnd hF
  refine m_gR X hH e_4 gg_X7_15 dX7_init_28 ?_
  refine lv_iload_n hx hb dX7_init_31 rfl (lv_at hl 0 rfl) ?_
  refine m_new X hH hS hN hbs gn_X7_13 ⟨Nat.le_of_ble_eq_true rfl, Nat.le_of_ble_eq_true rfl⟩ dX7_init_32 (fun H hH hS => ?_)
  replace hN := hN_nw (ci := 9) (n := 0) hN
  refine lv_dup hx hb dX7_init_35 rfl ?_
  obtain ⟨q_5, e_5, hF⟩ := bnd hF
  refine m_callIN (As := []) (rest := [.ref (base + (wN w_1)), .int (0 : Int32), .ref (base + r_4)]) X hE hH hS hN hbs hl.1 (k_X10_init l D cI cT cII base aK aV v0 (wN w_1) (nw 9 0 w_1) q_5 e_5) q_X10_init rfl kw_146 kw_114 rfl rfl (Nat.le_of_ble_eq_true rfl) ⟨by decide, by decide⟩ ⟨Nat.le_of_ble_eq_true rfl, Nat.le_of_ble_eq_true rfl⟩ dX7_init_36 (fun H locs hH hS => ?_)
  replace hN := hN_add (n_X10_init e_5) hN
  obtain ⟨w_6, e_6, hF⟩ := bnd hF
  refine m_wrT X hH hS e_6 dX7_init_39 (fun H locs hH hS => ?_)
  replace hN := hN_eq (wrT_N e_6) hN
  refine lv_iinc (v := (1 : Int32)) (lv' := [(2, .int (1 : Int32)), (0, .ref (base + p0)), (1, .int (2 : Int32))]) hx hb dX7_init_40 hl (k := 0) rfl (by decide) (by decide) rfl (fun ls hl => ?_)
  refine lv_goto (tgt := 18) hx hb dX7_init_43 (by decide) ?_
  refine lv_iload_n hx hb dX7_init_18 rfl (lv_at hl 0 rfl) ?_
  refine lv_aload_n hx hb dX7_init_19 rfl (lv_at hl 1 rfl) ?_
  obtain ⟨r_7, e_7, hF⟩ := bnd hF
  refine m_gR X hH e_7 gg_X7_15 dX7_init_20 ?_
  obtain ⟨u_8, e_8, hF⟩ := bnd hF
  refine m_lnT X hH (lnE_e e_8) dX7_init_23 ?_
  refine lv_icmp_ge (tgt := 46) hx hb dX7_init_24 (by decide) (fun h => absurd h (by decide)) (fun _ => ?_)
  refine lv_aload_n hx hb dX7_init_27 rfl (lv_at hl 1 rfl) ?_
  obtain ⟨r_9, e_9, hF⟩ := bnd hF
  refine m_gR X hH e_9 gg_X7_15 dX7_init_28 ?_
  refine lv_iload_n hx hb dX7_init_31 rfl (lv_at hl 0 rfl) ?_
  refine m_new X hH hS hN hbs gn_X7_13 ⟨Nat.le_of_ble_eq_true rfl, Nat.le_of_ble_eq_true rfl⟩ dX7_init_32 (fun H hH hS => ?_)
  replace hN := hN_nw (ci := 9) (n := 0) hN
  refine lv_dup hx hb dX7_init_35 rfl ?_
  obtain ⟨q_10, e_10, hF⟩ := bnd hF
  refine m_callIN (As := []) (rest := [.ref (base + (wN w_6)), .int (1 : Int32), .ref (base + r_9)]) X hE hH hS hN hbs hl.1 (k_X10_init l D cI cT cII base aK aV v0 (wN w_6) (nw 9 0 w_6) q_10 e_10) q_X10_init rfl kw_146 kw_114 rfl rfl (Nat.le_of_ble_eq_true rfl) ⟨by decide, by decide⟩ ⟨Nat.le_of_ble_eq_true rfl, Nat.le_of_ble_eq_true rfl⟩ dX7_init_36 (fun H locs hH hS => ?_)
  replace hN := hN_add (n_X10_init e_10) hN
  obtain ⟨w_11, e_11, hF⟩ := bnd hF
  refine m_wrT X hH hS e_11 dX7_init_39 (fun H locs hH hS => ?_)
  replace hN := hN_eq (wrT_N e_11) hN
  refine lv_iinc (v := (2 : Int32)) (lv' := [(2, .int (2 : Int32)), (0, .ref (base + p0)), (1, .int (2 : Int32))]) hx hb dX7_init_40 hl (k := 0) rfl (by decide) (by decide) rfl (fun ls hl => ?_)
  refine lv_goto (tgt := 18) hx hb dX7_init_43 (by decide) ?_
  refine lv_iload_n hx hb dX7_init_18 rfl (lv_at hl 0 rfl) ?_
  refine lv_aload_n hx hb dX7_init_19 rfl (lv_at hl 1 rfl) ?_
  obtain ⟨r_12, e_12, hF⟩ := bnd hF
  refine m_gR X hH e_12 gg_X7_15 dX7_init_20 ?_
  obtain ⟨u_13, e_13, hF⟩ := bnd hF
  refine m_lnT X hH (lnE_e e_13) dX7_init_23 ?_
  refine lv_icmp_ge (tgt := 46) hx hb dX7_init_24 (by decide) (fun _ => ?_) (fun h => absurd (show (2 : Int32) ≤ 2 by decide) h)
  have hF := Option.some.inj hF
  subst hF
  exact m_vret X hr hlk hH hS dX7_init_46
noncomputable def fX12_init (p0 : Nat) (w : Wd) : Option (Unit × Wd) := (pfI 11 0 p0 (4 : Int32) w).bind fun w_1 => (pfR 11 1 p0 (wN w_1) (nw 12 28 w_1)).bind fun w_2 => (pfI 11 2 p0 (3 : Int32) w_2).bind fun w_3 => (pfR 11 3 p0 (wN w_3) (nw 12 10 w_3)).bind fun w_4 => (pfI 11 4 p0 (4 : Int32) w_4).bind fun w_5 => (pfR 11 5 p0 (wN w_5) (nw 12 30 w_5)).bind fun w_6 => (pfR 11 6 p0 (wN w_6) (nw 12 10 w_6)).bind fun w_7 => (pfR 11 7 p0 (wN w_7) (nw 12 25 w_7)).bind fun w_8 => (pfR 11 9 p0 (wN w_8) (nw 12 200 w_8)).bind fun w_9 => (pfR 11 11 p0 (wN w_9) (nw 12 50 w_9)).bind fun w_10 => (pfR 11 13 p0 (wN w_10) (nw 12 16 w_10)).bind fun w_11 => (pfR 11 14 p0 (wN w_11) (nw 12 200 w_11)).bind fun w_12 => (pfR 11 17 p0 (wN w_12) (nw 12 4 w_12)).bind fun w_13 => (pfR 11 19 p0 (wN w_13) (nw 12 28 w_13)).bind fun w_14 => (pfR 11 21 p0 (wN w_14) (nw 12 10 w_14)).bind fun w_15 => (pfR 11 23 p0 (wN w_15) (nw 12 30 w_15)).bind fun w_16 => (pfR 11 24 p0 (wN w_16) (nw 12 25 w_16)).bind fun w_17 => (pfR 11 25 p0 (wN w_17) (nw 12 7 w_17)).bind fun w_18 => (pfR 11 26 p0 (wN w_18) (nw 12 7 w_18)).bind fun w_19 => (pfR 11 27 p0 (wN w_19) (nw 12 5 w_19)).bind fun w_20 => (pfR 11 29 p0 (wN w_20) (nw 12 7 w_20)).bind fun w_21 => (pfR 11 30 p0 (wN w_21) (nw 12 13 w_21)).bind fun w_22 => (pfR 11 31 p0 (wN w_22) (nw 12 5 w_22)).bind fun w_23 => (gfR 11 1 p0 w_23).bind fun r_24 => (fX12_lays r_24 (0 : Int32) (0 : Int32) (3 : Int32) (1 : Int32) w_23).bind fun q_25 => (gfR 11 1 p0 q_25.2).bind fun r_26 => (fX12_lays r_26 (4 : Int32) (0 : Int32) (0 : Int32) (0 : Int32) q_25.2).bind fun q_27 => (gfR 11 1 p0 q_27.2).bind fun r_28 => (fX12_lays r_28 (8 : Int32) (1 : Int32) (-5 : Int32) (0 : Int32) q_27.2).bind fun q_29 => (gfR 11 1 p0 q_29.2).bind fun r_30 => (fX12_lays r_30 (12 : Int32) (1 : Int32) (6 : Int32) (-1 : Int32) q_29.2).bind fun q_31 => (gfR 11 1 p0 q_31.2).bind fun r_32 => (wrI r_32 (11 : Int32) (-4 : Int32) q_31.2).bind fun w_33 => (gfR 11 3 p0 w_33).bind fun r_34 => (fX12_lays r_34 (0 : Int32) (0 : Int32) (2 : Int32) (1 : Int32) w_33).bind fun q_35 => (gfR 11 3 p0 q_35.2).bind fun r_36 => (fX12_lays r_36 (3 : Int32) (1 : Int32) (2 : Int32) (3 : Int32) q_35.2).bind fun q_37 => (gfR 11 5 p0 q_37.2).bind fun r_38 => (fX12_lays r_38 (0 : Int32) (0 : Int32) (8 : Int32) (0 : Int32) q_37.2).bind fun q_39 => (gfR 11 5 p0 q_39.2).bind fun r_40 => (fX12_lays r_40 (3 : Int32) (1 : Int32) (9 : Int32) (0 : Int32) q_39.2).bind fun q_41 => (gfR 11 5 p0 q_41.2).bind fun r_42 => (fX12_lays r_42 (6 : Int32) (1 : Int32) (10 : Int32) (1 : Int32) q_41.2).bind fun q_43 => (gfR 11 5 p0 q_43.2).bind fun r_44 => (fX12_lays r_44 (9 : Int32) (2 : Int32) (8 : Int32) (1 : Int32) q_43.2).bind fun q_45 => (gfR 11 7 p0 q_45.2).bind fun r_46 => (wrI r_46 (0 : Int32) (2 : Int32) q_45.2).bind fun w_47 => (gfR 11 7 p0 w_47).bind fun r_48 => (fX12_lays r_48 (1 : Int32) (1 : Int32) (1 : Int32) (4 : Int32) w_47).bind fun q_49 => (gfR 11 7 p0 q_49.2).bind fun r_50 => (fX12_lays r_50 (4 : Int32) (2 : Int32) (2 : Int32) (-2 : Int32) q_49.2).bind fun q_51 => (isO 11 p0 q_51.2).bind fun u_52 => (fX12_orders p0 q_51.2).bind fun q_53 => some ((), q_53.2)
set_option maxHeartbeats 4000000 in
set_option maxRecDepth 100000 in
theorem k_X12_init (l : Launch) (D : va_G) (cI cT cII : ClassId) (base : Nat) (aK aV : Nat → Nat) (v0 : Value) (p0 : Nat) (w : Wd) (res : Unit × Wd) (hF : fX12_init p0 w = some res) : CtE true l yX12_init cX12_init 1 none { frames := 1, cells := 20, slots := 710, locals := 24 } D cI cT cII base aK aV v0 [.ref (base + p0)] w res.2 none 20 710 := by
  unfold fX12_init at hF
  refine m_enterE (by decide) (Nat.le_of_ble_eq_true rfl) ?_
  intro p e s m below meth c ls X hE hz hr hlk hnm hH hS hl
  have hx := X.1
  have hb := X.2.1
  have hnm : meth.name = "<init>" := hnm
  have hN : base + wN w = s.heap.size + 0 := (hz rfl).symm
  have hbs : base ≤ s.heap.size := by rw [hz rfl]; exact Nat.le_add_right _ _
  obtain ⟨H, hHe⟩ : ∃ H : Heap, H = s.heap := ⟨_, rfl⟩
  obtain ⟨locs, hle⟩ : ∃ L : List Loc, L = [] := ⟨_, rfl⟩
  have hl : lv_has ls 1 [(0, .ref (base + p0))] := hl
  rw [← hHe] at hH
  have hS : va_S (fun q => base ≤ q) s.heap H locs := by rw [hHe, hle]; exact hS
  rw [← hle]
  show W p l e _ s m _ below meth c s.heap locs 0 0 _ _
  rw [← hHe]
  have hc : 20 ≤ ({ frames := 1, cells := 20, slots := 710, locals := 24 } : Room).cells ∧ 710 ≤ ({ frames := 1, cells := 20, slots := 710, locals := 24 } : Room).slots := ⟨Nat.le_refl _, Nat.le_refl _⟩
  refine lv_aload_n hx hb dX12_init_0 rfl (lv_at hl 0 rfl) ?_
  refine m_obj X hl.1 kw_842 kO_i kO_c (by decide) (Nat.le_of_ble_eq_true rfl) dX12_init_1 ?_
  refine lv_aload_n hx hb dX12_init_4 rfl (lv_at hl 0 rfl) ?_
  refine lv_iconst (v := (4 : Int32)) hx hb dX12_init_5 (by decide) ?_
  obtain ⟨w_1, e_1, hF⟩ := bnd hF
  refine m_pI X hH hS e_1 gp_X12_7 rfl rfl dX12_init_6 (fun H locs hH hS => ?_)
  replace hN := hN_eq (pfI_N e_1) hN
  refine lv_aload_n hx hb dX12_init_9 rfl (lv_at hl 0 rfl) ?_
  refine lv_bipush (v := (28 : Int32)) hx hb dX12_init_10 (by decide) ?_
  refine m_newI (K := 28) X hH hS hN hbs kA_int (by decide) (by decide) (by decide) ⟨Nat.le_of_ble_eq_true rfl, Nat.le_of_ble_eq_true rfl⟩ dX12_init_12 (fun H hH hS => ?_)
  replace hN := hN_nw (ci := 12) (n := 28) hN
  obtain ⟨w_2, e_2, hF⟩ := bnd hF
  refine m_rR X hH hS e_2 gr_X12_13 hnm rfl rfl dX12_init_14 (fun H locs hH hS => ?_)
  replace hN := hN_eq (pfR_N e_2) hN
  refine lv_aload_n hx hb dX12_init_17 rfl (lv_at hl 0 rfl) ?_
  refine lv_iconst (v := (3 : Int32)) hx hb dX12_init_18 (by decide) ?_
  obtain ⟨w_3, e_3, hF⟩ := bnd hF
  refine m_pI X hH hS e_3 gp_X12_17 rfl rfl dX12_init_19 (fun H locs hH hS => ?_)
  replace hN := hN_eq (pfI_N e_3) hN
  refine lv_aload_n hx hb dX12_init_22 rfl (lv_at hl 0 rfl) ?_
  refine lv_bipush (v := (10 : Int32)) hx hb dX12_init_23 (by decide) ?_
  refine m_newI (K := 10) X hH hS hN hbs kA_int (by decide) (by decide) (by decide) ⟨Nat.le_of_ble_eq_true rfl, Nat.le_of_ble_eq_true rfl⟩ dX12_init_25 (fun H hH hS => ?_)
  replace hN := hN_nw (ci := 12) (n := 10) hN
  obtain ⟨w_4, e_4, hF⟩ := bnd hF
  refine m_rR X hH hS e_4 gr_X12_20 hnm rfl rfl dX12_init_27 (fun H locs hH hS => ?_)
  replace hN := hN_eq (pfR_N e_4) hN
  refine lv_aload_n hx hb dX12_init_30 rfl (lv_at hl 0 rfl) ?_
  refine lv_iconst (v := (4 : Int32)) hx hb dX12_init_31 (by decide) ?_
  obtain ⟨w_5, e_5, hF⟩ := bnd hF
  refine m_pI X hH hS e_5 gp_X12_23 rfl rfl dX12_init_32 (fun H locs hH hS => ?_)
  replace hN := hN_eq (pfI_N e_5) hN
  refine lv_aload_n hx hb dX12_init_35 rfl (lv_at hl 0 rfl) ?_
  refine lv_bipush (v := (30 : Int32)) hx hb dX12_init_36 (by decide) ?_
  refine m_newI (K := 30) X hH hS hN hbs kA_int (by decide) (by decide) (by decide) ⟨Nat.le_of_ble_eq_true rfl, Nat.le_of_ble_eq_true rfl⟩ dX12_init_38 (fun H hH hS => ?_)
  replace hN := hN_nw (ci := 12) (n := 30) hN
  obtain ⟨w_6, e_6, hF⟩ := bnd hF
  refine m_rR X hH hS e_6 gr_X12_26 hnm rfl rfl dX12_init_40 (fun H locs hH hS => ?_)
  replace hN := hN_eq (pfR_N e_6) hN
  refine lv_aload_n hx hb dX12_init_43 rfl (lv_at hl 0 rfl) ?_
  refine lv_bipush (v := (10 : Int32)) hx hb dX12_init_44 (by decide) ?_
  refine m_newI (K := 10) X hH hS hN hbs kA_int (by decide) (by decide) (by decide) ⟨Nat.le_of_ble_eq_true rfl, Nat.le_of_ble_eq_true rfl⟩ dX12_init_46 (fun H hH hS => ?_)
  replace hN := hN_nw (ci := 12) (n := 10) hN
  obtain ⟨w_7, e_7, hF⟩ := bnd hF
  refine m_rR X hH hS e_7 gr_X12_29 hnm rfl rfl dX12_init_48 (fun H locs hH hS => ?_)
  replace hN := hN_eq (pfR_N e_7) hN
  refine lv_aload_n hx hb dX12_init_51 rfl (lv_at hl 0 rfl) ?_
  refine lv_bipush (v := (25 : Int32)) hx hb dX12_init_52 (by decide) ?_
  refine m_newI (K := 25) X hH hS hN hbs kA_int (by decide) (by decide) (by decide) ⟨Nat.le_of_ble_eq_true rfl, Nat.le_of_ble_eq_true rfl⟩ dX12_init_54 (fun H hH hS => ?_)
  replace hN := hN_nw (ci := 12) (n := 25) hN
  obtain ⟨w_8, e_8, hF⟩ := bnd hF
  refine m_rR X hH hS e_8 gr_X12_32 hnm rfl rfl dX12_init_56 (fun H locs hH hS => ?_)
  replace hN := hN_eq (pfR_N e_8) hN
  refine lv_aload_n hx hb dX12_init_59 rfl (lv_at hl 0 rfl) ?_
  refine lv_sipush (v := (200 : Int32)) hx hb dX12_init_60 (by decide) ?_
  refine m_newI (K := 200) X hH hS hN hbs kA_int (by decide) (by decide) (by decide) ⟨Nat.le_of_ble_eq_true rfl, Nat.le_of_ble_eq_true rfl⟩ dX12_init_63 (fun H hH hS => ?_)
  replace hN := hN_nw (ci := 12) (n := 200) hN
  obtain ⟨w_9, e_9, hF⟩ := bnd hF
  refine m_rR X hH hS e_9 gr_X12_35 hnm rfl rfl dX12_init_65 (fun H locs hH hS => ?_)
  replace hN := hN_eq (pfR_N e_9) hN
  refine lv_aload_n hx hb dX12_init_68 rfl (lv_at hl 0 rfl) ?_
  refine lv_bipush (v := (50 : Int32)) hx hb dX12_init_69 (by decide) ?_
  refine m_newI (K := 50) X hH hS hN hbs kA_int (by decide) (by decide) (by decide) ⟨Nat.le_of_ble_eq_true rfl, Nat.le_of_ble_eq_true rfl⟩ dX12_init_71 (fun H hH hS => ?_)
  replace hN := hN_nw (ci := 12) (n := 50) hN
  obtain ⟨w_10, e_10, hF⟩ := bnd hF
  refine m_rR X hH hS e_10 gr_X12_38 hnm rfl rfl dX12_init_73 (fun H locs hH hS => ?_)
  replace hN := hN_eq (pfR_N e_10) hN
  refine lv_aload_n hx hb dX12_init_76 rfl (lv_at hl 0 rfl) ?_
  refine lv_bipush (v := (16 : Int32)) hx hb dX12_init_77 (by decide) ?_
  refine m_newI (K := 16) X hH hS hN hbs kA_int (by decide) (by decide) (by decide) ⟨Nat.le_of_ble_eq_true rfl, Nat.le_of_ble_eq_true rfl⟩ dX12_init_79 (fun H hH hS => ?_)
  replace hN := hN_nw (ci := 12) (n := 16) hN
  obtain ⟨w_11, e_11, hF⟩ := bnd hF
  refine m_rR X hH hS e_11 gr_X12_41 hnm rfl rfl dX12_init_81 (fun H locs hH hS => ?_)
  replace hN := hN_eq (pfR_N e_11) hN
  refine lv_aload_n hx hb dX12_init_84 rfl (lv_at hl 0 rfl) ?_
  refine lv_sipush (v := (200 : Int32)) hx hb dX12_init_85 (by decide) ?_
  refine m_newI (K := 200) X hH hS hN hbs kA_int (by decide) (by decide) (by decide) ⟨Nat.le_of_ble_eq_true rfl, Nat.le_of_ble_eq_true rfl⟩ dX12_init_88 (fun H hH hS => ?_)
  replace hN := hN_nw (ci := 12) (n := 200) hN
  obtain ⟨w_12, e_12, hF⟩ := bnd hF
  refine m_rR X hH hS e_12 gr_X12_44 hnm rfl rfl dX12_init_90 (fun H locs hH hS => ?_)
  replace hN := hN_eq (pfR_N e_12) hN
  refine lv_aload_n hx hb dX12_init_93 rfl (lv_at hl 0 rfl) ?_
  refine lv_iconst (v := (4 : Int32)) hx hb dX12_init_94 (by decide) ?_
  refine m_newI (K := 4) X hH hS hN hbs kA_int (by decide) (by decide) (by decide) ⟨Nat.le_of_ble_eq_true rfl, Nat.le_of_ble_eq_true rfl⟩ dX12_init_95 (fun H hH hS => ?_)
  replace hN := hN_nw (ci := 12) (n := 4) hN
  obtain ⟨w_13, e_13, hF⟩ := bnd hF
  refine m_rR X hH hS e_13 gr_X12_47 hnm rfl rfl dX12_init_97 (fun H locs hH hS => ?_)
  replace hN := hN_eq (pfR_N e_13) hN
  refine lv_aload_n hx hb dX12_init_100 rfl (lv_at hl 0 rfl) ?_
  refine lv_bipush (v := (28 : Int32)) hx hb dX12_init_101 (by decide) ?_
  refine m_newI (K := 28) X hH hS hN hbs kA_int (by decide) (by decide) (by decide) ⟨Nat.le_of_ble_eq_true rfl, Nat.le_of_ble_eq_true rfl⟩ dX12_init_103 (fun H hH hS => ?_)
  replace hN := hN_nw (ci := 12) (n := 28) hN
  obtain ⟨w_14, e_14, hF⟩ := bnd hF
  refine m_rR X hH hS e_14 gr_X12_50 hnm rfl rfl dX12_init_105 (fun H locs hH hS => ?_)
  replace hN := hN_eq (pfR_N e_14) hN
  refine lv_aload_n hx hb dX12_init_108 rfl (lv_at hl 0 rfl) ?_
  refine lv_bipush (v := (10 : Int32)) hx hb dX12_init_109 (by decide) ?_
  refine m_newI (K := 10) X hH hS hN hbs kA_int (by decide) (by decide) (by decide) ⟨Nat.le_of_ble_eq_true rfl, Nat.le_of_ble_eq_true rfl⟩ dX12_init_111 (fun H hH hS => ?_)
  replace hN := hN_nw (ci := 12) (n := 10) hN
  obtain ⟨w_15, e_15, hF⟩ := bnd hF
  refine m_rR X hH hS e_15 gr_X12_53 hnm rfl rfl dX12_init_113 (fun H locs hH hS => ?_)
  replace hN := hN_eq (pfR_N e_15) hN
  refine lv_aload_n hx hb dX12_init_116 rfl (lv_at hl 0 rfl) ?_
  refine lv_bipush (v := (30 : Int32)) hx hb dX12_init_117 (by decide) ?_
  refine m_newI (K := 30) X hH hS hN hbs kA_int (by decide) (by decide) (by decide) ⟨Nat.le_of_ble_eq_true rfl, Nat.le_of_ble_eq_true rfl⟩ dX12_init_119 (fun H hH hS => ?_)
  replace hN := hN_nw (ci := 12) (n := 30) hN
  obtain ⟨w_16, e_16, hF⟩ := bnd hF
  refine m_rR X hH hS e_16 gr_X12_56 hnm rfl rfl dX12_init_121 (fun H locs hH hS => ?_)
  replace hN := hN_eq (pfR_N e_16) hN
  refine lv_aload_n hx hb dX12_init_124 rfl (lv_at hl 0 rfl) ?_
  refine lv_bipush (v := (25 : Int32)) hx hb dX12_init_125 (by decide) ?_
  refine m_newI (K := 25) X hH hS hN hbs kA_int (by decide) (by decide) (by decide) ⟨Nat.le_of_ble_eq_true rfl, Nat.le_of_ble_eq_true rfl⟩ dX12_init_127 (fun H hH hS => ?_)
  replace hN := hN_nw (ci := 12) (n := 25) hN
  obtain ⟨w_17, e_17, hF⟩ := bnd hF
  refine m_rR X hH hS e_17 gr_X12_59 hnm rfl rfl dX12_init_129 (fun H locs hH hS => ?_)
  replace hN := hN_eq (pfR_N e_17) hN
  refine lv_aload_n hx hb dX12_init_132 rfl (lv_at hl 0 rfl) ?_
  refine lv_bipush (v := (7 : Int32)) hx hb dX12_init_133 (by decide) ?_
  refine m_newI (K := 7) X hH hS hN hbs kA_int (by decide) (by decide) (by decide) ⟨Nat.le_of_ble_eq_true rfl, Nat.le_of_ble_eq_true rfl⟩ dX12_init_135 (fun H hH hS => ?_)
  replace hN := hN_nw (ci := 12) (n := 7) hN
  obtain ⟨w_18, e_18, hF⟩ := bnd hF
  refine m_rR X hH hS e_18 gr_X12_62 hnm rfl rfl dX12_init_137 (fun H locs hH hS => ?_)
  replace hN := hN_eq (pfR_N e_18) hN
  refine lv_aload_n hx hb dX12_init_140 rfl (lv_at hl 0 rfl) ?_
  refine lv_bipush (v := (7 : Int32)) hx hb dX12_init_141 (by decide) ?_
  refine m_newI (K := 7) X hH hS hN hbs kA_int (by decide) (by decide) (by decide) ⟨Nat.le_of_ble_eq_true rfl, Nat.le_of_ble_eq_true rfl⟩ dX12_init_143 (fun H hH hS => ?_)
  replace hN := hN_nw (ci := 12) (n := 7) hN
  obtain ⟨w_19, e_19, hF⟩ := bnd hF
  refine m_rR X hH hS e_19 gr_X12_65 hnm rfl rfl dX12_init_145 (fun H locs hH hS => ?_)
  replace hN := hN_eq (pfR_N e_19) hN
  refine lv_aload_n hx hb dX12_init_148 rfl (lv_at hl 0 rfl) ?_
  refine lv_iconst (v := (5 : Int32)) hx hb dX12_init_149 (by decide) ?_
  refine m_newI (K := 5) X hH hS hN hbs kA_int (by decide) (by decide) (by decide) ⟨Nat.le_of_ble_eq_true rfl, Nat.le_of_ble_eq_true rfl⟩ dX12_init_150 (fun H hH hS => ?_)
  replace hN := hN_nw (ci := 12) (n := 5) hN
  obtain ⟨w_20, e_20, hF⟩ := bnd hF
  refine m_rR X hH hS e_20 gr_X12_68 hnm rfl rfl dX12_init_152 (fun H locs hH hS => ?_)
  replace hN := hN_eq (pfR_N e_20) hN
  refine lv_aload_n hx hb dX12_init_155 rfl (lv_at hl 0 rfl) ?_
  refine lv_bipush (v := (7 : Int32)) hx hb dX12_init_156 (by decide) ?_
  refine m_newI (K := 7) X hH hS hN hbs kA_int (by decide) (by decide) (by decide) ⟨Nat.le_of_ble_eq_true rfl, Nat.le_of_ble_eq_true rfl⟩ dX12_init_158 (fun H hH hS => ?_)
  replace hN := hN_nw (ci := 12) (n := 7) hN
  obtain ⟨w_21, e_21, hF⟩ := bnd hF
  refine m_rR X hH hS e_21 gr_X12_71 hnm rfl rfl dX12_init_160 (fun H locs hH hS => ?_)
  replace hN := hN_eq (pfR_N e_21) hN
  refine lv_aload_n hx hb dX12_init_163 rfl (lv_at hl 0 rfl) ?_
  refine lv_bipush (v := (13 : Int32)) hx hb dX12_init_164 (by decide) ?_
  refine m_newI (K := 13) X hH hS hN hbs kA_int (by decide) (by decide) (by decide) ⟨Nat.le_of_ble_eq_true rfl, Nat.le_of_ble_eq_true rfl⟩ dX12_init_166 (fun H hH hS => ?_)
  replace hN := hN_nw (ci := 12) (n := 13) hN
  obtain ⟨w_22, e_22, hF⟩ := bnd hF
  refine m_rR X hH hS e_22 gr_X12_74 hnm rfl rfl dX12_init_168 (fun H locs hH hS => ?_)
  replace hN := hN_eq (pfR_N e_22) hN
  refine lv_aload_n hx hb dX12_init_171 rfl (lv_at hl 0 rfl) ?_
  refine lv_iconst (v := (5 : Int32)) hx hb dX12_init_172 (by decide) ?_
  refine m_newI (K := 5) X hH hS hN hbs kA_int (by decide) (by decide) (by decide) ⟨Nat.le_of_ble_eq_true rfl, Nat.le_of_ble_eq_true rfl⟩ dX12_init_173 (fun H hH hS => ?_)
  replace hN := hN_nw (ci := 12) (n := 5) hN
  obtain ⟨w_23, e_23, hF⟩ := bnd hF
  refine m_rR X hH hS e_23 gr_X12_77 hnm rfl rfl dX12_init_175 (fun H locs hH hS => ?_)
  replace hN := hN_eq (pfR_N e_23) hN
  refine lv_aload_n hx hb dX12_init_178 rfl (lv_at hl 0 rfl) ?_
  obtain ⟨r_24, e_24, hF⟩ := bnd hF
  refine m_gR X hH e_24 gg_X12_13 dX12_init_179 ?_
  refine lv_iconst (v := (0 : Int32)) hx hb dX12_init_182 (by decide) ?_
  refine lv_iconst (v := (0 : Int32)) hx hb dX12_init_183 (by decide) ?_
  refine lv_iconst (v := (3 : Int32)) hx hb dX12_init_184 (by decide) ?_
  refine lv_iconst (v := (1 : Int32)) hx hb dX12_init_185 (by decide) ?_
  obtain ⟨q_25, e_25, hF⟩ := bnd hF
  refine m_callS (As := [.ref (base + r_24), .int (0 : Int32), .int (0 : Int32), .int (3 : Int32), .int (1 : Int32)]) (rest := []) X hH hS hl.1 (k_X12_lays l D cI cT cII base r_24 (0 : Int32) (0 : Int32) (3 : Int32) (1 : Int32) w_23 q_25 e_25) q_X12_lays kw_843 kw_844 rfl rfl (Nat.le_of_ble_eq_true rfl) ⟨by decide, by decide⟩ hc dX12_init_186 (fun H locs hH hS => W.eq (g2 := F0 m 189 ls []) rfl ?_)
  refine lv_aload_n hx hb dX12_init_189 rfl (lv_at hl 0 rfl) ?_
  obtain ⟨r_26, e_26, hF⟩ := bnd hF
  refine m_gR X hH e_26 gg_X12_13 dX12_init_190 ?_
  refine lv_iconst (v := (4 : Int32)) hx hb dX12_init_193 (by decide) ?_
  refine lv_iconst (v := (0 : Int32)) hx hb dX12_init_194 (by decide) ?_
  refine lv_iconst (v := (0 : Int32)) hx hb dX12_init_195 (by decide) ?_
  refine lv_iconst (v := (0 : Int32)) hx hb dX12_init_196 (by decide) ?_
  obtain ⟨q_27, e_27, hF⟩ := bnd hF
  refine m_callS (As := [.ref (base + r_26), .int (4 : Int32), .int (0 : Int32), .int (0 : Int32), .int (0 : Int32)]) (rest := []) X hH hS hl.1 (k_X12_lays l D cI cT cII base r_26 (4 : Int32) (0 : Int32) (0 : Int32) (0 : Int32) q_25.2 q_27 e_27) q_X12_lays kw_843 kw_844 rfl rfl (Nat.le_of_ble_eq_true rfl) ⟨by decide, by decide⟩ hc dX12_init_197 (fun H locs hH hS => W.eq (g2 := F0 m 200 ls []) rfl ?_)
  refine lv_aload_n hx hb dX12_init_200 rfl (lv_at hl 0 rfl) ?_
  obtain ⟨r_28, e_28, hF⟩ := bnd hF
  refine m_gR X hH e_28 gg_X12_13 dX12_init_201 ?_
  refine lv_bipush (v := (8 : Int32)) hx hb dX12_init_204 (by decide) ?_
  refine lv_iconst (v := (1 : Int32)) hx hb dX12_init_206 (by decide) ?_
  refine lv_bipush (v := (-5 : Int32)) hx hb dX12_init_207 (by decide) ?_
  refine lv_iconst (v := (0 : Int32)) hx hb dX12_init_209 (by decide) ?_
  obtain ⟨q_29, e_29, hF⟩ := bnd hF
  refine m_callS (As := [.ref (base + r_28), .int (8 : Int32), .int (1 : Int32), .int (-5 : Int32), .int (0 : Int32)]) (rest := []) X hH hS hl.1 (k_X12_lays l D cI cT cII base r_28 (8 : Int32) (1 : Int32) (-5 : Int32) (0 : Int32) q_27.2 q_29 e_29) q_X12_lays kw_843 kw_844 rfl rfl (Nat.le_of_ble_eq_true rfl) ⟨by decide, by decide⟩ hc dX12_init_210 (fun H locs hH hS => W.eq (g2 := F0 m 213 ls []) rfl ?_)
  refine lv_aload_n hx hb dX12_init_213 rfl (lv_at hl 0 rfl) ?_
  obtain ⟨r_30, e_30, hF⟩ := bnd hF
  refine m_gR X hH e_30 gg_X12_13 dX12_init_214 ?_
  refine lv_bipush (v := (12 : Int32)) hx hb dX12_init_217 (by decide) ?_
  refine lv_iconst (v := (1 : Int32)) hx hb dX12_init_219 (by decide) ?_
  refine lv_bipush (v := (6 : Int32)) hx hb dX12_init_220 (by decide) ?_
  refine lv_iconst (v := (-1 : Int32)) hx hb dX12_init_222 (by decide) ?_
  obtain ⟨q_31, e_31, hF⟩ := bnd hF
  refine m_callS (As := [.ref (base + r_30), .int (12 : Int32), .int (1 : Int32), .int (6 : Int32), .int (-1 : Int32)]) (rest := []) X hH hS hl.1 (k_X12_lays l D cI cT cII base r_30 (12 : Int32) (1 : Int32) (6 : Int32) (-1 : Int32) q_29.2 q_31 e_31) q_X12_lays kw_843 kw_844 rfl rfl (Nat.le_of_ble_eq_true rfl) ⟨by decide, by decide⟩ hc dX12_init_223 (fun H locs hH hS => W.eq (g2 := F0 m 226 ls []) rfl ?_)
  refine lv_aload_n hx hb dX12_init_226 rfl (lv_at hl 0 rfl) ?_
  obtain ⟨r_32, e_32, hF⟩ := bnd hF
  refine m_gR X hH e_32 gg_X12_13 dX12_init_227 ?_
  refine lv_bipush (v := (11 : Int32)) hx hb dX12_init_230 (by decide) ?_
  refine lv_bipush (v := (-4 : Int32)) hx hb dX12_init_232 (by decide) ?_
  obtain ⟨w_33, e_33, hF⟩ := bnd hF
  refine m_wrI X hH hS e_33 dX12_init_234 (fun H locs hH hS => ?_)
  refine lv_aload_n hx hb dX12_init_235 rfl (lv_at hl 0 rfl) ?_
  obtain ⟨r_34, e_34, hF⟩ := bnd hF
  refine m_gR X hH e_34 gg_X12_20 dX12_init_236 ?_
  refine lv_iconst (v := (0 : Int32)) hx hb dX12_init_239 (by decide) ?_
  refine lv_iconst (v := (0 : Int32)) hx hb dX12_init_240 (by decide) ?_
  refine lv_iconst (v := (2 : Int32)) hx hb dX12_init_241 (by decide) ?_
  refine lv_iconst (v := (1 : Int32)) hx hb dX12_init_242 (by decide) ?_
  obtain ⟨q_35, e_35, hF⟩ := bnd hF
  refine m_callS (As := [.ref (base + r_34), .int (0 : Int32), .int (0 : Int32), .int (2 : Int32), .int (1 : Int32)]) (rest := []) X hH hS hl.1 (k_X12_lays l D cI cT cII base r_34 (0 : Int32) (0 : Int32) (2 : Int32) (1 : Int32) w_33 q_35 e_35) q_X12_lays kw_843 kw_844 rfl rfl (Nat.le_of_ble_eq_true rfl) ⟨by decide, by decide⟩ hc dX12_init_243 (fun H locs hH hS => W.eq (g2 := F0 m 246 ls []) rfl ?_)
  refine lv_aload_n hx hb dX12_init_246 rfl (lv_at hl 0 rfl) ?_
  obtain ⟨r_36, e_36, hF⟩ := bnd hF
  refine m_gR X hH e_36 gg_X12_20 dX12_init_247 ?_
  refine lv_iconst (v := (3 : Int32)) hx hb dX12_init_250 (by decide) ?_
  refine lv_iconst (v := (1 : Int32)) hx hb dX12_init_251 (by decide) ?_
  refine lv_iconst (v := (2 : Int32)) hx hb dX12_init_252 (by decide) ?_
  refine lv_iconst (v := (3 : Int32)) hx hb dX12_init_253 (by decide) ?_
  obtain ⟨q_37, e_37, hF⟩ := bnd hF
  refine m_callS (As := [.ref (base + r_36), .int (3 : Int32), .int (1 : Int32), .int (2 : Int32), .int (3 : Int32)]) (rest := []) X hH hS hl.1 (k_X12_lays l D cI cT cII base r_36 (3 : Int32) (1 : Int32) (2 : Int32) (3 : Int32) q_35.2 q_37 e_37) q_X12_lays kw_843 kw_844 rfl rfl (Nat.le_of_ble_eq_true rfl) ⟨by decide, by decide⟩ hc dX12_init_254 (fun H locs hH hS => W.eq (g2 := F0 m 257 ls []) rfl ?_)
  refine lv_aload_n hx hb dX12_init_257 rfl (lv_at hl 0 rfl) ?_
  obtain ⟨r_38, e_38, hF⟩ := bnd hF
  refine m_gR X hH e_38 gg_X12_26 dX12_init_258 ?_
  refine lv_iconst (v := (0 : Int32)) hx hb dX12_init_261 (by decide) ?_
  refine lv_iconst (v := (0 : Int32)) hx hb dX12_init_262 (by decide) ?_
  refine lv_bipush (v := (8 : Int32)) hx hb dX12_init_263 (by decide) ?_
  refine lv_iconst (v := (0 : Int32)) hx hb dX12_init_265 (by decide) ?_
  obtain ⟨q_39, e_39, hF⟩ := bnd hF
  refine m_callS (As := [.ref (base + r_38), .int (0 : Int32), .int (0 : Int32), .int (8 : Int32), .int (0 : Int32)]) (rest := []) X hH hS hl.1 (k_X12_lays l D cI cT cII base r_38 (0 : Int32) (0 : Int32) (8 : Int32) (0 : Int32) q_37.2 q_39 e_39) q_X12_lays kw_843 kw_844 rfl rfl (Nat.le_of_ble_eq_true rfl) ⟨by decide, by decide⟩ hc dX12_init_266 (fun H locs hH hS => W.eq (g2 := F0 m 269 ls []) rfl ?_)
  refine lv_aload_n hx hb dX12_init_269 rfl (lv_at hl 0 rfl) ?_
  obtain ⟨r_40, e_40, hF⟩ := bnd hF
  refine m_gR X hH e_40 gg_X12_26 dX12_init_270 ?_
  refine lv_iconst (v := (3 : Int32)) hx hb dX12_init_273 (by decide) ?_
  refine lv_iconst (v := (1 : Int32)) hx hb dX12_init_274 (by decide) ?_
  refine lv_bipush (v := (9 : Int32)) hx hb dX12_init_275 (by decide) ?_
  refine lv_iconst (v := (0 : Int32)) hx hb dX12_init_277 (by decide) ?_
  obtain ⟨q_41, e_41, hF⟩ := bnd hF
  refine m_callS (As := [.ref (base + r_40), .int (3 : Int32), .int (1 : Int32), .int (9 : Int32), .int (0 : Int32)]) (rest := []) X hH hS hl.1 (k_X12_lays l D cI cT cII base r_40 (3 : Int32) (1 : Int32) (9 : Int32) (0 : Int32) q_39.2 q_41 e_41) q_X12_lays kw_843 kw_844 rfl rfl (Nat.le_of_ble_eq_true rfl) ⟨by decide, by decide⟩ hc dX12_init_278 (fun H locs hH hS => W.eq (g2 := F0 m 281 ls []) rfl ?_)
  refine lv_aload_n hx hb dX12_init_281 rfl (lv_at hl 0 rfl) ?_
  obtain ⟨r_42, e_42, hF⟩ := bnd hF
  refine m_gR X hH e_42 gg_X12_26 dX12_init_282 ?_
  refine lv_bipush (v := (6 : Int32)) hx hb dX12_init_285 (by decide) ?_
  refine lv_iconst (v := (1 : Int32)) hx hb dX12_init_287 (by decide) ?_
  refine lv_bipush (v := (10 : Int32)) hx hb dX12_init_288 (by decide) ?_
  refine lv_iconst (v := (1 : Int32)) hx hb dX12_init_290 (by decide) ?_
  obtain ⟨q_43, e_43, hF⟩ := bnd hF
  refine m_callS (As := [.ref (base + r_42), .int (6 : Int32), .int (1 : Int32), .int (10 : Int32), .int (1 : Int32)]) (rest := []) X hH hS hl.1 (k_X12_lays l D cI cT cII base r_42 (6 : Int32) (1 : Int32) (10 : Int32) (1 : Int32) q_41.2 q_43 e_43) q_X12_lays kw_843 kw_844 rfl rfl (Nat.le_of_ble_eq_true rfl) ⟨by decide, by decide⟩ hc dX12_init_291 (fun H locs hH hS => W.eq (g2 := F0 m 294 ls []) rfl ?_)
  refine lv_aload_n hx hb dX12_init_294 rfl (lv_at hl 0 rfl) ?_
  obtain ⟨r_44, e_44, hF⟩ := bnd hF
  refine m_gR X hH e_44 gg_X12_26 dX12_init_295 ?_
  refine lv_bipush (v := (9 : Int32)) hx hb dX12_init_298 (by decide) ?_
  refine lv_iconst (v := (2 : Int32)) hx hb dX12_init_300 (by decide) ?_
  refine lv_bipush (v := (8 : Int32)) hx hb dX12_init_301 (by decide) ?_
  refine lv_iconst (v := (1 : Int32)) hx hb dX12_init_303 (by decide) ?_
  obtain ⟨q_45, e_45, hF⟩ := bnd hF
  refine m_callS (As := [.ref (base + r_44), .int (9 : Int32), .int (2 : Int32), .int (8 : Int32), .int (1 : Int32)]) (rest := []) X hH hS hl.1 (k_X12_lays l D cI cT cII base r_44 (9 : Int32) (2 : Int32) (8 : Int32) (1 : Int32) q_43.2 q_45 e_45) q_X12_lays kw_843 kw_844 rfl rfl (Nat.le_of_ble_eq_true rfl) ⟨by decide, by decide⟩ hc dX12_init_304 (fun H locs hH hS => W.eq (g2 := F0 m 307 ls []) rfl ?_)
  refine lv_aload_n hx hb dX12_init_307 rfl (lv_at hl 0 rfl) ?_
  obtain ⟨r_46, e_46, hF⟩ := bnd hF
  refine m_gR X hH e_46 gg_X12_32 dX12_init_308 ?_
  refine lv_iconst (v := (0 : Int32)) hx hb dX12_init_311 (by decide) ?_
  refine lv_iconst (v := (2 : Int32)) hx hb dX12_init_312 (by decide) ?_
  obtain ⟨w_47, e_47, hF⟩ := bnd hF
  refine m_wrI X hH hS e_47 dX12_init_313 (fun H locs hH hS => ?_)
  refine lv_aload_n hx hb dX12_init_314 rfl (lv_at hl 0 rfl) ?_
  obtain ⟨r_48, e_48, hF⟩ := bnd hF
  refine m_gR X hH e_48 gg_X12_32 dX12_init_315 ?_
  refine lv_iconst (v := (1 : Int32)) hx hb dX12_init_318 (by decide) ?_
  refine lv_iconst (v := (1 : Int32)) hx hb dX12_init_319 (by decide) ?_
  refine lv_iconst (v := (1 : Int32)) hx hb dX12_init_320 (by decide) ?_
  refine lv_iconst (v := (4 : Int32)) hx hb dX12_init_321 (by decide) ?_
  obtain ⟨q_49, e_49, hF⟩ := bnd hF
  refine m_callS (As := [.ref (base + r_48), .int (1 : Int32), .int (1 : Int32), .int (1 : Int32), .int (4 : Int32)]) (rest := []) X hH hS hl.1 (k_X12_lays l D cI cT cII base r_48 (1 : Int32) (1 : Int32) (1 : Int32) (4 : Int32) w_47 q_49 e_49) q_X12_lays kw_843 kw_844 rfl rfl (Nat.le_of_ble_eq_true rfl) ⟨by decide, by decide⟩ hc dX12_init_322 (fun H locs hH hS => W.eq (g2 := F0 m 325 ls []) rfl ?_)
  refine lv_aload_n hx hb dX12_init_325 rfl (lv_at hl 0 rfl) ?_
  obtain ⟨r_50, e_50, hF⟩ := bnd hF
  refine m_gR X hH e_50 gg_X12_32 dX12_init_326 ?_
  refine lv_iconst (v := (4 : Int32)) hx hb dX12_init_329 (by decide) ?_
  refine lv_iconst (v := (2 : Int32)) hx hb dX12_init_330 (by decide) ?_
  refine lv_iconst (v := (2 : Int32)) hx hb dX12_init_331 (by decide) ?_
  refine lv_bipush (v := (-2 : Int32)) hx hb dX12_init_332 (by decide) ?_
  obtain ⟨q_51, e_51, hF⟩ := bnd hF
  refine m_callS (As := [.ref (base + r_50), .int (4 : Int32), .int (2 : Int32), .int (2 : Int32), .int (-2 : Int32)]) (rest := []) X hH hS hl.1 (k_X12_lays l D cI cT cII base r_50 (4 : Int32) (2 : Int32) (2 : Int32) (-2 : Int32) q_49.2 q_51 e_51) q_X12_lays kw_843 kw_844 rfl rfl (Nat.le_of_ble_eq_true rfl) ⟨by decide, by decide⟩ hc dX12_init_334 (fun H locs hH hS => W.eq (g2 := F0 m 337 ls []) rfl ?_)
  refine lv_aload_n hx hb dX12_init_337 rfl (lv_at hl 0 rfl) ?_
  obtain ⟨u_52, ou_52, hF⟩ := bnd hF
  obtain ⟨q_53, e_53, hF⟩ := bnd hF
  refine m_callV (As := []) (rest := []) X hH hS hl.1 ou_52 rfl (by decide) (k_X12_orders l D cI cT cII base p0 q_51.2 q_53 e_53) q_X12_orders kw_846 kw_848 kw_24 rfl rfl (Nat.le_of_ble_eq_true rfl) ⟨by decide, by decide⟩ hc dX12_init_338 (fun H locs hH hS => W.eq (g2 := F0 m 341 ls []) rfl ?_)
  have hF := Option.some.inj hF
  subst hF
  exact m_vret X hr hlk hH hS dX12_init_341
noncomputable def fX11_init_B (p0 : Nat) (w : Wd) : Option (Unit × Wd) := (gfR 10 1 p0 w).bind fun r_501 => (gfR 10 0 p0 w).bind fun r_502 => (gfR 10 11 p0 w).bind fun r_503 => (isO 5 r_501 w).bind fun u_504 => (fX6_readAll r_501 r_502 r_503 w).bind fun q_505 => (isO 10 p0 q_505.2).bind fun u_506 => (fX11_moveIn p0 q_505.2).bind fun q_507 => (gfR 10 0 p0 q_507.2).bind fun r_508 => (isO 8 r_508 q_507.2).bind fun u_509 => (fX9_empty r_508 q_507.2).bind fun q_510 => some ((), q_510.2)
noncomputable def fX11_init_A (p0 : Nat) (w : Wd) : Option Wd := (fX9_init (wN w) (nw 8 0 w)).bind fun q_1 => (pfR 10 0 p0 (wN w) q_1.2).bind fun w_2 => (fX6_init (wN w_2) (nw 5 0 w_2)).bind fun q_3 => (pfR 10 1 p0 (wN w_2) q_3.2).bind fun w_4 => (fX10_init (wN w_4) (nw 9 0 w_4)).bind fun q_5 => (pfR 10 2 p0 (wN w_4) q_5.2).bind fun w_6 => (fX7_init8 (wN w_6) (nw 6 0 w_6)).bind fun q_7 => (pfR 10 3 p0 (wN w_6) q_7.2).bind fun w_8 => (fX7_init2 (wN w_8) (nw 6 0 w_8)).bind fun q_9 => (pfR 10 4 p0 (wN w_8) q_9.2).bind fun w_10 => (fX1_init (wN w_10) (nw 1 0 w_10)).bind fun q_11 => (pfR 10 5 p0 (wN w_10) q_11.2).bind fun w_12 => (fX5_init (wN w_12) (nw 4 0 w_12)).bind fun q_13 => (pfR 10 6 p0 (wN w_12) q_13.2).bind fun w_14 => (fX8_init (wN w_14) (nw 7 0 w_14)).bind fun q_15 => (pfR 10 7 p0 (wN w_14) q_15.2).bind fun w_16 => (fX2_init (wN w_16) (nw 2 0 w_16)).bind fun q_17 => (pfR 10 8 p0 (wN w_16) q_17.2).bind fun w_18 => (fX0_init (wN w_18) (nw 0 0 w_18)).bind fun q_19 => (pfR 10 9 p0 (wN w_18) q_19.2).bind fun w_20 => (fX4_init (wN w_20) (nw 3 0 w_20)).bind fun q_21 => (pfR 10 10 p0 (wN w_20) q_21.2).bind fun w_22 => (fX4_init (wN w_22) (nw 3 0 w_22)).bind fun q_23 => (pfR 10 11 p0 (wN w_22) q_23.2).bind fun w_24 => some (w_24)
def chF (i : Int32) : Option Int32 := if i < 0 ∨ (100 : Int32) ≤ i then none else some (chS i.toNatClampNeg)
noncomputable def fX11_init_L (p0 : Nat) (K : Wd → Option (Unit × Wd)) : Nat → Int32 → Wd → Option (Unit × Wd)
  | 0, _, _ => none
  | n + 1, v1, w => if (100 : Int32) ≤ v1 then K w else (gfR 10 0 p0 w).bind fun r_1 => (chF v1).bind fun x_2 => (isO 8 r_1 w).bind fun u_3 => (fX9_add r_1 x_2 w).bind fun q_4 => fX11_init_L p0 K n (v1 + 1) q_4.2
theorem nI_tn {v : Int32} (h : ¬ v < 0) : nI v.toNatClampNeg = v := by
  have h0 : (0 : Int) ≤ v.toInt := by
    have := Int32.not_lt.mp h
    simpa using Int32.le_iff_toInt_le.mp this
  have h1 : v.toInt < 2 ^ 31 := Int32.toInt_lt v
  have h2 : v.toNatClampNeg < 2 ^ 31 := by
    show v.toInt.toNat < 2 ^ 31
    omega
  refine Int32.toInt_inj.mp ?_
  rw [nI_toInt h2]
  show ((v.toInt.toNat : Nat) : Int) = _
  omega
set_option maxHeartbeats 4000000 in
set_option maxRecDepth 100000 in
theorem l_X11_init_L {aK aV : Nat → Nat} {v0 : Value} (X : Cx p R s m args c cX11_init 2 RX11 D cI cT cII 6 135) (hE : Ex base aK aV v0 s) (hc : cells ≤ R.cells ∧ slots ≤ R.slots) (p0 : Nat) (K : Wd → Option (Unit × Wd)) (res : Unit × Wd)
    (hK : ∀ (w : Wd), K w = some res → ∀ (H : Heap) (locs : List Loc) (ls : Array Slot), Hd D cI cT cII base w H → va_S (fun q => base ≤ q) s.heap H locs → lv_has ls 2 [(0, .ref (base + p0))] → W p l e R s m args below meth c H locs cells slots Q (F0 m 170 ls [])) :
    ∀ (n : Nat) (v1 : Int32) (w : Wd), fX11_init_L p0 K n v1 w = some res → ∀ (H : Heap) (locs : List Loc) (ls : Array Slot), Hd D cI cT cII base w H → va_S (fun q => base ≤ q) s.heap H locs → lv_has ls 2 [(0, .ref (base + p0)), (1, .int v1)] → W p l e R s m args below meth c H locs cells slots Q (F0 m 141 ls []) := by
  have hx := X.1
  have hb := X.2.1
  intro n
  induction n with
  | zero =>
    intro v1 w hF
    rw [fX11_init_L] at hF
    cases hF
  | succ n ih =>
    intro v1 w hF H locs ls hH hS hl
    rw [fX11_init_L] at hF
    refine lv_iload_n hx hb dX11_init_141 rfl (lv_at hl 1 rfl) ?_
    refine va_ldcS hx hb X.2.2.2.1 hE.2.2.1 dX11_init_142 ?_
    refine m_callT (As := []) (rest := [.int v1]) X hE hH hS hl.1 rfl (kz_len l D cI cT cII base aK aV v0 w) zq_len zl_len zj_len zs_len rfl rfl (Nat.le_of_ble_eq_true rfl) ⟨by decide, by decide⟩ hc dX11_init_144 (fun H locs hH hS => W.eq (g2 := F0 m 147 ls [.int 100, .int v1]) rfl ?_)
    refine lv_icmp_ge (tgt := 170) hx hb dX11_init_147 (by decide) (fun c_1 => ?_) (fun c_1 => ?_)
    · replace hF := itt c_1 hF
      exact hK w hF H locs ls hH hS (lv_sub hl [0] rfl)
    · replace hF := itf c_1 hF
      refine lv_aload_n hx hb dX11_init_150 rfl (lv_at hl 0 rfl) ?_
      obtain ⟨r_1, e_1, hF⟩ := bnd hF
      refine m_gR X hH e_1 gg_X11_10 dX11_init_151 ?_
      refine va_ldcS hx hb X.2.2.2.1 hE.2.2.1 dX11_init_154 ?_
      refine lv_iload_n hx hb dX11_init_156 rfl (lv_at hl 1 rfl) ?_
      obtain ⟨x_2, e_2, hF⟩ := bnd hF
      have h0 : ¬ (v1 < 0 ∨ (100 : Int32) ≤ v1) := fun z => by
        rw [chF, if_pos z] at e_2
        cases e_2
      rw [chF, if_neg h0] at e_2
      have e_2 := Option.some.inj e_2
      have hv : nI v1.toNatClampNeg = v1 := nI_tn (fun z => h0 (Or.inl z))
      have hk : v1.toNatClampNeg < 100 := Nat.lt_of_not_le fun z => h0 (Or.inr (by
        rw [← hv]
        exact nI_le (a := 100) z (by
          have := Int32.toInt_lt v1
          show v1.toInt.toNat < 2 ^ 31
          omega)))
      refine m_callT (As := [.int v1]) (rest := [.ref (base + r_1)]) X hE hH hS hl.1 rfl (show CtE false l yJ0_charAt_5068e cJ0_charAt_5068e 2 (some .char) { frames := 3, cells := 0, slots := 0, locals := 64 } D cI cT cII base aK aV v0 [.ref (aK 0), .int v1] w w (some (.int x_2)) 0 0 from by
        have h9 := kz_chr l D cI cT cII base aK aV v0 w v1.toNatClampNeg hk
        rw [hv, e_2] at h9
        exact h9) zq_chr zl_chr zj_chr zs_chr rfl rfl (Nat.le_of_ble_eq_true rfl) ⟨by decide, by decide⟩ hc dX11_init_157 (fun H locs hH hS => W.eq (g2 := F0 m 160 ls [.int x_2, .ref (base + r_1)]) rfl ?_)
      obtain ⟨u_3, ou_3, hF⟩ := bnd hF
      obtain ⟨q_4, e_4, hF⟩ := bnd hF
      refine m_callV (As := [.int x_2]) (rest := []) X hH hS hl.1 ou_3 rfl (by decide) (k_X9_add l D cI cT cII base r_1 x_2 w q_4 e_4) q_X9_add kw_370 kw_371 kw_372 rfl rfl (Nat.le_of_ble_eq_true rfl) ⟨by decide, by decide⟩ hc dX11_init_160 (fun H locs hH hS => W.eq (g2 := F0 m 163 ls [.int q_4.1]) rfl ?_)
      refine lv_pop hx hb dX11_init_163 rfl ?_
      refine lv_iinc (v := v1 + (1 : Int32)) (lv' := [(1, .int (v1 + (1 : Int32))), (0, .ref (base + p0))]) hx hb dX11_init_164 hl (k := 1) rfl (congrArg (fun z => v1 + z) (by decide)) (by decide) rfl (fun ls hl => ?_)
      refine lv_goto (tgt := 141) hx hb dX11_init_167 (by decide) ?_
      exact ih (v1 + 1) q_4.2 hF H locs ls hH hS (lv_sub hl [1, 0] rfl)

noncomputable def fX11_init (p0 : Nat) (w : Wd) : Option (Unit × Wd) := (fX9_init (wN w) (nw 8 0 w)).bind fun q_1 => (pfR 10 0 p0 (wN w) q_1.2).bind fun w_2 => (fX6_init (wN w_2) (nw 5 0 w_2)).bind fun q_3 => (pfR 10 1 p0 (wN w_2) q_3.2).bind fun w_4 => (fX10_init (wN w_4) (nw 9 0 w_4)).bind fun q_5 => (pfR 10 2 p0 (wN w_4) q_5.2).bind fun w_6 => (fX7_init8 (wN w_6) (nw 6 0 w_6)).bind fun q_7 => (pfR 10 3 p0 (wN w_6) q_7.2).bind fun w_8 => (fX7_init2 (wN w_8) (nw 6 0 w_8)).bind fun q_9 => (pfR 10 4 p0 (wN w_8) q_9.2).bind fun w_10 => (fX1_init (wN w_10) (nw 1 0 w_10)).bind fun q_11 => (pfR 10 5 p0 (wN w_10) q_11.2).bind fun w_12 => (fX5_init (wN w_12) (nw 4 0 w_12)).bind fun q_13 => (pfR 10 6 p0 (wN w_12) q_13.2).bind fun w_14 => (fX8_init (wN w_14) (nw 7 0 w_14)).bind fun q_15 => (pfR 10 7 p0 (wN w_14) q_15.2).bind fun w_16 => (fX2_init (wN w_16) (nw 2 0 w_16)).bind fun q_17 => (pfR 10 8 p0 (wN w_16) q_17.2).bind fun w_18 => (fX0_init (wN w_18) (nw 0 0 w_18)).bind fun q_19 => (pfR 10 9 p0 (wN w_18) q_19.2).bind fun w_20 => (fX4_init (wN w_20) (nw 3 0 w_20)).bind fun q_21 => (pfR 10 10 p0 (wN w_20) q_21.2).bind fun w_22 => (fX4_init (wN w_22) (nw 3 0 w_22)).bind fun q_23 => (pfR 10 11 p0 (wN w_22) q_23.2).bind fun w_24 => fX11_init_L p0 (fX11_init_B p0) FV (0 : Int32) w_24
set_option maxHeartbeats 4000000 in
set_option maxRecDepth 100000 in
theorem k_X11_init (l : Launch) (D : va_G) (cI cT cII : ClassId) (base : Nat) (aK aV : Nat → Nat) (v0 : Value) (p0 : Nat) (w : Wd) (res : Unit × Wd) (hF : fX11_init p0 w = some res) : CtE true l yX11_init cX11_init 2 none { frames := 6, cells := 201, slots := 1971, locals := 135 } D cI cT cII base aK aV v0 [.ref (base + p0)] w res.2 none 201 1971 := by
  unfold fX11_init at hF
  refine m_enterE (by decide) (Nat.le_of_ble_eq_true rfl) ?_
  intro p e s m below meth c ls X hE hz hr hlk hnm hH hS hl
  have hx := X.1
  have hb := X.2.1
  have hnm : meth.name = "<init>" := hnm
  have hN : base + wN w = s.heap.size + 0 := (hz rfl).symm
  have hbs : base ≤ s.heap.size := by rw [hz rfl]; exact Nat.le_add_right _ _
  obtain ⟨H, hHe⟩ : ∃ H : Heap, H = s.heap := ⟨_, rfl⟩
  obtain ⟨locs, hle⟩ : ∃ L : List Loc, L = [] := ⟨_, rfl⟩
  have hl : lv_has ls 2 [(0, .ref (base + p0))] := hl
  rw [← hHe] at hH
  have hS : va_S (fun q => base ≤ q) s.heap H locs := by rw [hHe, hle]; exact hS
  rw [← hle]
  show W p l e _ s m _ below meth c s.heap locs 0 0 _ _
  rw [← hHe]
  have hc : 201 ≤ ({ frames := 6, cells := 201, slots := 1971, locals := 135 } : Room).cells ∧ 1971 ≤ ({ frames := 6, cells := 201, slots := 1971, locals := 135 } : Room).slots := ⟨Nat.le_refl _, Nat.le_refl _⟩
  refine lv_aload_n hx hb dX11_init_0 rfl (lv_at hl 0 rfl) ?_
  refine m_obj X hl.1 kw_79 kO_i kO_c (by decide) (Nat.le_of_ble_eq_true rfl) dX11_init_1 ?_
  refine lv_aload_n hx hb dX11_init_4 rfl (lv_at hl 0 rfl) ?_
  refine m_new X hH hS hN hbs gn_X11_7 ⟨Nat.le_of_ble_eq_true rfl, Nat.le_of_ble_eq_true rfl⟩ dX11_init_5 (fun H hH hS => ?_)
  replace hN := hN_nw (ci := 8) (n := 0) hN
  refine lv_dup hx hb dX11_init_8 rfl ?_
  obtain ⟨q_1, e_1, hF⟩ := bnd hF
  refine m_callIN (As := []) (rest := [.ref (base + (wN w)), .ref (base + p0)]) X hE hH hS hN hbs hl.1 (k_X9_init l D cI cT cII base aK aV v0 (wN w) (nw 8 0 w) q_1 e_1) q_X9_init rfl kw_84 kw_85 rfl rfl (Nat.le_of_ble_eq_true rfl) ⟨by decide, by decide⟩ ⟨Nat.le_of_ble_eq_true rfl, Nat.le_of_ble_eq_true rfl⟩ dX11_init_9 (fun H locs hH hS => ?_)
  replace hN := hN_add (n_X9_init e_1) hN
  obtain ⟨w_2, e_2, hF⟩ := bnd hF
  refine m_rR X hH hS e_2 gr_X11_10 hnm rfl rfl dX11_init_12 (fun H locs hH hS => ?_)
  replace hN := hN_eq (pfR_N e_2) hN
  refine lv_aload_n hx hb dX11_init_15 rfl (lv_at hl 0 rfl) ?_
  refine m_new X hH hS hN hbs gn_X11_16 ⟨Nat.le_of_ble_eq_true rfl, Nat.le_of_ble_eq_true rfl⟩ dX11_init_16 (fun H hH hS => ?_)
  replace hN := hN_nw (ci := 5) (n := 0) hN
  refine lv_dup hx hb dX11_init_19 rfl ?_
  obtain ⟨q_3, e_3, hF⟩ := bnd hF
  refine m_callIN (As := []) (rest := [.ref (base + (wN w_2)), .ref (base + p0)]) X hE hH hS hN hbs hl.1 (k_X6_init l D cI cT cII base aK aV v0 (wN w_2) (nw 5 0 w_2) q_3 e_3) q_X6_init rfl kw_100 kw_101 rfl rfl (Nat.le_of_ble_eq_true rfl) ⟨by decide, by decide⟩ ⟨Nat.le_of_ble_eq_true rfl, Nat.le_of_ble_eq_true rfl⟩ dX11_init_20 (fun H locs hH hS => ?_)
  replace hN := hN_add (n_X6_init e_3) hN
  obtain ⟨w_4, e_4, hF⟩ := bnd hF
  refine m_rR X hH hS e_4 gr_X11_19 hnm rfl rfl dX11_init_23 (fun H locs hH hS => ?_)
  replace hN := hN_eq (pfR_N e_4) hN
  refine lv_aload_n hx hb dX11_init_26 rfl (lv_at hl 0 rfl) ?_
  refine m_new X hH hS hN hbs gn_X11_23 ⟨Nat.le_of_ble_eq_true rfl, Nat.le_of_ble_eq_true rfl⟩ dX11_init_27 (fun H hH hS => ?_)
  replace hN := hN_nw (ci := 9) (n := 0) hN
  refine lv_dup hx hb dX11_init_30 rfl ?_
  obtain ⟨q_5, e_5, hF⟩ := bnd hF
  refine m_callIN (As := []) (rest := [.ref (base + (wN w_4)), .ref (base + p0)]) X hE hH hS hN hbs hl.1 (k_X10_init l D cI cT cII base aK aV v0 (wN w_4) (nw 9 0 w_4) q_5 e_5) q_X10_init rfl kw_113 kw_114 rfl rfl (Nat.le_of_ble_eq_true rfl) ⟨by decide, by decide⟩ ⟨Nat.le_of_ble_eq_true rfl, Nat.le_of_ble_eq_true rfl⟩ dX11_init_31 (fun H locs hH hS => ?_)
  replace hN := hN_add (n_X10_init e_5) hN
  obtain ⟨w_6, e_6, hF⟩ := bnd hF
  refine m_rR X hH hS e_6 gr_X11_26 hnm rfl rfl dX11_init_34 (fun H locs hH hS => ?_)
  replace hN := hN_eq (pfR_N e_6) hN
  refine lv_aload_n hx hb dX11_init_37 rfl (lv_at hl 0 rfl) ?_
  refine m_new X hH hS hN hbs gn_X11_30 ⟨Nat.le_of_ble_eq_true rfl, Nat.le_of_ble_eq_true rfl⟩ dX11_init_38 (fun H hH hS => ?_)
  replace hN := hN_nw (ci := 6) (n := 0) hN
  refine lv_dup hx hb dX11_init_41 rfl ?_
  refine lv_bipush (v := (8 : Int32)) hx hb dX11_init_42 (by decide) ?_
  obtain ⟨q_7, e_7, hF⟩ := bnd hF
  refine m_callI (As := [.int (8 : Int32)]) (rest := [.ref (base + (wN w_6)), .ref (base + p0)]) X hE hH hS hN hbs hl.1 (k_X7_init8 l D cI cT cII base aK aV v0 (wN w_6) (nw 6 0 w_6) q_7 e_7) q_X7_init rfl kw_137 kw_138 rfl rfl (Nat.le_of_ble_eq_true rfl) ⟨by decide, by decide⟩ ⟨Nat.le_of_ble_eq_true rfl, Nat.le_of_ble_eq_true rfl⟩ dX11_init_44 (fun H locs hH hS => ?_)
  replace hN := hN_add (n_X7_init8 e_7) hN
  obtain ⟨w_8, e_8, hF⟩ := bnd hF
  refine m_rR X hH hS e_8 gr_X11_35 hnm rfl rfl dX11_init_47 (fun H locs hH hS => ?_)
  replace hN := hN_eq (pfR_N e_8) hN
  refine lv_aload_n hx hb dX11_init_50 rfl (lv_at hl 0 rfl) ?_
  refine m_new X hH hS hN hbs gn_X11_30 ⟨Nat.le_of_ble_eq_true rfl, Nat.le_of_ble_eq_true rfl⟩ dX11_init_51 (fun H hH hS => ?_)
  replace hN := hN_nw (ci := 6) (n := 0) hN
  refine lv_dup hx hb dX11_init_54 rfl ?_
  refine lv_iconst (v := (2 : Int32)) hx hb dX11_init_55 (by decide) ?_
  obtain ⟨q_9, e_9, hF⟩ := bnd hF
  refine m_callI (As := [.int (2 : Int32)]) (rest := [.ref (base + (wN w_8)), .ref (base + p0)]) X hE hH hS hN hbs hl.1 (k_X7_init2 l D cI cT cII base aK aV v0 (wN w_8) (nw 6 0 w_8) q_9 e_9) q_X7_init rfl kw_137 kw_138 rfl rfl (Nat.le_of_ble_eq_true rfl) ⟨by decide, by decide⟩ ⟨Nat.le_of_ble_eq_true rfl, Nat.le_of_ble_eq_true rfl⟩ dX11_init_56 (fun H locs hH hS => ?_)
  replace hN := hN_add (n_X7_init2 e_9) hN
  obtain ⟨w_10, e_10, hF⟩ := bnd hF
  refine m_rR X hH hS e_10 gr_X11_39 hnm rfl rfl dX11_init_59 (fun H locs hH hS => ?_)
  replace hN := hN_eq (pfR_N e_10) hN
  refine lv_aload_n hx hb dX11_init_62 rfl (lv_at hl 0 rfl) ?_
  refine m_new X hH hS hN hbs gn_X11_42 ⟨Nat.le_of_ble_eq_true rfl, Nat.le_of_ble_eq_true rfl⟩ dX11_init_63 (fun H hH hS => ?_)
  replace hN := hN_nw (ci := 1) (n := 0) hN
  refine lv_dup hx hb dX11_init_66 rfl ?_
  obtain ⟨q_11, e_11, hF⟩ := bnd hF
  refine m_callIN (As := []) (rest := [.ref (base + (wN w_10)), .ref (base + p0)]) X hE hH hS hN hbs hl.1 (k_X1_init l D cI cT cII base aK aV v0 (wN w_10) (nw 1 0 w_10) q_11 e_11) q_X1_init rfl kw_157 kw_158 rfl rfl (Nat.le_of_ble_eq_true rfl) ⟨by decide, by decide⟩ ⟨Nat.le_of_ble_eq_true rfl, Nat.le_of_ble_eq_true rfl⟩ dX11_init_67 (fun H locs hH hS => ?_)
  replace hN := hN_add (n_X1_init e_11) hN
  obtain ⟨w_12, e_12, hF⟩ := bnd hF
  refine m_rR X hH hS e_12 gr_X11_45 hnm rfl rfl dX11_init_70 (fun H locs hH hS => ?_)
  replace hN := hN_eq (pfR_N e_12) hN
  refine lv_aload_n hx hb dX11_init_73 rfl (lv_at hl 0 rfl) ?_
  refine m_new X hH hS hN hbs gn_X11_49 ⟨Nat.le_of_ble_eq_true rfl, Nat.le_of_ble_eq_true rfl⟩ dX11_init_74 (fun H hH hS => ?_)
  replace hN := hN_nw (ci := 4) (n := 0) hN
  refine lv_dup hx hb dX11_init_77 rfl ?_
  obtain ⟨q_13, e_13, hF⟩ := bnd hF
  refine m_callIN (As := []) (rest := [.ref (base + (wN w_12)), .ref (base + p0)]) X hE hH hS hN hbs hl.1 (k_X5_init l D cI cT cII base aK aV v0 (wN w_12) (nw 4 0 w_12) q_13 e_13) q_X5_init rfl kw_186 kw_187 rfl rfl (Nat.le_of_ble_eq_true rfl) ⟨by decide, by decide⟩ ⟨Nat.le_of_ble_eq_true rfl, Nat.le_of_ble_eq_true rfl⟩ dX11_init_78 (fun H locs hH hS => ?_)
  replace hN := hN_add (n_X5_init e_13) hN
  obtain ⟨w_14, e_14, hF⟩ := bnd hF
  refine m_rR X hH hS e_14 gr_X11_52 hnm rfl rfl dX11_init_81 (fun H locs hH hS => ?_)
  replace hN := hN_eq (pfR_N e_14) hN
  refine lv_aload_n hx hb dX11_init_84 rfl (lv_at hl 0 rfl) ?_
  refine m_new X hH hS hN hbs gn_X11_56 ⟨Nat.le_of_ble_eq_true rfl, Nat.le_of_ble_eq_true rfl⟩ dX11_init_85 (fun H hH hS => ?_)
  replace hN := hN_nw (ci := 7) (n := 0) hN
  refine lv_dup hx hb dX11_init_88 rfl ?_
  obtain ⟨q_15, e_15, hF⟩ := bnd hF
  refine m_callIN (As := []) (rest := [.ref (base + (wN w_14)), .ref (base + p0)]) X hE hH hS hN hbs hl.1 (k_X8_init l D cI cT cII base aK aV v0 (wN w_14) (nw 7 0 w_14) q_15 e_15) q_X8_init rfl kw_209 kw_210 rfl rfl (Nat.le_of_ble_eq_true rfl) ⟨by decide, by decide⟩ ⟨Nat.le_of_ble_eq_true rfl, Nat.le_of_ble_eq_true rfl⟩ dX11_init_89 (fun H locs hH hS => ?_)
  replace hN := hN_add (n_X8_init e_15) hN
  obtain ⟨w_16, e_16, hF⟩ := bnd hF
  refine m_rR X hH hS e_16 gr_X11_59 hnm rfl rfl dX11_init_92 (fun H locs hH hS => ?_)
  replace hN := hN_eq (pfR_N e_16) hN
  refine lv_aload_n hx hb dX11_init_95 rfl (lv_at hl 0 rfl) ?_
  refine m_new X hH hS hN hbs gn_X11_63 ⟨Nat.le_of_ble_eq_true rfl, Nat.le_of_ble_eq_true rfl⟩ dX11_init_96 (fun H hH hS => ?_)
  replace hN := hN_nw (ci := 2) (n := 0) hN
  refine lv_dup hx hb dX11_init_99 rfl ?_
  obtain ⟨q_17, e_17, hF⟩ := bnd hF
  refine m_callIN (As := []) (rest := [.ref (base + (wN w_16)), .ref (base + p0)]) X hE hH hS hN hbs hl.1 (k_X2_init l D cI cT cII base aK aV v0 (wN w_16) (nw 2 0 w_16) q_17 e_17) q_X2_init rfl kw_229 kw_230 rfl rfl (Nat.le_of_ble_eq_true rfl) ⟨by decide, by decide⟩ ⟨Nat.le_of_ble_eq_true rfl, Nat.le_of_ble_eq_true rfl⟩ dX11_init_100 (fun H locs hH hS => ?_)
  replace hN := hN_add (n_X2_init e_17) hN
  obtain ⟨w_18, e_18, hF⟩ := bnd hF
  refine m_rR X hH hS e_18 gr_X11_66 hnm rfl rfl dX11_init_103 (fun H locs hH hS => ?_)
  replace hN := hN_eq (pfR_N e_18) hN
  refine lv_aload_n hx hb dX11_init_106 rfl (lv_at hl 0 rfl) ?_
  refine m_new X hH hS hN hbs gn_X11_70 ⟨Nat.le_of_ble_eq_true rfl, Nat.le_of_ble_eq_true rfl⟩ dX11_init_107 (fun H hH hS => ?_)
  replace hN := hN_nw (ci := 0) (n := 0) hN
  refine lv_dup hx hb dX11_init_110 rfl ?_
  obtain ⟨q_19, e_19, hF⟩ := bnd hF
  refine m_callIN (As := []) (rest := [.ref (base + (wN w_18)), .ref (base + p0)]) X hE hH hS hN hbs hl.1 (k_X0_init l D cI cT cII base aK aV v0 (wN w_18) (nw 0 0 w_18) q_19 e_19) q_X0_init rfl kw_243 kw_244 rfl rfl (Nat.le_of_ble_eq_true rfl) ⟨by decide, by decide⟩ ⟨Nat.le_of_ble_eq_true rfl, Nat.le_of_ble_eq_true rfl⟩ dX11_init_111 (fun H locs hH hS => ?_)
  replace hN := hN_add (n_X0_init e_19) hN
  obtain ⟨w_20, e_20, hF⟩ := bnd hF
  refine m_rR X hH hS e_20 gr_X11_73 hnm rfl rfl dX11_init_114 (fun H locs hH hS => ?_)
  replace hN := hN_eq (pfR_N e_20) hN
  refine lv_aload_n hx hb dX11_init_117 rfl (lv_at hl 0 rfl) ?_
  refine m_new X hH hS hN hbs gn_X11_77 ⟨Nat.le_of_ble_eq_true rfl, Nat.le_of_ble_eq_true rfl⟩ dX11_init_118 (fun H hH hS => ?_)
  replace hN := hN_nw (ci := 3) (n := 0) hN
  refine lv_dup hx hb dX11_init_121 rfl ?_
  obtain ⟨q_21, e_21, hF⟩ := bnd hF
  refine m_callIN (As := []) (rest := [.ref (base + (wN w_20)), .ref (base + p0)]) X hE hH hS hN hbs hl.1 (k_X4_init l D cI cT cII base aK aV v0 (wN w_20) (nw 3 0 w_20) q_21 e_21) q_X4_init rfl kw_256 kw_257 rfl rfl (Nat.le_of_ble_eq_true rfl) ⟨by decide, by decide⟩ ⟨Nat.le_of_ble_eq_true rfl, Nat.le_of_ble_eq_true rfl⟩ dX11_init_122 (fun H locs hH hS => ?_)
  replace hN := hN_add (n_X4_init e_21) hN
  obtain ⟨w_22, e_22, hF⟩ := bnd hF
  refine m_pR X hH hS e_22 gp_X11_80 rfl rfl dX11_init_125 (fun H locs hH hS => ?_)
  replace hN := hN_eq (pfR_N e_22) hN
  refine lv_aload_n hx hb dX11_init_128 rfl (lv_at hl 0 rfl) ?_
  refine m_new X hH hS hN hbs gn_X11_77 ⟨Nat.le_of_ble_eq_true rfl, Nat.le_of_ble_eq_true rfl⟩ dX11_init_129 (fun H hH hS => ?_)
  replace hN := hN_nw (ci := 3) (n := 0) hN
  refine lv_dup hx hb dX11_init_132 rfl ?_
  obtain ⟨q_23, e_23, hF⟩ := bnd hF
  refine m_callIN (As := []) (rest := [.ref (base + (wN w_22)), .ref (base + p0)]) X hE hH hS hN hbs hl.1 (k_X4_init l D cI cT cII base aK aV v0 (wN w_22) (nw 3 0 w_22) q_23 e_23) q_X4_init rfl kw_256 kw_257 rfl rfl (Nat.le_of_ble_eq_true rfl) ⟨by decide, by decide⟩ ⟨Nat.le_of_ble_eq_true rfl, Nat.le_of_ble_eq_true rfl⟩ dX11_init_133 (fun H locs hH hS => ?_)
  replace hN := hN_add (n_X4_init e_23) hN
  obtain ⟨w_24, e_24, hF⟩ := bnd hF
  refine m_pR X hH hS e_24 gp_X11_84 rfl rfl dX11_init_136 (fun H locs hH hS => ?_)
  replace hN := hN_eq (pfR_N e_24) hN
  refine lv_iconst (v := (0 : Int32)) hx hb dX11_init_139 (by decide) ?_
  refine lv_istore_n (lv' := [(1, .int (0 : Int32)), (0, .ref (base + p0))]) hx hb dX11_init_140 rfl hl (by decide) rfl (fun ls hl => ?_)
  refine l_X11_init_L X hE hc p0 (fX11_init_B p0) res ?_ FV (0 : Int32) w_24 hF H locs ls hH hS (lv_sub hl [1, 0] rfl)
  intro w hF H locs ls hH hS hl
  unfold fX11_init_B at hF
  refine lv_aload_n hx hb dX11_init_170 rfl (lv_at hl 0 rfl) ?_
  obtain ⟨r_501, e_501, hF⟩ := bnd hF
  refine m_gR X hH e_501 gg_X11_19 dX11_init_171 ?_
  refine lv_aload_n hx hb dX11_init_174 rfl (lv_at hl 0 rfl) ?_
  obtain ⟨r_502, e_502, hF⟩ := bnd hF
  refine m_gR X hH e_502 gg_X11_10 dX11_init_175 ?_
  refine lv_aload_n hx hb dX11_init_178 rfl (lv_at hl 0 rfl) ?_
  obtain ⟨r_503, e_503, hF⟩ := bnd hF
  refine m_gR X hH e_503 gg_X11_84 dX11_init_179 ?_
  obtain ⟨u_504, ou_504, hF⟩ := bnd hF
  obtain ⟨q_505, e_505, hF⟩ := bnd hF
  refine m_callV (As := [.ref (base + r_502), .ref (base + r_503)]) (rest := []) X hH hS hl.1 ou_504 rfl (by decide) (k_X6_readAll l D cI cT cII base r_501 r_502 r_503 w q_505 e_505) q_X6_readAll kw_374 kw_375 kw_376 rfl rfl (Nat.le_of_ble_eq_true rfl) ⟨by decide, by decide⟩ hc dX11_init_182 (fun H locs hH hS => W.eq (g2 := F0 m 185 ls [.int q_505.1]) rfl ?_)
  refine lv_pop hx hb dX11_init_185 rfl ?_
  refine lv_aload_n hx hb dX11_init_186 rfl (lv_at hl 0 rfl) ?_
  obtain ⟨u_506, ou_506, hF⟩ := bnd hF
  obtain ⟨q_507, e_507, hF⟩ := bnd hF
  refine m_callV (As := []) (rest := []) X hH hS hl.1 ou_506 rfl (by decide) (k_X11_moveIn l D cI cT cII base p0 q_505.2 q_507 e_507) q_X11_moveIn kw_436 kw_438 kw_8 rfl rfl (Nat.le_of_ble_eq_true rfl) ⟨by decide, by decide⟩ hc dX11_init_187 (fun H locs hH hS => W.eq (g2 := F0 m 190 ls []) rfl ?_)
  refine lv_aload_n hx hb dX11_init_190 rfl (lv_at hl 0 rfl) ?_
  obtain ⟨r_508, e_508, hF⟩ := bnd hF
  refine m_gR X hH e_508 gg_X11_10 dX11_init_191 ?_
  obtain ⟨u_509, ou_509, hF⟩ := bnd hF
  obtain ⟨q_510, e_510, hF⟩ := bnd hF
  refine m_callV (As := []) (rest := []) X hH hS hl.1 ou_509 rfl (by decide) (k_X9_empty l D cI cT cII base r_508 q_507.2 q_510 e_510) q_X9_empty kw_449 kw_450 kw_451 rfl rfl (Nat.le_of_ble_eq_true rfl) ⟨by decide, by decide⟩ hc dX11_init_194 (fun H locs hH hS => W.eq (g2 := F0 m 197 ls [.int q_510.1]) rfl ?_)
  refine lv_pop hx hb dX11_init_197 rfl ?_
  have hF := Option.some.inj hF
  subst hF
  exact m_vret X hr hlk hH hS dX11_init_198
end CTOR
