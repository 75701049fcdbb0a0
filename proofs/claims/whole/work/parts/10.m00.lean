section M00
variable {p : Program} {l : Launch} {e : Env} {R : Room} {s : State} {m : MethodId} {args : Array Value} {below : List Frame} {meth : Method} {c : Code} {cells slots : Nat} {Q : State → Prop} {D : va_G} {cI cT cII : ClassId} {base : Nat}
noncomputable def fJ6_bitCount_0f7a4 (v0 : Int32) (w : Wd) : Option (Int32 × Wd) := some ((((((((v0 - (((Int32.toUInt32 v0 >>> (Int32.toUInt32 (1 : Int32) &&& Int32.toUInt32 31)).toInt32) &&& (1431655765 : Int32))) &&& (858993459 : Int32)) + (((Int32.toUInt32 (v0 - (((Int32.toUInt32 v0 >>> (Int32.toUInt32 (1 : Int32) &&& Int32.toUInt32 31)).toInt32) &&& (1431655765 : Int32))) >>> (Int32.toUInt32 (2 : Int32) &&& Int32.toUInt32 31)).toInt32) &&& (858993459 : Int32))) + ((Int32.toUInt32 (((v0 - (((Int32.toUInt32 v0 >>> (Int32.toUInt32 (1 : Int32) &&& Int32.toUInt32 31)).toInt32) &&& (1431655765 : Int32))) &&& (858993459 : Int32)) + (((Int32.toUInt32 (v0 - (((Int32.toUInt32 v0 >>> (Int32.toUInt32 (1 : Int32) &&& Int32.toUInt32 31)).toInt32) &&& (1431655765 : Int32))) >>> (Int32.toUInt32 (2 : Int32) &&& Int32.toUInt32 31)).toInt32) &&& (858993459 : Int32))) >>> (Int32.toUInt32 (4 : Int32) &&& Int32.toUInt32 31)).toInt32)) &&& (252645135 : Int32)) + ((Int32.toUInt32 (((((v0 - (((Int32.toUInt32 v0 >>> (Int32.toUInt32 (1 : Int32) &&& Int32.toUInt32 31)).toInt32) &&& (1431655765 : Int32))) &&& (858993459 : Int32)) + (((Int32.toUInt32 (v0 - (((Int32.toUInt32 v0 >>> (Int32.toUInt32 (1 : Int32) &&& Int32.toUInt32 31)).toInt32) &&& (1431655765 : Int32))) >>> (Int32.toUInt32 (2 : Int32) &&& Int32.toUInt32 31)).toInt32) &&& (858993459 : Int32))) + ((Int32.toUInt32 (((v0 - (((Int32.toUInt32 v0 >>> (Int32.toUInt32 (1 : Int32) &&& Int32.toUInt32 31)).toInt32) &&& (1431655765 : Int32))) &&& (858993459 : Int32)) + (((Int32.toUInt32 (v0 - (((Int32.toUInt32 v0 >>> (Int32.toUInt32 (1 : Int32) &&& Int32.toUInt32 31)).toInt32) &&& (1431655765 : Int32))) >>> (Int32.toUInt32 (2 : Int32) &&& Int32.toUInt32 31)).toInt32) &&& (858993459 : Int32))) >>> (Int32.toUInt32 (4 : Int32) &&& Int32.toUInt32 31)).toInt32)) &&& (252645135 : Int32)) >>> (Int32.toUInt32 (8 : Int32) &&& Int32.toUInt32 31)).toInt32)) + ((Int32.toUInt32 ((((((v0 - (((Int32.toUInt32 v0 >>> (Int32.toUInt32 (1 : Int32) &&& Int32.toUInt32 31)).toInt32) &&& (1431655765 : Int32))) &&& (858993459 : Int32)) + (((Int32.toUInt32 (v0 - (((Int32.toUInt32 v0 >>> (Int32.toUInt32 (1 : Int32) &&& Int32.toUInt32 31)).toInt32) &&& (1431655765 : Int32))) >>> (Int32.toUInt32 (2 : Int32) &&& Int32.toUInt32 31)).toInt32) &&& (858993459 : Int32))) + ((Int32.toUInt32 (((v0 - (((Int32.toUInt32 v0 >>> (Int32.toUInt32 (1 : Int32) &&& Int32.toUInt32 31)).toInt32) &&& (1431655765 : Int32))) &&& (858993459 : Int32)) + (((Int32.toUInt32 (v0 - (((Int32.toUInt32 v0 >>> (Int32.toUInt32 (1 : Int32) &&& Int32.toUInt32 31)).toInt32) &&& (1431655765 : Int32))) >>> (Int32.toUInt32 (2 : Int32) &&& Int32.toUInt32 31)).toInt32) &&& (858993459 : Int32))) >>> (Int32.toUInt32 (4 : Int32) &&& Int32.toUInt32 31)).toInt32)) &&& (252645135 : Int32)) + ((Int32.toUInt32 (((((v0 - (((Int32.toUInt32 v0 >>> (Int32.toUInt32 (1 : Int32) &&& Int32.toUInt32 31)).toInt32) &&& (1431655765 : Int32))) &&& (858993459 : Int32)) + (((Int32.toUInt32 (v0 - (((Int32.toUInt32 v0 >>> (Int32.toUInt32 (1 : Int32) &&& Int32.toUInt32 31)).toInt32) &&& (1431655765 : Int32))) >>> (Int32.toUInt32 (2 : Int32) &&& Int32.toUInt32 31)).toInt32) &&& (858993459 : Int32))) + ((Int32.toUInt32 (((v0 - (((Int32.toUInt32 v0 >>> (Int32.toUInt32 (1 : Int32) &&& Int32.toUInt32 31)).toInt32) &&& (1431655765 : Int32))) &&& (858993459 : Int32)) + (((Int32.toUInt32 (v0 - (((Int32.toUInt32 v0 >>> (Int32.toUInt32 (1 : Int32) &&& Int32.toUInt32 31)).toInt32) &&& (1431655765 : Int32))) >>> (Int32.toUInt32 (2 : Int32) &&& Int32.toUInt32 31)).toInt32) &&& (858993459 : Int32))) >>> (Int32.toUInt32 (4 : Int32) &&& Int32.toUInt32 31)).toInt32)) &&& (252645135 : Int32)) >>> (Int32.toUInt32 (8 : Int32) &&& Int32.toUInt32 31)).toInt32)) >>> (Int32.toUInt32 (16 : Int32) &&& Int32.toUInt32 31)).toInt32)) &&& (63 : Int32), w)
set_option maxHeartbeats 4000000 in
set_option maxRecDepth 100000 in
theorem k_J6_bitCount_0f7a4 (l : Launch) (D : va_G) (cI cT cII : ClassId) (base : Nat) (v0 : Int32) (w : Wd) (res : Int32 × Wd) (hF : fJ6_bitCount_0f7a4 v0 w = some res) : Ct l yJ6_bitCount_0f7a4 cJ6_bitCount_0f7a4 1 (some .int) { frames := 0, cells := 0, slots := 0, locals := 0 } D cI cT cII base [.int v0] w res.2 (some (.int res.1)) 0 0 := by
  unfold fJ6_bitCount_0f7a4 at hF
  refine m_enter (by decide) (Nat.le_of_ble_eq_true rfl) ?_
  intro p e s m below meth c ls X hr hlk hnm hH hS hl
  have hx := X.1
  have hb := X.2.1
  have hc : (0 : Nat) ≤ ({ frames := 0, cells := 0, slots := 0, locals := 0 } : Room).cells ∧ (0 : Nat) ≤ ({ frames := 0, cells := 0, slots := 0, locals := 0 } : Room).slots := ⟨Nat.zero_le _, Nat.zero_le _⟩
  obtain ⟨H, hHe⟩ : ∃ H : Heap, H = s.heap := ⟨_, rfl⟩
  obtain ⟨locs, hle⟩ : ∃ L : List Loc, L = [] := ⟨_, rfl⟩
  have hl : lv_has ls 1 [(0, .int v0)] := hl
  rw [← hHe] at hH
  have hS : va_S (fun q => base ≤ q) s.heap H locs := by rw [hHe, hle]; exact hS
  rw [← hle]
  show W p l e _ s m _ below meth c s.heap locs 0 0 _ _
  rw [← hHe]
  refine lv_iload_n hx hb dJ6_bitCount_0f7a4_0 rfl (lv_at hl 0 rfl) ?_
  refine lv_iload_n hx hb dJ6_bitCount_0f7a4_1 rfl (lv_at hl 0 rfl) ?_
  refine lv_iconst (v := (1 : Int32)) hx hb dJ6_bitCount_0f7a4_2 (by decide) ?_
  refine lv_iushr hx hb dJ6_bitCount_0f7a4_3 rfl ?_
  refine lv_ldcw (own := RJ6) (v := (1431655765 : Int32)) hx hb X.2.2.2.1 (X.2.2.2.2.1 _ kw_822) dJ6_bitCount_0f7a4_4 ?_
  refine lv_iand hx hb dJ6_bitCount_0f7a4_7 ?_
  refine lv_isub hx hb dJ6_bitCount_0f7a4_8 ?_
  refine lv_istore_n (lv' := [(0, .int (v0 - (((Int32.toUInt32 v0 >>> (Int32.toUInt32 (1 : Int32) &&& Int32.toUInt32 31)).toInt32) &&& (1431655765 : Int32))))]) hx hb dJ6_bitCount_0f7a4_9 rfl hl (by decide) rfl (fun ls hl => ?_)
  refine lv_iload_n hx hb dJ6_bitCount_0f7a4_10 rfl (lv_at hl 0 rfl) ?_
  refine lv_ldcw (own := RJ6) (v := (858993459 : Int32)) hx hb X.2.2.2.1 (X.2.2.2.2.1 _ kw_823) dJ6_bitCount_0f7a4_11 ?_
  refine lv_iand hx hb dJ6_bitCount_0f7a4_14 ?_
  refine lv_iload_n hx hb dJ6_bitCount_0f7a4_15 rfl (lv_at hl 0 rfl) ?_
  refine lv_iconst (v := (2 : Int32)) hx hb dJ6_bitCount_0f7a4_16 (by decide) ?_
  refine lv_iushr hx hb dJ6_bitCount_0f7a4_17 rfl ?_
  refine lv_ldcw (own := RJ6) (v := (858993459 : Int32)) hx hb X.2.2.2.1 (X.2.2.2.2.1 _ kw_823) dJ6_bitCount_0f7a4_18 ?_
  refine lv_iand hx hb dJ6_bitCount_0f7a4_21 ?_
  refine lv_iadd hx hb dJ6_bitCount_0f7a4_22 ?_
  refine lv_istore_n (lv' := [(0, .int (((v0 - (((Int32.toUInt32 v0 >>> (Int32.toUInt32 (1 : Int32) &&& Int32.toUInt32 31)).toInt32) &&& (1431655765 : Int32))) &&& (858993459 : Int32)) + (((Int32.toUInt32 (v0 - (((Int32.toUInt32 v0 >>> (Int32.toUInt32 (1 : Int32) &&& Int32.toUInt32 31)).toInt32) &&& (1431655765 : Int32))) >>> (Int32.toUInt32 (2 : Int32) &&& Int32.toUInt32 31)).toInt32) &&& (858993459 : Int32))))]) hx hb dJ6_bitCount_0f7a4_23 rfl hl (by decide) rfl (fun ls hl => ?_)
  refine lv_iload_n hx hb dJ6_bitCount_0f7a4_24 rfl (lv_at hl 0 rfl) ?_
  refine lv_iload_n hx hb dJ6_bitCount_0f7a4_25 rfl (lv_at hl 0 rfl) ?_
  refine lv_iconst (v := (4 : Int32)) hx hb dJ6_bitCount_0f7a4_26 (by decide) ?_
  refine lv_iushr hx hb dJ6_bitCount_0f7a4_27 rfl ?_
  refine lv_iadd hx hb dJ6_bitCount_0f7a4_28 ?_
  refine lv_ldcw (own := RJ6) (v := (252645135 : Int32)) hx hb X.2.2.2.1 (X.2.2.2.2.1 _ kw_824) dJ6_bitCount_0f7a4_29 ?_
  refine lv_iand hx hb dJ6_bitCount_0f7a4_32 ?_
  refine lv_istore_n (lv' := [(0, .int (((((v0 - (((Int32.toUInt32 v0 >>> (Int32.toUInt32 (1 : Int32) &&& Int32.toUInt32 31)).toInt32) &&& (1431655765 : Int32))) &&& (858993459 : Int32)) + (((Int32.toUInt32 (v0 - (((Int32.toUInt32 v0 >>> (Int32.toUInt32 (1 : Int32) &&& Int32.toUInt32 31)).toInt32) &&& (1431655765 : Int32))) >>> (Int32.toUInt32 (2 : Int32) &&& Int32.toUInt32 31)).toInt32) &&& (858993459 : Int32))) + ((Int32.toUInt32 (((v0 - (((Int32.toUInt32 v0 >>> (Int32.toUInt32 (1 : Int32) &&& Int32.toUInt32 31)).toInt32) &&& (1431655765 : Int32))) &&& (858993459 : Int32)) + (((Int32.toUInt32 (v0 - (((Int32.toUInt32 v0 >>> (Int32.toUInt32 (1 : Int32) &&& Int32.toUInt32 31)).toInt32) &&& (1431655765 : Int32))) >>> (Int32.toUInt32 (2 : Int32) &&& Int32.toUInt32 31)).toInt32) &&& (858993459 : Int32))) >>> (Int32.toUInt32 (4 : Int32) &&& Int32.toUInt32 31)).toInt32)) &&& (252645135 : Int32)))]) hx hb dJ6_bitCount_0f7a4_33 rfl hl (by decide) rfl (fun ls hl => ?_)
  refine lv_iload_n hx hb dJ6_bitCount_0f7a4_34 rfl (lv_at hl 0 rfl) ?_
  refine lv_iload_n hx hb dJ6_bitCount_0f7a4_35 rfl (lv_at hl 0 rfl) ?_
  refine lv_bipush (v := (8 : Int32)) hx hb dJ6_bitCount_0f7a4_36 (by decide) ?_
  refine lv_iushr hx hb dJ6_bitCount_0f7a4_38 rfl ?_
  refine lv_iadd hx hb dJ6_bitCount_0f7a4_39 ?_
  refine lv_istore_n (lv' := [(0, .int ((((((v0 - (((Int32.toUInt32 v0 >>> (Int32.toUInt32 (1 : Int32) &&& Int32.toUInt32 31)).toInt32) &&& (1431655765 : Int32))) &&& (858993459 : Int32)) + (((Int32.toUInt32 (v0 - (((Int32.toUInt32 v0 >>> (Int32.toUInt32 (1 : Int32) &&& Int32.toUInt32 31)).toInt32) &&& (1431655765 : Int32))) >>> (Int32.toUInt32 (2 : Int32) &&& Int32.toUInt32 31)).toInt32) &&& (858993459 : Int32))) + ((Int32.toUInt32 (((v0 - (((Int32.toUInt32 v0 >>> (Int32.toUInt32 (1 : Int32) &&& Int32.toUInt32 31)).toInt32) &&& (1431655765 : Int32))) &&& (858993459 : Int32)) + (((Int32.toUInt32 (v0 - (((Int32.toUInt32 v0 >>> (Int32.toUInt32 (1 : Int32) &&& Int32.toUInt32 31)).toInt32) &&& (1431655765 : Int32))) >>> (Int32.toUInt32 (2 : Int32) &&& Int32.toUInt32 31)).toInt32) &&& (858993459 : Int32))) >>> (Int32.toUInt32 (4 : Int32) &&& Int32.toUInt32 31)).toInt32)) &&& (252645135 : Int32)) + ((Int32.toUInt32 (((((v0 - (((Int32.toUInt32 v0 >>> (Int32.toUInt32 (1 : Int32) &&& Int32.toUInt32 31)).toInt32) &&& (1431655765 : Int32))) &&& (858993459 : Int32)) + (((Int32.toUInt32 (v0 - (((Int32.toUInt32 v0 >>> (Int32.toUInt32 (1 : Int32) &&& Int32.toUInt32 31)).toInt32) &&& (1431655765 : Int32))) >>> (Int32.toUInt32 (2 : Int32) &&& Int32.toUInt32 31)).toInt32) &&& (858993459 : Int32))) + ((Int32.toUInt32 (((v0 - (((Int32.toUInt32 v0 >>> (Int32.toUInt32 (1 : Int32) &&& Int32.toUInt32 31)).toInt32) &&& (1431655765 : Int32))) &&& (858993459 : Int32)) + (((Int32.toUInt32 (v0 - (((Int32.toUInt32 v0 >>> (Int32.toUInt32 (1 : Int32) &&& Int32.toUInt32 31)).toInt32) &&& (1431655765 : Int32))) >>> (Int32.toUInt32 (2 : Int32) &&& Int32.toUInt32 31)).toInt32) &&& (858993459 : Int32))) >>> (Int32.toUInt32 (4 : Int32) &&& Int32.toUInt32 31)).toInt32)) &&& (252645135 : Int32)) >>> (Int32.toUInt32 (8 : Int32) &&& Int32.toUInt32 31)).toInt32)))]) hx hb dJ6_bitCount_0f7a4_40 rfl hl (by decide) rfl (fun ls hl => ?_)
  refine lv_iload_n hx hb dJ6_bitCount_0f7a4_41 rfl (lv_at hl 0 rfl) ?_
  refine lv_iload_n hx hb dJ6_bitCount_0f7a4_42 rfl (lv_at hl 0 rfl) ?_
  refine lv_bipush (v := (16 : Int32)) hx hb dJ6_bitCount_0f7a4_43 (by decide) ?_
  refine lv_iushr hx hb dJ6_bitCount_0f7a4_45 rfl ?_
  refine lv_iadd hx hb dJ6_bitCount_0f7a4_46 ?_
  refine lv_istore_n (lv' := [(0, .int (((((((v0 - (((Int32.toUInt32 v0 >>> (Int32.toUInt32 (1 : Int32) &&& Int32.toUInt32 31)).toInt32) &&& (1431655765 : Int32))) &&& (858993459 : Int32)) + (((Int32.toUInt32 (v0 - (((Int32.toUInt32 v0 >>> (Int32.toUInt32 (1 : Int32) &&& Int32.toUInt32 31)).toInt32) &&& (1431655765 : Int32))) >>> (Int32.toUInt32 (2 : Int32) &&& Int32.toUInt32 31)).toInt32) &&& (858993459 : Int32))) + ((Int32.toUInt32 (((v0 - (((Int32.toUInt32 v0 >>> (Int32.toUInt32 (1 : Int32) &&& Int32.toUInt32 31)).toInt32) &&& (1431655765 : Int32))) &&& (858993459 : Int32)) + (((Int32.toUInt32 (v0 - (((Int32.toUInt32 v0 >>> (Int32.toUInt32 (1 : Int32) &&& Int32.toUInt32 31)).toInt32) &&& (1431655765 : Int32))) >>> (Int32.toUInt32 (2 : Int32) &&& Int32.toUInt32 31)).toInt32) &&& (858993459 : Int32))) >>> (Int32.toUInt32 (4 : Int32) &&& Int32.toUInt32 31)).toInt32)) &&& (252645135 : Int32)) + ((Int32.toUInt32 (((((v0 - (((Int32.toUInt32 v0 >>> (Int32.toUInt32 (1 : Int32) &&& Int32.toUInt32 31)).toInt32) &&& (1431655765 : Int32))) &&& (858993459 : Int32)) + (((Int32.toUInt32 (v0 - (((Int32.toUInt32 v0 >>> (Int32.toUInt32 (1 : Int32) &&& Int32.toUInt32 31)).toInt32) &&& (1431655765 : Int32))) >>> (Int32.toUInt32 (2 : Int32) &&& Int32.toUInt32 31)).toInt32) &&& (858993459 : Int32))) + ((Int32.toUInt32 (((v0 - (((Int32.toUInt32 v0 >>> (Int32.toUInt32 (1 : Int32) &&& Int32.toUInt32 31)).toInt32) &&& (1431655765 : Int32))) &&& (858993459 : Int32)) + (((Int32.toUInt32 (v0 - (((Int32.toUInt32 v0 >>> (Int32.toUInt32 (1 : Int32) &&& Int32.toUInt32 31)).toInt32) &&& (1431655765 : Int32))) >>> (Int32.toUInt32 (2 : Int32) &&& Int32.toUInt32 31)).toInt32) &&& (858993459 : Int32))) >>> (Int32.toUInt32 (4 : Int32) &&& Int32.toUInt32 31)).toInt32)) &&& (252645135 : Int32)) >>> (Int32.toUInt32 (8 : Int32) &&& Int32.toUInt32 31)).toInt32)) + ((Int32.toUInt32 ((((((v0 - (((Int32.toUInt32 v0 >>> (Int32.toUInt32 (1 : Int32) &&& Int32.toUInt32 31)).toInt32) &&& (1431655765 : Int32))) &&& (858993459 : Int32)) + (((Int32.toUInt32 (v0 - (((Int32.toUInt32 v0 >>> (Int32.toUInt32 (1 : Int32) &&& Int32.toUInt32 31)).toInt32) &&& (1431655765 : Int32))) >>> (Int32.toUInt32 (2 : Int32) &&& Int32.toUInt32 31)).toInt32) &&& (858993459 : Int32))) + ((Int32.toUInt32 (((v0 - (((Int32.toUInt32 v0 >>> (Int32.toUInt32 (1 : Int32) &&& Int32.toUInt32 31)).toInt32) &&& (1431655765 : Int32))) &&& (858993459 : Int32)) + (((Int32.toUInt32 (v0 - (((Int32.toUInt32 v0 >>> (Int32.toUInt32 (1 : Int32) &&& Int32.toUInt32 31)).toInt32) &&& (1431655765 : Int32))) >>> (Int32.toUInt32 (2 : Int32) &&& Int32.toUInt32 31)).toInt32) &&& (858993459 : Int32))) >>> (Int32.toUInt32 (4 : Int32) &&& Int32.toUInt32 31)).toInt32)) &&& (252645135 : Int32)) + ((Int32.toUInt32 (((((v0 - (((Int32.toUInt32 v0 >>> (Int32.toUInt32 (1 : Int32) &&& Int32.toUInt32 31)).toInt32) &&& (1431655765 : Int32))) &&& (858993459 : Int32)) + (((Int32.toUInt32 (v0 - (((Int32.toUInt32 v0 >>> (Int32.toUInt32 (1 : Int32) &&& Int32.toUInt32 31)).toInt32) &&& (1431655765 : Int32))) >>> (Int32.toUInt32 (2 : Int32) &&& Int32.toUInt32 31)).toInt32) &&& (858993459 : Int32))) + ((Int32.toUInt32 (((v0 - (((Int32.toUInt32 v0 >>> (Int32.toUInt32 (1 : Int32) &&& Int32.toUInt32 31)).toInt32) &&& (1431655765 : Int32))) &&& (858993459 : Int32)) + (((Int32.toUInt32 (v0 - (((Int32.toUInt32 v0 >>> (Int32.toUInt32 (1 : Int32) &&& Int32.toUInt32 31)).toInt32) &&& (1431655765 : Int32))) >>> (Int32.toUInt32 (2 : Int32) &&& Int32.toUInt32 31)).toInt32) &&& (858993459 : Int32))) >>> (Int32.toUInt32 (4 : Int32) &&& Int32.toUInt32 31)).toInt32)) &&& (252645135 : Int32)) >>> (Int32.toUInt32 (8 : Int32) &&& Int32.toUInt32 31)).toInt32)) >>> (Int32.toUInt32 (16 : Int32) &&& Int32.toUInt32 31)).toInt32)))]) hx hb dJ6_bitCount_0f7a4_47 rfl hl (by decide) rfl (fun ls hl => ?_)
  refine lv_iload_n hx hb dJ6_bitCount_0f7a4_48 rfl (lv_at hl 0 rfl) ?_
  refine lv_bipush (v := (63 : Int32)) hx hb dJ6_bitCount_0f7a4_49 (by decide) ?_
  refine lv_iand hx hb dJ6_bitCount_0f7a4_51 ?_
  have hF := Option.some.inj hF
  subst hF
  exact m_iret X hr hlk hH hS dJ6_bitCount_0f7a4_52
noncomputable def fJ7_fill_53178_5 (p0 : Nat) (v1 : Int32) (v3 : Int32) (K_20 : Wd → Option (Unit × Wd)) : Nat → Int32 → Wd → Option (Unit × Wd)
  | 0, _, _ => none
  | n + 1, v2, w => if v3 ≤ v2 then K_20  w else (wrI p0 v2 v1 w).bind fun w_3 => fJ7_fill_53178_5 p0 v1 v3 K_20 n (v2 + (1 : Int32)) w_3
noncomputable def fJ7_fill_53178 (p0 : Nat) (v1 : Int32) (w : Wd) : Option (Unit × Wd) := (lnA 12 p0 w).bind fun x_1 => fJ7_fill_53178_5 p0 v1 x_1 (fun  (w_4 : Wd) => some ((), w_4)) FV (0 : Int32) w
set_option maxHeartbeats 4000000 in
set_option maxRecDepth 100000 in
theorem l_J7_fill_53178_5 (X : Cx p R s m args c cJ7_fill_53178 4 RJ7 D cI cT cII 0 0) (hc : cells ≤ R.cells ∧ slots ≤ R.slots) (p0 : Nat) (v1 : Int32) (v3 : Int32) (K_20 : Wd → Option (Unit × Wd)) (res : Unit × Wd)
    (hK_20 : ∀  (w : Wd), K_20  w = some res → ∀ (H : Heap) (locs : List Loc) (ls : Array Slot), Hd D cI cT cII base w H → va_S (fun q => base ≤ q) s.heap H locs → lv_has ls 4 [] → W p l e R s m args below meth c H locs cells slots Q (F0 m 20 ls [])) :
    ∀ (n : Nat) (v2 : Int32) (w : Wd), fJ7_fill_53178_5 p0 v1 v3 K_20 n v2 w = some res → ∀ (H : Heap) (locs : List Loc) (ls : Array Slot), Hd D cI cT cII base w H → va_S (fun q => base ≤ q) s.heap H locs → lv_has ls 4 [(0, .ref (base + p0)), (1, .int v1), (2, .int v2), (3, .int v3)] → W p l e R s m args below meth c H locs cells slots Q (F0 m 5 ls []) := by
  have hx := X.1
  have hb := X.2.1
  intro n
  induction n with
  | zero =>
    intro v2 w hF
    rw [fJ7_fill_53178_5] at hF
    cases hF
  | succ n ih =>
    intro v2 w hF H locs ls hH hS hl
    rw [fJ7_fill_53178_5] at hF
    refine lv_iload_n hx hb dJ7_fill_53178_5 rfl (lv_at hl 2 rfl) ?_
    refine lv_iload_n hx hb dJ7_fill_53178_6 rfl (lv_at hl 3 rfl) ?_
    refine lv_icmp_ge (tgt := 20) hx hb dJ7_fill_53178_7 (by decide) (fun c_2 => ?_) (fun c_2 => ?_)
    · replace hF := itt c_2 hF
      exact hK_20  w hF H locs ls hH hS (lv_sub hl [] rfl)
    · replace hF := itf c_2 hF
      refine lv_aload_n hx hb dJ7_fill_53178_10 rfl (lv_at hl 0 rfl) ?_
      refine lv_iload_n hx hb dJ7_fill_53178_11 rfl (lv_at hl 2 rfl) ?_
      refine lv_iload_n hx hb dJ7_fill_53178_12 rfl (lv_at hl 1 rfl) ?_
      obtain ⟨w_3, e_3, hF⟩ := bnd hF
      refine m_wrI X hH hS e_3 dJ7_fill_53178_13 (fun H locs hH hS => ?_)
      refine lv_iinc (v := v2 + (1 : Int32)) (lv' := [(2, .int (v2 + (1 : Int32))), (0, .ref (base + p0)), (1, .int v1), (3, .int v3)]) hx hb dJ7_fill_53178_14 hl (k := 2) rfl (congrArg (fun z => v2 + z) (by decide)) (by decide) rfl (fun ls hl => ?_)
      refine lv_goto (tgt := 5) hx hb dJ7_fill_53178_17 (by decide) ?_
      exact ih (v2 + (1 : Int32)) w_3 hF H locs ls hH hS (lv_sub hl [1, 2, 0, 3] rfl)
set_option maxHeartbeats 4000000 in
set_option maxRecDepth 100000 in
theorem k_J7_fill_53178 (l : Launch) (D : va_G) (cI cT cII : ClassId) (base : Nat) (p0 : Nat) (v1 : Int32) (w : Wd) (res : Unit × Wd) (hF : fJ7_fill_53178 p0 v1 w = some res) : Ct l yJ7_fill_53178 cJ7_fill_53178 4 none { frames := 0, cells := 0, slots := 0, locals := 0 } D cI cT cII base [.ref (base + p0), .int v1] w res.2 none 0 0 := by
  unfold fJ7_fill_53178 at hF
  refine m_enter (by decide) (Nat.le_of_ble_eq_true rfl) ?_
  intro p e s m below meth c ls X hr hlk hnm hH hS hl
  have hx := X.1
  have hb := X.2.1
  have hc : (0 : Nat) ≤ ({ frames := 0, cells := 0, slots := 0, locals := 0 } : Room).cells ∧ (0 : Nat) ≤ ({ frames := 0, cells := 0, slots := 0, locals := 0 } : Room).slots := ⟨Nat.zero_le _, Nat.zero_le _⟩
  obtain ⟨H, hHe⟩ : ∃ H : Heap, H = s.heap := ⟨_, rfl⟩
  obtain ⟨locs, hle⟩ : ∃ L : List Loc, L = [] := ⟨_, rfl⟩
  have hl : lv_has ls 4 [(0, .ref (base + p0)), (1, .int v1)] := hl
  rw [← hHe] at hH
  have hS : va_S (fun q => base ≤ q) s.heap H locs := by rw [hHe, hle]; exact hS
  rw [← hle]
  show W p l e _ s m _ below meth c s.heap locs 0 0 _ _
  rw [← hHe]
  refine lv_iconst (v := (0 : Int32)) hx hb dJ7_fill_53178_0 (by decide) ?_
  refine lv_istore_n (lv' := [(2, .int (0 : Int32)), (0, .ref (base + p0)), (1, .int v1)]) hx hb dJ7_fill_53178_1 rfl hl (by decide) rfl (fun ls hl => ?_)
  refine lv_aload_n hx hb dJ7_fill_53178_2 rfl (lv_at hl 1 rfl) ?_
  obtain ⟨x_1, e_1, hF⟩ := bnd hF
  refine m_lnI X hH e_1 dJ7_fill_53178_3 ?_
  refine lv_istore_n (lv' := [(3, .int x_1), (2, .int (0 : Int32)), (0, .ref (base + p0)), (1, .int v1)]) hx hb dJ7_fill_53178_4 rfl hl (by decide) rfl (fun ls hl => ?_)
  refine l_J7_fill_53178_5 X hc p0 v1 x_1 _ res ?_ FV (0 : Int32) w hF H locs ls hH hS (lv_sub hl [2, 3, 1, 0] rfl)
  · intro  w_4 hF H locs ls hH hS hl
    have hF := Option.some.inj hF
    subst hF
    exact m_vret X hr hlk hH hS dJ7_fill_53178_20
noncomputable def fX0_allWays_4 (v1 : Int32) (K_20 : Int32 → Wd → Option (Int32 × Wd)) : Nat → Int32 → Int32 → Wd → Option (Int32 × Wd)
  | 0, _, _, _ => none
  | n + 1, v2, v3, w => if v1 ≤ v3 then K_20 v2 w else fX0_allWays_4 v1 K_20 n (v2 * (10 : Int32)) (v3 + (1 : Int32)) w
noncomputable def fX0_allWays (p0 : Nat) (v1 : Int32) (w : Wd) : Option (Int32 × Wd) := fX0_allWays_4 v1 (fun (v2_3 : Int32) (w_2 : Wd) => some (v2_3, w_2)) FV (1 : Int32) (0 : Int32) w
set_option maxHeartbeats 4000000 in
set_option maxRecDepth 100000 in
theorem l_X0_allWays_4 (X : Cx p R s m args c cX0_allWays 4 RX0 D cI cT cII 0 0) (hc : cells ≤ R.cells ∧ slots ≤ R.slots) (v1 : Int32) (K_20 : Int32 → Wd → Option (Int32 × Wd)) (res : Int32 × Wd)
    (hK_20 : ∀ (z2 : Int32) (w : Wd), K_20 z2 w = some res → ∀ (H : Heap) (locs : List Loc) (ls : Array Slot), Hd D cI cT cII base w H → va_S (fun q => base ≤ q) s.heap H locs → lv_has ls 4 [(2, .int z2)] → W p l e R s m args below meth c H locs cells slots Q (F0 m 20 ls [])) :
    ∀ (n : Nat) (v2 : Int32) (v3 : Int32) (w : Wd), fX0_allWays_4 v1 K_20 n v2 v3 w = some res → ∀ (H : Heap) (locs : List Loc) (ls : Array Slot), Hd D cI cT cII base w H → va_S (fun q => base ≤ q) s.heap H locs → lv_has ls 4 [(1, .int v1), (2, .int v2), (3, .int v3)] → W p l e R s m args below meth c H locs cells slots Q (F0 m 4 ls []) := by
  have hx := X.1
  have hb := X.2.1
  intro n
  induction n with
  | zero =>
    intro v2 v3 w hF
    rw [fX0_allWays_4] at hF
    cases hF
  | succ n ih =>
    intro v2 v3 w hF H locs ls hH hS hl
    rw [fX0_allWays_4] at hF
    refine lv_iload_n hx hb dX0_allWays_4 rfl (lv_at hl 2 rfl) ?_
    refine lv_iload_n hx hb dX0_allWays_5 rfl (lv_at hl 0 rfl) ?_
    refine lv_icmp_ge (tgt := 20) hx hb dX0_allWays_6 (by decide) (fun c_1 => ?_) (fun c_1 => ?_)
    · replace hF := itt c_1 hF
      exact hK_20 v2 w hF H locs ls hH hS (lv_sub hl [1] rfl)
    · replace hF := itf c_1 hF
      refine lv_iload_n hx hb dX0_allWays_9 rfl (lv_at hl 1 rfl) ?_
      refine lv_bipush (v := (10 : Int32)) hx hb dX0_allWays_10 (by decide) ?_
      refine lv_imul hx hb dX0_allWays_12 ?_
      refine lv_istore_n (lv' := [(2, .int (v2 * (10 : Int32))), (1, .int v1), (3, .int v3)]) hx hb dX0_allWays_13 rfl hl (by decide) rfl (fun ls hl => ?_)
      refine lv_iinc (v := v3 + (1 : Int32)) (lv' := [(3, .int (v3 + (1 : Int32))), (2, .int (v2 * (10 : Int32))), (1, .int v1)]) hx hb dX0_allWays_14 hl (k := 2) rfl (congrArg (fun z => v3 + z) (by decide)) (by decide) rfl (fun ls hl => ?_)
      refine lv_goto (tgt := 4) hx hb dX0_allWays_17 (by decide) ?_
      exact ih (v2 * (10 : Int32)) (v3 + (1 : Int32)) w hF H locs ls hH hS (lv_sub hl [2, 1, 0] rfl)
set_option maxHeartbeats 4000000 in
set_option maxRecDepth 100000 in
theorem k_X0_allWays (l : Launch) (D : va_G) (cI cT cII : ClassId) (base : Nat) (p0 : Nat) (v1 : Int32) (w : Wd) (res : Int32 × Wd) (hF : fX0_allWays p0 v1 w = some res) : Ct l yX0_allWays cX0_allWays 4 (some .int) { frames := 0, cells := 0, slots := 0, locals := 0 } D cI cT cII base [.ref (base + p0), .int v1] w res.2 (some (.int res.1)) 0 0 := by
  unfold fX0_allWays at hF
  refine m_enter (by decide) (Nat.le_of_ble_eq_true rfl) ?_
  intro p e s m below meth c ls X hr hlk hnm hH hS hl
  have hx := X.1
  have hb := X.2.1
  have hc : (0 : Nat) ≤ ({ frames := 0, cells := 0, slots := 0, locals := 0 } : Room).cells ∧ (0 : Nat) ≤ ({ frames := 0, cells := 0, slots := 0, locals := 0 } : Room).slots := ⟨Nat.zero_le _, Nat.zero_le _⟩
  obtain ⟨H, hHe⟩ : ∃ H : Heap, H = s.heap := ⟨_, rfl⟩
  obtain ⟨locs, hle⟩ : ∃ L : List Loc, L = [] := ⟨_, rfl⟩
  have hl : lv_has ls 4 [(0, .ref (base + p0)), (1, .int v1)] := hl
  rw [← hHe] at hH
  have hS : va_S (fun q => base ≤ q) s.heap H locs := by rw [hHe, hle]; exact hS
  rw [← hle]
  show W p l e _ s m _ below meth c s.heap locs 0 0 _ _
  rw [← hHe]
  refine lv_iconst (v := (1 : Int32)) hx hb dX0_allWays_0 (by decide) ?_
  refine lv_istore_n (lv' := [(2, .int (1 : Int32)), (0, .ref (base + p0)), (1, .int v1)]) hx hb dX0_allWays_1 rfl hl (by decide) rfl (fun ls hl => ?_)
  refine lv_iconst (v := (0 : Int32)) hx hb dX0_allWays_2 (by decide) ?_
  refine lv_istore_n (lv' := [(3, .int (0 : Int32)), (2, .int (1 : Int32)), (0, .ref (base + p0)), (1, .int v1)]) hx hb dX0_allWays_3 rfl hl (by decide) rfl (fun ls hl => ?_)
  refine l_X0_allWays_4 X hc v1 _ res ?_ FV (1 : Int32) (0 : Int32) w hF H locs ls hH hS (lv_sub hl [3, 1, 0] rfl)
  · intro v2_3 w_2 hF H locs ls hH hS hl
    refine lv_iload_n hx hb dX0_allWays_20 rfl (lv_at hl 0 rfl) ?_
    have hF := Option.some.inj hF
    subst hF
    exact m_iret X hr hlk hH hS dX0_allWays_21
noncomputable def fX0_commonDivisor_7  (K_34 : Int32 → Wd → Option (Int32 × Wd)) : Nat → Int32 → Int32 → Int32 → Wd → Option (Int32 × Wd)
  | 0, _, _, _, _ => none
  | n + 1, v2, v3, v4, w => if (100 : Int32) ≤ v4 then K_34 v2 w else if v3 = 0 then K_34 v2 w else (rmI v2 v3).bind fun x_3 => fX0_commonDivisor_7 K_34 n v3 x_3 (v4 + (1 : Int32)) w
noncomputable def fX0_commonDivisor (v0 : Int32) (v1 : Int32) (w : Wd) : Option (Int32 × Wd) := fX0_commonDivisor_7  (fun (v2_5 : Int32) (w_4 : Wd) => some (v2_5, w_4)) FV v0 v1 (0 : Int32) w
set_option maxHeartbeats 4000000 in
set_option maxRecDepth 100000 in
theorem l_X0_commonDivisor_7 (X : Cx p R s m args c cX0_commonDivisor 6 RX0 D cI cT cII 0 0) (hc : cells ≤ R.cells ∧ slots ≤ R.slots)  (K_34 : Int32 → Wd → Option (Int32 × Wd)) (res : Int32 × Wd)
    (hK_34 : ∀ (z2 : Int32) (w : Wd), K_34 z2 w = some res → ∀ (H : Heap) (locs : List Loc) (ls : Array Slot), Hd D cI cT cII base w H → va_S (fun q => base ≤ q) s.heap H locs → lv_has ls 6 [(2, .int z2)] → W p l e R s m args below meth c H locs cells slots Q (F0 m 34 ls [])) :
    ∀ (n : Nat) (v2 : Int32) (v3 : Int32) (v4 : Int32) (w : Wd), fX0_commonDivisor_7  K_34 n v2 v3 v4 w = some res → ∀ (H : Heap) (locs : List Loc) (ls : Array Slot), Hd D cI cT cII base w H → va_S (fun q => base ≤ q) s.heap H locs → lv_has ls 6 [(2, .int v2), (3, .int v3), (4, .int v4)] → W p l e R s m args below meth c H locs cells slots Q (F0 m 7 ls []) := by
  have hx := X.1
  have hb := X.2.1
  intro n
  induction n with
  | zero =>
    intro v2 v3 v4 w hF
    rw [fX0_commonDivisor_7] at hF
    cases hF
  | succ n ih =>
    intro v2 v3 v4 w hF H locs ls hH hS hl
    rw [fX0_commonDivisor_7] at hF
    refine lv_iload hx hb dX0_commonDivisor_7 (lv_at hl 2 rfl) ?_
    refine lv_bipush (v := (100 : Int32)) hx hb dX0_commonDivisor_9 (by decide) ?_
    refine lv_icmp_ge (tgt := 34) hx hb dX0_commonDivisor_11 (by decide) (fun c_1 => ?_) (fun c_1 => ?_)
    · replace hF := itt c_1 hF
      exact hK_34 v2 w hF H locs ls hH hS (lv_sub hl [0] rfl)
    · replace hF := itf c_1 hF
      refine lv_iload_n hx hb dX0_commonDivisor_14 rfl (lv_at hl 1 rfl) ?_
      refine lv_if_eq (tgt := 34) hx hb dX0_commonDivisor_15 (by decide) (fun c_2 => ?_) (fun c_2 => ?_)
      · replace hF := itt c_2 hF
        exact hK_34 v2 w hF H locs ls hH hS (lv_sub hl [0] rfl)
      · replace hF := itf c_2 hF
        refine lv_iload_n hx hb dX0_commonDivisor_18 rfl (lv_at hl 0 rfl) ?_
        refine lv_iload_n hx hb dX0_commonDivisor_19 rfl (lv_at hl 1 rfl) ?_
        obtain ⟨x_3, e_3, hF⟩ := bnd hF
        refine m_irem X e_3 dX0_commonDivisor_20 ?_
        refine lv_istore (lv' := [(5, .int x_3), (2, .int v2), (3, .int v3), (4, .int v4)]) hx hb dX0_commonDivisor_21 hl (by decide) rfl (fun ls hl => ?_)
        refine lv_iload_n hx hb dX0_commonDivisor_23 rfl (lv_at hl 2 rfl) ?_
        refine lv_istore_n (lv' := [(2, .int v3), (5, .int x_3), (3, .int v3), (4, .int v4)]) hx hb dX0_commonDivisor_24 rfl hl (by decide) rfl (fun ls hl => ?_)
        refine lv_iload hx hb dX0_commonDivisor_25 (lv_at hl 1 rfl) ?_
        refine lv_istore_n (lv' := [(3, .int x_3), (2, .int v3), (5, .int x_3), (4, .int v4)]) hx hb dX0_commonDivisor_27 rfl hl (by decide) rfl (fun ls hl => ?_)
        refine lv_iinc (v := v4 + (1 : Int32)) (lv' := [(4, .int (v4 + (1 : Int32))), (3, .int x_3), (2, .int v3), (5, .int x_3)]) hx hb dX0_commonDivisor_28 hl (k := 3) rfl (congrArg (fun z => v4 + z) (by decide)) (by decide) rfl (fun ls hl => ?_)
        refine lv_goto (tgt := 7) hx hb dX0_commonDivisor_31 (by decide) ?_
        exact ih v3 x_3 (v4 + (1 : Int32)) w hF H locs ls hH hS (lv_sub hl [2, 1, 0] rfl)
set_option maxHeartbeats 4000000 in
set_option maxRecDepth 100000 in
theorem k_X0_commonDivisor (l : Launch) (D : va_G) (cI cT cII : ClassId) (base : Nat) (v0 : Int32) (v1 : Int32) (w : Wd) (res : Int32 × Wd) (hF : fX0_commonDivisor v0 v1 w = some res) : Ct l yX0_commonDivisor cX0_commonDivisor 6 (some .int) { frames := 0, cells := 0, slots := 0, locals := 0 } D cI cT cII base [.int v0, .int v1] w res.2 (some (.int res.1)) 0 0 := by
  unfold fX0_commonDivisor at hF
  refine m_enter (by decide) (Nat.le_of_ble_eq_true rfl) ?_
  intro p e s m below meth c ls X hr hlk hnm hH hS hl
  have hx := X.1
  have hb := X.2.1
  have hc : (0 : Nat) ≤ ({ frames := 0, cells := 0, slots := 0, locals := 0 } : Room).cells ∧ (0 : Nat) ≤ ({ frames := 0, cells := 0, slots := 0, locals := 0 } : Room).slots := ⟨Nat.zero_le _, Nat.zero_le _⟩
  obtain ⟨H, hHe⟩ : ∃ H : Heap, H = s.heap := ⟨_, rfl⟩
  obtain ⟨locs, hle⟩ : ∃ L : List Loc, L = [] := ⟨_, rfl⟩
  have hl : lv_has ls 6 [(0, .int v0), (1, .int v1)] := hl
  rw [← hHe] at hH
  have hS : va_S (fun q => base ≤ q) s.heap H locs := by rw [hHe, hle]; exact hS
  rw [← hle]
  show W p l e _ s m _ below meth c s.heap locs 0 0 _ _
  rw [← hHe]
  refine lv_iload_n hx hb dX0_commonDivisor_0 rfl (lv_at hl 0 rfl) ?_
  refine lv_istore_n (lv' := [(2, .int v0), (0, .int v0), (1, .int v1)]) hx hb dX0_commonDivisor_1 rfl hl (by decide) rfl (fun ls hl => ?_)
  refine lv_iload_n hx hb dX0_commonDivisor_2 rfl (lv_at hl 2 rfl) ?_
  refine lv_istore_n (lv' := [(3, .int v1), (2, .int v0), (0, .int v0), (1, .int v1)]) hx hb dX0_commonDivisor_3 rfl hl (by decide) rfl (fun ls hl => ?_)
  refine lv_iconst (v := (0 : Int32)) hx hb dX0_commonDivisor_4 (by decide) ?_
  refine lv_istore (lv' := [(4, .int (0 : Int32)), (3, .int v1), (2, .int v0), (0, .int v0), (1, .int v1)]) hx hb dX0_commonDivisor_5 hl (by decide) rfl (fun ls hl => ?_)
  refine l_X0_commonDivisor_7 X hc  _ res ?_ FV v0 v1 (0 : Int32) w hF H locs ls hH hS (lv_sub hl [2, 1, 0] rfl)
  · intro v2_5 w_4 hF H locs ls hH hS hl
    refine lv_iload_n hx hb dX0_commonDivisor_34 rfl (lv_at hl 0 rfl) ?_
    have hF := Option.some.inj hF
    subst hF
    exact m_iret X hr hlk hH hS dX0_commonDivisor_35
noncomputable def fX0_twist_36 (p0 : Nat) (v1 : Int32) (v2 : Int32) (v3 : Int32) (v4 : Int32) (K_94 : Wd → Option (Unit × Wd)) : Nat → Int32 → Wd → Option (Unit × Wd)
  | 0, _, _ => none
  | n + 1, v5, w => if (14 : Int32) ≤ v5 then K_94  w else (gfR 0 1 p0 w).bind fun r_9 => (gfR 0 0 p0 w).bind fun r_10 => (rdI r_10 (v5 - (1 : Int32)) w).bind fun x_11 => (gfR 0 0 p0 w).bind fun r_12 => (rdI r_12 (v5 + (1 : Int32)) w).bind fun x_13 => (gfR 0 0 p0 w).bind fun r_14 => (rdI r_14 v5 w).bind fun x_15 => (wrI r_9 v5 (((x_11 * v2) + (x_13 * v3)) + (x_15 * (((10 : Int32) - v2) - v3))) w).bind fun w_16 => fX0_twist_36 p0 v1 v2 v3 v4 K_94 n (v5 + (1 : Int32)) w_16
noncomputable def fX0_twist_27 (p0 : Nat) (v1 : Int32) (v2 : Int32) (v3 : Int32) (K_120 : Wd → Option (Unit × Wd)) : Nat → Int32 → Wd → Option (Unit × Wd)
  | 0, _, _ => none
  | n + 1, v4, w => if v1 ≤ v4 then K_120  w else fX0_twist_36 p0 v1 v2 v3 v4 (fun  (w_17 : Wd) => (gfR 0 0 p0 w_17).bind fun r_18 => (gfR 0 1 p0 w_17).bind fun r_19 => (pfR 0 0 p0 r_19 w_17).bind fun w_20 => (pfR 0 1 p0 r_18 w_20).bind fun w_21 => fX0_twist_27 p0 v1 v2 v3 K_120 n (v4 + (1 : Int32)) w_21) FV (1 : Int32) w
noncomputable def fX0_twist (p0 : Nat) (v1 : Int32) (v2 : Int32) (v3 : Int32) (w : Wd) : Option (Unit × Wd) := (gfR 0 0 p0 w).bind fun r_1 => (fJ7_fill_53178 r_1 (0 : Int32) w).bind fun q_2 => (gfR 0 1 p0 q_2.2).bind fun r_3 => (fJ7_fill_53178 r_3 (0 : Int32) q_2.2).bind fun q_4 => (gfR 0 0 p0 q_4.2).bind fun r_5 => (wrI r_5 (7 : Int32) (1 : Int32) q_4.2).bind fun w_6 => fX0_twist_27 p0 v1 v2 v3 (fun  (w_22 : Wd) => some ((), w_22)) FV (0 : Int32) w_6
set_option maxHeartbeats 4000000 in
set_option maxRecDepth 100000 in
theorem l_X0_twist_36 (X : Cx p R s m args c cX0_twist 6 RX0 D cI cT cII 1 23) (hc : cells ≤ R.cells ∧ slots ≤ R.slots) (p0 : Nat) (v1 : Int32) (v2 : Int32) (v3 : Int32) (v4 : Int32) (K_94 : Wd → Option (Unit × Wd)) (res : Unit × Wd)
    (hK_94 : ∀  (w : Wd), K_94  w = some res → ∀ (H : Heap) (locs : List Loc) (ls : Array Slot), Hd D cI cT cII base w H → va_S (fun q => base ≤ q) s.heap H locs → lv_has ls 6 [(0, .ref (base + p0)), (1, .int v1), (2, .int v2), (3, .int v3), (4, .int v4)] → W p l e R s m args below meth c H locs cells slots Q (F0 m 94 ls [])) :
    ∀ (n : Nat) (v5 : Int32) (w : Wd), fX0_twist_36 p0 v1 v2 v3 v4 K_94 n v5 w = some res → ∀ (H : Heap) (locs : List Loc) (ls : Array Slot), Hd D cI cT cII base w H → va_S (fun q => base ≤ q) s.heap H locs → lv_has ls 6 [(0, .ref (base + p0)), (1, .int v1), (2, .int v2), (3, .int v3), (4, .int v4), (5, .int v5)] → W p l e R s m args below meth c H locs cells slots Q (F0 m 36 ls []) := by
  have hx := X.1
  have hb := X.2.1
  intro n
  induction n with
  | zero =>
    intro v5 w hF
    rw [fX0_twist_36] at hF
    cases hF
  | succ n ih =>
    intro v5 w hF H locs ls hH hS hl
    rw [fX0_twist_36] at hF
    refine lv_iload hx hb dX0_twist_36 (lv_at hl 5 rfl) ?_
    refine lv_bipush (v := (14 : Int32)) hx hb dX0_twist_38 (by decide) ?_
    refine lv_icmp_ge (tgt := 94) hx hb dX0_twist_40 (by decide) (fun c_8 => ?_) (fun c_8 => ?_)
    · replace hF := itt c_8 hF
      exact hK_94  w hF H locs ls hH hS (lv_sub hl [0, 1, 2, 3, 4] rfl)
    · replace hF := itf c_8 hF
      refine lv_aload_n hx hb dX0_twist_43 rfl (lv_at hl 0 rfl) ?_
      obtain ⟨r_9, e_9, hF⟩ := bnd hF
      refine m_gR X hH e_9 gg_X0_15 dX0_twist_44 ?_
      refine lv_iload hx hb dX0_twist_47 (lv_at hl 5 rfl) ?_
      refine lv_aload_n hx hb dX0_twist_49 rfl (lv_at hl 0 rfl) ?_
      obtain ⟨r_10, e_10, hF⟩ := bnd hF
      refine m_gR X hH e_10 gg_X0_11 dX0_twist_50 ?_
      refine lv_iload hx hb dX0_twist_53 (lv_at hl 5 rfl) ?_
      refine lv_iconst (v := (1 : Int32)) hx hb dX0_twist_55 (by decide) ?_
      refine lv_isub hx hb dX0_twist_56 ?_
      obtain ⟨x_11, e_11, hF⟩ := bnd hF
      refine m_rdI X hH e_11 dX0_twist_57 ?_
      refine lv_iload_n hx hb dX0_twist_58 rfl (lv_at hl 2 rfl) ?_
      refine lv_imul hx hb dX0_twist_59 ?_
      refine lv_aload_n hx hb dX0_twist_60 rfl (lv_at hl 0 rfl) ?_
      obtain ⟨r_12, e_12, hF⟩ := bnd hF
      refine m_gR X hH e_12 gg_X0_11 dX0_twist_61 ?_
      refine lv_iload hx hb dX0_twist_64 (lv_at hl 5 rfl) ?_
      refine lv_iconst (v := (1 : Int32)) hx hb dX0_twist_66 (by decide) ?_
      refine lv_iadd hx hb dX0_twist_67 ?_
      obtain ⟨x_13, e_13, hF⟩ := bnd hF
      refine m_rdI X hH e_13 dX0_twist_68 ?_
      refine lv_iload_n hx hb dX0_twist_69 rfl (lv_at hl 3 rfl) ?_
      refine lv_imul hx hb dX0_twist_70 ?_
      refine lv_iadd hx hb dX0_twist_71 ?_
      refine lv_aload_n hx hb dX0_twist_72 rfl (lv_at hl 0 rfl) ?_
      obtain ⟨r_14, e_14, hF⟩ := bnd hF
      refine m_gR X hH e_14 gg_X0_11 dX0_twist_73 ?_
      refine lv_iload hx hb dX0_twist_76 (lv_at hl 5 rfl) ?_
      obtain ⟨x_15, e_15, hF⟩ := bnd hF
      refine m_rdI X hH e_15 dX0_twist_78 ?_
      refine lv_bipush (v := (10 : Int32)) hx hb dX0_twist_79 (by decide) ?_
      refine lv_iload_n hx hb dX0_twist_81 rfl (lv_at hl 2 rfl) ?_
      refine lv_isub hx hb dX0_twist_82 ?_
      refine lv_iload_n hx hb dX0_twist_83 rfl (lv_at hl 3 rfl) ?_
      refine lv_isub hx hb dX0_twist_84 ?_
      refine lv_imul hx hb dX0_twist_85 ?_
      refine lv_iadd hx hb dX0_twist_86 ?_
      obtain ⟨w_16, e_16, hF⟩ := bnd hF
      refine m_wrI X hH hS e_16 dX0_twist_87 (fun H locs hH hS => ?_)
      refine lv_iinc (v := v5 + (1 : Int32)) (lv' := [(5, .int (v5 + (1 : Int32))), (0, .ref (base + p0)), (1, .int v1), (2, .int v2), (3, .int v3), (4, .int v4)]) hx hb dX0_twist_88 hl (k := 5) rfl (congrArg (fun z => v5 + z) (by decide)) (by decide) rfl (fun ls hl => ?_)
      refine lv_goto (tgt := 36) hx hb dX0_twist_91 (by decide) ?_
      exact ih (v5 + (1 : Int32)) w_16 hF H locs ls hH hS (lv_sub hl [1, 2, 3, 4, 5, 0] rfl)
set_option maxHeartbeats 4000000 in
set_option maxRecDepth 100000 in
theorem l_X0_twist_27 (X : Cx p R s m args c cX0_twist 6 RX0 D cI cT cII 1 23) (hc : cells ≤ R.cells ∧ slots ≤ R.slots) (p0 : Nat) (v1 : Int32) (v2 : Int32) (v3 : Int32) (K_120 : Wd → Option (Unit × Wd)) (res : Unit × Wd)
    (hK_120 : ∀  (w : Wd), K_120  w = some res → ∀ (H : Heap) (locs : List Loc) (ls : Array Slot), Hd D cI cT cII base w H → va_S (fun q => base ≤ q) s.heap H locs → lv_has ls 6 [] → W p l e R s m args below meth c H locs cells slots Q (F0 m 120 ls [])) :
    ∀ (n : Nat) (v4 : Int32) (w : Wd), fX0_twist_27 p0 v1 v2 v3 K_120 n v4 w = some res → ∀ (H : Heap) (locs : List Loc) (ls : Array Slot), Hd D cI cT cII base w H → va_S (fun q => base ≤ q) s.heap H locs → lv_has ls 6 [(0, .ref (base + p0)), (1, .int v1), (2, .int v2), (3, .int v3), (4, .int v4)] → W p l e R s m args below meth c H locs cells slots Q (F0 m 27 ls []) := by
  have hx := X.1
  have hb := X.2.1
  intro n
  induction n with
  | zero =>
    intro v4 w hF
    rw [fX0_twist_27] at hF
    cases hF
  | succ n ih =>
    intro v4 w hF H locs ls hH hS hl
    rw [fX0_twist_27] at hF
    refine lv_iload hx hb dX0_twist_27 (lv_at hl 4 rfl) ?_
    refine lv_iload_n hx hb dX0_twist_29 rfl (lv_at hl 1 rfl) ?_
    refine lv_icmp_ge (tgt := 120) hx hb dX0_twist_30 (by decide) (fun c_7 => ?_) (fun c_7 => ?_)
    · replace hF := itt c_7 hF
      exact hK_120  w hF H locs ls hH hS (lv_sub hl [] rfl)
    · replace hF := itf c_7 hF
      refine lv_iconst (v := (1 : Int32)) hx hb dX0_twist_33 (by decide) ?_
      refine lv_istore (lv' := [(5, .int (1 : Int32)), (0, .ref (base + p0)), (1, .int v1), (2, .int v2), (3, .int v3), (4, .int v4)]) hx hb dX0_twist_34 hl (by decide) rfl (fun ls hl => ?_)
      refine l_X0_twist_36 X hc p0 v1 v2 v3 v4 _ res ?_ FV (1 : Int32) w hF H locs ls hH hS (lv_sub hl [1, 2, 3, 4, 5, 0] rfl)
      · intro  w_17 hF H locs ls hH hS hl
        refine lv_aload_n hx hb dX0_twist_94 rfl (lv_at hl 0 rfl) ?_
        obtain ⟨r_18, e_18, hF⟩ := bnd hF
        refine m_gR X hH e_18 gg_X0_11 dX0_twist_95 ?_
        refine lv_astore (lv' := [(5, .ref (base + r_18)), (0, .ref (base + p0)), (1, .int v1), (2, .int v2), (3, .int v3), (4, .int v4)]) hx hb dX0_twist_98 hl (by decide) rfl (fun ls hl => ?_)
        refine lv_aload_n hx hb dX0_twist_100 rfl (lv_at hl 1 rfl) ?_
        refine lv_aload_n hx hb dX0_twist_101 rfl (lv_at hl 1 rfl) ?_
        obtain ⟨r_19, e_19, hF⟩ := bnd hF
        refine m_gR X hH e_19 gg_X0_15 dX0_twist_102 ?_
        obtain ⟨w_20, e_20, hF⟩ := bnd hF
        refine m_pR X hH hS e_20 gp_X0_11 rfl rfl dX0_twist_105 (fun H locs hH hS => ?_)
        refine lv_aload_n hx hb dX0_twist_108 rfl (lv_at hl 1 rfl) ?_
        refine lv_aload hx hb dX0_twist_109 (lv_at hl 0 rfl) ?_
        obtain ⟨w_21, e_21, hF⟩ := bnd hF
        refine m_pR X hH hS e_21 gp_X0_15 rfl rfl dX0_twist_111 (fun H locs hH hS => ?_)
        refine lv_iinc (v := v4 + (1 : Int32)) (lv' := [(4, .int (v4 + (1 : Int32))), (5, .ref (base + r_18)), (0, .ref (base + p0)), (1, .int v1), (2, .int v2), (3, .int v3)]) hx hb dX0_twist_114 hl (k := 5) rfl (congrArg (fun z => v4 + z) (by decide)) (by decide) rfl (fun ls hl => ?_)
        refine lv_goto (tgt := 27) hx hb dX0_twist_117 (by decide) ?_
        exact ih (v4 + (1 : Int32)) w_21 hF H locs ls hH hS (lv_sub hl [2, 3, 4, 5, 0] rfl)
set_option maxHeartbeats 4000000 in
set_option maxRecDepth 100000 in
theorem k_X0_twist (l : Launch) (D : va_G) (cI cT cII : ClassId) (base : Nat) (p0 : Nat) (v1 : Int32) (v2 : Int32) (v3 : Int32) (w : Wd) (res : Unit × Wd) (hF : fX0_twist p0 v1 v2 v3 w = some res) : Ct l yX0_twist cX0_twist 6 none { frames := 1, cells := 0, slots := 0, locals := 23 } D cI cT cII base [.ref (base + p0), .int v1, .int v2, .int v3] w res.2 none 0 0 := by
  unfold fX0_twist at hF
  refine m_enter (by decide) (Nat.le_of_ble_eq_true rfl) ?_
  intro p e s m below meth c ls X hr hlk hnm hH hS hl
  have hx := X.1
  have hb := X.2.1
  have hc : (0 : Nat) ≤ ({ frames := 1, cells := 0, slots := 0, locals := 23 } : Room).cells ∧ (0 : Nat) ≤ ({ frames := 1, cells := 0, slots := 0, locals := 23 } : Room).slots := ⟨Nat.zero_le _, Nat.zero_le _⟩
  obtain ⟨H, hHe⟩ : ∃ H : Heap, H = s.heap := ⟨_, rfl⟩
  obtain ⟨locs, hle⟩ : ∃ L : List Loc, L = [] := ⟨_, rfl⟩
  have hl : lv_has ls 6 [(0, .ref (base + p0)), (1, .int v1), (2, .int v2), (3, .int v3)] := hl
  rw [← hHe] at hH
  have hS : va_S (fun q => base ≤ q) s.heap H locs := by rw [hHe, hle]; exact hS
  rw [← hle]
  show W p l e _ s m _ below meth c s.heap locs 0 0 _ _
  rw [← hHe]
  refine lv_aload_n hx hb dX0_twist_0 rfl (lv_at hl 0 rfl) ?_
  obtain ⟨r_1, e_1, hF⟩ := bnd hF
  refine m_gR X hH e_1 gg_X0_11 dX0_twist_1 ?_
  refine lv_iconst (v := (0 : Int32)) hx hb dX0_twist_4 (by decide) ?_
  obtain ⟨q_2, e_2, hF⟩ := bnd hF
  refine m_callS (As := [.ref (base + r_1), .int (0 : Int32)]) (rest := []) X hH hS hl.1 (k_J7_fill_53178 l D cI cT cII base r_1 (0 : Int32) w q_2 e_2) q_J7_fill_53178 kw_772 kw_552 rfl rfl (Nat.le_of_ble_eq_true rfl) ⟨by decide, by decide⟩ hc dX0_twist_5 (fun H locs hH hS => W.eq (g2 := F0 m 8 ls []) rfl ?_)
  refine lv_aload_n hx hb dX0_twist_8 rfl (lv_at hl 0 rfl) ?_
  obtain ⟨r_3, e_3, hF⟩ := bnd hF
  refine m_gR X hH e_3 gg_X0_15 dX0_twist_9 ?_
  refine lv_iconst (v := (0 : Int32)) hx hb dX0_twist_12 (by decide) ?_
  obtain ⟨q_4, e_4, hF⟩ := bnd hF
  refine m_callS (As := [.ref (base + r_3), .int (0 : Int32)]) (rest := []) X hH hS hl.1 (k_J7_fill_53178 l D cI cT cII base r_3 (0 : Int32) q_2.2 q_4 e_4) q_J7_fill_53178 kw_772 kw_552 rfl rfl (Nat.le_of_ble_eq_true rfl) ⟨by decide, by decide⟩ hc dX0_twist_13 (fun H locs hH hS => W.eq (g2 := F0 m 16 ls []) rfl ?_)
  refine lv_aload_n hx hb dX0_twist_16 rfl (lv_at hl 0 rfl) ?_
  obtain ⟨r_5, e_5, hF⟩ := bnd hF
  refine m_gR X hH e_5 gg_X0_11 dX0_twist_17 ?_
  refine lv_bipush (v := (7 : Int32)) hx hb dX0_twist_20 (by decide) ?_
  refine lv_iconst (v := (1 : Int32)) hx hb dX0_twist_22 (by decide) ?_
  obtain ⟨w_6, e_6, hF⟩ := bnd hF
  refine m_wrI X hH hS e_6 dX0_twist_23 (fun H locs hH hS => ?_)
  refine lv_iconst (v := (0 : Int32)) hx hb dX0_twist_24 (by decide) ?_
  refine lv_istore (lv' := [(4, .int (0 : Int32)), (0, .ref (base + p0)), (1, .int v1), (2, .int v2), (3, .int v3)]) hx hb dX0_twist_25 hl (by decide) rfl (fun ls hl => ?_)
  refine l_X0_twist_27 X hc p0 v1 v2 v3 _ res ?_ FV (0 : Int32) w_6 hF H locs ls hH hS (lv_sub hl [1, 2, 3, 4, 0] rfl)
  · intro  w_22 hF H locs ls hH hS hl
    have hF := Option.some.inj hF
    subst hF
    exact m_vret X hr hlk hH hS dX0_twist_120
noncomputable def fX0_waysWithin_6 (p0 : Nat) (v1 : Int32) (v2 : Int32) (K_43 : Int32 → Wd → Option (Int32 × Wd)) : Nat → Int32 → Int32 → Wd → Option (Int32 × Wd)
  | 0, _, _, _ => none
  | n + 1, v3, v4, w => if (6 : Int32) < v4 then K_43 v3 w else if v2 < (iabs (v1 + v4)) then fX0_waysWithin_6 p0 v1 v2 K_43 n v3 (v4 + (1 : Int32)) w else (gfR 0 0 p0 w).bind fun r_3 => (rdI r_3 ((7 : Int32) + v4) w).bind fun x_4 => fX0_waysWithin_6 p0 v1 v2 K_43 n (v3 + x_4) (v4 + (1 : Int32)) w
noncomputable def fX0_waysWithin (p0 : Nat) (v1 : Int32) (v2 : Int32) (w : Wd) : Option (Int32 × Wd) := fX0_waysWithin_6 p0 v1 v2 (fun (v3_6 : Int32) (w_5 : Wd) => some (v3_6, w_5)) FV (0 : Int32) (-6 : Int32) w
set_option maxHeartbeats 4000000 in
set_option maxRecDepth 100000 in
theorem l_X0_waysWithin_6 (X : Cx p R s m args c cX0_waysWithin 5 RX0 D cI cT cII 1 21) (hc : cells ≤ R.cells ∧ slots ≤ R.slots) (p0 : Nat) (v1 : Int32) (v2 : Int32) (K_43 : Int32 → Wd → Option (Int32 × Wd)) (res : Int32 × Wd)
    (hK_43 : ∀ (z3 : Int32) (w : Wd), K_43 z3 w = some res → ∀ (H : Heap) (locs : List Loc) (ls : Array Slot), Hd D cI cT cII base w H → va_S (fun q => base ≤ q) s.heap H locs → lv_has ls 5 [(3, .int z3)] → W p l e R s m args below meth c H locs cells slots Q (F0 m 43 ls [])) :
    ∀ (n : Nat) (v3 : Int32) (v4 : Int32) (w : Wd), fX0_waysWithin_6 p0 v1 v2 K_43 n v3 v4 w = some res → ∀ (H : Heap) (locs : List Loc) (ls : Array Slot), Hd D cI cT cII base w H → va_S (fun q => base ≤ q) s.heap H locs → lv_has ls 5 [(0, .ref (base + p0)), (1, .int v1), (2, .int v2), (3, .int v3), (4, .int v4)] → W p l e R s m args below meth c H locs cells slots Q (F0 m 6 ls []) := by
  have hx := X.1
  have hb := X.2.1
  intro n
  induction n with
  | zero =>
    intro v3 v4 w hF
    rw [fX0_waysWithin_6] at hF
    cases hF
  | succ n ih =>
    intro v3 v4 w hF H locs ls hH hS hl
    rw [fX0_waysWithin_6] at hF
    refine lv_iload hx hb dX0_waysWithin_6 (lv_at hl 4 rfl) ?_
    refine lv_bipush (v := (6 : Int32)) hx hb dX0_waysWithin_8 (by decide) ?_
    refine lv_icmp_gt (tgt := 43) hx hb dX0_waysWithin_10 (by decide) (fun c_1 => ?_) (fun c_1 => ?_)
    · replace hF := itt c_1 hF
      exact hK_43 v3 w hF H locs ls hH hS (lv_sub hl [3] rfl)
    · replace hF := itf c_1 hF
      refine lv_iload_n hx hb dX0_waysWithin_13 rfl (lv_at hl 1 rfl) ?_
      refine lv_iload hx hb dX0_waysWithin_14 (lv_at hl 4 rfl) ?_
      refine lv_iadd hx hb dX0_waysWithin_16 ?_
      refine m_mabs X hl.1 kw_777 (by decide) (Nat.le_of_ble_eq_true rfl) hc dX0_waysWithin_17 ?_
      refine lv_iload_n hx hb dX0_waysWithin_20 rfl (lv_at hl 2 rfl) ?_
      refine lv_icmp_gt (tgt := 37) hx hb dX0_waysWithin_21 (by decide) (fun c_2 => ?_) (fun c_2 => ?_)
      · replace hF := itt c_2 hF
        refine lv_iinc (v := v4 + (1 : Int32)) (lv' := [(4, .int (v4 + (1 : Int32))), (0, .ref (base + p0)), (1, .int v1), (2, .int v2), (3, .int v3)]) hx hb dX0_waysWithin_37 hl (k := 4) rfl (congrArg (fun z => v4 + z) (by decide)) (by decide) rfl (fun ls hl => ?_)
        refine lv_goto (tgt := 6) hx hb dX0_waysWithin_40 (by decide) ?_
        exact ih v3 (v4 + (1 : Int32)) w hF H locs ls hH hS (lv_sub hl [1, 2, 3, 4, 0] rfl)
      · replace hF := itf c_2 hF
        refine lv_iload_n hx hb dX0_waysWithin_24 rfl (lv_at hl 3 rfl) ?_
        refine lv_aload_n hx hb dX0_waysWithin_25 rfl (lv_at hl 0 rfl) ?_
        obtain ⟨r_3, e_3, hF⟩ := bnd hF
        refine m_gR X hH e_3 gg_X0_11 dX0_waysWithin_26 ?_
        refine lv_bipush (v := (7 : Int32)) hx hb dX0_waysWithin_29 (by decide) ?_
        refine lv_iload hx hb dX0_waysWithin_31 (lv_at hl 4 rfl) ?_
        refine lv_iadd hx hb dX0_waysWithin_33 ?_
        obtain ⟨x_4, e_4, hF⟩ := bnd hF
        refine m_rdI X hH e_4 dX0_waysWithin_34 ?_
        refine lv_iadd hx hb dX0_waysWithin_35 ?_
        refine lv_istore_n (lv' := [(3, .int (v3 + x_4)), (0, .ref (base + p0)), (1, .int v1), (2, .int v2), (4, .int v4)]) hx hb dX0_waysWithin_36 rfl hl (by decide) rfl (fun ls hl => ?_)
        refine lv_iinc (v := v4 + (1 : Int32)) (lv' := [(4, .int (v4 + (1 : Int32))), (3, .int (v3 + x_4)), (0, .ref (base + p0)), (1, .int v1), (2, .int v2)]) hx hb dX0_waysWithin_37 hl (k := 4) rfl (congrArg (fun z => v4 + z) (by decide)) (by decide) rfl (fun ls hl => ?_)
        refine lv_goto (tgt := 6) hx hb dX0_waysWithin_40 (by decide) ?_
        exact ih (v3 + x_4) (v4 + (1 : Int32)) w hF H locs ls hH hS (lv_sub hl [2, 3, 4, 1, 0] rfl)
set_option maxHeartbeats 4000000 in
set_option maxRecDepth 100000 in
theorem k_X0_waysWithin (l : Launch) (D : va_G) (cI cT cII : ClassId) (base : Nat) (p0 : Nat) (v1 : Int32) (v2 : Int32) (w : Wd) (res : Int32 × Wd) (hF : fX0_waysWithin p0 v1 v2 w = some res) : Ct l yX0_waysWithin cX0_waysWithin 5 (some .int) { frames := 1, cells := 0, slots := 0, locals := 21 } D cI cT cII base [.ref (base + p0), .int v1, .int v2] w res.2 (some (.int res.1)) 0 0 := by
  unfold fX0_waysWithin at hF
  refine m_enter (by decide) (Nat.le_of_ble_eq_true rfl) ?_
  intro p e s m below meth c ls X hr hlk hnm hH hS hl
  have hx := X.1
  have hb := X.2.1
  have hc : (0 : Nat) ≤ ({ frames := 1, cells := 0, slots := 0, locals := 21 } : Room).cells ∧ (0 : Nat) ≤ ({ frames := 1, cells := 0, slots := 0, locals := 21 } : Room).slots := ⟨Nat.zero_le _, Nat.zero_le _⟩
  obtain ⟨H, hHe⟩ : ∃ H : Heap, H = s.heap := ⟨_, rfl⟩
  obtain ⟨locs, hle⟩ : ∃ L : List Loc, L = [] := ⟨_, rfl⟩
  have hl : lv_has ls 5 [(0, .ref (base + p0)), (1, .int v1), (2, .int v2)] := hl
  rw [← hHe] at hH
  have hS : va_S (fun q => base ≤ q) s.heap H locs := by rw [hHe, hle]; exact hS
  rw [← hle]
  show W p l e _ s m _ below meth c s.heap locs 0 0 _ _
  rw [← hHe]
  refine lv_iconst (v := (0 : Int32)) hx hb dX0_waysWithin_0 (by decide) ?_
  refine lv_istore_n (lv' := [(3, .int (0 : Int32)), (0, .ref (base + p0)), (1, .int v1), (2, .int v2)]) hx hb dX0_waysWithin_1 rfl hl (by decide) rfl (fun ls hl => ?_)
  refine lv_bipush (v := (-6 : Int32)) hx hb dX0_waysWithin_2 (by decide) ?_
  refine lv_istore (lv' := [(4, .int (-6 : Int32)), (3, .int (0 : Int32)), (0, .ref (base + p0)), (1, .int v1), (2, .int v2)]) hx hb dX0_waysWithin_4 hl (by decide) rfl (fun ls hl => ?_)
  refine l_X0_waysWithin_6 X hc p0 v1 v2 _ res ?_ FV (0 : Int32) (-6 : Int32) w hF H locs ls hH hS (lv_sub hl [2, 3, 4, 1, 0] rfl)
  · intro v3_6 w_5 hF H locs ls hH hS hl
    refine lv_iload_n hx hb dX0_waysWithin_43 rfl (lv_at hl 0 rfl) ?_
    have hF := Option.some.inj hF
    subst hF
    exact m_iret X hr hlk hH hS dX0_waysWithin_44
noncomputable def fX10_add (p0 : Nat) (v1 : Int32) (v2 : Int32) (v3 : Int32) (w : Wd) : Option (Unit × Wd) := (gfI 9 3 p0 w).bind fun x_1 => if (8 : Int32) ≤ x_1 then some ((), w) else (gfR 9 0 p0 w).bind fun r_3 => (gfI 9 3 p0 w).bind fun x_4 => (wrI r_3 x_4 v1 w).bind fun w_5 => (gfR 9 1 p0 w_5).bind fun r_6 => (gfI 9 3 p0 w_5).bind fun x_7 => (wrI r_6 x_7 v2 w_5).bind fun w_8 => (gfR 9 2 p0 w_8).bind fun r_9 => (gfI 9 3 p0 w_8).bind fun x_10 => (wrI r_9 x_10 v3 w_8).bind fun w_11 => (gfI 9 3 p0 w_11).bind fun x_12 => (pfI 9 3 p0 (x_12 + (1 : Int32)) w_11).bind fun w_13 => some ((), w_13)
set_option maxHeartbeats 4000000 in
set_option maxRecDepth 100000 in
theorem k_X10_add (l : Launch) (D : va_G) (cI cT cII : ClassId) (base : Nat) (p0 : Nat) (v1 : Int32) (v2 : Int32) (v3 : Int32) (w : Wd) (res : Unit × Wd) (hF : fX10_add p0 v1 v2 v3 w = some res) : Ct l yX10_add cX10_add 4 none { frames := 0, cells := 0, slots := 0, locals := 0 } D cI cT cII base [.ref (base + p0), .int v1, .int v2, .int v3] w res.2 none 0 0 := by
  unfold fX10_add at hF
  refine m_enter (by decide) (Nat.le_of_ble_eq_true rfl) ?_
  intro p e s m below meth c ls X hr hlk hnm hH hS hl
  have hx := X.1
  have hb := X.2.1
  have hc : (0 : Nat) ≤ ({ frames := 0, cells := 0, slots := 0, locals := 0 } : Room).cells ∧ (0 : Nat) ≤ ({ frames := 0, cells := 0, slots := 0, locals := 0 } : Room).slots := ⟨Nat.zero_le _, Nat.zero_le _⟩
  obtain ⟨H, hHe⟩ : ∃ H : Heap, H = s.heap := ⟨_, rfl⟩
  obtain ⟨locs, hle⟩ : ∃ L : List Loc, L = [] := ⟨_, rfl⟩
  have hl : lv_has ls 4 [(0, .ref (base + p0)), (1, .int v1), (2, .int v2), (3, .int v3)] := hl
  rw [← hHe] at hH
  have hS : va_S (fun q => base ≤ q) s.heap H locs := by rw [hHe, hle]; exact hS
  rw [← hle]
  show W p l e _ s m _ below meth c s.heap locs 0 0 _ _
  rw [← hHe]
  refine lv_aload_n hx hb dX10_add_0 rfl (lv_at hl 0 rfl) ?_
  obtain ⟨x_1, e_1, hF⟩ := bnd hF
  refine m_gI X hH e_1 gg_X10_21 dX10_add_1 ?_
  refine lv_bipush (v := (8 : Int32)) hx hb dX10_add_4 (by decide) ?_
  refine lv_icmp_ge (tgt := 49) hx hb dX10_add_6 (by decide) (fun c_2 => ?_) (fun c_2 => ?_)
  · replace hF := itt c_2 hF
    have hF := Option.some.inj hF
    subst hF
    exact m_vret X hr hlk hH hS dX10_add_49
  · replace hF := itf c_2 hF
    refine lv_aload_n hx hb dX10_add_9 rfl (lv_at hl 0 rfl) ?_
    obtain ⟨r_3, e_3, hF⟩ := bnd hF
    refine m_gR X hH e_3 gg_X10_9 dX10_add_10 ?_
    refine lv_aload_n hx hb dX10_add_13 rfl (lv_at hl 0 rfl) ?_
    obtain ⟨x_4, e_4, hF⟩ := bnd hF
    refine m_gI X hH e_4 gg_X10_21 dX10_add_14 ?_
    refine lv_iload_n hx hb dX10_add_17 rfl (lv_at hl 1 rfl) ?_
    obtain ⟨w_5, e_5, hF⟩ := bnd hF
    refine m_wrI X hH hS e_5 dX10_add_18 (fun H locs hH hS => ?_)
    refine lv_aload_n hx hb dX10_add_19 rfl (lv_at hl 0 rfl) ?_
    obtain ⟨r_6, e_6, hF⟩ := bnd hF
    refine m_gR X hH e_6 gg_X10_15 dX10_add_20 ?_
    refine lv_aload_n hx hb dX10_add_23 rfl (lv_at hl 0 rfl) ?_
    obtain ⟨x_7, e_7, hF⟩ := bnd hF
    refine m_gI X hH e_7 gg_X10_21 dX10_add_24 ?_
    refine lv_iload_n hx hb dX10_add_27 rfl (lv_at hl 2 rfl) ?_
    obtain ⟨w_8, e_8, hF⟩ := bnd hF
    refine m_wrI X hH hS e_8 dX10_add_28 (fun H locs hH hS => ?_)
    refine lv_aload_n hx hb dX10_add_29 rfl (lv_at hl 0 rfl) ?_
    obtain ⟨r_9, e_9, hF⟩ := bnd hF
    refine m_gR X hH e_9 gg_X10_18 dX10_add_30 ?_
    refine lv_aload_n hx hb dX10_add_33 rfl (lv_at hl 0 rfl) ?_
    obtain ⟨x_10, e_10, hF⟩ := bnd hF
    refine m_gI X hH e_10 gg_X10_21 dX10_add_34 ?_
    refine lv_iload_n hx hb dX10_add_37 rfl (lv_at hl 3 rfl) ?_
    obtain ⟨w_11, e_11, hF⟩ := bnd hF
    refine m_wrI X hH hS e_11 dX10_add_38 (fun H locs hH hS => ?_)
    refine lv_aload_n hx hb dX10_add_39 rfl (lv_at hl 0 rfl) ?_
    refine lv_dup hx hb dX10_add_40 rfl ?_
    obtain ⟨x_12, e_12, hF⟩ := bnd hF
    refine m_gI X hH e_12 gg_X10_21 dX10_add_41 ?_
    refine lv_iconst (v := (1 : Int32)) hx hb dX10_add_44 (by decide) ?_
    refine lv_iadd hx hb dX10_add_45 ?_
    obtain ⟨w_13, e_13, hF⟩ := bnd hF
    refine m_pI X hH hS e_13 gp_X10_21 rfl rfl dX10_add_46 (fun H locs hH hS => ?_)
    have hF := Option.some.inj hF
    subst hF
    exact m_vret X hr hlk hH hS dX10_add_49
noncomputable def fX10_copy_7 (p0 : Nat) (p1 : Nat) (K_43 : Wd → Option (Unit × Wd)) : Nat → Int32 → Wd → Option (Unit × Wd)
  | 0, _, _ => none
  | n + 1, v2, w => (gfI 9 3 p1 w).bind fun x_2 => if x_2 ≤ v2 then K_43  w else (gfR 9 0 p1 w).bind fun r_4 => (rdI r_4 v2 w).bind fun x_5 => (gfR 9 1 p1 w).bind fun r_6 => (rdI r_6 v2 w).bind fun x_7 => (gfR 9 2 p1 w).bind fun r_8 => (rdI r_8 v2 w).bind fun x_9 => (isO 9 p0 w).bind fun u_10 => (fX10_add p0 x_5 x_7 x_9 w).bind fun q_11 => fX10_copy_7 p0 p1 K_43 n (v2 + (1 : Int32)) q_11.2
noncomputable def fX10_copy (p0 : Nat) (p1 : Nat) (w : Wd) : Option (Unit × Wd) := (pfI 9 3 p0 (0 : Int32) w).bind fun w_1 => fX10_copy_7 p0 p1 (fun  (w_12 : Wd) => some ((), w_12)) FV (0 : Int32) w_1
set_option maxHeartbeats 4000000 in
set_option maxRecDepth 100000 in
theorem l_X10_copy_7 (X : Cx p R s m args c cX10_copy 3 RX10 D cI cT cII 1 23) (hc : cells ≤ R.cells ∧ slots ≤ R.slots) (p0 : Nat) (p1 : Nat) (K_43 : Wd → Option (Unit × Wd)) (res : Unit × Wd)
    (hK_43 : ∀  (w : Wd), K_43  w = some res → ∀ (H : Heap) (locs : List Loc) (ls : Array Slot), Hd D cI cT cII base w H → va_S (fun q => base ≤ q) s.heap H locs → lv_has ls 3 [] → W p l e R s m args below meth c H locs cells slots Q (F0 m 43 ls [])) :
    ∀ (n : Nat) (v2 : Int32) (w : Wd), fX10_copy_7 p0 p1 K_43 n v2 w = some res → ∀ (H : Heap) (locs : List Loc) (ls : Array Slot), Hd D cI cT cII base w H → va_S (fun q => base ≤ q) s.heap H locs → lv_has ls 3 [(0, .ref (base + p0)), (1, .ref (base + p1)), (2, .int v2)] → W p l e R s m args below meth c H locs cells slots Q (F0 m 7 ls []) := by
  have hx := X.1
  have hb := X.2.1
  intro n
  induction n with
  | zero =>
    intro v2 w hF
    rw [fX10_copy_7] at hF
    cases hF
  | succ n ih =>
    intro v2 w hF H locs ls hH hS hl
    rw [fX10_copy_7] at hF
    refine lv_iload_n hx hb dX10_copy_7 rfl (lv_at hl 2 rfl) ?_
    refine lv_aload_n hx hb dX10_copy_8 rfl (lv_at hl 1 rfl) ?_
    obtain ⟨x_2, e_2, hF⟩ := bnd hF
    refine m_gI X hH e_2 gg_X10_21 dX10_copy_9 ?_
    refine lv_icmp_ge (tgt := 43) hx hb dX10_copy_12 (by decide) (fun c_3 => ?_) (fun c_3 => ?_)
    · replace hF := itt c_3 hF
      exact hK_43  w hF H locs ls hH hS (lv_sub hl [] rfl)
    · replace hF := itf c_3 hF
      refine lv_aload_n hx hb dX10_copy_15 rfl (lv_at hl 0 rfl) ?_
      refine lv_aload_n hx hb dX10_copy_16 rfl (lv_at hl 1 rfl) ?_
      obtain ⟨r_4, e_4, hF⟩ := bnd hF
      refine m_gR X hH e_4 gg_X10_9 dX10_copy_17 ?_
      refine lv_iload_n hx hb dX10_copy_20 rfl (lv_at hl 2 rfl) ?_
      obtain ⟨x_5, e_5, hF⟩ := bnd hF
      refine m_rdI X hH e_5 dX10_copy_21 ?_
      refine lv_aload_n hx hb dX10_copy_22 rfl (lv_at hl 1 rfl) ?_
      obtain ⟨r_6, e_6, hF⟩ := bnd hF
      refine m_gR X hH e_6 gg_X10_15 dX10_copy_23 ?_
      refine lv_iload_n hx hb dX10_copy_26 rfl (lv_at hl 2 rfl) ?_
      obtain ⟨x_7, e_7, hF⟩ := bnd hF
      refine m_rdI X hH e_7 dX10_copy_27 ?_
      refine lv_aload_n hx hb dX10_copy_28 rfl (lv_at hl 1 rfl) ?_
      obtain ⟨r_8, e_8, hF⟩ := bnd hF
      refine m_gR X hH e_8 gg_X10_18 dX10_copy_29 ?_
      refine lv_iload_n hx hb dX10_copy_32 rfl (lv_at hl 2 rfl) ?_
      obtain ⟨x_9, e_9, hF⟩ := bnd hF
      refine m_rdI X hH e_9 dX10_copy_33 ?_
      obtain ⟨u_10, ou_10, hF⟩ := bnd hF
      obtain ⟨q_11, e_11, hF⟩ := bnd hF
      refine m_callV (As := [.int x_5, .int x_7, .int x_9]) (rest := []) X hH hS hl.1 ou_10 rfl (by decide) (k_X10_add l D cI cT cII base p0 x_5 x_7 x_9 w q_11 e_11) q_X10_add kw_444 kw_429 kw_430 rfl rfl (Nat.le_of_ble_eq_true rfl) ⟨by decide, by decide⟩ hc dX10_copy_34 (fun H locs hH hS => W.eq (g2 := F0 m 37 ls []) rfl ?_)
      refine lv_iinc (v := v2 + (1 : Int32)) (lv' := [(2, .int (v2 + (1 : Int32))), (0, .ref (base + p0)), (1, .ref (base + p1))]) hx hb dX10_copy_37 hl (k := 2) rfl (congrArg (fun z => v2 + z) (by decide)) (by decide) rfl (fun ls hl => ?_)
      refine lv_goto (tgt := 7) hx hb dX10_copy_40 (by decide) ?_
      exact ih (v2 + (1 : Int32)) q_11.2 hF H locs ls hH hS (lv_sub hl [1, 2, 0] rfl)
set_option maxHeartbeats 4000000 in
set_option maxRecDepth 100000 in
theorem k_X10_copy (l : Launch) (D : va_G) (cI cT cII : ClassId) (base : Nat) (p0 : Nat) (p1 : Nat) (w : Wd) (res : Unit × Wd) (hF : fX10_copy p0 p1 w = some res) : Ct l yX10_copy cX10_copy 3 none { frames := 1, cells := 0, slots := 0, locals := 23 } D cI cT cII base [.ref (base + p0), .ref (base + p1)] w res.2 none 0 0 := by
  unfold fX10_copy at hF
  refine m_enter (by decide) (Nat.le_of_ble_eq_true rfl) ?_
  intro p e s m below meth c ls X hr hlk hnm hH hS hl
  have hx := X.1
  have hb := X.2.1
  have hc : (0 : Nat) ≤ ({ frames := 1, cells := 0, slots := 0, locals := 23 } : Room).cells ∧ (0 : Nat) ≤ ({ frames := 1, cells := 0, slots := 0, locals := 23 } : Room).slots := ⟨Nat.zero_le _, Nat.zero_le _⟩
  obtain ⟨H, hHe⟩ : ∃ H : Heap, H = s.heap := ⟨_, rfl⟩
  obtain ⟨locs, hle⟩ : ∃ L : List Loc, L = [] := ⟨_, rfl⟩
  have hl : lv_has ls 3 [(0, .ref (base + p0)), (1, .ref (base + p1))] := hl
  rw [← hHe] at hH
  have hS : va_S (fun q => base ≤ q) s.heap H locs := by rw [hHe, hle]; exact hS
  rw [← hle]
  show W p l e _ s m _ below meth c s.heap locs 0 0 _ _
  rw [← hHe]
  refine lv_aload_n hx hb dX10_copy_0 rfl (lv_at hl 0 rfl) ?_
  refine lv_iconst (v := (0 : Int32)) hx hb dX10_copy_1 (by decide) ?_
  obtain ⟨w_1, e_1, hF⟩ := bnd hF
  refine m_pI X hH hS e_1 gp_X10_21 rfl rfl dX10_copy_2 (fun H locs hH hS => ?_)
  refine lv_iconst (v := (0 : Int32)) hx hb dX10_copy_5 (by decide) ?_
  refine lv_istore_n (lv' := [(2, .int (0 : Int32)), (0, .ref (base + p0)), (1, .ref (base + p1))]) hx hb dX10_copy_6 rfl hl (by decide) rfl (fun ls hl => ?_)
  refine l_X10_copy_7 X hc p0 p1 _ res ?_ FV (0 : Int32) w_1 hF H locs ls hH hS (lv_sub hl [1, 2, 0] rfl)
  · intro  w_12 hF H locs ls hH hS hl
    have hF := Option.some.inj hF
    subst hF
    exact m_vret X hr hlk hH hS dX10_copy_43
noncomputable def fX11_outside (v0 : Int32) (v1 : Int32) (w : Wd) : Option (Int32 × Wd) := if v0 < 0 then some ((1 : Int32), w) else if v0 < v1 then some ((0 : Int32), w) else some ((1 : Int32), w)
set_option maxHeartbeats 4000000 in
set_option maxRecDepth 100000 in
theorem k_X11_outside (l : Launch) (D : va_G) (cI cT cII : ClassId) (base : Nat) (v0 : Int32) (v1 : Int32) (w : Wd) (res : Int32 × Wd) (hF : fX11_outside v0 v1 w = some res) : Ct l yX11_outside cX11_outside 2 (some .boolean) { frames := 0, cells := 0, slots := 0, locals := 0 } D cI cT cII base [.int v0, .int v1] w res.2 (some (.int res.1)) 0 0 := by
  unfold fX11_outside at hF
  refine m_enter (by decide) (Nat.le_of_ble_eq_true rfl) ?_
  intro p e s m below meth c ls X hr hlk hnm hH hS hl
  have hx := X.1
  have hb := X.2.1
  have hc : (0 : Nat) ≤ ({ frames := 0, cells := 0, slots := 0, locals := 0 } : Room).cells ∧ (0 : Nat) ≤ ({ frames := 0, cells := 0, slots := 0, locals := 0 } : Room).slots := ⟨Nat.zero_le _, Nat.zero_le _⟩
  obtain ⟨H, hHe⟩ : ∃ H : Heap, H = s.heap := ⟨_, rfl⟩
  obtain ⟨locs, hle⟩ : ∃ L : List Loc, L = [] := ⟨_, rfl⟩
  have hl : lv_has ls 2 [(0, .int v0), (1, .int v1)] := hl
  rw [← hHe] at hH
  have hS : va_S (fun q => base ≤ q) s.heap H locs := by rw [hHe, hle]; exact hS
  rw [← hle]
  show W p l e _ s m _ below meth c s.heap locs 0 0 _ _
  rw [← hHe]
  refine lv_iload_n hx hb dX11_outside_0 rfl (lv_at hl 0 rfl) ?_
  refine lv_if_lt (tgt := 9) hx hb dX11_outside_1 (by decide) (fun c_1 => ?_) (fun c_1 => ?_)
  · replace hF := itt c_1 hF
    refine lv_iconst (v := (1 : Int32)) hx hb dX11_outside_9 (by decide) ?_
    refine lv_goto (tgt := 14) hx hb dX11_outside_10 (by decide) ?_
    have hF := Option.some.inj hF
    subst hF
    exact m_zret (r := (1 : Int32)) X hr hlk (by decide) hH hS dX11_outside_14
  · replace hF := itf c_1 hF
    refine lv_iload_n hx hb dX11_outside_4 rfl (lv_at hl 0 rfl) ?_
    refine lv_iload_n hx hb dX11_outside_5 rfl (lv_at hl 1 rfl) ?_
    refine lv_icmp_lt (tgt := 13) hx hb dX11_outside_6 (by decide) (fun c_2 => ?_) (fun c_2 => ?_)
    · replace hF := itt c_2 hF
      refine lv_iconst (v := (0 : Int32)) hx hb dX11_outside_13 (by decide) ?_
      have hF := Option.some.inj hF
      subst hF
      exact m_zret (r := (0 : Int32)) X hr hlk (by decide) hH hS dX11_outside_14
    · replace hF := itf c_2 hF
      refine lv_iconst (v := (1 : Int32)) hx hb dX11_outside_9 (by decide) ?_
      refine lv_goto (tgt := 14) hx hb dX11_outside_10 (by decide) ?_
      have hF := Option.some.inj hF
      subst hF
      exact m_zret (r := (1 : Int32)) X hr hlk (by decide) hH hS dX11_outside_14
noncomputable def fX10_remove_14 (p0 : Nat) (K_72 : Wd → Option (Unit × Wd)) : Nat → Int32 → Wd → Option (Unit × Wd)
  | 0, _, _ => none
  | n + 1, v2, w => (gfI 9 3 p0 w).bind fun x_4 => if (x_4 - (1 : Int32)) ≤ v2 then K_72  w else (gfR 9 0 p0 w).bind fun r_6 => (gfR 9 0 p0 w).bind fun r_7 => (rdI r_7 (v2 + (1 : Int32)) w).bind fun x_8 => (wrI r_6 v2 x_8 w).bind fun w_9 => (gfR 9 1 p0 w_9).bind fun r_10 => (gfR 9 1 p0 w_9).bind fun r_11 => (rdI r_11 (v2 + (1 : Int32)) w_9).bind fun x_12 => (wrI r_10 v2 x_12 w_9).bind fun w_13 => (gfR 9 2 p0 w_13).bind fun r_14 => (gfR 9 2 p0 w_13).bind fun r_15 => (rdI r_15 (v2 + (1 : Int32)) w_13).bind fun x_16 => (wrI r_14 v2 x_16 w_13).bind fun w_17 => fX10_remove_14 p0 K_72 n (v2 + (1 : Int32)) w_17
noncomputable def fX10_remove (p0 : Nat) (v1 : Int32) (w : Wd) : Option (Unit × Wd) := (gfI 9 3 p0 w).bind fun x_1 => (fX11_outside v1 x_1 w).bind fun q_2 => if q_2.1 = 0 then fX10_remove_14 p0 (fun  (w_18 : Wd) => (gfI 9 3 p0 w_18).bind fun x_19 => (pfI 9 3 p0 (x_19 - (1 : Int32)) w_18).bind fun w_20 => some ((), w_20)) FV v1 q_2.2 else some ((), q_2.2)
set_option maxHeartbeats 4000000 in
set_option maxRecDepth 100000 in
theorem l_X10_remove_14 (X : Cx p R s m args c cX10_remove 3 RX10 D cI cT cII 1 21) (hc : cells ≤ R.cells ∧ slots ≤ R.slots) (p0 : Nat) (K_72 : Wd → Option (Unit × Wd)) (res : Unit × Wd)
    (hK_72 : ∀  (w : Wd), K_72  w = some res → ∀ (H : Heap) (locs : List Loc) (ls : Array Slot), Hd D cI cT cII base w H → va_S (fun q => base ≤ q) s.heap H locs → lv_has ls 3 [(0, .ref (base + p0))] → W p l e R s m args below meth c H locs cells slots Q (F0 m 72 ls [])) :
    ∀ (n : Nat) (v2 : Int32) (w : Wd), fX10_remove_14 p0 K_72 n v2 w = some res → ∀ (H : Heap) (locs : List Loc) (ls : Array Slot), Hd D cI cT cII base w H → va_S (fun q => base ≤ q) s.heap H locs → lv_has ls 3 [(0, .ref (base + p0)), (2, .int v2)] → W p l e R s m args below meth c H locs cells slots Q (F0 m 14 ls []) := by
  have hx := X.1
  have hb := X.2.1
  intro n
  induction n with
  | zero =>
    intro v2 w hF
    rw [fX10_remove_14] at hF
    cases hF
  | succ n ih =>
    intro v2 w hF H locs ls hH hS hl
    rw [fX10_remove_14] at hF
    refine lv_iload_n hx hb dX10_remove_14 rfl (lv_at hl 1 rfl) ?_
    refine lv_aload_n hx hb dX10_remove_15 rfl (lv_at hl 0 rfl) ?_
    obtain ⟨x_4, e_4, hF⟩ := bnd hF
    refine m_gI X hH e_4 gg_X10_21 dX10_remove_16 ?_
    refine lv_iconst (v := (1 : Int32)) hx hb dX10_remove_19 (by decide) ?_
    refine lv_isub hx hb dX10_remove_20 ?_
    refine lv_icmp_ge (tgt := 72) hx hb dX10_remove_21 (by decide) (fun c_5 => ?_) (fun c_5 => ?_)
    · replace hF := itt c_5 hF
      exact hK_72  w hF H locs ls hH hS (lv_sub hl [0] rfl)
    · replace hF := itf c_5 hF
      refine lv_aload_n hx hb dX10_remove_24 rfl (lv_at hl 0 rfl) ?_
      obtain ⟨r_6, e_6, hF⟩ := bnd hF
      refine m_gR X hH e_6 gg_X10_9 dX10_remove_25 ?_
      refine lv_iload_n hx hb dX10_remove_28 rfl (lv_at hl 1 rfl) ?_
      refine lv_aload_n hx hb dX10_remove_29 rfl (lv_at hl 0 rfl) ?_
      obtain ⟨r_7, e_7, hF⟩ := bnd hF
      refine m_gR X hH e_7 gg_X10_9 dX10_remove_30 ?_
      refine lv_iload_n hx hb dX10_remove_33 rfl (lv_at hl 1 rfl) ?_
      refine lv_iconst (v := (1 : Int32)) hx hb dX10_remove_34 (by decide) ?_
      refine lv_iadd hx hb dX10_remove_35 ?_
      obtain ⟨x_8, e_8, hF⟩ := bnd hF
      refine m_rdI X hH e_8 dX10_remove_36 ?_
      obtain ⟨w_9, e_9, hF⟩ := bnd hF
      refine m_wrI X hH hS e_9 dX10_remove_37 (fun H locs hH hS => ?_)
      refine lv_aload_n hx hb dX10_remove_38 rfl (lv_at hl 0 rfl) ?_
      obtain ⟨r_10, e_10, hF⟩ := bnd hF
      refine m_gR X hH e_10 gg_X10_15 dX10_remove_39 ?_
      refine lv_iload_n hx hb dX10_remove_42 rfl (lv_at hl 1 rfl) ?_
      refine lv_aload_n hx hb dX10_remove_43 rfl (lv_at hl 0 rfl) ?_
      obtain ⟨r_11, e_11, hF⟩ := bnd hF
      refine m_gR X hH e_11 gg_X10_15 dX10_remove_44 ?_
      refine lv_iload_n hx hb dX10_remove_47 rfl (lv_at hl 1 rfl) ?_
      refine lv_iconst (v := (1 : Int32)) hx hb dX10_remove_48 (by decide) ?_
      refine lv_iadd hx hb dX10_remove_49 ?_
      obtain ⟨x_12, e_12, hF⟩ := bnd hF
      refine m_rdI X hH e_12 dX10_remove_50 ?_
      obtain ⟨w_13, e_13, hF⟩ := bnd hF
      refine m_wrI X hH hS e_13 dX10_remove_51 (fun H locs hH hS => ?_)
      refine lv_aload_n hx hb dX10_remove_52 rfl (lv_at hl 0 rfl) ?_
      obtain ⟨r_14, e_14, hF⟩ := bnd hF
      refine m_gR X hH e_14 gg_X10_18 dX10_remove_53 ?_
      refine lv_iload_n hx hb dX10_remove_56 rfl (lv_at hl 1 rfl) ?_
      refine lv_aload_n hx hb dX10_remove_57 rfl (lv_at hl 0 rfl) ?_
      obtain ⟨r_15, e_15, hF⟩ := bnd hF
      refine m_gR X hH e_15 gg_X10_18 dX10_remove_58 ?_
      refine lv_iload_n hx hb dX10_remove_61 rfl (lv_at hl 1 rfl) ?_
      refine lv_iconst (v := (1 : Int32)) hx hb dX10_remove_62 (by decide) ?_
      refine lv_iadd hx hb dX10_remove_63 ?_
      obtain ⟨x_16, e_16, hF⟩ := bnd hF
      refine m_rdI X hH e_16 dX10_remove_64 ?_
      obtain ⟨w_17, e_17, hF⟩ := bnd hF
      refine m_wrI X hH hS e_17 dX10_remove_65 (fun H locs hH hS => ?_)
      refine lv_iinc (v := v2 + (1 : Int32)) (lv' := [(2, .int (v2 + (1 : Int32))), (0, .ref (base + p0))]) hx hb dX10_remove_66 hl (k := 1) rfl (congrArg (fun z => v2 + z) (by decide)) (by decide) rfl (fun ls hl => ?_)
      refine lv_goto (tgt := 14) hx hb dX10_remove_69 (by decide) ?_
      exact ih (v2 + (1 : Int32)) w_17 hF H locs ls hH hS (lv_sub hl [1, 0] rfl)
set_option maxHeartbeats 4000000 in
set_option maxRecDepth 100000 in
theorem k_X10_remove (l : Launch) (D : va_G) (cI cT cII : ClassId) (base : Nat) (p0 : Nat) (v1 : Int32) (w : Wd) (res : Unit × Wd) (hF : fX10_remove p0 v1 w = some res) : Ct l yX10_remove cX10_remove 3 none { frames := 1, cells := 0, slots := 0, locals := 21 } D cI cT cII base [.ref (base + p0), .int v1] w res.2 none 0 0 := by
  unfold fX10_remove at hF
  refine m_enter (by decide) (Nat.le_of_ble_eq_true rfl) ?_
  intro p e s m below meth c ls X hr hlk hnm hH hS hl
  have hx := X.1
  have hb := X.2.1
  have hc : (0 : Nat) ≤ ({ frames := 1, cells := 0, slots := 0, locals := 21 } : Room).cells ∧ (0 : Nat) ≤ ({ frames := 1, cells := 0, slots := 0, locals := 21 } : Room).slots := ⟨Nat.zero_le _, Nat.zero_le _⟩
  obtain ⟨H, hHe⟩ : ∃ H : Heap, H = s.heap := ⟨_, rfl⟩
  obtain ⟨locs, hle⟩ : ∃ L : List Loc, L = [] := ⟨_, rfl⟩
  have hl : lv_has ls 3 [(0, .ref (base + p0)), (1, .int v1)] := hl
  rw [← hHe] at hH
  have hS : va_S (fun q => base ≤ q) s.heap H locs := by rw [hHe, hle]; exact hS
  rw [← hle]
  show W p l e _ s m _ below meth c s.heap locs 0 0 _ _
  rw [← hHe]
  refine lv_iload_n hx hb dX10_remove_0 rfl (lv_at hl 1 rfl) ?_
  refine lv_aload_n hx hb dX10_remove_1 rfl (lv_at hl 0 rfl) ?_
  obtain ⟨x_1, e_1, hF⟩ := bnd hF
  refine m_gI X hH e_1 gg_X10_21 dX10_remove_2 ?_
  obtain ⟨q_2, e_2, hF⟩ := bnd hF
  refine m_callSN (As := [.int v1, .int x_1]) (rest := []) X hH hS hl.1 (k_X11_outside l D cI cT cII base v1 x_1 w q_2 e_2) q_X11_outside kw_627 kw_391 rfl rfl (Nat.le_of_ble_eq_true rfl) ⟨by decide, by decide⟩ hc dX10_remove_5 (fun H locs hH hS => W.eq (g2 := F0 m 8 ls [.int q_2.1]) rfl ?_)
  refine lv_if_eq (tgt := 12) hx hb dX10_remove_8 (by decide) (fun c_3 => ?_) (fun c_3 => ?_)
  · replace hF := itt c_3 hF
    refine lv_iload_n hx hb dX10_remove_12 rfl (lv_at hl 1 rfl) ?_
    refine lv_istore_n (lv' := [(2, .int v1), (0, .ref (base + p0)), (1, .int v1)]) hx hb dX10_remove_13 rfl hl (by decide) rfl (fun ls hl => ?_)
    refine l_X10_remove_14 X hc p0 _ res ?_ FV v1 q_2.2 hF H locs ls hH hS (lv_sub hl [1, 0] rfl)
    · intro  w_18 hF H locs ls hH hS hl
      refine lv_aload_n hx hb dX10_remove_72 rfl (lv_at hl 0 rfl) ?_
      refine lv_dup hx hb dX10_remove_73 rfl ?_
      obtain ⟨x_19, e_19, hF⟩ := bnd hF
      refine m_gI X hH e_19 gg_X10_21 dX10_remove_74 ?_
      refine lv_iconst (v := (1 : Int32)) hx hb dX10_remove_77 (by decide) ?_
      refine lv_isub hx hb dX10_remove_78 ?_
      obtain ⟨w_20, e_20, hF⟩ := bnd hF
      refine m_pI X hH hS e_20 gp_X10_21 rfl rfl dX10_remove_79 (fun H locs hH hS => ?_)
      have hF := Option.some.inj hF
      subst hF
      exact m_vret X hr hlk hH hS dX10_remove_82
  · replace hF := itf c_3 hF
    have hF := Option.some.inj hF
    subst hF
    exact m_vret X hr hlk hH hS dX10_remove_11
noncomputable def fX11_keptWithin (v0 : Int32) (w : Wd) : Option (Int32 × Wd) := some (imax (-40 : Int32) (imin (40 : Int32) v0), w)
set_option maxHeartbeats 4000000 in
set_option maxRecDepth 100000 in
theorem k_X11_keptWithin (l : Launch) (D : va_G) (cI cT cII : ClassId) (base : Nat) (v0 : Int32) (w : Wd) (res : Int32 × Wd) (hF : fX11_keptWithin v0 w = some res) : Ct l yX11_keptWithin cX11_keptWithin 1 (some .int) { frames := 1, cells := 0, slots := 0, locals := 21 } D cI cT cII base [.int v0] w res.2 (some (.int res.1)) 0 0 := by
  unfold fX11_keptWithin at hF
  refine m_enter (by decide) (Nat.le_of_ble_eq_true rfl) ?_
  intro p e s m below meth c ls X hr hlk hnm hH hS hl
  have hx := X.1
  have hb := X.2.1
  have hc : (0 : Nat) ≤ ({ frames := 1, cells := 0, slots := 0, locals := 21 } : Room).cells ∧ (0 : Nat) ≤ ({ frames := 1, cells := 0, slots := 0, locals := 21 } : Room).slots := ⟨Nat.zero_le _, Nat.zero_le _⟩
  obtain ⟨H, hHe⟩ : ∃ H : Heap, H = s.heap := ⟨_, rfl⟩
  obtain ⟨locs, hle⟩ : ∃ L : List Loc, L = [] := ⟨_, rfl⟩
  have hl : lv_has ls 1 [(0, .int v0)] := hl
  rw [← hHe] at hH
  have hS : va_S (fun q => base ≤ q) s.heap H locs := by rw [hHe, hle]; exact hS
  rw [← hle]
  show W p l e _ s m _ below meth c s.heap locs 0 0 _ _
  rw [← hHe]
  refine lv_bipush (v := (-40 : Int32)) hx hb dX11_keptWithin_0 (by decide) ?_
  refine lv_bipush (v := (40 : Int32)) hx hb dX11_keptWithin_2 (by decide) ?_
  refine lv_iload_n hx hb dX11_keptWithin_4 rfl (lv_at hl 0 rfl) ?_
  refine m_mmin X hl.1 kw_538 (by decide) (Nat.le_of_ble_eq_true rfl) hc dX11_keptWithin_5 ?_
  refine m_mmax X hl.1 kw_541 (by decide) (Nat.le_of_ble_eq_true rfl) hc dX11_keptWithin_8 ?_
  have hF := Option.some.inj hF
  subst hF
  exact m_iret X hr hlk hH hS dX11_keptWithin_11
noncomputable def fX10_turnAll_2 (p0 : Nat) (v1 : Int32) (p2 : Nat) (K_52 : Wd → Option (Unit × Wd)) : Nat → Int32 → Wd → Option (Unit × Wd)
  | 0, _, _ => none
  | n + 1, v3, w => (gfI 9 3 p0 w).bind fun x_1 => if x_1 ≤ v3 then K_52  w else (gfR 9 0 p0 w).bind fun r_3 => (rdI r_3 v3 w).bind fun x_4 => if x_4 = v1 then (gfR 9 1 p0 w).bind fun r_6 => (rdI r_6 v3 w).bind fun x_7 => (gfR 9 1 p0 w).bind fun r_8 => (rdI r_8 v3 w).bind fun x_9 => (rdI p2 x_9 w).bind fun x_10 => (gfR 9 2 p0 w).bind fun r_11 => (rdI r_11 v3 w).bind fun x_12 => (fX11_keptWithin (x_10 + x_12) w).bind fun q_13 => (wrI p2 x_7 q_13.1 q_13.2).bind fun w_14 => fX10_turnAll_2 p0 v1 p2 K_52 n (v3 + (1 : Int32)) w_14 else fX10_turnAll_2 p0 v1 p2 K_52 n (v3 + (1 : Int32)) w
noncomputable def fX10_turnAll (p0 : Nat) (v1 : Int32) (p2 : Nat) (w : Wd) : Option (Unit × Wd) := fX10_turnAll_2 p0 v1 p2 (fun  (w_15 : Wd) => some ((), w_15)) FV (0 : Int32) w
set_option maxHeartbeats 4000000 in
set_option maxRecDepth 100000 in
theorem l_X10_turnAll_2 (X : Cx p R s m args c cX10_turnAll 4 RX10 D cI cT cII 2 41) (hc : cells ≤ R.cells ∧ slots ≤ R.slots) (p0 : Nat) (v1 : Int32) (p2 : Nat) (K_52 : Wd → Option (Unit × Wd)) (res : Unit × Wd)
    (hK_52 : ∀  (w : Wd), K_52  w = some res → ∀ (H : Heap) (locs : List Loc) (ls : Array Slot), Hd D cI cT cII base w H → va_S (fun q => base ≤ q) s.heap H locs → lv_has ls 4 [] → W p l e R s m args below meth c H locs cells slots Q (F0 m 52 ls [])) :
    ∀ (n : Nat) (v3 : Int32) (w : Wd), fX10_turnAll_2 p0 v1 p2 K_52 n v3 w = some res → ∀ (H : Heap) (locs : List Loc) (ls : Array Slot), Hd D cI cT cII base w H → va_S (fun q => base ≤ q) s.heap H locs → lv_has ls 4 [(0, .ref (base + p0)), (1, .int v1), (2, .ref (base + p2)), (3, .int v3)] → W p l e R s m args below meth c H locs cells slots Q (F0 m 2 ls []) := by
  have hx := X.1
  have hb := X.2.1
  intro n
  induction n with
  | zero =>
    intro v3 w hF
    rw [fX10_turnAll_2] at hF
    cases hF
  | succ n ih =>
    intro v3 w hF H locs ls hH hS hl
    rw [fX10_turnAll_2] at hF
    refine lv_iload_n hx hb dX10_turnAll_2 rfl (lv_at hl 3 rfl) ?_
    refine lv_aload_n hx hb dX10_turnAll_3 rfl (lv_at hl 0 rfl) ?_
    obtain ⟨x_1, e_1, hF⟩ := bnd hF
    refine m_gI X hH e_1 gg_X10_21 dX10_turnAll_4 ?_
    refine lv_icmp_ge (tgt := 52) hx hb dX10_turnAll_7 (by decide) (fun c_2 => ?_) (fun c_2 => ?_)
    · replace hF := itt c_2 hF
      exact hK_52  w hF H locs ls hH hS (lv_sub hl [] rfl)
    · replace hF := itf c_2 hF
      refine lv_aload_n hx hb dX10_turnAll_10 rfl (lv_at hl 0 rfl) ?_
      obtain ⟨r_3, e_3, hF⟩ := bnd hF
      refine m_gR X hH e_3 gg_X10_9 dX10_turnAll_11 ?_
      refine lv_iload_n hx hb dX10_turnAll_14 rfl (lv_at hl 3 rfl) ?_
      obtain ⟨x_4, e_4, hF⟩ := bnd hF
      refine m_rdI X hH e_4 dX10_turnAll_15 ?_
      refine lv_iload_n hx hb dX10_turnAll_16 rfl (lv_at hl 1 rfl) ?_
      refine lv_icmp_ne (tgt := 46) hx hb dX10_turnAll_17 (by decide) (fun c_5 => ?_) (fun c_5 => ?_)
      · replace hF := itf c_5 hF
        refine lv_iinc (v := v3 + (1 : Int32)) (lv' := [(3, .int (v3 + (1 : Int32))), (0, .ref (base + p0)), (1, .int v1), (2, .ref (base + p2))]) hx hb dX10_turnAll_46 hl (k := 3) rfl (congrArg (fun z => v3 + z) (by decide)) (by decide) rfl (fun ls hl => ?_)
        refine lv_goto (tgt := 2) hx hb dX10_turnAll_49 (by decide) ?_
        exact ih (v3 + (1 : Int32)) w hF H locs ls hH hS (lv_sub hl [1, 2, 3, 0] rfl)
      · replace hF := itt c_5 hF
        refine lv_aload_n hx hb dX10_turnAll_20 rfl (lv_at hl 2 rfl) ?_
        refine lv_aload_n hx hb dX10_turnAll_21 rfl (lv_at hl 0 rfl) ?_
        obtain ⟨r_6, e_6, hF⟩ := bnd hF
        refine m_gR X hH e_6 gg_X10_15 dX10_turnAll_22 ?_
        refine lv_iload_n hx hb dX10_turnAll_25 rfl (lv_at hl 3 rfl) ?_
        obtain ⟨x_7, e_7, hF⟩ := bnd hF
        refine m_rdI X hH e_7 dX10_turnAll_26 ?_
        refine lv_aload_n hx hb dX10_turnAll_27 rfl (lv_at hl 2 rfl) ?_
        refine lv_aload_n hx hb dX10_turnAll_28 rfl (lv_at hl 0 rfl) ?_
        obtain ⟨r_8, e_8, hF⟩ := bnd hF
        refine m_gR X hH e_8 gg_X10_15 dX10_turnAll_29 ?_
        refine lv_iload_n hx hb dX10_turnAll_32 rfl (lv_at hl 3 rfl) ?_
        obtain ⟨x_9, e_9, hF⟩ := bnd hF
        refine m_rdI X hH e_9 dX10_turnAll_33 ?_
        obtain ⟨x_10, e_10, hF⟩ := bnd hF
        refine m_rdI X hH e_10 dX10_turnAll_34 ?_
        refine lv_aload_n hx hb dX10_turnAll_35 rfl (lv_at hl 0 rfl) ?_
        obtain ⟨r_11, e_11, hF⟩ := bnd hF
        refine m_gR X hH e_11 gg_X10_18 dX10_turnAll_36 ?_
        refine lv_iload_n hx hb dX10_turnAll_39 rfl (lv_at hl 3 rfl) ?_
        obtain ⟨x_12, e_12, hF⟩ := bnd hF
        refine m_rdI X hH e_12 dX10_turnAll_40 ?_
        refine lv_iadd hx hb dX10_turnAll_41 ?_
        obtain ⟨q_13, e_13, hF⟩ := bnd hF
        refine m_callSN (As := [.int (x_10 + x_12)]) (rest := [.int x_7, .ref (base + p2)]) X hH hS hl.1 (k_X11_keptWithin l D cI cT cII base (x_10 + x_12) w q_13 e_13) q_X11_keptWithin kw_546 kw_536 rfl rfl (Nat.le_of_ble_eq_true rfl) ⟨by decide, by decide⟩ hc dX10_turnAll_42 (fun H locs hH hS => W.eq (g2 := F0 m 45 ls [.int q_13.1, .int x_7, .ref (base + p2)]) rfl ?_)
        obtain ⟨w_14, e_14, hF⟩ := bnd hF
        refine m_wrI X hH hS e_14 dX10_turnAll_45 (fun H locs hH hS => ?_)
        refine lv_iinc (v := v3 + (1 : Int32)) (lv' := [(3, .int (v3 + (1 : Int32))), (0, .ref (base + p0)), (1, .int v1), (2, .ref (base + p2))]) hx hb dX10_turnAll_46 hl (k := 3) rfl (congrArg (fun z => v3 + z) (by decide)) (by decide) rfl (fun ls hl => ?_)
        refine lv_goto (tgt := 2) hx hb dX10_turnAll_49 (by decide) ?_
        exact ih (v3 + (1 : Int32)) w_14 hF H locs ls hH hS (lv_sub hl [1, 2, 3, 0] rfl)
set_option maxHeartbeats 4000000 in
set_option maxRecDepth 100000 in
theorem k_X10_turnAll (l : Launch) (D : va_G) (cI cT cII : ClassId) (base : Nat) (p0 : Nat) (v1 : Int32) (p2 : Nat) (w : Wd) (res : Unit × Wd) (hF : fX10_turnAll p0 v1 p2 w = some res) : Ct l yX10_turnAll cX10_turnAll 4 none { frames := 2, cells := 0, slots := 0, locals := 41 } D cI cT cII base [.ref (base + p0), .int v1, .ref (base + p2)] w res.2 none 0 0 := by
  unfold fX10_turnAll at hF
  refine m_enter (by decide) (Nat.le_of_ble_eq_true rfl) ?_
  intro p e s m below meth c ls X hr hlk hnm hH hS hl
  have hx := X.1
  have hb := X.2.1
  have hc : (0 : Nat) ≤ ({ frames := 2, cells := 0, slots := 0, locals := 41 } : Room).cells ∧ (0 : Nat) ≤ ({ frames := 2, cells := 0, slots := 0, locals := 41 } : Room).slots := ⟨Nat.zero_le _, Nat.zero_le _⟩
  obtain ⟨H, hHe⟩ : ∃ H : Heap, H = s.heap := ⟨_, rfl⟩
  obtain ⟨locs, hle⟩ : ∃ L : List Loc, L = [] := ⟨_, rfl⟩
  have hl : lv_has ls 4 [(0, .ref (base + p0)), (1, .int v1), (2, .ref (base + p2))] := hl
  rw [← hHe] at hH
  have hS : va_S (fun q => base ≤ q) s.heap H locs := by rw [hHe, hle]; exact hS
  rw [← hle]
  show W p l e _ s m _ below meth c s.heap locs 0 0 _ _
  rw [← hHe]
  refine lv_iconst (v := (0 : Int32)) hx hb dX10_turnAll_0 (by decide) ?_
  refine lv_istore_n (lv' := [(3, .int (0 : Int32)), (0, .ref (base + p0)), (1, .int v1), (2, .ref (base + p2))]) hx hb dX10_turnAll_1 rfl hl (by decide) rfl (fun ls hl => ?_)
  refine l_X10_turnAll_2 X hc p0 v1 p2 _ res ?_ FV (0 : Int32) w hF H locs ls hH hS (lv_sub hl [1, 2, 3, 0] rfl)
  · intro  w_15 hF H locs ls hH hS hl
    have hF := Option.some.inj hF
    subst hF
    exact m_vret X hr hlk hH hS dX10_turnAll_52
noncomputable def fX4_twist_2 (p0 : Nat) (p1 : Nat) (K_32 : Wd → Option (Unit × Wd)) : Nat → Int32 → Wd → Option (Unit × Wd)
  | 0, _, _ => none
  | n + 1, v2, w => (gfI 3 4 p0 w).bind fun x_1 => if x_1 ≤ v2 then K_32  w else (rdI p1 v2 w).bind fun x_3 => (gfR 3 2 p0 w).bind fun r_4 => (rdI r_4 v2 w).bind fun x_5 => (fX11_keptWithin (x_3 + x_5) w).bind fun q_6 => (wrI p1 v2 q_6.1 q_6.2).bind fun w_7 => fX4_twist_2 p0 p1 K_32 n (v2 + (1 : Int32)) w_7
noncomputable def fX4_twist (p0 : Nat) (p1 : Nat) (w : Wd) : Option (Unit × Wd) := fX4_twist_2 p0 p1 (fun  (w_8 : Wd) => some ((), w_8)) FV (0 : Int32) w
set_option maxHeartbeats 4000000 in
set_option maxRecDepth 100000 in
theorem l_X4_twist_2 (X : Cx p R s m args c cX4_twist 3 RX4 D cI cT cII 2 41) (hc : cells ≤ R.cells ∧ slots ≤ R.slots) (p0 : Nat) (p1 : Nat) (K_32 : Wd → Option (Unit × Wd)) (res : Unit × Wd)
    (hK_32 : ∀  (w : Wd), K_32  w = some res → ∀ (H : Heap) (locs : List Loc) (ls : Array Slot), Hd D cI cT cII base w H → va_S (fun q => base ≤ q) s.heap H locs → lv_has ls 3 [] → W p l e R s m args below meth c H locs cells slots Q (F0 m 32 ls [])) :
    ∀ (n : Nat) (v2 : Int32) (w : Wd), fX4_twist_2 p0 p1 K_32 n v2 w = some res → ∀ (H : Heap) (locs : List Loc) (ls : Array Slot), Hd D cI cT cII base w H → va_S (fun q => base ≤ q) s.heap H locs → lv_has ls 3 [(0, .ref (base + p0)), (1, .ref (base + p1)), (2, .int v2)] → W p l e R s m args below meth c H locs cells slots Q (F0 m 2 ls []) := by
  have hx := X.1
  have hb := X.2.1
  intro n
  induction n with
  | zero =>
    intro v2 w hF
    rw [fX4_twist_2] at hF
    cases hF
  | succ n ih =>
    intro v2 w hF H locs ls hH hS hl
    rw [fX4_twist_2] at hF
    refine lv_iload_n hx hb dX4_twist_2 rfl (lv_at hl 2 rfl) ?_
    refine lv_aload_n hx hb dX4_twist_3 rfl (lv_at hl 0 rfl) ?_
    obtain ⟨x_1, e_1, hF⟩ := bnd hF
    refine m_gI X hH e_1 gg_X4_46 dX4_twist_4 ?_
    refine lv_icmp_ge (tgt := 32) hx hb dX4_twist_7 (by decide) (fun c_2 => ?_) (fun c_2 => ?_)
    · replace hF := itt c_2 hF
      exact hK_32  w hF H locs ls hH hS (lv_sub hl [] rfl)
    · replace hF := itf c_2 hF
      refine lv_aload_n hx hb dX4_twist_10 rfl (lv_at hl 1 rfl) ?_
      refine lv_iload_n hx hb dX4_twist_11 rfl (lv_at hl 2 rfl) ?_
      refine lv_aload_n hx hb dX4_twist_12 rfl (lv_at hl 1 rfl) ?_
      refine lv_iload_n hx hb dX4_twist_13 rfl (lv_at hl 2 rfl) ?_
      obtain ⟨x_3, e_3, hF⟩ := bnd hF
      refine m_rdI X hH e_3 dX4_twist_14 ?_
      refine lv_aload_n hx hb dX4_twist_15 rfl (lv_at hl 0 rfl) ?_
      obtain ⟨r_4, e_4, hF⟩ := bnd hF
      refine m_gR X hH e_4 gg_X4_18 dX4_twist_16 ?_
      refine lv_iload_n hx hb dX4_twist_19 rfl (lv_at hl 2 rfl) ?_
      obtain ⟨x_5, e_5, hF⟩ := bnd hF
      refine m_rdI X hH e_5 dX4_twist_20 ?_
      refine lv_iadd hx hb dX4_twist_21 ?_
      obtain ⟨q_6, e_6, hF⟩ := bnd hF
      refine m_callSN (As := [.int (x_3 + x_5)]) (rest := [.int v2, .ref (base + p1)]) X hH hS hl.1 (k_X11_keptWithin l D cI cT cII base (x_3 + x_5) w q_6 e_6) q_X11_keptWithin kw_535 kw_536 rfl rfl (Nat.le_of_ble_eq_true rfl) ⟨by decide, by decide⟩ hc dX4_twist_22 (fun H locs hH hS => W.eq (g2 := F0 m 25 ls [.int q_6.1, .int v2, .ref (base + p1)]) rfl ?_)
      obtain ⟨w_7, e_7, hF⟩ := bnd hF
      refine m_wrI X hH hS e_7 dX4_twist_25 (fun H locs hH hS => ?_)
      refine lv_iinc (v := v2 + (1 : Int32)) (lv' := [(2, .int (v2 + (1 : Int32))), (0, .ref (base + p0)), (1, .ref (base + p1))]) hx hb dX4_twist_26 hl (k := 2) rfl (congrArg (fun z => v2 + z) (by decide)) (by decide) rfl (fun ls hl => ?_)
      refine lv_goto (tgt := 2) hx hb dX4_twist_29 (by decide) ?_
      exact ih (v2 + (1 : Int32)) w_7 hF H locs ls hH hS (lv_sub hl [1, 2, 0] rfl)
set_option maxHeartbeats 4000000 in
set_option maxRecDepth 100000 in
theorem k_X4_twist (l : Launch) (D : va_G) (cI cT cII : ClassId) (base : Nat) (p0 : Nat) (p1 : Nat) (w : Wd) (res : Unit × Wd) (hF : fX4_twist p0 p1 w = some res) : Ct l yX4_twist cX4_twist 3 none { frames := 2, cells := 0, slots := 0, locals := 41 } D cI cT cII base [.ref (base + p0), .ref (base + p1)] w res.2 none 0 0 := by
  unfold fX4_twist at hF
  refine m_enter (by decide) (Nat.le_of_ble_eq_true rfl) ?_
  intro p e s m below meth c ls X hr hlk hnm hH hS hl
  have hx := X.1
  have hb := X.2.1
  have hc : (0 : Nat) ≤ ({ frames := 2, cells := 0, slots := 0, locals := 41 } : Room).cells ∧ (0 : Nat) ≤ ({ frames := 2, cells := 0, slots := 0, locals := 41 } : Room).slots := ⟨Nat.zero_le _, Nat.zero_le _⟩
  obtain ⟨H, hHe⟩ : ∃ H : Heap, H = s.heap := ⟨_, rfl⟩
  obtain ⟨locs, hle⟩ : ∃ L : List Loc, L = [] := ⟨_, rfl⟩
  have hl : lv_has ls 3 [(0, .ref (base + p0)), (1, .ref (base + p1))] := hl
  rw [← hHe] at hH
  have hS : va_S (fun q => base ≤ q) s.heap H locs := by rw [hHe, hle]; exact hS
  rw [← hle]
  show W p l e _ s m _ below meth c s.heap locs 0 0 _ _
  rw [← hHe]
  refine lv_iconst (v := (0 : Int32)) hx hb dX4_twist_0 (by decide) ?_
  refine lv_istore_n (lv' := [(2, .int (0 : Int32)), (0, .ref (base + p0)), (1, .ref (base + p1))]) hx hb dX4_twist_1 rfl hl (by decide) rfl (fun ls hl => ?_)
  refine l_X4_twist_2 X hc p0 p1 _ res ?_ FV (0 : Int32) w hF H locs ls hH hS (lv_sub hl [1, 2, 0] rfl)
  · intro  w_8 hF H locs ls hH hS hl
    have hF := Option.some.inj hF
    subst hF
    exact m_vret X hr hlk hH hS dX4_twist_32
noncomputable def fX3_farthestBorne (v0 : Int32) (v1 : Int32) (w : Wd) : Option (Int32 × Wd) := if v0 = (3 : Int32) then some ((2 : Int32) * v1, w) else some (v1, w)
set_option maxHeartbeats 4000000 in
set_option maxRecDepth 100000 in
theorem k_X3_farthestBorne (l : Launch) (D : va_G) (cI cT cII : ClassId) (base : Nat) (v0 : Int32) (v1 : Int32) (w : Wd) (res : Int32 × Wd) (hF : fX3_farthestBorne v0 v1 w = some res) : Ct l yX3_farthestBorne cX3_farthestBorne 2 (some .int) { frames := 0, cells := 0, slots := 0, locals := 0 } D cI cT cII base [.int v0, .int v1] w res.2 (some (.int res.1)) 0 0 := by
  unfold fX3_farthestBorne at hF
  refine m_enter (by decide) (Nat.le_of_ble_eq_true rfl) ?_
  intro p e s m below meth c ls X hr hlk hnm hH hS hl
  have hx := X.1
  have hb := X.2.1
  have hc : (0 : Nat) ≤ ({ frames := 0, cells := 0, slots := 0, locals := 0 } : Room).cells ∧ (0 : Nat) ≤ ({ frames := 0, cells := 0, slots := 0, locals := 0 } : Room).slots := ⟨Nat.zero_le _, Nat.zero_le _⟩
  obtain ⟨H, hHe⟩ : ∃ H : Heap, H = s.heap := ⟨_, rfl⟩
  obtain ⟨locs, hle⟩ : ∃ L : List Loc, L = [] := ⟨_, rfl⟩
  have hl : lv_has ls 2 [(0, .int v0), (1, .int v1)] := hl
  rw [← hHe] at hH
  have hS : va_S (fun q => base ≤ q) s.heap H locs := by rw [hHe, hle]; exact hS
  rw [← hle]
  show W p l e _ s m _ below meth c s.heap locs 0 0 _ _
  rw [← hHe]
  refine lv_iload_n hx hb dX3_farthestBorne_0 rfl (lv_at hl 0 rfl) ?_
  refine lv_iconst (v := (3 : Int32)) hx hb dX3_farthestBorne_1 (by decide) ?_
  refine lv_icmp_ne (tgt := 11) hx hb dX3_farthestBorne_2 (by decide) (fun c_1 => ?_) (fun c_1 => ?_)
  · replace hF := itf c_1 hF
    refine lv_iload_n hx hb dX3_farthestBorne_11 rfl (lv_at hl 1 rfl) ?_
    have hF := Option.some.inj hF
    subst hF
    exact m_iret X hr hlk hH hS dX3_farthestBorne_12
  · replace hF := itt c_1 hF
    refine lv_iconst (v := (2 : Int32)) hx hb dX3_farthestBorne_5 (by decide) ?_
    refine lv_iload_n hx hb dX3_farthestBorne_6 rfl (lv_at hl 1 rfl) ?_
    refine lv_imul hx hb dX3_farthestBorne_7 ?_
    refine lv_goto (tgt := 12) hx hb dX3_farthestBorne_8 (by decide) ?_
    have hF := Option.some.inj hF
    subst hF
    exact m_iret X hr hlk hH hS dX3_farthestBorne_12
noncomputable def fX4_firstTempting_20 (p0 : Nat) (v2 : Int32) (p3 : Nat) (v4 : Int32) (K_52 : Int32 → Wd → Option (Int32 × Wd)) (K_61 : Wd → Option (Int32 × Wd)) : Nat → Int32 → Wd → Option (Int32 × Wd)
  | 0, _, _ => none
  | n + 1, v5, w => (gfI 3 4 p0 w).bind fun x_6 => if x_6 ≤ v5 then K_61  w else (gfR 3 0 p0 w).bind fun r_8 => (rdI r_8 v5 w).bind fun x_9 => if x_9 = v2 then (rdI p3 v5 w).bind fun x_11 => if (iabs x_11) ≤ v4 then fX4_firstTempting_20 p0 v2 p3 v4 K_52 K_61 n (v5 + (1 : Int32)) w else K_52 v5 w else fX4_firstTempting_20 p0 v2 p3 v4 K_52 K_61 n (v5 + (1 : Int32)) w
noncomputable def fX4_firstTempting (p0 : Nat) (v1 : Int32) (v2 : Int32) (p3 : Nat) (w : Wd) : Option (Int32 × Wd) := (gfR 3 5 p0 w).bind fun r_1 => (rdI r_1 v1 w).bind fun x_2 => (gfR 3 6 p0 w).bind fun r_3 => (rdI r_3 v1 w).bind fun x_4 => (fX3_farthestBorne x_2 x_4 w).bind fun q_5 => fX4_firstTempting_20 p0 v2 p3 q_5.1 (fun (v5_14 : Int32) (w_13 : Wd) => some (v5_14, w_13)) (fun  (w_15 : Wd) => some ((-4 : Int32), w_15)) FV (0 : Int32) q_5.2
set_option maxHeartbeats 4000000 in
set_option maxRecDepth 100000 in
theorem l_X4_firstTempting_20 (X : Cx p R s m args c cX4_firstTempting 6 RX4 D cI cT cII 1 21) (hc : cells ≤ R.cells ∧ slots ≤ R.slots) (p0 : Nat) (v2 : Int32) (p3 : Nat) (v4 : Int32) (K_52 : Int32 → Wd → Option (Int32 × Wd)) (K_61 : Wd → Option (Int32 × Wd)) (res : Int32 × Wd)
    (hK_52 : ∀ (z5 : Int32) (w : Wd), K_52 z5 w = some res → ∀ (H : Heap) (locs : List Loc) (ls : Array Slot), Hd D cI cT cII base w H → va_S (fun q => base ≤ q) s.heap H locs → lv_has ls 6 [(5, .int z5)] → W p l e R s m args below meth c H locs cells slots Q (F0 m 52 ls []))
    (hK_61 : ∀  (w : Wd), K_61  w = some res → ∀ (H : Heap) (locs : List Loc) (ls : Array Slot), Hd D cI cT cII base w H → va_S (fun q => base ≤ q) s.heap H locs → lv_has ls 6 [] → W p l e R s m args below meth c H locs cells slots Q (F0 m 61 ls [])) :
    ∀ (n : Nat) (v5 : Int32) (w : Wd), fX4_firstTempting_20 p0 v2 p3 v4 K_52 K_61 n v5 w = some res → ∀ (H : Heap) (locs : List Loc) (ls : Array Slot), Hd D cI cT cII base w H → va_S (fun q => base ≤ q) s.heap H locs → lv_has ls 6 [(0, .ref (base + p0)), (2, .int v2), (3, .ref (base + p3)), (4, .int v4), (5, .int v5)] → W p l e R s m args below meth c H locs cells slots Q (F0 m 20 ls []) := by
  have hx := X.1
  have hb := X.2.1
  intro n
  induction n with
  | zero =>
    intro v5 w hF
    rw [fX4_firstTempting_20] at hF
    cases hF
  | succ n ih =>
    intro v5 w hF H locs ls hH hS hl
    rw [fX4_firstTempting_20] at hF
    refine lv_iload hx hb dX4_firstTempting_20 (lv_at hl 4 rfl) ?_
    refine lv_aload_n hx hb dX4_firstTempting_22 rfl (lv_at hl 0 rfl) ?_
    obtain ⟨x_6, e_6, hF⟩ := bnd hF
    refine m_gI X hH e_6 gg_X4_46 dX4_firstTempting_23 ?_
    refine lv_icmp_ge (tgt := 61) hx hb dX4_firstTempting_26 (by decide) (fun c_7 => ?_) (fun c_7 => ?_)
    · replace hF := itt c_7 hF
      exact hK_61  w hF H locs ls hH hS (lv_sub hl [] rfl)
    · replace hF := itf c_7 hF
      refine lv_aload_n hx hb dX4_firstTempting_29 rfl (lv_at hl 0 rfl) ?_
      obtain ⟨r_8, e_8, hF⟩ := bnd hF
      refine m_gR X hH e_8 gg_X4_9 dX4_firstTempting_30 ?_
      refine lv_iload hx hb dX4_firstTempting_33 (lv_at hl 4 rfl) ?_
      obtain ⟨x_9, e_9, hF⟩ := bnd hF
      refine m_rdI X hH e_9 dX4_firstTempting_35 ?_
      refine lv_iload_n hx hb dX4_firstTempting_36 rfl (lv_at hl 1 rfl) ?_
      refine lv_icmp_ne (tgt := 55) hx hb dX4_firstTempting_37 (by decide) (fun c_10 => ?_) (fun c_10 => ?_)
      · replace hF := itf c_10 hF
        refine lv_iinc (v := v5 + (1 : Int32)) (lv' := [(5, .int (v5 + (1 : Int32))), (0, .ref (base + p0)), (2, .int v2), (3, .ref (base + p3)), (4, .int v4)]) hx hb dX4_firstTempting_55 hl (k := 4) rfl (congrArg (fun z => v5 + z) (by decide)) (by decide) rfl (fun ls hl => ?_)
        refine lv_goto (tgt := 20) hx hb dX4_firstTempting_58 (by decide) ?_
        exact ih (v5 + (1 : Int32)) w hF H locs ls hH hS (lv_sub hl [1, 2, 3, 4, 0] rfl)
      · replace hF := itt c_10 hF
        refine lv_aload_n hx hb dX4_firstTempting_40 rfl (lv_at hl 2 rfl) ?_
        refine lv_iload hx hb dX4_firstTempting_41 (lv_at hl 4 rfl) ?_
        obtain ⟨x_11, e_11, hF⟩ := bnd hF
        refine m_rdI X hH e_11 dX4_firstTempting_43 ?_
        refine m_mabs X hl.1 kw_561 (by decide) (Nat.le_of_ble_eq_true rfl) hc dX4_firstTempting_44 ?_
        refine lv_iload hx hb dX4_firstTempting_47 (lv_at hl 3 rfl) ?_
        refine lv_icmp_le (tgt := 55) hx hb dX4_firstTempting_49 (by decide) (fun c_12 => ?_) (fun c_12 => ?_)
        · replace hF := itt c_12 hF
          refine lv_iinc (v := v5 + (1 : Int32)) (lv' := [(5, .int (v5 + (1 : Int32))), (0, .ref (base + p0)), (2, .int v2), (3, .ref (base + p3)), (4, .int v4)]) hx hb dX4_firstTempting_55 hl (k := 4) rfl (congrArg (fun z => v5 + z) (by decide)) (by decide) rfl (fun ls hl => ?_)
          refine lv_goto (tgt := 20) hx hb dX4_firstTempting_58 (by decide) ?_
          exact ih (v5 + (1 : Int32)) w hF H locs ls hH hS (lv_sub hl [1, 2, 3, 4, 0] rfl)
        · replace hF := itf c_12 hF
          exact hK_52 v5 w hF H locs ls hH hS (lv_sub hl [4] rfl)
set_option maxHeartbeats 4000000 in
set_option maxRecDepth 100000 in
theorem k_X4_firstTempting (l : Launch) (D : va_G) (cI cT cII : ClassId) (base : Nat) (p0 : Nat) (v1 : Int32) (v2 : Int32) (p3 : Nat) (w : Wd) (res : Int32 × Wd) (hF : fX4_firstTempting p0 v1 v2 p3 w = some res) : Ct l yX4_firstTempting cX4_firstTempting 6 (some .int) { frames := 1, cells := 0, slots := 0, locals := 21 } D cI cT cII base [.ref (base + p0), .int v1, .int v2, .ref (base + p3)] w res.2 (some (.int res.1)) 0 0 := by
  unfold fX4_firstTempting at hF
  refine m_enter (by decide) (Nat.le_of_ble_eq_true rfl) ?_
  intro p e s m below meth c ls X hr hlk hnm hH hS hl
  have hx := X.1
  have hb := X.2.1
  have hc : (0 : Nat) ≤ ({ frames := 1, cells := 0, slots := 0, locals := 21 } : Room).cells ∧ (0 : Nat) ≤ ({ frames := 1, cells := 0, slots := 0, locals := 21 } : Room).slots := ⟨Nat.zero_le _, Nat.zero_le _⟩
  obtain ⟨H, hHe⟩ : ∃ H : Heap, H = s.heap := ⟨_, rfl⟩
  obtain ⟨locs, hle⟩ : ∃ L : List Loc, L = [] := ⟨_, rfl⟩
  have hl : lv_has ls 6 [(0, .ref (base + p0)), (1, .int v1), (2, .int v2), (3, .ref (base + p3))] := hl
  rw [← hHe] at hH
  have hS : va_S (fun q => base ≤ q) s.heap H locs := by rw [hHe, hle]; exact hS
  rw [← hle]
  show W p l e _ s m _ below meth c s.heap locs 0 0 _ _
  rw [← hHe]
  refine lv_aload_n hx hb dX4_firstTempting_0 rfl (lv_at hl 0 rfl) ?_
  obtain ⟨r_1, e_1, hF⟩ := bnd hF
  refine m_gR X hH e_1 gg_X4_24 dX4_firstTempting_1 ?_
  refine lv_iload_n hx hb dX4_firstTempting_4 rfl (lv_at hl 1 rfl) ?_
  obtain ⟨x_2, e_2, hF⟩ := bnd hF
  refine m_rdI X hH e_2 dX4_firstTempting_5 ?_
  refine lv_aload_n hx hb dX4_firstTempting_6 rfl (lv_at hl 0 rfl) ?_
  obtain ⟨r_3, e_3, hF⟩ := bnd hF
  refine m_gR X hH e_3 gg_X4_27 dX4_firstTempting_7 ?_
  refine lv_iload_n hx hb dX4_firstTempting_10 rfl (lv_at hl 1 rfl) ?_
  obtain ⟨x_4, e_4, hF⟩ := bnd hF
  refine m_rdI X hH e_4 dX4_firstTempting_11 ?_
  obtain ⟨q_5, e_5, hF⟩ := bnd hF
  refine m_callS (As := [.int x_2, .int x_4]) (rest := []) X hH hS hl.1 (k_X3_farthestBorne l D cI cT cII base x_2 x_4 w q_5 e_5) q_X3_farthestBorne kw_558 kw_559 rfl rfl (Nat.le_of_ble_eq_true rfl) ⟨by decide, by decide⟩ hc dX4_firstTempting_12 (fun H locs hH hS => W.eq (g2 := F0 m 15 ls [.int q_5.1]) rfl ?_)
  refine lv_istore (lv' := [(4, .int q_5.1), (0, .ref (base + p0)), (1, .int v1), (2, .int v2), (3, .ref (base + p3))]) hx hb dX4_firstTempting_15 hl (by decide) rfl (fun ls hl => ?_)
  refine lv_iconst (v := (0 : Int32)) hx hb dX4_firstTempting_17 (by decide) ?_
  refine lv_istore (lv' := [(5, .int (0 : Int32)), (4, .int q_5.1), (0, .ref (base + p0)), (1, .int v1), (2, .int v2), (3, .ref (base + p3))]) hx hb dX4_firstTempting_18 hl (by decide) rfl (fun ls hl => ?_)
  refine l_X4_firstTempting_20 X hc p0 v2 p3 q_5.1 _ _ res ?_ ?_ FV (0 : Int32) q_5.2 hF H locs ls hH hS (lv_sub hl [2, 4, 5, 1, 0] rfl)
  · intro v5_14 w_13 hF H locs ls hH hS hl
    refine lv_iload hx hb dX4_firstTempting_52 (lv_at hl 0 rfl) ?_
    have hF := Option.some.inj hF
    subst hF
    exact m_iret X hr hlk hH hS dX4_firstTempting_54
  · intro  w_15 hF H locs ls hH hS hl
    refine lv_bipush (v := (-4 : Int32)) hx hb dX4_firstTempting_61 (by decide) ?_
    have hF := Option.some.inj hF
    subst hF
    exact m_iret X hr hlk hH hS dX4_firstTempting_63
noncomputable def fX3_settle (v0 : Int32) (v1 : Int32) (v2 : Int32) (w : Wd) : Option (Int32 × Wd) := (fX3_farthestBorne v0 v1 w).bind fun q_1 => if q_1.1 < (iabs v2) then if v0 = (1 : Int32) then (dvI v2 (2 : Int32)).bind fun x_6 => some (x_6, q_1.2) else if v0 = (2 : Int32) then (dvI v2 (2 : Int32)).bind fun x_7 => some (-x_7, q_1.2) else if v0 = (3 : Int32) then if v2 ≤ 0 then some (-v1, q_1.2) else some (v1, q_1.2) else some ((0 : Int32), q_1.2) else some (v2, q_1.2)
set_option maxHeartbeats 4000000 in
set_option maxRecDepth 100000 in
theorem k_X3_settle (l : Launch) (D : va_G) (cI cT cII : ClassId) (base : Nat) (v0 : Int32) (v1 : Int32) (v2 : Int32) (w : Wd) (res : Int32 × Wd) (hF : fX3_settle v0 v1 v2 w = some res) : Ct l yX3_settle cX3_settle 3 (some .int) { frames := 1, cells := 0, slots := 0, locals := 21 } D cI cT cII base [.int v0, .int v1, .int v2] w res.2 (some (.int res.1)) 0 0 := by
  unfold fX3_settle at hF
  refine m_enter (by decide) (Nat.le_of_ble_eq_true rfl) ?_
  intro p e s m below meth c ls X hr hlk hnm hH hS hl
  have hx := X.1
  have hb := X.2.1
  have hc : (0 : Nat) ≤ ({ frames := 1, cells := 0, slots := 0, locals := 21 } : Room).cells ∧ (0 : Nat) ≤ ({ frames := 1, cells := 0, slots := 0, locals := 21 } : Room).slots := ⟨Nat.zero_le _, Nat.zero_le _⟩
  obtain ⟨H, hHe⟩ : ∃ H : Heap, H = s.heap := ⟨_, rfl⟩
  obtain ⟨locs, hle⟩ : ∃ L : List Loc, L = [] := ⟨_, rfl⟩
  have hl : lv_has ls 3 [(0, .int v0), (1, .int v1), (2, .int v2)] := hl
  rw [← hHe] at hH
  have hS : va_S (fun q => base ≤ q) s.heap H locs := by rw [hHe, hle]; exact hS
  rw [← hle]
  show W p l e _ s m _ below meth c s.heap locs 0 0 _ _
  rw [← hHe]
  refine lv_iload_n hx hb dX3_settle_0 rfl (lv_at hl 2 rfl) ?_
  refine m_mabs X hl.1 kw_571 (by decide) (Nat.le_of_ble_eq_true rfl) hc dX3_settle_1 ?_
  refine lv_iload_n hx hb dX3_settle_4 rfl (lv_at hl 0 rfl) ?_
  refine lv_iload_n hx hb dX3_settle_5 rfl (lv_at hl 1 rfl) ?_
  obtain ⟨q_1, e_1, hF⟩ := bnd hF
  refine m_callS (As := [.int v0, .int v1]) (rest := [.int (iabs v2)]) X hH hS hl.1 (k_X3_farthestBorne l D cI cT cII base v0 v1 w q_1 e_1) q_X3_farthestBorne kw_572 kw_559 rfl rfl (Nat.le_of_ble_eq_true rfl) ⟨by decide, by decide⟩ hc dX3_settle_6 (fun H locs hH hS => W.eq (g2 := F0 m 9 ls [.int q_1.1, .int (iabs v2)]) rfl ?_)
  refine lv_icmp_gt (tgt := 14) hx hb dX3_settle_9 (by decide) (fun c_2 => ?_) (fun c_2 => ?_)
  · replace hF := itt c_2 hF
    refine lv_iload_n hx hb dX3_settle_14 rfl (lv_at hl 0 rfl) ?_
    by_cases c_3 : v0 = (1 : Int32)
    · replace hF := itt c_3 hF
      refine lv_tableIn (tgt := 40) hx hb dX3_settle_15 (by rw [c_3]; decide) (by rw [c_3]; decide) (by rw [c_3]; rfl) (by decide) ?_
      refine lv_iload_n hx hb dX3_settle_40 rfl (lv_at hl 2 rfl) ?_
      refine lv_iconst (v := (2 : Int32)) hx hb dX3_settle_41 (by decide) ?_
      obtain ⟨x_6, e_6, hF⟩ := bnd hF
      refine m_idiv X e_6 dX3_settle_42 ?_
      have hF := Option.some.inj hF
      subst hF
      exact m_iret X hr hlk hH hS dX3_settle_43
    · replace hF := itf c_3 hF
      by_cases c_4 : v0 = (2 : Int32)
      · replace hF := itt c_4 hF
        refine lv_tableIn (tgt := 44) hx hb dX3_settle_15 (by rw [c_4]; decide) (by rw [c_4]; decide) (by rw [c_4]; rfl) (by decide) ?_
        refine lv_iload_n hx hb dX3_settle_44 rfl (lv_at hl 2 rfl) ?_
        refine lv_iconst (v := (2 : Int32)) hx hb dX3_settle_45 (by decide) ?_
        obtain ⟨x_7, e_7, hF⟩ := bnd hF
        refine m_idiv X e_7 dX3_settle_46 ?_
        refine lv_ineg hx hb dX3_settle_47 ?_
        have hF := Option.some.inj hF
        subst hF
        exact m_iret X hr hlk hH hS dX3_settle_48
      · replace hF := itf c_4 hF
        by_cases c_5 : v0 = (3 : Int32)
        · replace hF := itt c_5 hF
          refine lv_tableIn (tgt := 49) hx hb dX3_settle_15 (by rw [c_5]; decide) (by rw [c_5]; decide) (by rw [c_5]; rfl) (by decide) ?_
          refine lv_iload_n hx hb dX3_settle_49 rfl (lv_at hl 2 rfl) ?_
          refine lv_if_le (tgt := 57) hx hb dX3_settle_50 (by decide) (fun c_8 => ?_) (fun c_8 => ?_)
          · replace hF := itt c_8 hF
            refine lv_iload_n hx hb dX3_settle_57 rfl (lv_at hl 1 rfl) ?_
            refine lv_ineg hx hb dX3_settle_58 ?_
            have hF := Option.some.inj hF
            subst hF
            exact m_iret X hr hlk hH hS dX3_settle_59
          · replace hF := itf c_8 hF
            refine lv_iload_n hx hb dX3_settle_53 rfl (lv_at hl 1 rfl) ?_
            refine lv_goto (tgt := 59) hx hb dX3_settle_54 (by decide) ?_
            have hF := Option.some.inj hF
            subst hF
            exact m_iret X hr hlk hH hS dX3_settle_59
        · replace hF := itf c_5 hF
          have z_c_3 := lv_neT c_3 (show Int32.toInt (1 : Int32) = 1 by decide)
          have z_c_4 := lv_neT c_4 (show Int32.toInt (2 : Int32) = 2 by decide)
          have z_c_5 := lv_neT c_5 (show Int32.toInt (3 : Int32) = 3 by decide)
          refine lv_tableOut (tgt := 60) hx hb dX3_settle_15 (by omega) (by decide) ?_
          refine lv_iconst (v := (0 : Int32)) hx hb dX3_settle_60 (by decide) ?_
          have hF := Option.some.inj hF
          subst hF
          exact m_iret X hr hlk hH hS dX3_settle_61
  · replace hF := itf c_2 hF
    refine lv_iload_n hx hb dX3_settle_12 rfl (lv_at hl 2 rfl) ?_
    have hF := Option.some.inj hF
    subst hF
    exact m_iret X hr hlk hH hS dX3_settle_13
noncomputable def fX4_setBy (p0 : Nat) (v1 : Int32) (v2 : Int32) (w : Wd) : Option (Int32 × Wd) := (gfR 3 5 p0 w).bind fun r_1 => (rdI r_1 v1 w).bind fun x_2 => (gfR 3 6 p0 w).bind fun r_3 => (rdI r_3 v1 w).bind fun x_4 => (fX3_settle x_2 x_4 v2 w).bind fun q_5 => some (q_5.1, q_5.2)
set_option maxHeartbeats 4000000 in
set_option maxRecDepth 100000 in
theorem k_X4_setBy (l : Launch) (D : va_G) (cI cT cII : ClassId) (base : Nat) (p0 : Nat) (v1 : Int32) (v2 : Int32) (w : Wd) (res : Int32 × Wd) (hF : fX4_setBy p0 v1 v2 w = some res) : Ct l yX4_setBy cX4_setBy 3 (some .int) { frames := 2, cells := 0, slots := 0, locals := 43 } D cI cT cII base [.ref (base + p0), .int v1, .int v2] w res.2 (some (.int res.1)) 0 0 := by
  unfold fX4_setBy at hF
  refine m_enter (by decide) (Nat.le_of_ble_eq_true rfl) ?_
  intro p e s m below meth c ls X hr hlk hnm hH hS hl
  have hx := X.1
  have hb := X.2.1
  have hc : (0 : Nat) ≤ ({ frames := 2, cells := 0, slots := 0, locals := 43 } : Room).cells ∧ (0 : Nat) ≤ ({ frames := 2, cells := 0, slots := 0, locals := 43 } : Room).slots := ⟨Nat.zero_le _, Nat.zero_le _⟩
  obtain ⟨H, hHe⟩ : ∃ H : Heap, H = s.heap := ⟨_, rfl⟩
  obtain ⟨locs, hle⟩ : ∃ L : List Loc, L = [] := ⟨_, rfl⟩
  have hl : lv_has ls 3 [(0, .ref (base + p0)), (1, .int v1), (2, .int v2)] := hl
  rw [← hHe] at hH
  have hS : va_S (fun q => base ≤ q) s.heap H locs := by rw [hHe, hle]; exact hS
  rw [← hle]
  show W p l e _ s m _ below meth c s.heap locs 0 0 _ _
  rw [← hHe]
  refine lv_aload_n hx hb dX4_setBy_0 rfl (lv_at hl 0 rfl) ?_
  obtain ⟨r_1, e_1, hF⟩ := bnd hF
  refine m_gR X hH e_1 gg_X4_24 dX4_setBy_1 ?_
  refine lv_iload_n hx hb dX4_setBy_4 rfl (lv_at hl 1 rfl) ?_
  obtain ⟨x_2, e_2, hF⟩ := bnd hF
  refine m_rdI X hH e_2 dX4_setBy_5 ?_
  refine lv_aload_n hx hb dX4_setBy_6 rfl (lv_at hl 0 rfl) ?_
  obtain ⟨r_3, e_3, hF⟩ := bnd hF
  refine m_gR X hH e_3 gg_X4_27 dX4_setBy_7 ?_
  refine lv_iload_n hx hb dX4_setBy_10 rfl (lv_at hl 1 rfl) ?_
  obtain ⟨x_4, e_4, hF⟩ := bnd hF
  refine m_rdI X hH e_4 dX4_setBy_11 ?_
  refine lv_iload_n hx hb dX4_setBy_12 rfl (lv_at hl 2 rfl) ?_
  obtain ⟨q_5, e_5, hF⟩ := bnd hF
  refine m_callS (As := [.int x_2, .int x_4, .int v2]) (rest := []) X hH hS hl.1 (k_X3_settle l D cI cT cII base x_2 x_4 v2 w q_5 e_5) q_X3_settle kw_568 kw_569 rfl rfl (Nat.le_of_ble_eq_true rfl) ⟨by decide, by decide⟩ hc dX4_setBy_13 (fun H locs hH hS => W.eq (g2 := F0 m 16 ls [.int q_5.1]) rfl ?_)
  have hF := Option.some.inj hF
  subst hF
  exact m_iret X hr hlk hH hS dX4_setBy_16
noncomputable def fX4_letCome_11 (p0 : Nat) (p1 : Nat) (p2 : Nat) (K_99 : Int32 → Wd → Option (Int32 × Wd)) : Nat → Int32 → Int32 → Wd → Option (Int32 × Wd)
  | 0, _, _, _ => none
  | n + 1, v3, v4, w => (gfI 3 11 p0 w).bind fun x_2 => if x_2 ≤ v4 then K_99 v3 w else (gfR 3 8 p0 w).bind fun r_4 => (rdI r_4 v4 w).bind fun x_5 => (rdI p2 x_5 w).bind fun x_6 => if x_6 = (-4 : Int32) then (gfR 3 10 p0 w).bind fun r_14 => (rdI r_14 v4 w).bind fun x_15 => (isO 3 p0 w).bind fun u_16 => (fX4_firstTempting p0 x_5 x_15 p1 w).bind fun q_17 => if q_17.1 = (-4 : Int32) then fX4_letCome_11 p0 p1 p2 K_99 n v3 (v4 + (1 : Int32)) q_17.2 else (rdI p1 q_17.1 q_17.2).bind fun x_19 => (isO 3 p0 q_17.2).bind fun u_20 => (fX4_setBy p0 x_5 x_19 q_17.2).bind fun q_21 => (wrI p1 q_17.1 q_21.1 q_21.2).bind fun w_22 => (wrI p2 x_5 q_17.1 w_22).bind fun w_23 => fX4_letCome_11 p0 p1 p2 K_99 n (v3 ||| ((1 : Int32) <<< (x_5 &&& 31))) (v4 + (1 : Int32)) w_23 else if (-4 : Int32) = (-4 : Int32) then fX4_letCome_11 p0 p1 p2 K_99 n v3 (v4 + (1 : Int32)) w else (rdI p1 (-4 : Int32) w).bind fun x_9 => (isO 3 p0 w).bind fun u_10 => (fX4_setBy p0 x_5 x_9 w).bind fun q_11 => (wrI p1 (-4 : Int32) q_11.1 q_11.2).bind fun w_12 => (wrI p2 x_5 (-4 : Int32) w_12).bind fun w_13 => fX4_letCome_11 p0 p1 p2 K_99 n (v3 ||| ((1 : Int32) <<< (x_5 &&& 31))) (v4 + (1 : Int32)) w_13
noncomputable def fX4_letCome (p0 : Nat) (p1 : Nat) (p2 : Nat) (w : Wd) : Option (Int32 × Wd) := (fJ7_fill_53178 p2 (-4 : Int32) w).bind fun q_1 => fX4_letCome_11 p0 p1 p2 (fun (v3_25 : Int32) (w_24 : Wd) => some (v3_25, w_24)) FV (0 : Int32) (0 : Int32) q_1.2
set_option maxHeartbeats 4000000 in
set_option maxRecDepth 100000 in
theorem l_X4_letCome_11 (X : Cx p R s m args c cX4_letCome 7 RX4 D cI cT cII 3 65) (hc : cells ≤ R.cells ∧ slots ≤ R.slots) (p0 : Nat) (p1 : Nat) (p2 : Nat) (K_99 : Int32 → Wd → Option (Int32 × Wd)) (res : Int32 × Wd)
    (hK_99 : ∀ (z3 : Int32) (w : Wd), K_99 z3 w = some res → ∀ (H : Heap) (locs : List Loc) (ls : Array Slot), Hd D cI cT cII base w H → va_S (fun q => base ≤ q) s.heap H locs → lv_has ls 7 [(3, .int z3)] → W p l e R s m args below meth c H locs cells slots Q (F0 m 99 ls [])) :
    ∀ (n : Nat) (v3 : Int32) (v4 : Int32) (w : Wd), fX4_letCome_11 p0 p1 p2 K_99 n v3 v4 w = some res → ∀ (H : Heap) (locs : List Loc) (ls : Array Slot), Hd D cI cT cII base w H → va_S (fun q => base ≤ q) s.heap H locs → lv_has ls 7 [(0, .ref (base + p0)), (1, .ref (base + p1)), (2, .ref (base + p2)), (3, .int v3), (4, .int v4)] → W p l e R s m args below meth c H locs cells slots Q (F0 m 11 ls []) := by
  have hx := X.1
  have hb := X.2.1
  intro n
  induction n with
  | zero =>
    intro v3 v4 w hF
    rw [fX4_letCome_11] at hF
    cases hF
  | succ n ih =>
    intro v3 v4 w hF H locs ls hH hS hl
    rw [fX4_letCome_11] at hF
    refine lv_iload hx hb dX4_letCome_11 (lv_at hl 4 rfl) ?_
    refine lv_aload_n hx hb dX4_letCome_13 rfl (lv_at hl 0 rfl) ?_
    obtain ⟨x_2, e_2, hF⟩ := bnd hF
    refine m_gI X hH e_2 gg_X4_53 dX4_letCome_14 ?_
    refine lv_icmp_ge (tgt := 99) hx hb dX4_letCome_17 (by decide) (fun c_3 => ?_) (fun c_3 => ?_)
    · replace hF := itt c_3 hF
      exact hK_99 v3 w hF H locs ls hH hS (lv_sub hl [3] rfl)
    · replace hF := itf c_3 hF
      refine lv_aload_n hx hb dX4_letCome_20 rfl (lv_at hl 0 rfl) ?_
      obtain ⟨r_4, e_4, hF⟩ := bnd hF
      refine m_gR X hH e_4 gg_X4_30 dX4_letCome_21 ?_
      refine lv_iload hx hb dX4_letCome_24 (lv_at hl 4 rfl) ?_
      obtain ⟨x_5, e_5, hF⟩ := bnd hF
      refine m_rdI X hH e_5 dX4_letCome_26 ?_
      refine lv_istore (lv' := [(5, .int x_5), (0, .ref (base + p0)), (1, .ref (base + p1)), (2, .ref (base + p2)), (3, .int v3), (4, .int v4)]) hx hb dX4_letCome_27 hl (by decide) rfl (fun ls hl => ?_)
      refine lv_aload_n hx hb dX4_letCome_29 rfl (lv_at hl 3 rfl) ?_
      refine lv_iload hx hb dX4_letCome_30 (lv_at hl 0 rfl) ?_
      obtain ⟨x_6, e_6, hF⟩ := bnd hF
      refine m_rdI X hH e_6 dX4_letCome_32 ?_
      refine lv_bipush (v := (-4 : Int32)) hx hb dX4_letCome_33 (by decide) ?_
      refine lv_icmp_ne (tgt := 55) hx hb dX4_letCome_35 (by decide) (fun c_7 => ?_) (fun c_7 => ?_)
      · replace hF := itf c_7 hF
        refine lv_bipush (v := (-4 : Int32)) hx hb dX4_letCome_55 (by decide) ?_
        refine lv_istore (lv' := [(6, .int (-4 : Int32)), (5, .int x_5), (0, .ref (base + p0)), (1, .ref (base + p1)), (2, .ref (base + p2)), (3, .int v3), (4, .int v4)]) hx hb dX4_letCome_57 hl (by decide) rfl (fun ls hl => ?_)
        refine lv_iload hx hb dX4_letCome_59 (lv_at hl 0 rfl) ?_
        refine lv_bipush (v := (-4 : Int32)) hx hb dX4_letCome_61 (by decide) ?_
        refine lv_icmp_eq (tgt := 93) hx hb dX4_letCome_63 (by decide) (fun c_8 => ?_) (fun c_8 => ?_)
        · replace hF := itt c_8 hF
          refine lv_iinc (v := v4 + (1 : Int32)) (lv' := [(4, .int (v4 + (1 : Int32))), (6, .int (-4 : Int32)), (5, .int x_5), (0, .ref (base + p0)), (1, .ref (base + p1)), (2, .ref (base + p2)), (3, .int v3)]) hx hb dX4_letCome_93 hl (k := 6) rfl (congrArg (fun z => v4 + z) (by decide)) (by decide) rfl (fun ls hl => ?_)
          refine lv_goto (tgt := 11) hx hb dX4_letCome_96 (by decide) ?_
          exact ih v3 (v4 + (1 : Int32)) w hF H locs ls hH hS (lv_sub hl [3, 4, 5, 6, 0] rfl)
        · replace hF := itf c_8 hF
          refine lv_aload_n hx hb dX4_letCome_66 rfl (lv_at hl 3 rfl) ?_
          refine lv_iload hx hb dX4_letCome_67 (lv_at hl 0 rfl) ?_
          refine lv_aload_n hx hb dX4_letCome_69 rfl (lv_at hl 2 rfl) ?_
          refine lv_iload hx hb dX4_letCome_70 (lv_at hl 1 rfl) ?_
          refine lv_aload_n hx hb dX4_letCome_72 rfl (lv_at hl 3 rfl) ?_
          refine lv_iload hx hb dX4_letCome_73 (lv_at hl 0 rfl) ?_
          obtain ⟨x_9, e_9, hF⟩ := bnd hF
          refine m_rdI X hH e_9 dX4_letCome_75 ?_
          obtain ⟨u_10, ou_10, hF⟩ := bnd hF
          obtain ⟨q_11, e_11, hF⟩ := bnd hF
          refine m_callV (As := [.int x_5, .int x_9]) (rest := [.int (-4 : Int32), .ref (base + p1)]) X hH hS hl.1 ou_10 rfl (by decide) (k_X4_setBy l D cI cT cII base p0 x_5 x_9 w q_11 e_11) q_X4_setBy kw_564 kw_565 kw_566 rfl rfl (Nat.le_of_ble_eq_true rfl) ⟨by decide, by decide⟩ hc dX4_letCome_76 (fun H locs hH hS => W.eq (g2 := F0 m 79 ls [.int q_11.1, .int (-4 : Int32), .ref (base + p1)]) rfl ?_)
          obtain ⟨w_12, e_12, hF⟩ := bnd hF
          refine m_wrI X hH hS e_12 dX4_letCome_79 (fun H locs hH hS => ?_)
          refine lv_aload_n hx hb dX4_letCome_80 rfl (lv_at hl 4 rfl) ?_
          refine lv_iload hx hb dX4_letCome_81 (lv_at hl 1 rfl) ?_
          refine lv_iload hx hb dX4_letCome_83 (lv_at hl 0 rfl) ?_
          obtain ⟨w_13, e_13, hF⟩ := bnd hF
          refine m_wrI X hH hS e_13 dX4_letCome_85 (fun H locs hH hS => ?_)
          refine lv_iload_n hx hb dX4_letCome_86 rfl (lv_at hl 5 rfl) ?_
          refine lv_iconst (v := (1 : Int32)) hx hb dX4_letCome_87 (by decide) ?_
          refine lv_iload hx hb dX4_letCome_88 (lv_at hl 1 rfl) ?_
          refine lv_ishl hx hb dX4_letCome_90 ?_
          refine lv_ior hx hb dX4_letCome_91 ?_
          refine lv_istore_n (lv' := [(3, .int (v3 ||| ((1 : Int32) <<< (x_5 &&& 31)))), (6, .int (-4 : Int32)), (5, .int x_5), (0, .ref (base + p0)), (1, .ref (base + p1)), (2, .ref (base + p2)), (4, .int v4)]) hx hb dX4_letCome_92 rfl hl (by decide) rfl (fun ls hl => ?_)
          refine lv_iinc (v := v4 + (1 : Int32)) (lv' := [(4, .int (v4 + (1 : Int32))), (3, .int (v3 ||| ((1 : Int32) <<< (x_5 &&& 31)))), (6, .int (-4 : Int32)), (5, .int x_5), (0, .ref (base + p0)), (1, .ref (base + p1)), (2, .ref (base + p2))]) hx hb dX4_letCome_93 hl (k := 6) rfl (congrArg (fun z => v4 + z) (by decide)) (by decide) rfl (fun ls hl => ?_)
          refine lv_goto (tgt := 11) hx hb dX4_letCome_96 (by decide) ?_
          exact ih (v3 ||| ((1 : Int32) <<< (x_5 &&& 31))) (v4 + (1 : Int32)) w_13 hF H locs ls hH hS (lv_sub hl [4, 5, 6, 1, 0] rfl)
      · replace hF := itt c_7 hF
        refine lv_aload_n hx hb dX4_letCome_38 rfl (lv_at hl 1 rfl) ?_
        refine lv_iload hx hb dX4_letCome_39 (lv_at hl 0 rfl) ?_
        refine lv_aload_n hx hb dX4_letCome_41 rfl (lv_at hl 1 rfl) ?_
        obtain ⟨r_14, e_14, hF⟩ := bnd hF
        refine m_gR X hH e_14 gg_X4_36 dX4_letCome_42 ?_
        refine lv_iload hx hb dX4_letCome_45 (lv_at hl 5 rfl) ?_
        obtain ⟨x_15, e_15, hF⟩ := bnd hF
        refine m_rdI X hH e_15 dX4_letCome_47 ?_
        refine lv_aload_n hx hb dX4_letCome_48 rfl (lv_at hl 2 rfl) ?_
        obtain ⟨u_16, ou_16, hF⟩ := bnd hF
        obtain ⟨q_17, e_17, hF⟩ := bnd hF
        refine m_callV (As := [.int x_5, .int x_15, .ref (base + p1)]) (rest := []) X hH hS hl.1 ou_16 rfl (by decide) (k_X4_firstTempting l D cI cT cII base p0 x_5 x_15 p1 w q_17 e_17) q_X4_firstTempting kw_554 kw_556 kw_10 rfl rfl (Nat.le_of_ble_eq_true rfl) ⟨by decide, by decide⟩ hc dX4_letCome_49 (fun H locs hH hS => W.eq (g2 := F0 m 52 ls [.int q_17.1]) rfl ?_)
        refine lv_goto (tgt := 57) hx hb dX4_letCome_52 (by decide) ?_
        refine lv_istore (lv' := [(6, .int q_17.1), (5, .int x_5), (0, .ref (base + p0)), (1, .ref (base + p1)), (2, .ref (base + p2)), (3, .int v3), (4, .int v4)]) hx hb dX4_letCome_57 hl (by decide) rfl (fun ls hl => ?_)
        refine lv_iload hx hb dX4_letCome_59 (lv_at hl 0 rfl) ?_
        refine lv_bipush (v := (-4 : Int32)) hx hb dX4_letCome_61 (by decide) ?_
        refine lv_icmp_eq (tgt := 93) hx hb dX4_letCome_63 (by decide) (fun c_18 => ?_) (fun c_18 => ?_)
        · replace hF := itt c_18 hF
          refine lv_iinc (v := v4 + (1 : Int32)) (lv' := [(4, .int (v4 + (1 : Int32))), (6, .int q_17.1), (5, .int x_5), (0, .ref (base + p0)), (1, .ref (base + p1)), (2, .ref (base + p2)), (3, .int v3)]) hx hb dX4_letCome_93 hl (k := 6) rfl (congrArg (fun z => v4 + z) (by decide)) (by decide) rfl (fun ls hl => ?_)
          refine lv_goto (tgt := 11) hx hb dX4_letCome_96 (by decide) ?_
          exact ih v3 (v4 + (1 : Int32)) q_17.2 hF H locs ls hH hS (lv_sub hl [3, 4, 5, 6, 0] rfl)
        · replace hF := itf c_18 hF
          refine lv_aload_n hx hb dX4_letCome_66 rfl (lv_at hl 3 rfl) ?_
          refine lv_iload hx hb dX4_letCome_67 (lv_at hl 0 rfl) ?_
          refine lv_aload_n hx hb dX4_letCome_69 rfl (lv_at hl 2 rfl) ?_
          refine lv_iload hx hb dX4_letCome_70 (lv_at hl 1 rfl) ?_
          refine lv_aload_n hx hb dX4_letCome_72 rfl (lv_at hl 3 rfl) ?_
          refine lv_iload hx hb dX4_letCome_73 (lv_at hl 0 rfl) ?_
          obtain ⟨x_19, e_19, hF⟩ := bnd hF
          refine m_rdI X hH e_19 dX4_letCome_75 ?_
          obtain ⟨u_20, ou_20, hF⟩ := bnd hF
          obtain ⟨q_21, e_21, hF⟩ := bnd hF
          refine m_callV (As := [.int x_5, .int x_19]) (rest := [.int q_17.1, .ref (base + p1)]) X hH hS hl.1 ou_20 rfl (by decide) (k_X4_setBy l D cI cT cII base p0 x_5 x_19 q_17.2 q_21 e_21) q_X4_setBy kw_564 kw_565 kw_566 rfl rfl (Nat.le_of_ble_eq_true rfl) ⟨by decide, by decide⟩ hc dX4_letCome_76 (fun H locs hH hS => W.eq (g2 := F0 m 79 ls [.int q_21.1, .int q_17.1, .ref (base + p1)]) rfl ?_)
          obtain ⟨w_22, e_22, hF⟩ := bnd hF
          refine m_wrI X hH hS e_22 dX4_letCome_79 (fun H locs hH hS => ?_)
          refine lv_aload_n hx hb dX4_letCome_80 rfl (lv_at hl 4 rfl) ?_
          refine lv_iload hx hb dX4_letCome_81 (lv_at hl 1 rfl) ?_
          refine lv_iload hx hb dX4_letCome_83 (lv_at hl 0 rfl) ?_
          obtain ⟨w_23, e_23, hF⟩ := bnd hF
          refine m_wrI X hH hS e_23 dX4_letCome_85 (fun H locs hH hS => ?_)
          refine lv_iload_n hx hb dX4_letCome_86 rfl (lv_at hl 5 rfl) ?_
          refine lv_iconst (v := (1 : Int32)) hx hb dX4_letCome_87 (by decide) ?_
          refine lv_iload hx hb dX4_letCome_88 (lv_at hl 1 rfl) ?_
          refine lv_ishl hx hb dX4_letCome_90 ?_
          refine lv_ior hx hb dX4_letCome_91 ?_
          refine lv_istore_n (lv' := [(3, .int (v3 ||| ((1 : Int32) <<< (x_5 &&& 31)))), (6, .int q_17.1), (5, .int x_5), (0, .ref (base + p0)), (1, .ref (base + p1)), (2, .ref (base + p2)), (4, .int v4)]) hx hb dX4_letCome_92 rfl hl (by decide) rfl (fun ls hl => ?_)
          refine lv_iinc (v := v4 + (1 : Int32)) (lv' := [(4, .int (v4 + (1 : Int32))), (3, .int (v3 ||| ((1 : Int32) <<< (x_5 &&& 31)))), (6, .int q_17.1), (5, .int x_5), (0, .ref (base + p0)), (1, .ref (base + p1)), (2, .ref (base + p2))]) hx hb dX4_letCome_93 hl (k := 6) rfl (congrArg (fun z => v4 + z) (by decide)) (by decide) rfl (fun ls hl => ?_)
          refine lv_goto (tgt := 11) hx hb dX4_letCome_96 (by decide) ?_
          exact ih (v3 ||| ((1 : Int32) <<< (x_5 &&& 31))) (v4 + (1 : Int32)) w_23 hF H locs ls hH hS (lv_sub hl [4, 5, 6, 1, 0] rfl)
set_option maxHeartbeats 4000000 in
set_option maxRecDepth 100000 in
theorem k_X4_letCome (l : Launch) (D : va_G) (cI cT cII : ClassId) (base : Nat) (p0 : Nat) (p1 : Nat) (p2 : Nat) (w : Wd) (res : Int32 × Wd) (hF : fX4_letCome p0 p1 p2 w = some res) : Ct l yX4_letCome cX4_letCome 7 (some .int) { frames := 3, cells := 0, slots := 0, locals := 65 } D cI cT cII base [.ref (base + p0), .ref (base + p1), .ref (base + p2)] w res.2 (some (.int res.1)) 0 0 := by
  unfold fX4_letCome at hF
  refine m_enter (by decide) (Nat.le_of_ble_eq_true rfl) ?_
  intro p e s m below meth c ls X hr hlk hnm hH hS hl
  have hx := X.1
  have hb := X.2.1
  have hc : (0 : Nat) ≤ ({ frames := 3, cells := 0, slots := 0, locals := 65 } : Room).cells ∧ (0 : Nat) ≤ ({ frames := 3, cells := 0, slots := 0, locals := 65 } : Room).slots := ⟨Nat.zero_le _, Nat.zero_le _⟩
  obtain ⟨H, hHe⟩ : ∃ H : Heap, H = s.heap := ⟨_, rfl⟩
  obtain ⟨locs, hle⟩ : ∃ L : List Loc, L = [] := ⟨_, rfl⟩
  have hl : lv_has ls 7 [(0, .ref (base + p0)), (1, .ref (base + p1)), (2, .ref (base + p2))] := hl
  rw [← hHe] at hH
  have hS : va_S (fun q => base ≤ q) s.heap H locs := by rw [hHe, hle]; exact hS
  rw [← hle]
  show W p l e _ s m _ below meth c s.heap locs 0 0 _ _
  rw [← hHe]
  refine lv_aload_n hx hb dX4_letCome_0 rfl (lv_at hl 2 rfl) ?_
  refine lv_bipush (v := (-4 : Int32)) hx hb dX4_letCome_1 (by decide) ?_
  obtain ⟨q_1, e_1, hF⟩ := bnd hF
  refine m_callS (As := [.ref (base + p2), .int (-4 : Int32)]) (rest := []) X hH hS hl.1 (k_J7_fill_53178 l D cI cT cII base p2 (-4 : Int32) w q_1 e_1) q_J7_fill_53178 kw_551 kw_552 rfl rfl (Nat.le_of_ble_eq_true rfl) ⟨by decide, by decide⟩ hc dX4_letCome_3 (fun H locs hH hS => W.eq (g2 := F0 m 6 ls []) rfl ?_)
  refine lv_iconst (v := (0 : Int32)) hx hb dX4_letCome_6 (by decide) ?_
  refine lv_istore_n (lv' := [(3, .int (0 : Int32)), (0, .ref (base + p0)), (1, .ref (base + p1)), (2, .ref (base + p2))]) hx hb dX4_letCome_7 rfl hl (by decide) rfl (fun ls hl => ?_)
  refine lv_iconst (v := (0 : Int32)) hx hb dX4_letCome_8 (by decide) ?_
  refine lv_istore (lv' := [(4, .int (0 : Int32)), (3, .int (0 : Int32)), (0, .ref (base + p0)), (1, .ref (base + p1)), (2, .ref (base + p2))]) hx hb dX4_letCome_9 hl (by decide) rfl (fun ls hl => ?_)
  refine l_X4_letCome_11 X hc p0 p1 p2 _ res ?_ FV (0 : Int32) (0 : Int32) q_1.2 hF H locs ls hH hS (lv_sub hl [2, 3, 4, 1, 0] rfl)
  · intro v3_25 w_24 hF H locs ls hH hS hl
    refine lv_iload_n hx hb dX4_letCome_99 rfl (lv_at hl 0 rfl) ?_
    have hF := Option.some.inj hF
    subst hF
    exact m_iret X hr hlk hH hS dX4_letCome_100
end M00
