/-! THE TEXT'S CONSTANT: length() and charAt(k), through the JDK's own methods -/
theorem zi_S : (Jvm.Cond.initialized "java/lang/String") ∈ gT := gT_of (List.mem_of_getElem? (i := 65) (by decide +kernel)) rfl
theorem zi_L : (Jvm.Cond.initialized "java/lang/StringLatin1") ∈ gT := gT_of (List.mem_of_getElem? (i := 66) (by decide +kernel)) rfl
theorem zi_P : (Jvm.Cond.initialized "jdk/internal/util/Preconditions") ∈ gT := gT_of (List.mem_of_getElem? (i := 67) (by decide +kernel)) rfl
theorem zc_len : Cond.code yJ0_length_8abf5 cJ0_length_8abf5 1 (some .int) ∈ gT := gT_of (List.mem_of_getElem? (i := 325) (by decide +kernel)) rfl
theorem zq_len : CalS yJ0_length_8abf5 cJ0_length_8abf5 1 (some .int) 0 := ⟨⟨zc_len, zi_S⟩, by decide +kernel⟩
theorem zj_len : Cond.instanceMethod yJ0_length_8abf5 ∈ gT := gT_of (List.mem_of_getElem? (i := 323) (by decide +kernel)) rfl
theorem zs_len : Cond.selects "java/lang/String" yJ0_length_8abf5 yJ0_length_8abf5 ∈ gT := gT_of (List.mem_of_getElem? (i := 324) (by decide +kernel)) rfl
theorem zc_cod : Cond.code yJ0_coder_7d493 cJ0_coder_7d493 1 (some .byte) ∈ gT := gT_of (List.mem_of_getElem? (i := 329) (by decide +kernel)) rfl
theorem zq_cod : CalS yJ0_coder_7d493 cJ0_coder_7d493 1 (some .byte) 0 := ⟨⟨zc_cod, zi_S⟩, by decide +kernel⟩
theorem zj_cod : Cond.instanceMethod yJ0_coder_7d493 ∈ gT := gT_of (List.mem_of_getElem? (i := 327) (by decide +kernel)) rfl
theorem zs_cod : Cond.selects "java/lang/String" yJ0_coder_7d493 yJ0_coder_7d493 ∈ gT := gT_of (List.mem_of_getElem? (i := 328) (by decide +kernel)) rfl
theorem zc_chr : Cond.code yJ0_charAt_5068e cJ0_charAt_5068e 2 (some .char) ∈ gT := gT_of (List.mem_of_getElem? (i := 335) (by decide +kernel)) rfl
theorem zq_chr : CalS yJ0_charAt_5068e cJ0_charAt_5068e 2 (some .char) 1 := ⟨⟨zc_chr, zi_S⟩, by decide +kernel⟩
theorem zj_chr : Cond.instanceMethod yJ0_charAt_5068e ∈ gT := gT_of (List.mem_of_getElem? (i := 333) (by decide +kernel)) rfl
theorem zs_chr : Cond.selects "java/lang/String" yJ0_charAt_5068e yJ0_charAt_5068e ∈ gT := gT_of (List.mem_of_getElem? (i := 334) (by decide +kernel)) rfl
theorem zc_lat : Cond.code yJ0_isLatin1_aae02 cJ0_isLatin1_aae02 1 (some .boolean) ∈ gT := gT_of (List.mem_of_getElem? (i := 339) (by decide +kernel)) rfl
theorem zq_lat : CalS yJ0_isLatin1_aae02 cJ0_isLatin1_aae02 1 (some .boolean) 0 := ⟨⟨zc_lat, zi_S⟩, by decide +kernel⟩
theorem zj_lat : Cond.instanceMethod yJ0_isLatin1_aae02 ∈ gT := gT_of (List.mem_of_getElem? (i := 337) (by decide +kernel)) rfl
theorem zs_lat : Cond.selects "java/lang/String" yJ0_isLatin1_aae02 yJ0_isLatin1_aae02 ∈ gT := gT_of (List.mem_of_getElem? (i := 338) (by decide +kernel)) rfl
theorem zc_lch : Cond.code yJ1_charAt_3b067 cJ1_charAt_3b067 2 (some .char) ∈ gT := gT_of (List.mem_of_getElem? (i := 342) (by decide +kernel)) rfl
theorem zq_lch : CalS yJ1_charAt_3b067 cJ1_charAt_3b067 2 (some .char) 2 := ⟨⟨zc_lch, zi_L⟩, by decide +kernel⟩
theorem zj_lch : Cond.static yJ1_charAt_3b067 ∈ gT := gT_of (List.mem_of_getElem? (i := 341) (by decide +kernel)) rfl
theorem zc_chk : Cond.code yJ0_checkIndex_df160 cJ0_checkIndex_df160 2 none ∈ gT := gT_of (List.mem_of_getElem? (i := 345) (by decide +kernel)) rfl
theorem zq_chk : CalS yJ0_checkIndex_df160 cJ0_checkIndex_df160 2 none 2 := ⟨⟨zc_chk, zi_S⟩, by decide +kernel⟩
theorem zj_chk : Cond.static yJ0_checkIndex_df160 ∈ gT := gT_of (List.mem_of_getElem? (i := 344) (by decide +kernel)) rfl
theorem zc_prc : Cond.code yJ3_checkIndex_8e157 cJ3_checkIndex_8e157 3 (some .int) ∈ gT := gT_of (List.mem_of_getElem? (i := 350) (by decide +kernel)) rfl
theorem zq_prc : CalS yJ3_checkIndex_8e157 cJ3_checkIndex_8e157 3 (some .int) 3 := ⟨⟨zc_prc, zi_P⟩, by decide +kernel⟩
theorem zj_prc : Cond.static yJ3_checkIndex_8e157 ∈ gT := gT_of (List.mem_of_getElem? (i := 349) (by decide +kernel)) rfl
theorem zl_len : Cond.methodLink RX11 89 yJ0_length_8abf5 ∈ gT := gT_of (List.mem_of_getElem? (i := 322) (by decide +kernel)) rfl
theorem zl_chr : Cond.methodLink RX11 95 yJ0_charAt_5068e ∈ gT := gT_of (List.mem_of_getElem? (i := 332) (by decide +kernel)) rfl
theorem zl_cod : Cond.methodLink RJ0 335 yJ0_coder_7d493 ∈ gT := gT_of (List.mem_of_getElem? (i := 326) (by decide +kernel)) rfl
theorem zl_lat : Cond.methodLink RJ0 492 yJ0_isLatin1_aae02 ∈ gT := gT_of (List.mem_of_getElem? (i := 336) (by decide +kernel)) rfl
theorem zl_lch : Cond.methodLink RJ0 495 yJ1_charAt_3b067 ∈ gT := gT_of (List.mem_of_getElem? (i := 340) (by decide +kernel)) rfl
theorem zl_chk : Cond.methodLink RJ1 9 yJ0_checkIndex_df160 ∈ gT := gT_of (List.mem_of_getElem? (i := 343) (by decide +kernel)) rfl
theorem zl_prc : Cond.methodLink RJ0 1059 yJ3_checkIndex_8e157 ∈ gT := gT_of (List.mem_of_getElem? (i := 348) (by decide +kernel)) rfl
theorem zf_cmp : (Jvm.Cond.fieldLink "java/lang/String" (38 : Nat) "java/lang/String" "COMPACT_STRINGS" "Z") ∈ gT := gT_of (List.mem_of_getElem? (i := 330) (by decide +kernel)) rfl
theorem zf_sio : (Jvm.Cond.fieldLink "java/lang/String" (1053 : Nat) "jdk/internal/util/Preconditions" "SIOOBE_FORMATTER" "Ljava/util/function/BiFunction;") ∈ gT := gT_of (List.mem_of_getElem? (i := 346) (by decide +kernel)) rfl
theorem zf_val : (Jvm.Cond.fieldLink "java/lang/String" (9 : Nat) "java/lang/String" "value" "[B") ∈ gT := gT_of (List.mem_of_getElem? (i := 1217) (by decide +kernel)) rfl
theorem zf_cod : (Jvm.Cond.fieldLink "java/lang/String" (15 : Nat) "java/lang/String" "coder" "B") ∈ gT := gT_of (List.mem_of_getElem? (i := 1218) (by decide +kernel)) rfl
section STR
variable {p : Program} {l : Launch} {e : Env} {R : Room} {s : State} {m : MethodId} {args : Array Value} {below : List Frame} {meth : Method} {c : Code} {H : Heap} {locs : List Loc} {cells slots : Nat} {Q : State → Prop}
variable {cc : ByteArray} {pc nL fr lo : Nat} {ls : Array Slot} {rest : List Value} {D : va_G} {cI cT cII : ClassId} {base : Nat} {w w' : Wd} {own : String} {aK aV : Nat → Nat} {v0 : Value}
theorem m_nret {r : Int32} {ty : FieldType} (X : Cx p R s m args c cc nL own D cI cT cII fr lo) (hr : meth.sig.returnType = some ty) (hlk : meth.locks = false) (hn : narrow ty (.int r) = .int r) (hH : Hd D cI cT cII base w H) (hS : va_S (fun q => base ≤ q) s.heap H locs) (hdg : decode cc pc = .ok (.ireturn, 1)) :
    W p l e R s m args below meth c H locs cells slots (MQ below (Qp D cI cT cII base w (some (.int r))) args s cells slots (fun q => base ≤ q)) (F0 m pc ls [.int r]) :=
  W.zret X.1 X.2.1 hr hn (fun t ht _ => ⟨rfl, by rw [ht]; exact hH, hS.F ht⟩) hS.2.2 hdg hlk
end STR
section STRC
variable (l : Launch) (D : va_G) (cI cT cII : ClassId) (base : Nat) (aK aV : Nat → Nat) (v0 : Value) (w : Wd)
set_option maxHeartbeats 4000000 in
set_option maxRecDepth 100000 in
theorem kz_cod : CtE false l yJ0_coder_7d493 cJ0_coder_7d493 1 (some .byte) { frames := 0, cells := 0, slots := 0, locals := 0 } D cI cT cII base aK aV v0 [.ref (aK 0)] w w (some (.int 0)) 0 0 := by
  refine m_enterE (by decide) (Nat.le_of_ble_eq_true rfl) ?_
  intro p e s m below meth c ls X hE _ hr hlk hnm hH hS hl
  have hx := X.1
  have hb := X.2.1
  have hl : lv_has ls 1 [(0, .ref (aK 0))] := hl
  refine va_gets hx hb hE.2.2.2.2.1 hS X.2.2.2.1 (X.2.2.2.2.1 _ zf_cmp) (fun _ h => h) dJ0_coder_7d493_0 ?_
  refine lv_if_eq (tgt := 13) hx hb dJ0_coder_7d493_3 (by decide) (fun h => absurd h (by decide)) (fun _ => ?_)
  refine lv_aload_n hx hb dJ0_coder_7d493_6 rfl (lv_at hl 0 rfl) ?_
  refine vk_getf hx hb (hE.2.2.2.2.2.2.1 0 (by decide)).2.1 hS X.2.2.2.1 (X.2.2.2.2.1 _ zf_cod) (fun _ h => h) dJ0_coder_7d493_7 ?_
  refine lv_goto (tgt := 14) hx hb dJ0_coder_7d493_10 (by decide) ?_
  exact m_nret X hr hlk rfl hH hS dJ0_coder_7d493_14
set_option maxHeartbeats 4000000 in
set_option maxRecDepth 100000 in
theorem kz_lat : CtE false l yJ0_isLatin1_aae02 cJ0_isLatin1_aae02 1 (some .boolean) { frames := 0, cells := 0, slots := 0, locals := 0 } D cI cT cII base aK aV v0 [.ref (aK 0)] w w (some (.int 1)) 0 0 := by
  refine m_enterE (by decide) (Nat.le_of_ble_eq_true rfl) ?_
  intro p e s m below meth c ls X hE _ hr hlk hnm hH hS hl
  have hx := X.1
  have hb := X.2.1
  have hl : lv_has ls 1 [(0, .ref (aK 0))] := hl
  refine va_gets hx hb hE.2.2.2.2.1 hS X.2.2.2.1 (X.2.2.2.2.1 _ zf_cmp) (fun _ h => h) dJ0_isLatin1_aae02_0 ?_
  refine lv_if_eq (tgt := 17) hx hb dJ0_isLatin1_aae02_3 (by decide) (fun h => absurd h (by decide)) (fun _ => ?_)
  refine lv_aload_n hx hb dJ0_isLatin1_aae02_6 rfl (lv_at hl 0 rfl) ?_
  refine vk_getf hx hb (hE.2.2.2.2.2.2.1 0 (by decide)).2.1 hS X.2.2.2.1 (X.2.2.2.2.1 _ zf_cod) (fun _ h => h) dJ0_isLatin1_aae02_7 ?_
  refine lv_if_ne (tgt := 17) hx hb dJ0_isLatin1_aae02_10 (by decide) (fun h => absurd rfl h) (fun _ => ?_)
  refine lv_iconst (v := (1 : Int32)) hx hb dJ0_isLatin1_aae02_13 (by decide) ?_
  refine lv_goto (tgt := 18) hx hb dJ0_isLatin1_aae02_14 (by decide) ?_
  exact m_nret X hr hlk rfl hH hS dJ0_isLatin1_aae02_18
set_option maxHeartbeats 4000000 in
set_option maxRecDepth 100000 in
theorem kz_len : CtE false l yJ0_length_8abf5 cJ0_length_8abf5 1 (some .int) { frames := 1, cells := 0, slots := 0, locals := 20 } D cI cT cII base aK aV v0 [.ref (aK 0)] w w (some (.int 100)) 0 0 := by
  refine m_enterE (by decide) (Nat.le_of_ble_eq_true rfl) ?_
  intro p e s m below meth c ls X hE _ hr hlk hnm hH hS hl
  have hx := X.1
  have hb := X.2.1
  have hl : lv_has ls 1 [(0, .ref (aK 0))] := hl
  refine lv_aload_n hx hb dJ0_length_8abf5_0 rfl (lv_at hl 0 rfl) ?_
  refine vk_getf hx hb (hE.2.2.2.2.2.2.1 0 (by decide)).2.2.1 hS X.2.2.2.1 (X.2.2.2.2.1 _ zf_val) (fun _ h => h) dJ0_length_8abf5_1 ?_
  refine va_tlen hx hb (hE.2.2.2.2.2.2.1 0 (by decide)).2.2.2 hS (v := 100) (by decide) dJ0_length_8abf5_4 ?_
  refine lv_aload_n hx hb dJ0_length_8abf5_5 rfl (lv_at hl 0 rfl) ?_
  refine m_callT (As := []) (rest := [.int 100]) X hE hH hS hl.1 rfl (kz_cod l D cI cT cII base aK aV v0 w) zq_cod zl_cod zj_cod zs_cod rfl rfl (Nat.le_of_ble_eq_true rfl) ⟨by decide, by decide⟩ ⟨Nat.zero_le _, Nat.zero_le _⟩ dJ0_length_8abf5_6 (fun H locs hH hS => W.eq (g2 := F0 m 9 ls [.int 0, .int 100]) rfl ?_)
  refine lv_ishr hx hb dJ0_length_8abf5_9 ?_
  refine W.eq (g2 := F0 m 10 ls [.int 100]) (by rw [show (100 : Int32) >>> ((0 : Int32) &&& 31) = 100 by decide]) ?_
  exact m_iret X hr hlk hH hS dJ0_length_8abf5_10
set_option maxHeartbeats 4000000 in
set_option maxRecDepth 100000 in
theorem kz_prc (i n : Int32) (h0 : ¬ i < 0) (h1 : i < n) (hv : v0 = .null ∨ ∃ a, v0 = .ref a) : CtE false l yJ3_checkIndex_8e157 cJ3_checkIndex_8e157 3 (some .int) { frames := 0, cells := 0, slots := 0, locals := 0 } D cI cT cII base aK aV v0 [.int i, .int n, v0] w w (some (.int i)) 0 0 := by
  have hcat : (lg_sl [.int i, .int n, v0]).length ≤ 3 := by
    rcases hv with rfl | ⟨a, rfl⟩ <;> exact Nat.le_of_ble_eq_true rfl
  refine m_enterE (by decide) hcat ?_
  intro p e s m below meth c ls X hE _ hr hlk hnm hH hS hl
  have hx := X.1
  have hb := X.2.1
  have hl : lv_has ls 3 [(0, .int i), (1, .int n)] := by
    rcases hv with rfl | ⟨a, rfl⟩ <;> exact lv_sub hl [0, 1] rfl
  refine lv_iload_n hx hb dJ3_checkIndex_8e157_0 rfl (lv_at hl 0 rfl) ?_
  refine lv_if_lt (tgt := 9) hx hb dJ3_checkIndex_8e157_1 (by decide) (fun h => absurd h h0) (fun _ => ?_)
  refine lv_iload_n hx hb dJ3_checkIndex_8e157_4 rfl (lv_at hl 0 rfl) ?_
  refine lv_iload_n hx hb dJ3_checkIndex_8e157_5 rfl (lv_at hl 1 rfl) ?_
  refine lv_icmp_lt (tgt := 16) hx hb dJ3_checkIndex_8e157_6 (by decide) (fun _ => ?_) (fun h => absurd h1 h)
  refine lv_iload_n hx hb dJ3_checkIndex_8e157_16 rfl (lv_at hl 0 rfl) ?_
  exact m_iret X hr hlk hH hS dJ3_checkIndex_8e157_17
set_option maxHeartbeats 4000000 in
set_option maxRecDepth 100000 in
theorem kz_chk (i n : Int32) (h0 : ¬ i < 0) (h1 : i < n) : CtE false l yJ0_checkIndex_df160 cJ0_checkIndex_df160 2 none { frames := 1, cells := 0, slots := 0, locals := 22 } D cI cT cII base aK aV v0 [.int i, .int n] w w none 0 0 := by
  refine m_enterE (by decide) (Nat.le_of_ble_eq_true rfl) ?_
  intro p e s m below meth c ls X hE _ hr hlk hnm hH hS hl
  have hx := X.1
  have hb := X.2.1
  have hl : lv_has ls 2 [(0, .int i), (1, .int n)] := hl
  refine lv_iload_n hx hb dJ0_checkIndex_df160_0 rfl (lv_at hl 0 rfl) ?_
  refine lv_iload_n hx hb dJ0_checkIndex_df160_1 rfl (lv_at hl 1 rfl) ?_
  refine va_gets hx hb hE.2.2.2.2.2.1 hS X.2.2.2.1 (X.2.2.2.2.1 _ zf_sio) (fun _ h => h) dJ0_checkIndex_df160_2 ?_
  refine m_callZ (As := [.int i, .int n, v0]) (rest := []) X hE hH hS hl.1 (kz_prc l D cI cT cII base aK aV v0 w i n h0 h1 hE.2.2.2.1) zq_prc zl_prc zj_prc rfl rfl (Nat.le_of_ble_eq_true rfl) ⟨by decide, by decide⟩ ⟨Nat.zero_le _, Nat.zero_le _⟩ dJ0_checkIndex_df160_5 (fun H locs hH hS => W.eq (g2 := F0 m 8 ls [.int i]) rfl ?_)
  refine lv_pop hx hb dJ0_checkIndex_df160_8 rfl ?_
  exact m_vret X hr hlk hH hS dJ0_checkIndex_df160_9
/-- the text's char at k -/
def chS (k : Nat) : Int32 := strB.getD k 0
theorem chS_ok : ∀ k, k < 100 → ((chS k &&& 255).toUInt32 % 65536).toInt32 = chS k ∧ narrow .char (.int (chS k)) = .int (chS k) := by decide +kernel
set_option maxHeartbeats 4000000 in
set_option maxRecDepth 100000 in
theorem kz_lch (k : Nat) (hk : k < 100) : CtE false l yJ1_charAt_3b067 cJ1_charAt_3b067 2 (some .char) { frames := 2, cells := 0, slots := 0, locals := 43 } D cI cT cII base aK aV v0 [.ref (aV 0), .int (nI k)] w w (some (.int (chS k))) 0 0 := by
  refine m_enterE (by decide) (Nat.le_of_ble_eq_true rfl) ?_
  intro p e s m below meth c ls X hE _ hr hlk hnm hH hS hl
  have hx := X.1
  have hb := X.2.1
  have hl : lv_has ls 2 [(0, .ref (aV 0)), (1, .int (nI k))] := hl
  have h0 : ¬ nI k < 0 := nI_pos (by omega)
  have h1 : nI k < (100 : Int32) := nI_lt (b := 100) hk (by omega)
  refine lv_iload_n hx hb dJ1_charAt_3b067_0 rfl (lv_at hl 1 rfl) ?_
  refine lv_aload_n hx hb dJ1_charAt_3b067_1 rfl (lv_at hl 0 rfl) ?_
  refine va_tlen hx hb (hE.2.2.2.2.2.2.1 0 (by decide)).2.2.2 hS (v := 100) (by decide) dJ1_charAt_3b067_2 ?_
  refine m_callZ (As := [.int (nI k), .int 100]) (rest := []) X hE hH hS hl.1 (kz_chk l D cI cT cII base aK aV v0 w (nI k) 100 h0 h1) zq_chk zl_chk zj_chk rfl rfl (Nat.le_of_ble_eq_true rfl) ⟨by decide, by decide⟩ ⟨Nat.zero_le _, Nat.zero_le _⟩ dJ1_charAt_3b067_3 (fun H locs hH hS => W.eq (g2 := F0 m 6 ls []) rfl ?_)
  refine lv_aload_n hx hb dJ1_charAt_3b067_6 rfl (lv_at hl 0 rfl) ?_
  refine lv_iload_n hx hb dJ1_charAt_3b067_7 rfl (lv_at hl 1 rfl) ?_
  refine va_tb hx hb (hE.2.2.2.2.2.2.1 0 (by decide)).2.2.2 hS (i := nI k) (v := .int (chS k)) (show vp_in (nI k) 100 from nI_in hk (by omega)) (by rw [nI_clamp (by omega)]; rfl) dJ1_charAt_3b067_8 ?_
  refine lv_sipush (v := (255 : Int32)) hx hb dJ1_charAt_3b067_9 (by decide) ?_
  refine lv_iand hx hb dJ1_charAt_3b067_12 ?_
  refine lv_i2c (v := chS k) hx hb dJ1_charAt_3b067_13 (chS_ok k hk).1 ?_
  exact m_nret X hr hlk (chS_ok k hk).2 hH hS dJ1_charAt_3b067_14
set_option maxHeartbeats 4000000 in
set_option maxRecDepth 100000 in
theorem kz_chr (k : Nat) (hk : k < 100) : CtE false l yJ0_charAt_5068e cJ0_charAt_5068e 2 (some .char) { frames := 3, cells := 0, slots := 0, locals := 64 } D cI cT cII base aK aV v0 [.ref (aK 0), .int (nI k)] w w (some (.int (chS k))) 0 0 := by
  refine m_enterE (by decide) (Nat.le_of_ble_eq_true rfl) ?_
  intro p e s m below meth c ls X hE _ hr hlk hnm hH hS hl
  have hx := X.1
  have hb := X.2.1
  have hl : lv_has ls 2 [(0, .ref (aK 0)), (1, .int (nI k))] := hl
  refine lv_aload_n hx hb dJ0_charAt_5068e_0 rfl (lv_at hl 0 rfl) ?_
  refine m_callT (As := []) (rest := []) X hE hH hS hl.1 rfl (kz_lat l D cI cT cII base aK aV v0 w) zq_lat zl_lat zj_lat zs_lat rfl rfl (Nat.le_of_ble_eq_true rfl) ⟨by decide, by decide⟩ ⟨Nat.zero_le _, Nat.zero_le _⟩ dJ0_charAt_5068e_1 (fun H locs hH hS => W.eq (g2 := F0 m 4 ls [.int 1]) rfl ?_)
  refine lv_if_eq (tgt := 16) hx hb dJ0_charAt_5068e_4 (by decide) (fun h => absurd h (by decide)) (fun _ => ?_)
  refine lv_aload_n hx hb dJ0_charAt_5068e_7 rfl (lv_at hl 0 rfl) ?_
  refine vk_getf hx hb (hE.2.2.2.2.2.2.1 0 (by decide)).2.2.1 hS X.2.2.2.1 (X.2.2.2.2.1 _ zf_val) (fun _ h => h) dJ0_charAt_5068e_8 ?_
  refine lv_iload_n hx hb dJ0_charAt_5068e_11 rfl (lv_at hl 1 rfl) ?_
  refine m_callZ (As := [.ref (aV 0), .int (nI k)]) (rest := []) X hE hH hS hl.1 (kz_lch l D cI cT cII base aK aV v0 w k hk) zq_lch zl_lch zj_lch rfl rfl (Nat.le_of_ble_eq_true rfl) ⟨by decide, by decide⟩ ⟨Nat.zero_le _, Nat.zero_le _⟩ dJ0_charAt_5068e_12 (fun H locs hH hS => W.eq (g2 := F0 m 15 ls [.int (chS k)]) rfl ?_)
  exact m_nret X hr hlk (chS_ok k hk).2 hH hS dJ0_charAt_5068e_15
end STRC
