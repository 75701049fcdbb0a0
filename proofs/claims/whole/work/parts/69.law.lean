/-! THE LAW: each of its 32 calls -/
section LAWC
variable {p : Program} {l : Launch} {e : Env} {s : State} {m : MethodId} {below : List Frame} {meth : Method} {c : Code} {cells slots : Nat} {Q : State → Prop} {D : va_G} {cI cT cII : ClassId} {b L : Nat} {xs : Nat → Int32}
theorem m_sc {R : Room} {args : Array Value} {cc : ByteArray} {nL fr lo pc : Nat} {own : String} {H : Heap} {locs : List Loc} {ls : Array Slot} {rest : List Value} (X : Cx p R s m args c cc nL own D cI cT cII fr lo) (hX : va_X b L xs s s.heap) (hbl : b < s.heap.size) (hS : va_S (fun q => s.heap.size ≤ q) s.heap H locs) {i j : Nat} {x : Int32} (hj : nI j = x) (hi : i + j < L) (hL : L ≤ 3584) (hdg : decode cc pc = .ok (.iaload, 1))
    (k : W p l e R s m args below meth c H locs cells slots Q (F0 m (pc + 1) ls (.int (xs (i + j)) :: rest))) : W p l e R s m args below meth c H locs cells slots Q (F0 m pc ls (.int (nI i + x) :: .ref b :: rest)) := by
  subst hj
  rw [nI_add]
  refine va_sld X.1 X.2.1 hX hbl (Nat.not_le.mpr hbl) hS (i := nI (i + j)) (nI_in hi (by omega)) hdg ?_
  rw [nI_clamp (by omega)]
  exact k
theorem lk_X11_write : Cond.methodLink RL 13 yX11_write ∈ gT := gT_of (List.mem_of_getElem? (i := 491) (by decide +kernel)) rfl
theorem lj_X11_write : Cond.instanceMethod yX11_write ∈ gT := gT_of (List.mem_of_getElem? (i := 492) (by decide +kernel)) rfl
theorem ls_X11_write : Cond.selects (MethodName.cls yX11_write) yX11_write yX11_write ∈ gT := gT_of (List.mem_of_getElem? (i := 493) (by decide +kernel)) rfl
theorem lk_X12_write : Cond.methodLink RL 17 yX12_write ∈ gT := gT_of (List.mem_of_getElem? (i := 947) (by decide +kernel)) rfl
theorem lj_X12_write : Cond.instanceMethod yX12_write ∈ gT := gT_of (List.mem_of_getElem? (i := 948) (by decide +kernel)) rfl
theorem ls_X12_write : Cond.selects (MethodName.cls yX12_write) yX12_write yX12_write ∈ gT := gT_of (List.mem_of_getElem? (i := 949) (by decide +kernel)) rfl
theorem lk_X11_wipe : Cond.methodLink RL 18 yX11_wipe ∈ gT := gT_of (List.mem_of_getElem? (i := 495) (by decide +kernel)) rfl
theorem lj_X11_wipe : Cond.instanceMethod yX11_wipe ∈ gT := gT_of (List.mem_of_getElem? (i := 496) (by decide +kernel)) rfl
theorem ls_X11_wipe : Cond.selects (MethodName.cls yX11_wipe) yX11_wipe yX11_wipe ∈ gT := gT_of (List.mem_of_getElem? (i := 497) (by decide +kernel)) rfl
theorem lk_X12_wipe : Cond.methodLink RL 22 yX12_wipe ∈ gT := gT_of (List.mem_of_getElem? (i := 954) (by decide +kernel)) rfl
theorem lj_X12_wipe : Cond.instanceMethod yX12_wipe ∈ gT := gT_of (List.mem_of_getElem? (i := 955) (by decide +kernel)) rfl
theorem ls_X12_wipe : Cond.selects (MethodName.cls yX12_wipe) yX12_wipe yX12_wipe ∈ gT := gT_of (List.mem_of_getElem? (i := 956) (by decide +kernel)) rfl
theorem lk_X11_fault : Cond.methodLink RL 23 yX11_fault ∈ gT := gT_of (List.mem_of_getElem? (i := 499) (by decide +kernel)) rfl
theorem lj_X11_fault : Cond.instanceMethod yX11_fault ∈ gT := gT_of (List.mem_of_getElem? (i := 500) (by decide +kernel)) rfl
theorem ls_X11_fault : Cond.selects (MethodName.cls yX11_fault) yX11_fault yX11_fault ∈ gT := gT_of (List.mem_of_getElem? (i := 501) (by decide +kernel)) rfl
theorem lk_X12_fault : Cond.methodLink RL 26 yX12_fault ∈ gT := gT_of (List.mem_of_getElem? (i := 958) (by decide +kernel)) rfl
theorem lj_X12_fault : Cond.instanceMethod yX12_fault ∈ gT := gT_of (List.mem_of_getElem? (i := 959) (by decide +kernel)) rfl
theorem ls_X12_fault : Cond.selects (MethodName.cls yX12_fault) yX12_fault yX12_fault ∈ gT := gT_of (List.mem_of_getElem? (i := 960) (by decide +kernel)) rfl
theorem lk_X11_lay : Cond.methodLink RL 27 yX11_lay ∈ gT := gT_of (List.mem_of_getElem? (i := 503) (by decide +kernel)) rfl
theorem lj_X11_lay : Cond.instanceMethod yX11_lay ∈ gT := gT_of (List.mem_of_getElem? (i := 504) (by decide +kernel)) rfl
theorem ls_X11_lay : Cond.selects (MethodName.cls yX11_lay) yX11_lay yX11_lay ∈ gT := gT_of (List.mem_of_getElem? (i := 505) (by decide +kernel)) rfl
theorem lk_X12_lay : Cond.methodLink RL 30 yX12_lay ∈ gT := gT_of (List.mem_of_getElem? (i := 1008) (by decide +kernel)) rfl
theorem lj_X12_lay : Cond.instanceMethod yX12_lay ∈ gT := gT_of (List.mem_of_getElem? (i := 1009) (by decide +kernel)) rfl
theorem ls_X12_lay : Cond.selects (MethodName.cls yX12_lay) yX12_lay yX12_lay ∈ gT := gT_of (List.mem_of_getElem? (i := 1010) (by decide +kernel)) rfl
theorem lk_X11_frame : Cond.methodLink RL 31 yX11_frame ∈ gT := gT_of (List.mem_of_getElem? (i := 507) (by decide +kernel)) rfl
theorem lj_X11_frame : Cond.instanceMethod yX11_frame ∈ gT := gT_of (List.mem_of_getElem? (i := 508) (by decide +kernel)) rfl
theorem ls_X11_frame : Cond.selects (MethodName.cls yX11_frame) yX11_frame yX11_frame ∈ gT := gT_of (List.mem_of_getElem? (i := 509) (by decide +kernel)) rfl
theorem lk_X12_frame : Cond.methodLink RL 35 yX12_frame ∈ gT := gT_of (List.mem_of_getElem? (i := 1013) (by decide +kernel)) rfl
theorem lj_X12_frame : Cond.instanceMethod yX12_frame ∈ gT := gT_of (List.mem_of_getElem? (i := 1014) (by decide +kernel)) rfl
theorem ls_X12_frame : Cond.selects (MethodName.cls yX12_frame) yX12_frame yX12_frame ∈ gT := gT_of (List.mem_of_getElem? (i := 1015) (by decide +kernel)) rfl
theorem lk_X11_person : Cond.methodLink RL 36 yX11_person ∈ gT := gT_of (List.mem_of_getElem? (i := 512) (by decide +kernel)) rfl
theorem lj_X11_person : Cond.instanceMethod yX11_person ∈ gT := gT_of (List.mem_of_getElem? (i := 513) (by decide +kernel)) rfl
theorem ls_X11_person : Cond.selects (MethodName.cls yX11_person) yX11_person yX11_person ∈ gT := gT_of (List.mem_of_getElem? (i := 514) (by decide +kernel)) rfl
theorem lk_X12_person : Cond.methodLink RL 39 yX12_person ∈ gT := gT_of (List.mem_of_getElem? (i := 1021) (by decide +kernel)) rfl
theorem lj_X12_person : Cond.instanceMethod yX12_person ∈ gT := gT_of (List.mem_of_getElem? (i := 1022) (by decide +kernel)) rfl
theorem ls_X12_person : Cond.selects (MethodName.cls yX12_person) yX12_person yX12_person ∈ gT := gT_of (List.mem_of_getElem? (i := 1023) (by decide +kernel)) rfl
theorem lk_X11_angle : Cond.methodLink RL 40 yX11_angle ∈ gT := gT_of (List.mem_of_getElem? (i := 516) (by decide +kernel)) rfl
theorem lj_X11_angle : Cond.instanceMethod yX11_angle ∈ gT := gT_of (List.mem_of_getElem? (i := 517) (by decide +kernel)) rfl
theorem ls_X11_angle : Cond.selects (MethodName.cls yX11_angle) yX11_angle yX11_angle ∈ gT := gT_of (List.mem_of_getElem? (i := 518) (by decide +kernel)) rfl
theorem lk_X12_angle : Cond.methodLink RL 43 yX12_angle ∈ gT := gT_of (List.mem_of_getElem? (i := 1029) (by decide +kernel)) rfl
theorem lj_X12_angle : Cond.instanceMethod yX12_angle ∈ gT := gT_of (List.mem_of_getElem? (i := 1030) (by decide +kernel)) rfl
theorem ls_X12_angle : Cond.selects (MethodName.cls yX12_angle) yX12_angle yX12_angle ∈ gT := gT_of (List.mem_of_getElem? (i := 1031) (by decide +kernel)) rfl
theorem lk_X11_hers : Cond.methodLink RL 44 yX11_hers ∈ gT := gT_of (List.mem_of_getElem? (i := 573) (by decide +kernel)) rfl
theorem lj_X11_hers : Cond.instanceMethod yX11_hers ∈ gT := gT_of (List.mem_of_getElem? (i := 574) (by decide +kernel)) rfl
theorem ls_X11_hers : Cond.selects (MethodName.cls yX11_hers) yX11_hers yX11_hers ∈ gT := gT_of (List.mem_of_getElem? (i := 575) (by decide +kernel)) rfl
theorem lk_X12_hers : Cond.methodLink RL 47 yX12_hers ∈ gT := gT_of (List.mem_of_getElem? (i := 1080) (by decide +kernel)) rfl
theorem lj_X12_hers : Cond.instanceMethod yX12_hers ∈ gT := gT_of (List.mem_of_getElem? (i := 1081) (by decide +kernel)) rfl
theorem ls_X12_hers : Cond.selects (MethodName.cls yX12_hers) yX12_hers yX12_hers ∈ gT := gT_of (List.mem_of_getElem? (i := 1082) (by decide +kernel)) rfl
theorem lk_X11_sets : Cond.methodLink RL 48 yX11_sets ∈ gT := gT_of (List.mem_of_getElem? (i := 577) (by decide +kernel)) rfl
theorem lj_X11_sets : Cond.instanceMethod yX11_sets ∈ gT := gT_of (List.mem_of_getElem? (i := 578) (by decide +kernel)) rfl
theorem ls_X11_sets : Cond.selects (MethodName.cls yX11_sets) yX11_sets yX11_sets ∈ gT := gT_of (List.mem_of_getElem? (i := 579) (by decide +kernel)) rfl
theorem lk_X12_sets : Cond.methodLink RL 51 yX12_sets ∈ gT := gT_of (List.mem_of_getElem? (i := 1084) (by decide +kernel)) rfl
theorem lj_X12_sets : Cond.instanceMethod yX12_sets ∈ gT := gT_of (List.mem_of_getElem? (i := 1085) (by decide +kernel)) rfl
theorem ls_X12_sets : Cond.selects (MethodName.cls yX12_sets) yX12_sets yX12_sets ∈ gT := gT_of (List.mem_of_getElem? (i := 1086) (by decide +kernel)) rfl
theorem lk_X11_rest : Cond.methodLink RL 52 yX11_rest ∈ gT := gT_of (List.mem_of_getElem? (i := 581) (by decide +kernel)) rfl
theorem lj_X11_rest : Cond.instanceMethod yX11_rest ∈ gT := gT_of (List.mem_of_getElem? (i := 582) (by decide +kernel)) rfl
theorem ls_X11_rest : Cond.selects (MethodName.cls yX11_rest) yX11_rest yX11_rest ∈ gT := gT_of (List.mem_of_getElem? (i := 583) (by decide +kernel)) rfl
theorem lk_X12_rest : Cond.methodLink RL 55 yX12_rest ∈ gT := gT_of (List.mem_of_getElem? (i := 1088) (by decide +kernel)) rfl
theorem lj_X12_rest : Cond.instanceMethod yX12_rest ∈ gT := gT_of (List.mem_of_getElem? (i := 1089) (by decide +kernel)) rfl
theorem ls_X12_rest : Cond.selects (MethodName.cls yX12_rest) yX12_rest yX12_rest ∈ gT := gT_of (List.mem_of_getElem? (i := 1090) (by decide +kernel)) rfl
theorem lk_X11_sways : Cond.methodLink RL 56 yX11_sways ∈ gT := gT_of (List.mem_of_getElem? (i := 593) (by decide +kernel)) rfl
theorem lj_X11_sways : Cond.instanceMethod yX11_sways ∈ gT := gT_of (List.mem_of_getElem? (i := 594) (by decide +kernel)) rfl
theorem ls_X11_sways : Cond.selects (MethodName.cls yX11_sways) yX11_sways yX11_sways ∈ gT := gT_of (List.mem_of_getElem? (i := 595) (by decide +kernel)) rfl
theorem lk_X12_sways : Cond.methodLink RL 59 yX12_sways ∈ gT := gT_of (List.mem_of_getElem? (i := 1092) (by decide +kernel)) rfl
theorem lj_X12_sways : Cond.instanceMethod yX12_sways ∈ gT := gT_of (List.mem_of_getElem? (i := 1093) (by decide +kernel)) rfl
theorem ls_X12_sways : Cond.selects (MethodName.cls yX12_sways) yX12_sways yX12_sways ∈ gT := gT_of (List.mem_of_getElem? (i := 1094) (by decide +kernel)) rfl
theorem lk_X11_told : Cond.methodLink RL 60 yX11_told ∈ gT := gT_of (List.mem_of_getElem? (i := 605) (by decide +kernel)) rfl
theorem lj_X11_told : Cond.instanceMethod yX11_told ∈ gT := gT_of (List.mem_of_getElem? (i := 606) (by decide +kernel)) rfl
theorem ls_X11_told : Cond.selects (MethodName.cls yX11_told) yX11_told yX11_told ∈ gT := gT_of (List.mem_of_getElem? (i := 607) (by decide +kernel)) rfl
theorem lk_X12_told : Cond.methodLink RL 63 yX12_told ∈ gT := gT_of (List.mem_of_getElem? (i := 1099) (by decide +kernel)) rfl
theorem lj_X12_told : Cond.instanceMethod yX12_told ∈ gT := gT_of (List.mem_of_getElem? (i := 1100) (by decide +kernel)) rfl
theorem ls_X12_told : Cond.selects (MethodName.cls yX12_told) yX12_told yX12_told ∈ gT := gT_of (List.mem_of_getElem? (i := 1101) (by decide +kernel)) rfl
theorem lk_X11_turn : Cond.methodLink RL 64 yX11_turn ∈ gT := gT_of (List.mem_of_getElem? (i := 609) (by decide +kernel)) rfl
theorem lj_X11_turn : Cond.instanceMethod yX11_turn ∈ gT := gT_of (List.mem_of_getElem? (i := 610) (by decide +kernel)) rfl
theorem ls_X11_turn : Cond.selects (MethodName.cls yX11_turn) yX11_turn yX11_turn ∈ gT := gT_of (List.mem_of_getElem? (i := 611) (by decide +kernel)) rfl
theorem lk_X12_turn : Cond.methodLink RL 68 yX12_turn ∈ gT := gT_of (List.mem_of_getElem? (i := 1103) (by decide +kernel)) rfl
theorem lj_X12_turn : Cond.instanceMethod yX12_turn ∈ gT := gT_of (List.mem_of_getElem? (i := 1104) (by decide +kernel)) rfl
theorem ls_X12_turn : Cond.selects (MethodName.cls yX12_turn) yX12_turn yX12_turn ∈ gT := gT_of (List.mem_of_getElem? (i := 1105) (by decide +kernel)) rfl
theorem lk_X11_leave : Cond.methodLink RL 69 yX11_leave ∈ gT := gT_of (List.mem_of_getElem? (i := 619) (by decide +kernel)) rfl
theorem lj_X11_leave : Cond.instanceMethod yX11_leave ∈ gT := gT_of (List.mem_of_getElem? (i := 620) (by decide +kernel)) rfl
theorem ls_X11_leave : Cond.selects (MethodName.cls yX11_leave) yX11_leave yX11_leave ∈ gT := gT_of (List.mem_of_getElem? (i := 621) (by decide +kernel)) rfl
theorem lk_X12_leave : Cond.methodLink RL 72 yX12_leave ∈ gT := gT_of (List.mem_of_getElem? (i := 1111) (by decide +kernel)) rfl
theorem lj_X12_leave : Cond.instanceMethod yX12_leave ∈ gT := gT_of (List.mem_of_getElem? (i := 1112) (by decide +kernel)) rfl
theorem ls_X12_leave : Cond.selects (MethodName.cls yX12_leave) yX12_leave yX12_leave ∈ gT := gT_of (List.mem_of_getElem? (i := 1113) (by decide +kernel)) rfl
theorem lk_X11_undo : Cond.methodLink RL 73 yX11_undo ∈ gT := gT_of (List.mem_of_getElem? (i := 628) (by decide +kernel)) rfl
theorem lj_X11_undo : Cond.instanceMethod yX11_undo ∈ gT := gT_of (List.mem_of_getElem? (i := 629) (by decide +kernel)) rfl
theorem ls_X11_undo : Cond.selects (MethodName.cls yX11_undo) yX11_undo yX11_undo ∈ gT := gT_of (List.mem_of_getElem? (i := 630) (by decide +kernel)) rfl
theorem lk_X12_undo : Cond.methodLink RL 76 yX12_undo ∈ gT := gT_of (List.mem_of_getElem? (i := 1115) (by decide +kernel)) rfl
theorem lj_X12_undo : Cond.instanceMethod yX12_undo ∈ gT := gT_of (List.mem_of_getElem? (i := 1116) (by decide +kernel)) rfl
theorem ls_X12_undo : Cond.selects (MethodName.cls yX12_undo) yX12_undo yX12_undo ∈ gT := gT_of (List.mem_of_getElem? (i := 1117) (by decide +kernel)) rfl
theorem lk_X11_tempt : Cond.methodLink RL 77 yX11_tempt ∈ gT := gT_of (List.mem_of_getElem? (i := 636) (by decide +kernel)) rfl
theorem lj_X11_tempt : Cond.instanceMethod yX11_tempt ∈ gT := gT_of (List.mem_of_getElem? (i := 637) (by decide +kernel)) rfl
theorem ls_X11_tempt : Cond.selects (MethodName.cls yX11_tempt) yX11_tempt yX11_tempt ∈ gT := gT_of (List.mem_of_getElem? (i := 638) (by decide +kernel)) rfl
theorem lk_X12_tempt : Cond.methodLink RL 80 yX12_tempt ∈ gT := gT_of (List.mem_of_getElem? (i := 1119) (by decide +kernel)) rfl
theorem lj_X12_tempt : Cond.instanceMethod yX12_tempt ∈ gT := gT_of (List.mem_of_getElem? (i := 1120) (by decide +kernel)) rfl
theorem ls_X12_tempt : Cond.selects (MethodName.cls yX12_tempt) yX12_tempt yX12_tempt ∈ gT := gT_of (List.mem_of_getElem? (i := 1121) (by decide +kernel)) rfl
theorem lk_X11_fewest : Cond.methodLink RL 81 yX11_fewest ∈ gT := gT_of (List.mem_of_getElem? (i := 655) (by decide +kernel)) rfl
theorem lj_X11_fewest : Cond.instanceMethod yX11_fewest ∈ gT := gT_of (List.mem_of_getElem? (i := 656) (by decide +kernel)) rfl
theorem ls_X11_fewest : Cond.selects (MethodName.cls yX11_fewest) yX11_fewest yX11_fewest ∈ gT := gT_of (List.mem_of_getElem? (i := 657) (by decide +kernel)) rfl
theorem lk_X12_fewest : Cond.methodLink RL 84 yX12_fewest ∈ gT := gT_of (List.mem_of_getElem? (i := 1139) (by decide +kernel)) rfl
theorem lj_X12_fewest : Cond.instanceMethod yX12_fewest ∈ gT := gT_of (List.mem_of_getElem? (i := 1140) (by decide +kernel)) rfl
theorem ls_X12_fewest : Cond.selects (MethodName.cls yX12_fewest) yX12_fewest yX12_fewest ∈ gT := gT_of (List.mem_of_getElem? (i := 1141) (by decide +kernel)) rfl
theorem lk_X11_safe : Cond.methodLink RL 85 yX11_safe ∈ gT := gT_of (List.mem_of_getElem? (i := 696) (by decide +kernel)) rfl
theorem lj_X11_safe : Cond.instanceMethod yX11_safe ∈ gT := gT_of (List.mem_of_getElem? (i := 697) (by decide +kernel)) rfl
theorem ls_X11_safe : Cond.selects (MethodName.cls yX11_safe) yX11_safe yX11_safe ∈ gT := gT_of (List.mem_of_getElem? (i := 698) (by decide +kernel)) rfl
theorem lk_X12_safe : Cond.methodLink RL 88 yX12_safe ∈ gT := gT_of (List.mem_of_getElem? (i := 1143) (by decide +kernel)) rfl
theorem lj_X12_safe : Cond.instanceMethod yX12_safe ∈ gT := gT_of (List.mem_of_getElem? (i := 1144) (by decide +kernel)) rfl
theorem ls_X12_safe : Cond.selects (MethodName.cls yX12_safe) yX12_safe yX12_safe ∈ gT := gT_of (List.mem_of_getElem? (i := 1145) (by decide +kernel)) rfl
theorem lk_X11_hang : Cond.methodLink RL 89 yX11_hang ∈ gT := gT_of (List.mem_of_getElem? (i := 704) (by decide +kernel)) rfl
theorem lj_X11_hang : Cond.instanceMethod yX11_hang ∈ gT := gT_of (List.mem_of_getElem? (i := 705) (by decide +kernel)) rfl
theorem ls_X11_hang : Cond.selects (MethodName.cls yX11_hang) yX11_hang yX11_hang ∈ gT := gT_of (List.mem_of_getElem? (i := 706) (by decide +kernel)) rfl
theorem lk_X12_hang : Cond.methodLink RL 92 yX12_hang ∈ gT := gT_of (List.mem_of_getElem? (i := 1147) (by decide +kernel)) rfl
theorem lj_X12_hang : Cond.instanceMethod yX12_hang ∈ gT := gT_of (List.mem_of_getElem? (i := 1148) (by decide +kernel)) rfl
theorem ls_X12_hang : Cond.selects (MethodName.cls yX12_hang) yX12_hang yX12_hang ∈ gT := gT_of (List.mem_of_getElem? (i := 1149) (by decide +kernel)) rfl
theorem lk_X11_seen : Cond.methodLink RL 93 yX11_seen ∈ gT := gT_of (List.mem_of_getElem? (i := 714) (by decide +kernel)) rfl
theorem lj_X11_seen : Cond.instanceMethod yX11_seen ∈ gT := gT_of (List.mem_of_getElem? (i := 715) (by decide +kernel)) rfl
theorem ls_X11_seen : Cond.selects (MethodName.cls yX11_seen) yX11_seen yX11_seen ∈ gT := gT_of (List.mem_of_getElem? (i := 716) (by decide +kernel)) rfl
theorem lk_X12_seen : Cond.methodLink RL 96 yX12_seen ∈ gT := gT_of (List.mem_of_getElem? (i := 1155) (by decide +kernel)) rfl
theorem lj_X12_seen : Cond.instanceMethod yX12_seen ∈ gT := gT_of (List.mem_of_getElem? (i := 1156) (by decide +kernel)) rfl
theorem ls_X12_seen : Cond.selects (MethodName.cls yX12_seen) yX12_seen yX12_seen ∈ gT := gT_of (List.mem_of_getElem? (i := 1157) (by decide +kernel)) rfl
theorem lk_X11_forget : Cond.methodLink RL 97 yX11_forget ∈ gT := gT_of (List.mem_of_getElem? (i := 722) (by decide +kernel)) rfl
theorem lj_X11_forget : Cond.instanceMethod yX11_forget ∈ gT := gT_of (List.mem_of_getElem? (i := 723) (by decide +kernel)) rfl
theorem ls_X11_forget : Cond.selects (MethodName.cls yX11_forget) yX11_forget yX11_forget ∈ gT := gT_of (List.mem_of_getElem? (i := 724) (by decide +kernel)) rfl
theorem lk_X12_forget : Cond.methodLink RL 100 yX12_forget ∈ gT := gT_of (List.mem_of_getElem? (i := 1159) (by decide +kernel)) rfl
theorem lj_X12_forget : Cond.instanceMethod yX12_forget ∈ gT := gT_of (List.mem_of_getElem? (i := 1160) (by decide +kernel)) rfl
theorem ls_X12_forget : Cond.selects (MethodName.cls yX12_forget) yX12_forget yX12_forget ∈ gT := gT_of (List.mem_of_getElem? (i := 1161) (by decide +kernel)) rfl
theorem lk_X11_bears : Cond.methodLink RL 101 yX11_bears ∈ gT := gT_of (List.mem_of_getElem? (i := 726) (by decide +kernel)) rfl
theorem lj_X11_bears : Cond.instanceMethod yX11_bears ∈ gT := gT_of (List.mem_of_getElem? (i := 727) (by decide +kernel)) rfl
theorem ls_X11_bears : Cond.selects (MethodName.cls yX11_bears) yX11_bears yX11_bears ∈ gT := gT_of (List.mem_of_getElem? (i := 728) (by decide +kernel)) rfl
theorem lk_X12_bears : Cond.methodLink RL 104 yX12_bears ∈ gT := gT_of (List.mem_of_getElem? (i := 1163) (by decide +kernel)) rfl
theorem lj_X12_bears : Cond.instanceMethod yX12_bears ∈ gT := gT_of (List.mem_of_getElem? (i := 1164) (by decide +kernel)) rfl
theorem ls_X12_bears : Cond.selects (MethodName.cls yX12_bears) yX12_bears yX12_bears ∈ gT := gT_of (List.mem_of_getElem? (i := 1165) (by decide +kernel)) rfl
theorem lk_X11_look : Cond.methodLink RL 105 yX11_look ∈ gT := gT_of (List.mem_of_getElem? (i := 739) (by decide +kernel)) rfl
theorem lj_X11_look : Cond.instanceMethod yX11_look ∈ gT := gT_of (List.mem_of_getElem? (i := 740) (by decide +kernel)) rfl
theorem ls_X11_look : Cond.selects (MethodName.cls yX11_look) yX11_look yX11_look ∈ gT := gT_of (List.mem_of_getElem? (i := 741) (by decide +kernel)) rfl
theorem lk_X12_look : Cond.methodLink RL 108 yX12_look ∈ gT := gT_of (List.mem_of_getElem? (i := 1171) (by decide +kernel)) rfl
theorem lj_X12_look : Cond.instanceMethod yX12_look ∈ gT := gT_of (List.mem_of_getElem? (i := 1172) (by decide +kernel)) rfl
theorem ls_X12_look : Cond.selects (MethodName.cls yX12_look) yX12_look yX12_look ∈ gT := gT_of (List.mem_of_getElem? (i := 1173) (by decide +kernel)) rfl
theorem lk_X11_who : Cond.methodLink RL 109 yX11_who ∈ gT := gT_of (List.mem_of_getElem? (i := 755) (by decide +kernel)) rfl
theorem lj_X11_who : Cond.instanceMethod yX11_who ∈ gT := gT_of (List.mem_of_getElem? (i := 756) (by decide +kernel)) rfl
theorem ls_X11_who : Cond.selects (MethodName.cls yX11_who) yX11_who yX11_who ∈ gT := gT_of (List.mem_of_getElem? (i := 757) (by decide +kernel)) rfl
theorem lk_X12_who : Cond.methodLink RL 112 yX12_who ∈ gT := gT_of (List.mem_of_getElem? (i := 1178) (by decide +kernel)) rfl
theorem lj_X12_who : Cond.instanceMethod yX12_who ∈ gT := gT_of (List.mem_of_getElem? (i := 1179) (by decide +kernel)) rfl
theorem ls_X12_who : Cond.selects (MethodName.cls yX12_who) yX12_who yX12_who ∈ gT := gT_of (List.mem_of_getElem? (i := 1180) (by decide +kernel)) rfl
theorem lk_X11_ends : Cond.methodLink RL 113 yX11_ends ∈ gT := gT_of (List.mem_of_getElem? (i := 760) (by decide +kernel)) rfl
theorem lj_X11_ends : Cond.instanceMethod yX11_ends ∈ gT := gT_of (List.mem_of_getElem? (i := 761) (by decide +kernel)) rfl
theorem ls_X11_ends : Cond.selects (MethodName.cls yX11_ends) yX11_ends yX11_ends ∈ gT := gT_of (List.mem_of_getElem? (i := 762) (by decide +kernel)) rfl
theorem lk_X12_ends : Cond.methodLink RL 117 yX12_ends ∈ gT := gT_of (List.mem_of_getElem? (i := 1182) (by decide +kernel)) rfl
theorem lj_X12_ends : Cond.instanceMethod yX12_ends ∈ gT := gT_of (List.mem_of_getElem? (i := 1183) (by decide +kernel)) rfl
theorem ls_X12_ends : Cond.selects (MethodName.cls yX12_ends) yX12_ends yX12_ends ∈ gT := gT_of (List.mem_of_getElem? (i := 1184) (by decide +kernel)) rfl
theorem lk_X11_wire : Cond.methodLink RL 118 yX11_wire ∈ gT := gT_of (List.mem_of_getElem? (i := 764) (by decide +kernel)) rfl
theorem lj_X11_wire : Cond.instanceMethod yX11_wire ∈ gT := gT_of (List.mem_of_getElem? (i := 765) (by decide +kernel)) rfl
theorem ls_X11_wire : Cond.selects (MethodName.cls yX11_wire) yX11_wire yX11_wire ∈ gT := gT_of (List.mem_of_getElem? (i := 766) (by decide +kernel)) rfl
theorem lk_X12_wire : Cond.methodLink RL 122 yX12_wire ∈ gT := gT_of (List.mem_of_getElem? (i := 1186) (by decide +kernel)) rfl
theorem lj_X12_wire : Cond.instanceMethod yX12_wire ∈ gT := gT_of (List.mem_of_getElem? (i := 1187) (by decide +kernel)) rfl
theorem ls_X12_wire : Cond.selects (MethodName.cls yX12_wire) yX12_wire yX12_wire ∈ gT := gT_of (List.mem_of_getElem? (i := 1188) (by decide +kernel)) rfl
theorem lk_X11_most : Cond.methodLink RL 123 yX11_most ∈ gT := gT_of (List.mem_of_getElem? (i := 785) (by decide +kernel)) rfl
theorem lj_X11_most : Cond.instanceMethod yX11_most ∈ gT := gT_of (List.mem_of_getElem? (i := 786) (by decide +kernel)) rfl
theorem ls_X11_most : Cond.selects (MethodName.cls yX11_most) yX11_most yX11_most ∈ gT := gT_of (List.mem_of_getElem? (i := 787) (by decide +kernel)) rfl
theorem lk_X12_most : Cond.methodLink RL 126 yX12_most ∈ gT := gT_of (List.mem_of_getElem? (i := 1190) (by decide +kernel)) rfl
theorem lj_X12_most : Cond.instanceMethod yX12_most ∈ gT := gT_of (List.mem_of_getElem? (i := 1191) (by decide +kernel)) rfl
theorem ls_X12_most : Cond.selects (MethodName.cls yX12_most) yX12_most yX12_most ∈ gT := gT_of (List.mem_of_getElem? (i := 1192) (by decide +kernel)) rfl
theorem lk_X11_patches : Cond.methodLink RL 127 yX11_patches ∈ gT := gT_of (List.mem_of_getElem? (i := 793) (by decide +kernel)) rfl
theorem lj_X11_patches : Cond.instanceMethod yX11_patches ∈ gT := gT_of (List.mem_of_getElem? (i := 794) (by decide +kernel)) rfl
theorem ls_X11_patches : Cond.selects (MethodName.cls yX11_patches) yX11_patches yX11_patches ∈ gT := gT_of (List.mem_of_getElem? (i := 795) (by decide +kernel)) rfl
theorem lk_X12_patches : Cond.methodLink RL 130 yX12_patches ∈ gT := gT_of (List.mem_of_getElem? (i := 1194) (by decide +kernel)) rfl
theorem lj_X12_patches : Cond.instanceMethod yX12_patches ∈ gT := gT_of (List.mem_of_getElem? (i := 1195) (by decide +kernel)) rfl
theorem ls_X12_patches : Cond.selects (MethodName.cls yX12_patches) yX12_patches yX12_patches ∈ gT := gT_of (List.mem_of_getElem? (i := 1196) (by decide +kernel)) rfl
theorem lk_X11_night : Cond.methodLink RL 131 yX11_night ∈ gT := gT_of (List.mem_of_getElem? (i := 797) (by decide +kernel)) rfl
theorem lj_X11_night : Cond.instanceMethod yX11_night ∈ gT := gT_of (List.mem_of_getElem? (i := 798) (by decide +kernel)) rfl
theorem ls_X11_night : Cond.selects (MethodName.cls yX11_night) yX11_night yX11_night ∈ gT := gT_of (List.mem_of_getElem? (i := 799) (by decide +kernel)) rfl
theorem lk_X12_night : Cond.methodLink RL 134 yX12_night ∈ gT := gT_of (List.mem_of_getElem? (i := 1198) (by decide +kernel)) rfl
theorem lj_X12_night : Cond.instanceMethod yX12_night ∈ gT := gT_of (List.mem_of_getElem? (i := 1199) (by decide +kernel)) rfl
theorem ls_X12_night : Cond.selects (MethodName.cls yX12_night) yX12_night yX12_night ∈ gT := gT_of (List.mem_of_getElem? (i := 1200) (by decide +kernel)) rfl
theorem lk_X11_keep : Cond.methodLink RL 135 yX11_keep ∈ gT := gT_of (List.mem_of_getElem? (i := 825) (by decide +kernel)) rfl
theorem lj_X11_keep : Cond.instanceMethod yX11_keep ∈ gT := gT_of (List.mem_of_getElem? (i := 826) (by decide +kernel)) rfl
theorem ls_X11_keep : Cond.selects (MethodName.cls yX11_keep) yX11_keep yX11_keep ∈ gT := gT_of (List.mem_of_getElem? (i := 827) (by decide +kernel)) rfl
theorem lk_X12_keep : Cond.methodLink RL 138 yX12_keep ∈ gT := gT_of (List.mem_of_getElem? (i := 1205) (by decide +kernel)) rfl
theorem lj_X12_keep : Cond.instanceMethod yX12_keep ∈ gT := gT_of (List.mem_of_getElem? (i := 1206) (by decide +kernel)) rfl
theorem ls_X12_keep : Cond.selects (MethodName.cls yX12_keep) yX12_keep yX12_keep ∈ gT := gT_of (List.mem_of_getElem? (i := 1207) (by decide +kernel)) rfl
theorem lk_X11_back : Cond.methodLink RL 139 yX11_back ∈ gT := gT_of (List.mem_of_getElem? (i := 829) (by decide +kernel)) rfl
theorem lj_X11_back : Cond.instanceMethod yX11_back ∈ gT := gT_of (List.mem_of_getElem? (i := 830) (by decide +kernel)) rfl
theorem ls_X11_back : Cond.selects (MethodName.cls yX11_back) yX11_back yX11_back ∈ gT := gT_of (List.mem_of_getElem? (i := 831) (by decide +kernel)) rfl
theorem lk_X12_back : Cond.methodLink RL 142 yX12_back ∈ gT := gT_of (List.mem_of_getElem? (i := 1209) (by decide +kernel)) rfl
theorem lj_X12_back : Cond.instanceMethod yX12_back ∈ gT := gT_of (List.mem_of_getElem? (i := 1210) (by decide +kernel)) rfl
theorem ls_X12_back : Cond.selects (MethodName.cls yX12_back) yX12_back yX12_back ∈ gT := gT_of (List.mem_of_getElem? (i := 1211) (by decide +kernel)) rfl
theorem lk_X11_count : Cond.methodLink RL 143 yX11_count ∈ gT := gT_of (List.mem_of_getElem? (i := 833) (by decide +kernel)) rfl
theorem lj_X11_count : Cond.instanceMethod yX11_count ∈ gT := gT_of (List.mem_of_getElem? (i := 834) (by decide +kernel)) rfl
theorem ls_X11_count : Cond.selects (MethodName.cls yX11_count) yX11_count yX11_count ∈ gT := gT_of (List.mem_of_getElem? (i := 835) (by decide +kernel)) rfl
theorem lk_X12_count : Cond.methodLink RL 146 yX12_count ∈ gT := gT_of (List.mem_of_getElem? (i := 1213) (by decide +kernel)) rfl
theorem lj_X12_count : Cond.instanceMethod yX12_count ∈ gT := gT_of (List.mem_of_getElem? (i := 1214) (by decide +kernel)) rfl
theorem ls_X12_count : Cond.selects (MethodName.cls yX12_count) yX12_count yX12_count ∈ gT := gT_of (List.mem_of_getElem? (i := 1215) (by decide +kernel)) rfl
theorem lc_cl7 : (Jvm.Cond.classLink "CrookedFramesLaw" (7 : Nat) "CrookedFrames") ∈ gT := gT_of (List.mem_of_getElem? (i := 74) (by decide +kernel)) rfl
theorem lc_in7 : (Jvm.Cond.instantiable "CrookedFrames" (12 : Nat)) ∈ gT := gT_of (List.mem_of_getElem? (i := 75) (by decide +kernel)) rfl
theorem lc_ii7 : (Jvm.Cond.initialized "CrookedFrames") ∈ gT := gT_of (List.mem_of_getElem? (i := 53) (by decide +kernel)) rfl
theorem lk_X11_init : Cond.methodLink RL 9 yX11_init ∈ gT := gT_of (List.mem_of_getElem? (i := 76) (by decide +kernel)) rfl
theorem lj_X11_init : Cond.instanceMethod yX11_init ∈ gT := gT_of (List.mem_of_getElem? (i := 77) (by decide +kernel)) rfl
theorem lcc_X11_init : Cond.code yX11_init cX11_init 2 none ∈ gT := gT_of (List.mem_of_getElem? (i := 78) (by decide +kernel)) rfl
theorem lci_X11_init : Cond.initialized RX11 ∈ gT := gT_of (List.mem_of_getElem? (i := 53) (by decide +kernel)) rfl
theorem lc_cl10 : (Jvm.Cond.classLink "CrookedFramesLaw" (10 : Nat) "CrookedFramesModel") ∈ gT := gT_of (List.mem_of_getElem? (i := 837) (by decide +kernel)) rfl
theorem lc_in10 : (Jvm.Cond.instantiable "CrookedFramesModel" (32 : Nat)) ∈ gT := gT_of (List.mem_of_getElem? (i := 838) (by decide +kernel)) rfl
theorem lc_ii10 : (Jvm.Cond.initialized "CrookedFramesModel") ∈ gT := gT_of (List.mem_of_getElem? (i := 69) (by decide +kernel)) rfl
theorem lk_X12_init : Cond.methodLink RL 12 yX12_init ∈ gT := gT_of (List.mem_of_getElem? (i := 839) (by decide +kernel)) rfl
theorem lj_X12_init : Cond.instanceMethod yX12_init ∈ gT := gT_of (List.mem_of_getElem? (i := 840) (by decide +kernel)) rfl
theorem lcc_X12_init : Cond.code yX12_init cX12_init 1 none ∈ gT := gT_of (List.mem_of_getElem? (i := 841) (by decide +kernel)) rfl
theorem lci_X12_init : Cond.initialized RX12 ∈ gT := gT_of (List.mem_of_getElem? (i := 69) (by decide +kernel)) rfl
theorem gn_L_7 : GNd RL 7 10 RX11 TX11 12 tyX11 := ⟨rfl, by decide, in_X11, tyX11_ok, lc_cl7, lc_in7, lc_ii7, by decide⟩
theorem ql_X11_init : CalS yX11_init cX11_init 2 none 0 := ⟨⟨lcc_X11_init, lci_X11_init⟩, by decide +kernel⟩
theorem gn_L_10 : GNd RL 10 11 RX12 TX12 32 tyX12 := ⟨rfl, by decide, in_X12, tyX12_ok, lc_cl10, lc_in10, lc_ii10, by decide⟩
theorem ql_X12_init : CalS yX12_init cX12_init 1 none 0 := ⟨⟨lcc_X12_init, lci_X12_init⟩, by decide +kernel⟩
set_option maxHeartbeats 4000000 in
set_option maxRecDepth 100000 in
theorem lc_0 (X : Cx p room_1 s m #[Value.ref b] c code 4 RL D cI cT cII 10 380) (hX : va_X b L xs s s.heap) (hbl : b < s.heap.size) (hL : L ≤ 3584) (hc : cells ≤ room_1.cells ∧ slots ≤ room_1.slots) {i : Nat} (hi : i + 7 ≤ L) {w : Wd} {H : Heap} {locs : List Loc} {ls : Array Slot} (hv : INV w) (hH : Hd D cI cT cII s.heap.size w H) (hS : va_S (fun q => s.heap.size ≤ q) s.heap H locs) (hl : lv_has ls 4 [(3, .int (nI i)), (2, .ref (s.heap.size + 202)), (1, .ref (s.heap.size + 0)), (0, .ref b)])
    (hK : ∀ (w : Wd) (H : Heap) (locs : List Loc), INV w → Hd D cI cT cII s.heap.size w H → va_S (fun q => s.heap.size ≤ q) s.heap H locs → W p l e room_1 s m #[Value.ref b] below meth c H locs cells slots Q (F0 m 1034 ls [])) : W p l e room_1 s m #[Value.ref b] below meth c H locs cells slots Q (F0 m 176 ls []) := by
  have hx := X.1
  have hb := X.2.1
  obtain ⟨r, w1, w2, ⟨o1, e1⟩, ⟨o2, e2⟩, hv2⟩ := st_write hv (xs (i + 1))
  refine lv_aload_n hx hb dL_law_176 rfl (lv_at hl 2 rfl) ?_
  refine lv_aload_n hx hb dL_law_177 rfl (lv_at hl 3 rfl) ?_
  refine lv_iload_n hx hb dL_law_178 rfl (lv_at hl 0 rfl) ?_
  refine lv_iconst (v := (1 : Int32)) hx hb dL_law_179 (by decide) ?_
  refine lv_iadd hx hb dL_law_180 ?_
  refine m_sc X hX hbl hS (j := 1) rfl (by omega) hL dL_law_181 ?_
  refine m_callV (base := s.heap.size) (q := 0) (As := [.int (xs (i + 1))]) (rest := []) X hH hS hl.1 o1 rfl (by decide) (k_X11_write l D cI cT cII s.heap.size 0 (xs (i + 1)) w (r, w1) e1) q_X11_write lk_X11_write lj_X11_write ls_X11_write rfl rfl (Nat.le_of_ble_eq_true rfl) ⟨by decide, by decide⟩ hc dL_law_182 (fun H locs hH hS => W.eq (g2 := F0 m 185 ls [.int r]) rfl ?_)
  refine lv_aload_n hx hb dL_law_185 rfl (lv_at hl 1 rfl) ?_
  refine lv_aload_n hx hb dL_law_186 rfl (lv_at hl 3 rfl) ?_
  refine lv_iload_n hx hb dL_law_187 rfl (lv_at hl 0 rfl) ?_
  refine lv_iconst (v := (1 : Int32)) hx hb dL_law_188 (by decide) ?_
  refine lv_iadd hx hb dL_law_189 ?_
  refine m_sc X hX hbl hS (j := 1) rfl (by omega) hL dL_law_190 ?_
  refine m_callV (base := s.heap.size) (q := 202) (As := [.int (xs (i + 1))]) (rest := [.int r]) X hH hS hl.1 o2 rfl (by decide) (k_X12_write l D cI cT cII s.heap.size 202 (xs (i + 1)) w1 (r, w2) e2) q_X12_write lk_X12_write lj_X12_write ls_X12_write rfl rfl (Nat.le_of_ble_eq_true rfl) ⟨by decide, by decide⟩ hc dL_law_191 (fun H locs hH hS => W.eq (g2 := F0 m 194 ls [.int r, .int r]) rfl ?_)
  exact lv_icmp_eq (tgt := 1034) hx hb dL_law_194 (by decide) (fun _ => hK w2 H locs hv2 hH hS) (fun h => absurd rfl h)
set_option maxHeartbeats 4000000 in
set_option maxRecDepth 100000 in
theorem lc_1 (X : Cx p room_1 s m #[Value.ref b] c code 4 RL D cI cT cII 10 380) (hX : va_X b L xs s s.heap) (hbl : b < s.heap.size) (hL : L ≤ 3584) (hc : cells ≤ room_1.cells ∧ slots ≤ room_1.slots) {i : Nat} (hi : i + 7 ≤ L) {w : Wd} {H : Heap} {locs : List Loc} {ls : Array Slot} (hv : INV w) (hH : Hd D cI cT cII s.heap.size w H) (hS : va_S (fun q => s.heap.size ≤ q) s.heap H locs) (hl : lv_has ls 4 [(3, .int (nI i)), (2, .ref (s.heap.size + 202)), (1, .ref (s.heap.size + 0)), (0, .ref b)])
    (hK : ∀ (w : Wd) (H : Heap) (locs : List Loc), INV w → Hd D cI cT cII s.heap.size w H → va_S (fun q => s.heap.size ≤ q) s.heap H locs → W p l e room_1 s m #[Value.ref b] below meth c H locs cells slots Q (F0 m 1034 ls [])) : W p l e room_1 s m #[Value.ref b] below meth c H locs cells slots Q (F0 m 199 ls []) := by
  have hx := X.1
  have hb := X.2.1
  obtain ⟨r, w1, w2, ⟨o1, e1⟩, ⟨o2, e2⟩, hv2⟩ := st_wipe hv 
  refine lv_aload_n hx hb dL_law_199 rfl (lv_at hl 2 rfl) ?_
  refine m_callV (base := s.heap.size) (q := 0) (As := []) (rest := []) X hH hS hl.1 o1 rfl (by decide) (k_X11_wipe l D cI cT cII s.heap.size 0  w (r, w1) e1) q_X11_wipe lk_X11_wipe lj_X11_wipe ls_X11_wipe rfl rfl (Nat.le_of_ble_eq_true rfl) ⟨by decide, by decide⟩ hc dL_law_200 (fun H locs hH hS => W.eq (g2 := F0 m 203 ls [.int r]) rfl ?_)
  refine lv_aload_n hx hb dL_law_203 rfl (lv_at hl 1 rfl) ?_
  refine m_callV (base := s.heap.size) (q := 202) (As := []) (rest := [.int r]) X hH hS hl.1 o2 rfl (by decide) (k_X12_wipe l D cI cT cII s.heap.size 202  w1 (r, w2) e2) q_X12_wipe lk_X12_wipe lj_X12_wipe ls_X12_wipe rfl rfl (Nat.le_of_ble_eq_true rfl) ⟨by decide, by decide⟩ hc dL_law_204 (fun H locs hH hS => W.eq (g2 := F0 m 207 ls [.int r, .int r]) rfl ?_)
  exact lv_icmp_eq (tgt := 1034) hx hb dL_law_207 (by decide) (fun _ => hK w2 H locs hv2 hH hS) (fun h => absurd rfl h)
set_option maxHeartbeats 4000000 in
set_option maxRecDepth 100000 in
theorem lc_2 (X : Cx p room_1 s m #[Value.ref b] c code 4 RL D cI cT cII 10 380) (hX : va_X b L xs s s.heap) (hbl : b < s.heap.size) (hL : L ≤ 3584) (hc : cells ≤ room_1.cells ∧ slots ≤ room_1.slots) {i : Nat} (hi : i + 7 ≤ L) {w : Wd} {H : Heap} {locs : List Loc} {ls : Array Slot} (hv : INV w) (hH : Hd D cI cT cII s.heap.size w H) (hS : va_S (fun q => s.heap.size ≤ q) s.heap H locs) (hl : lv_has ls 4 [(3, .int (nI i)), (2, .ref (s.heap.size + 202)), (1, .ref (s.heap.size + 0)), (0, .ref b)])
    (hK : ∀ (w : Wd) (H : Heap) (locs : List Loc), INV w → Hd D cI cT cII s.heap.size w H → va_S (fun q => s.heap.size ≤ q) s.heap H locs → W p l e room_1 s m #[Value.ref b] below meth c H locs cells slots Q (F0 m 1034 ls [])) : W p l e room_1 s m #[Value.ref b] below meth c H locs cells slots Q (F0 m 212 ls []) := by
  have hx := X.1
  have hb := X.2.1
  obtain ⟨r, w1, w2, ⟨o1, e1⟩, ⟨o2, e2⟩, hv2⟩ := st_fault hv 
  refine lv_aload_n hx hb dL_law_212 rfl (lv_at hl 2 rfl) ?_
  refine m_callV (base := s.heap.size) (q := 0) (As := []) (rest := []) X hH hS hl.1 o1 rfl (by decide) (k_X11_fault l D cI cT cII s.heap.size 0  w (r, w1) e1) q_X11_fault lk_X11_fault lj_X11_fault ls_X11_fault rfl rfl (Nat.le_of_ble_eq_true rfl) ⟨by decide, by decide⟩ hc dL_law_213 (fun H locs hH hS => W.eq (g2 := F0 m 216 ls [.int r]) rfl ?_)
  refine lv_aload_n hx hb dL_law_216 rfl (lv_at hl 1 rfl) ?_
  refine m_callV (base := s.heap.size) (q := 202) (As := []) (rest := [.int r]) X hH hS hl.1 o2 rfl (by decide) (k_X12_fault l D cI cT cII s.heap.size 202  w1 (r, w2) e2) q_X12_fault lk_X12_fault lj_X12_fault ls_X12_fault rfl rfl (Nat.le_of_ble_eq_true rfl) ⟨by decide, by decide⟩ hc dL_law_217 (fun H locs hH hS => W.eq (g2 := F0 m 220 ls [.int r, .int r]) rfl ?_)
  exact lv_icmp_eq (tgt := 1034) hx hb dL_law_220 (by decide) (fun _ => hK w2 H locs hv2 hH hS) (fun h => absurd rfl h)
set_option maxHeartbeats 4000000 in
set_option maxRecDepth 100000 in
theorem lc_3 (X : Cx p room_1 s m #[Value.ref b] c code 4 RL D cI cT cII 10 380) (hX : va_X b L xs s s.heap) (hbl : b < s.heap.size) (hL : L ≤ 3584) (hc : cells ≤ room_1.cells ∧ slots ≤ room_1.slots) {i : Nat} (hi : i + 7 ≤ L) {w : Wd} {H : Heap} {locs : List Loc} {ls : Array Slot} (hv : INV w) (hH : Hd D cI cT cII s.heap.size w H) (hS : va_S (fun q => s.heap.size ≤ q) s.heap H locs) (hl : lv_has ls 4 [(3, .int (nI i)), (2, .ref (s.heap.size + 202)), (1, .ref (s.heap.size + 0)), (0, .ref b)])
    (hK : ∀ (w : Wd) (H : Heap) (locs : List Loc), INV w → Hd D cI cT cII s.heap.size w H → va_S (fun q => s.heap.size ≤ q) s.heap H locs → W p l e room_1 s m #[Value.ref b] below meth c H locs cells slots Q (F0 m 1034 ls [])) : W p l e room_1 s m #[Value.ref b] below meth c H locs cells slots Q (F0 m 225 ls []) := by
  have hx := X.1
  have hb := X.2.1
  obtain ⟨r, w1, w2, ⟨o1, e1⟩, ⟨o2, e2⟩, hv2⟩ := st_lay hv 
  refine lv_aload_n hx hb dL_law_225 rfl (lv_at hl 2 rfl) ?_
  refine m_callV (base := s.heap.size) (q := 0) (As := []) (rest := []) X hH hS hl.1 o1 rfl (by decide) (k_X11_lay l D cI cT cII s.heap.size 0  w (r, w1) e1) q_X11_lay lk_X11_lay lj_X11_lay ls_X11_lay rfl rfl (Nat.le_of_ble_eq_true rfl) ⟨by decide, by decide⟩ hc dL_law_226 (fun H locs hH hS => W.eq (g2 := F0 m 229 ls [.int r]) rfl ?_)
  refine lv_aload_n hx hb dL_law_229 rfl (lv_at hl 1 rfl) ?_
  refine m_callV (base := s.heap.size) (q := 202) (As := []) (rest := [.int r]) X hH hS hl.1 o2 rfl (by decide) (k_X12_lay l D cI cT cII s.heap.size 202  w1 (r, w2) e2) q_X12_lay lk_X12_lay lj_X12_lay ls_X12_lay rfl rfl (Nat.le_of_ble_eq_true rfl) ⟨by decide, by decide⟩ hc dL_law_230 (fun H locs hH hS => W.eq (g2 := F0 m 233 ls [.int r, .int r]) rfl ?_)
  exact lv_icmp_eq (tgt := 1034) hx hb dL_law_233 (by decide) (fun _ => hK w2 H locs hv2 hH hS) (fun h => absurd rfl h)
set_option maxHeartbeats 4000000 in
set_option maxRecDepth 100000 in
theorem lc_4 (X : Cx p room_1 s m #[Value.ref b] c code 4 RL D cI cT cII 10 380) (hX : va_X b L xs s s.heap) (hbl : b < s.heap.size) (hL : L ≤ 3584) (hc : cells ≤ room_1.cells ∧ slots ≤ room_1.slots) {i : Nat} (hi : i + 7 ≤ L) {w : Wd} {H : Heap} {locs : List Loc} {ls : Array Slot} (hv : INV w) (hH : Hd D cI cT cII s.heap.size w H) (hS : va_S (fun q => s.heap.size ≤ q) s.heap H locs) (hl : lv_has ls 4 [(3, .int (nI i)), (2, .ref (s.heap.size + 202)), (1, .ref (s.heap.size + 0)), (0, .ref b)])
    (hK : ∀ (w : Wd) (H : Heap) (locs : List Loc), INV w → Hd D cI cT cII s.heap.size w H → va_S (fun q => s.heap.size ≤ q) s.heap H locs → W p l e room_1 s m #[Value.ref b] below meth c H locs cells slots Q (F0 m 1034 ls [])) : W p l e room_1 s m #[Value.ref b] below meth c H locs cells slots Q (F0 m 238 ls []) := by
  have hx := X.1
  have hb := X.2.1
  obtain ⟨r, w1, w2, ⟨o1, e1⟩, ⟨o2, e2⟩, hv2⟩ := st_frame hv (xs (i + 1)) (xs (i + 2))
  refine lv_aload_n hx hb dL_law_238 rfl (lv_at hl 2 rfl) ?_
  refine lv_aload_n hx hb dL_law_239 rfl (lv_at hl 3 rfl) ?_
  refine lv_iload_n hx hb dL_law_240 rfl (lv_at hl 0 rfl) ?_
  refine lv_iconst (v := (1 : Int32)) hx hb dL_law_241 (by decide) ?_
  refine lv_iadd hx hb dL_law_242 ?_
  refine m_sc X hX hbl hS (j := 1) rfl (by omega) hL dL_law_243 ?_
  refine lv_aload_n hx hb dL_law_244 rfl (lv_at hl 3 rfl) ?_
  refine lv_iload_n hx hb dL_law_245 rfl (lv_at hl 0 rfl) ?_
  refine lv_iconst (v := (2 : Int32)) hx hb dL_law_246 (by decide) ?_
  refine lv_iadd hx hb dL_law_247 ?_
  refine m_sc X hX hbl hS (j := 2) rfl (by omega) hL dL_law_248 ?_
  refine m_callV (base := s.heap.size) (q := 0) (As := [.int (xs (i + 1)), .int (xs (i + 2))]) (rest := []) X hH hS hl.1 o1 rfl (by decide) (k_X11_frame l D cI cT cII s.heap.size 0 (xs (i + 1)) (xs (i + 2)) w (r, w1) e1) q_X11_frame lk_X11_frame lj_X11_frame ls_X11_frame rfl rfl (Nat.le_of_ble_eq_true rfl) ⟨by decide, by decide⟩ hc dL_law_249 (fun H locs hH hS => W.eq (g2 := F0 m 252 ls [.int r]) rfl ?_)
  refine lv_aload_n hx hb dL_law_252 rfl (lv_at hl 1 rfl) ?_
  refine lv_aload_n hx hb dL_law_253 rfl (lv_at hl 3 rfl) ?_
  refine lv_iload_n hx hb dL_law_254 rfl (lv_at hl 0 rfl) ?_
  refine lv_iconst (v := (1 : Int32)) hx hb dL_law_255 (by decide) ?_
  refine lv_iadd hx hb dL_law_256 ?_
  refine m_sc X hX hbl hS (j := 1) rfl (by omega) hL dL_law_257 ?_
  refine lv_aload_n hx hb dL_law_258 rfl (lv_at hl 3 rfl) ?_
  refine lv_iload_n hx hb dL_law_259 rfl (lv_at hl 0 rfl) ?_
  refine lv_iconst (v := (2 : Int32)) hx hb dL_law_260 (by decide) ?_
  refine lv_iadd hx hb dL_law_261 ?_
  refine m_sc X hX hbl hS (j := 2) rfl (by omega) hL dL_law_262 ?_
  refine m_callV (base := s.heap.size) (q := 202) (As := [.int (xs (i + 1)), .int (xs (i + 2))]) (rest := [.int r]) X hH hS hl.1 o2 rfl (by decide) (k_X12_frame l D cI cT cII s.heap.size 202 (xs (i + 1)) (xs (i + 2)) w1 (r, w2) e2) q_X12_frame lk_X12_frame lj_X12_frame ls_X12_frame rfl rfl (Nat.le_of_ble_eq_true rfl) ⟨by decide, by decide⟩ hc dL_law_263 (fun H locs hH hS => W.eq (g2 := F0 m 266 ls [.int r, .int r]) rfl ?_)
  exact lv_icmp_eq (tgt := 1034) hx hb dL_law_266 (by decide) (fun _ => hK w2 H locs hv2 hH hS) (fun h => absurd rfl h)
set_option maxHeartbeats 4000000 in
set_option maxRecDepth 100000 in
theorem lc_5 (X : Cx p room_1 s m #[Value.ref b] c code 4 RL D cI cT cII 10 380) (hX : va_X b L xs s s.heap) (hbl : b < s.heap.size) (hL : L ≤ 3584) (hc : cells ≤ room_1.cells ∧ slots ≤ room_1.slots) {i : Nat} (hi : i + 7 ≤ L) {w : Wd} {H : Heap} {locs : List Loc} {ls : Array Slot} (hv : INV w) (hH : Hd D cI cT cII s.heap.size w H) (hS : va_S (fun q => s.heap.size ≤ q) s.heap H locs) (hl : lv_has ls 4 [(3, .int (nI i)), (2, .ref (s.heap.size + 202)), (1, .ref (s.heap.size + 0)), (0, .ref b)])
    (hK : ∀ (w : Wd) (H : Heap) (locs : List Loc), INV w → Hd D cI cT cII s.heap.size w H → va_S (fun q => s.heap.size ≤ q) s.heap H locs → W p l e room_1 s m #[Value.ref b] below meth c H locs cells slots Q (F0 m 1034 ls [])) : W p l e room_1 s m #[Value.ref b] below meth c H locs cells slots Q (F0 m 271 ls []) := by
  have hx := X.1
  have hb := X.2.1
  obtain ⟨r, w1, w2, ⟨o1, e1⟩, ⟨o2, e2⟩, hv2⟩ := st_person hv (xs (i + 1)) (xs (i + 2))
  refine lv_aload_n hx hb dL_law_271 rfl (lv_at hl 2 rfl) ?_
  refine lv_aload_n hx hb dL_law_272 rfl (lv_at hl 3 rfl) ?_
  refine lv_iload_n hx hb dL_law_273 rfl (lv_at hl 0 rfl) ?_
  refine lv_iconst (v := (1 : Int32)) hx hb dL_law_274 (by decide) ?_
  refine lv_iadd hx hb dL_law_275 ?_
  refine m_sc X hX hbl hS (j := 1) rfl (by omega) hL dL_law_276 ?_
  refine lv_aload_n hx hb dL_law_277 rfl (lv_at hl 3 rfl) ?_
  refine lv_iload_n hx hb dL_law_278 rfl (lv_at hl 0 rfl) ?_
  refine lv_iconst (v := (2 : Int32)) hx hb dL_law_279 (by decide) ?_
  refine lv_iadd hx hb dL_law_280 ?_
  refine m_sc X hX hbl hS (j := 2) rfl (by omega) hL dL_law_281 ?_
  refine m_callV (base := s.heap.size) (q := 0) (As := [.int (xs (i + 1)), .int (xs (i + 2))]) (rest := []) X hH hS hl.1 o1 rfl (by decide) (k_X11_person l D cI cT cII s.heap.size 0 (xs (i + 1)) (xs (i + 2)) w (r, w1) e1) q_X11_person lk_X11_person lj_X11_person ls_X11_person rfl rfl (Nat.le_of_ble_eq_true rfl) ⟨by decide, by decide⟩ hc dL_law_282 (fun H locs hH hS => W.eq (g2 := F0 m 285 ls [.int r]) rfl ?_)
  refine lv_aload_n hx hb dL_law_285 rfl (lv_at hl 1 rfl) ?_
  refine lv_aload_n hx hb dL_law_286 rfl (lv_at hl 3 rfl) ?_
  refine lv_iload_n hx hb dL_law_287 rfl (lv_at hl 0 rfl) ?_
  refine lv_iconst (v := (1 : Int32)) hx hb dL_law_288 (by decide) ?_
  refine lv_iadd hx hb dL_law_289 ?_
  refine m_sc X hX hbl hS (j := 1) rfl (by omega) hL dL_law_290 ?_
  refine lv_aload_n hx hb dL_law_291 rfl (lv_at hl 3 rfl) ?_
  refine lv_iload_n hx hb dL_law_292 rfl (lv_at hl 0 rfl) ?_
  refine lv_iconst (v := (2 : Int32)) hx hb dL_law_293 (by decide) ?_
  refine lv_iadd hx hb dL_law_294 ?_
  refine m_sc X hX hbl hS (j := 2) rfl (by omega) hL dL_law_295 ?_
  refine m_callV (base := s.heap.size) (q := 202) (As := [.int (xs (i + 1)), .int (xs (i + 2))]) (rest := [.int r]) X hH hS hl.1 o2 rfl (by decide) (k_X12_person l D cI cT cII s.heap.size 202 (xs (i + 1)) (xs (i + 2)) w1 (r, w2) e2) q_X12_person lk_X12_person lj_X12_person ls_X12_person rfl rfl (Nat.le_of_ble_eq_true rfl) ⟨by decide, by decide⟩ hc dL_law_296 (fun H locs hH hS => W.eq (g2 := F0 m 299 ls [.int r, .int r]) rfl ?_)
  exact lv_icmp_eq (tgt := 1034) hx hb dL_law_299 (by decide) (fun _ => hK w2 H locs hv2 hH hS) (fun h => absurd rfl h)
set_option maxHeartbeats 4000000 in
set_option maxRecDepth 100000 in
theorem lc_6 (X : Cx p room_1 s m #[Value.ref b] c code 4 RL D cI cT cII 10 380) (hX : va_X b L xs s s.heap) (hbl : b < s.heap.size) (hL : L ≤ 3584) (hc : cells ≤ room_1.cells ∧ slots ≤ room_1.slots) {i : Nat} (hi : i + 7 ≤ L) {w : Wd} {H : Heap} {locs : List Loc} {ls : Array Slot} (hv : INV w) (hH : Hd D cI cT cII s.heap.size w H) (hS : va_S (fun q => s.heap.size ≤ q) s.heap H locs) (hl : lv_has ls 4 [(3, .int (nI i)), (2, .ref (s.heap.size + 202)), (1, .ref (s.heap.size + 0)), (0, .ref b)])
    (hK : ∀ (w : Wd) (H : Heap) (locs : List Loc), INV w → Hd D cI cT cII s.heap.size w H → va_S (fun q => s.heap.size ≤ q) s.heap H locs → W p l e room_1 s m #[Value.ref b] below meth c H locs cells slots Q (F0 m 1034 ls [])) : W p l e room_1 s m #[Value.ref b] below meth c H locs cells slots Q (F0 m 304 ls []) := by
  have hx := X.1
  have hb := X.2.1
  obtain ⟨r, w1, w2, ⟨o1, e1⟩, ⟨o2, e2⟩, hv2⟩ := st_angle hv (xs (i + 1)) (xs (i + 2))
  refine lv_aload_n hx hb dL_law_304 rfl (lv_at hl 2 rfl) ?_
  refine lv_aload_n hx hb dL_law_305 rfl (lv_at hl 3 rfl) ?_
  refine lv_iload_n hx hb dL_law_306 rfl (lv_at hl 0 rfl) ?_
  refine lv_iconst (v := (1 : Int32)) hx hb dL_law_307 (by decide) ?_
  refine lv_iadd hx hb dL_law_308 ?_
  refine m_sc X hX hbl hS (j := 1) rfl (by omega) hL dL_law_309 ?_
  refine lv_aload_n hx hb dL_law_310 rfl (lv_at hl 3 rfl) ?_
  refine lv_iload_n hx hb dL_law_311 rfl (lv_at hl 0 rfl) ?_
  refine lv_iconst (v := (2 : Int32)) hx hb dL_law_312 (by decide) ?_
  refine lv_iadd hx hb dL_law_313 ?_
  refine m_sc X hX hbl hS (j := 2) rfl (by omega) hL dL_law_314 ?_
  refine m_callV (base := s.heap.size) (q := 0) (As := [.int (xs (i + 1)), .int (xs (i + 2))]) (rest := []) X hH hS hl.1 o1 rfl (by decide) (k_X11_angle l D cI cT cII s.heap.size 0 (xs (i + 1)) (xs (i + 2)) w (r, w1) e1) q_X11_angle lk_X11_angle lj_X11_angle ls_X11_angle rfl rfl (Nat.le_of_ble_eq_true rfl) ⟨by decide, by decide⟩ hc dL_law_315 (fun H locs hH hS => W.eq (g2 := F0 m 318 ls [.int r]) rfl ?_)
  refine lv_aload_n hx hb dL_law_318 rfl (lv_at hl 1 rfl) ?_
  refine lv_aload_n hx hb dL_law_319 rfl (lv_at hl 3 rfl) ?_
  refine lv_iload_n hx hb dL_law_320 rfl (lv_at hl 0 rfl) ?_
  refine lv_iconst (v := (1 : Int32)) hx hb dL_law_321 (by decide) ?_
  refine lv_iadd hx hb dL_law_322 ?_
  refine m_sc X hX hbl hS (j := 1) rfl (by omega) hL dL_law_323 ?_
  refine lv_aload_n hx hb dL_law_324 rfl (lv_at hl 3 rfl) ?_
  refine lv_iload_n hx hb dL_law_325 rfl (lv_at hl 0 rfl) ?_
  refine lv_iconst (v := (2 : Int32)) hx hb dL_law_326 (by decide) ?_
  refine lv_iadd hx hb dL_law_327 ?_
  refine m_sc X hX hbl hS (j := 2) rfl (by omega) hL dL_law_328 ?_
  refine m_callV (base := s.heap.size) (q := 202) (As := [.int (xs (i + 1)), .int (xs (i + 2))]) (rest := [.int r]) X hH hS hl.1 o2 rfl (by decide) (k_X12_angle l D cI cT cII s.heap.size 202 (xs (i + 1)) (xs (i + 2)) w1 (r, w2) e2) q_X12_angle lk_X12_angle lj_X12_angle ls_X12_angle rfl rfl (Nat.le_of_ble_eq_true rfl) ⟨by decide, by decide⟩ hc dL_law_329 (fun H locs hH hS => W.eq (g2 := F0 m 332 ls [.int r, .int r]) rfl ?_)
  exact lv_icmp_eq (tgt := 1034) hx hb dL_law_332 (by decide) (fun _ => hK w2 H locs hv2 hH hS) (fun h => absurd rfl h)
set_option maxHeartbeats 4000000 in
set_option maxRecDepth 100000 in
theorem lc_7 (X : Cx p room_1 s m #[Value.ref b] c code 4 RL D cI cT cII 10 380) (hX : va_X b L xs s s.heap) (hbl : b < s.heap.size) (hL : L ≤ 3584) (hc : cells ≤ room_1.cells ∧ slots ≤ room_1.slots) {i : Nat} (hi : i + 7 ≤ L) {w : Wd} {H : Heap} {locs : List Loc} {ls : Array Slot} (hv : INV w) (hH : Hd D cI cT cII s.heap.size w H) (hS : va_S (fun q => s.heap.size ≤ q) s.heap H locs) (hl : lv_has ls 4 [(3, .int (nI i)), (2, .ref (s.heap.size + 202)), (1, .ref (s.heap.size + 0)), (0, .ref b)])
    (hK : ∀ (w : Wd) (H : Heap) (locs : List Loc), INV w → Hd D cI cT cII s.heap.size w H → va_S (fun q => s.heap.size ≤ q) s.heap H locs → W p l e room_1 s m #[Value.ref b] below meth c H locs cells slots Q (F0 m 1034 ls [])) : W p l e room_1 s m #[Value.ref b] below meth c H locs cells slots Q (F0 m 337 ls []) := by
  have hx := X.1
  have hb := X.2.1
  obtain ⟨r, w1, w2, ⟨o1, e1⟩, ⟨o2, e2⟩, hv2⟩ := st_hers hv (xs (i + 1))
  refine lv_aload_n hx hb dL_law_337 rfl (lv_at hl 2 rfl) ?_
  refine lv_aload_n hx hb dL_law_338 rfl (lv_at hl 3 rfl) ?_
  refine lv_iload_n hx hb dL_law_339 rfl (lv_at hl 0 rfl) ?_
  refine lv_iconst (v := (1 : Int32)) hx hb dL_law_340 (by decide) ?_
  refine lv_iadd hx hb dL_law_341 ?_
  refine m_sc X hX hbl hS (j := 1) rfl (by omega) hL dL_law_342 ?_
  refine m_callV (base := s.heap.size) (q := 0) (As := [.int (xs (i + 1))]) (rest := []) X hH hS hl.1 o1 rfl (by decide) (k_X11_hers l D cI cT cII s.heap.size 0 (xs (i + 1)) w (r, w1) e1) q_X11_hers lk_X11_hers lj_X11_hers ls_X11_hers rfl rfl (Nat.le_of_ble_eq_true rfl) ⟨by decide, by decide⟩ hc dL_law_343 (fun H locs hH hS => W.eq (g2 := F0 m 346 ls [.int r]) rfl ?_)
  refine lv_aload_n hx hb dL_law_346 rfl (lv_at hl 1 rfl) ?_
  refine lv_aload_n hx hb dL_law_347 rfl (lv_at hl 3 rfl) ?_
  refine lv_iload_n hx hb dL_law_348 rfl (lv_at hl 0 rfl) ?_
  refine lv_iconst (v := (1 : Int32)) hx hb dL_law_349 (by decide) ?_
  refine lv_iadd hx hb dL_law_350 ?_
  refine m_sc X hX hbl hS (j := 1) rfl (by omega) hL dL_law_351 ?_
  refine m_callV (base := s.heap.size) (q := 202) (As := [.int (xs (i + 1))]) (rest := [.int r]) X hH hS hl.1 o2 rfl (by decide) (k_X12_hers l D cI cT cII s.heap.size 202 (xs (i + 1)) w1 (r, w2) e2) q_X12_hers lk_X12_hers lj_X12_hers ls_X12_hers rfl rfl (Nat.le_of_ble_eq_true rfl) ⟨by decide, by decide⟩ hc dL_law_352 (fun H locs hH hS => W.eq (g2 := F0 m 355 ls [.int r, .int r]) rfl ?_)
  exact lv_icmp_eq (tgt := 1034) hx hb dL_law_355 (by decide) (fun _ => hK w2 H locs hv2 hH hS) (fun h => absurd rfl h)
set_option maxHeartbeats 4000000 in
set_option maxRecDepth 100000 in
theorem lc_8 (X : Cx p room_1 s m #[Value.ref b] c code 4 RL D cI cT cII 10 380) (hX : va_X b L xs s s.heap) (hbl : b < s.heap.size) (hL : L ≤ 3584) (hc : cells ≤ room_1.cells ∧ slots ≤ room_1.slots) {i : Nat} (hi : i + 7 ≤ L) {w : Wd} {H : Heap} {locs : List Loc} {ls : Array Slot} (hv : INV w) (hH : Hd D cI cT cII s.heap.size w H) (hS : va_S (fun q => s.heap.size ≤ q) s.heap H locs) (hl : lv_has ls 4 [(3, .int (nI i)), (2, .ref (s.heap.size + 202)), (1, .ref (s.heap.size + 0)), (0, .ref b)])
    (hK : ∀ (w : Wd) (H : Heap) (locs : List Loc), INV w → Hd D cI cT cII s.heap.size w H → va_S (fun q => s.heap.size ≤ q) s.heap H locs → W p l e room_1 s m #[Value.ref b] below meth c H locs cells slots Q (F0 m 1034 ls [])) : W p l e room_1 s m #[Value.ref b] below meth c H locs cells slots Q (F0 m 360 ls []) := by
  have hx := X.1
  have hb := X.2.1
  obtain ⟨r, w1, w2, ⟨o1, e1⟩, ⟨o2, e2⟩, hv2⟩ := st_sets hv (xs (i + 1)) (xs (i + 2))
  refine lv_aload_n hx hb dL_law_360 rfl (lv_at hl 2 rfl) ?_
  refine lv_aload_n hx hb dL_law_361 rfl (lv_at hl 3 rfl) ?_
  refine lv_iload_n hx hb dL_law_362 rfl (lv_at hl 0 rfl) ?_
  refine lv_iconst (v := (1 : Int32)) hx hb dL_law_363 (by decide) ?_
  refine lv_iadd hx hb dL_law_364 ?_
  refine m_sc X hX hbl hS (j := 1) rfl (by omega) hL dL_law_365 ?_
  refine lv_aload_n hx hb dL_law_366 rfl (lv_at hl 3 rfl) ?_
  refine lv_iload_n hx hb dL_law_367 rfl (lv_at hl 0 rfl) ?_
  refine lv_iconst (v := (2 : Int32)) hx hb dL_law_368 (by decide) ?_
  refine lv_iadd hx hb dL_law_369 ?_
  refine m_sc X hX hbl hS (j := 2) rfl (by omega) hL dL_law_370 ?_
  refine m_callV (base := s.heap.size) (q := 0) (As := [.int (xs (i + 1)), .int (xs (i + 2))]) (rest := []) X hH hS hl.1 o1 rfl (by decide) (k_X11_sets l D cI cT cII s.heap.size 0 (xs (i + 1)) (xs (i + 2)) w (r, w1) e1) q_X11_sets lk_X11_sets lj_X11_sets ls_X11_sets rfl rfl (Nat.le_of_ble_eq_true rfl) ⟨by decide, by decide⟩ hc dL_law_371 (fun H locs hH hS => W.eq (g2 := F0 m 374 ls [.int r]) rfl ?_)
  refine lv_aload_n hx hb dL_law_374 rfl (lv_at hl 1 rfl) ?_
  refine lv_aload_n hx hb dL_law_375 rfl (lv_at hl 3 rfl) ?_
  refine lv_iload_n hx hb dL_law_376 rfl (lv_at hl 0 rfl) ?_
  refine lv_iconst (v := (1 : Int32)) hx hb dL_law_377 (by decide) ?_
  refine lv_iadd hx hb dL_law_378 ?_
  refine m_sc X hX hbl hS (j := 1) rfl (by omega) hL dL_law_379 ?_
  refine lv_aload_n hx hb dL_law_380 rfl (lv_at hl 3 rfl) ?_
  refine lv_iload_n hx hb dL_law_381 rfl (lv_at hl 0 rfl) ?_
  refine lv_iconst (v := (2 : Int32)) hx hb dL_law_382 (by decide) ?_
  refine lv_iadd hx hb dL_law_383 ?_
  refine m_sc X hX hbl hS (j := 2) rfl (by omega) hL dL_law_384 ?_
  refine m_callV (base := s.heap.size) (q := 202) (As := [.int (xs (i + 1)), .int (xs (i + 2))]) (rest := [.int r]) X hH hS hl.1 o2 rfl (by decide) (k_X12_sets l D cI cT cII s.heap.size 202 (xs (i + 1)) (xs (i + 2)) w1 (r, w2) e2) q_X12_sets lk_X12_sets lj_X12_sets ls_X12_sets rfl rfl (Nat.le_of_ble_eq_true rfl) ⟨by decide, by decide⟩ hc dL_law_385 (fun H locs hH hS => W.eq (g2 := F0 m 388 ls [.int r, .int r]) rfl ?_)
  exact lv_icmp_eq (tgt := 1034) hx hb dL_law_388 (by decide) (fun _ => hK w2 H locs hv2 hH hS) (fun h => absurd rfl h)
set_option maxHeartbeats 4000000 in
set_option maxRecDepth 100000 in
theorem lc_9 (X : Cx p room_1 s m #[Value.ref b] c code 4 RL D cI cT cII 10 380) (hX : va_X b L xs s s.heap) (hbl : b < s.heap.size) (hL : L ≤ 3584) (hc : cells ≤ room_1.cells ∧ slots ≤ room_1.slots) {i : Nat} (hi : i + 7 ≤ L) {w : Wd} {H : Heap} {locs : List Loc} {ls : Array Slot} (hv : INV w) (hH : Hd D cI cT cII s.heap.size w H) (hS : va_S (fun q => s.heap.size ≤ q) s.heap H locs) (hl : lv_has ls 4 [(3, .int (nI i)), (2, .ref (s.heap.size + 202)), (1, .ref (s.heap.size + 0)), (0, .ref b)])
    (hK : ∀ (w : Wd) (H : Heap) (locs : List Loc), INV w → Hd D cI cT cII s.heap.size w H → va_S (fun q => s.heap.size ≤ q) s.heap H locs → W p l e room_1 s m #[Value.ref b] below meth c H locs cells slots Q (F0 m 1034 ls [])) : W p l e room_1 s m #[Value.ref b] below meth c H locs cells slots Q (F0 m 393 ls []) := by
  have hx := X.1
  have hb := X.2.1
  obtain ⟨r, w1, w2, ⟨o1, e1⟩, ⟨o2, e2⟩, hv2⟩ := st_rest hv 
  refine lv_aload_n hx hb dL_law_393 rfl (lv_at hl 2 rfl) ?_
  refine m_callV (base := s.heap.size) (q := 0) (As := []) (rest := []) X hH hS hl.1 o1 rfl (by decide) (k_X11_rest l D cI cT cII s.heap.size 0  w (r, w1) e1) q_X11_rest lk_X11_rest lj_X11_rest ls_X11_rest rfl rfl (Nat.le_of_ble_eq_true rfl) ⟨by decide, by decide⟩ hc dL_law_394 (fun H locs hH hS => W.eq (g2 := F0 m 397 ls [.int r]) rfl ?_)
  refine lv_aload_n hx hb dL_law_397 rfl (lv_at hl 1 rfl) ?_
  refine m_callV (base := s.heap.size) (q := 202) (As := []) (rest := [.int r]) X hH hS hl.1 o2 rfl (by decide) (k_X12_rest l D cI cT cII s.heap.size 202  w1 (r, w2) e2) q_X12_rest lk_X12_rest lj_X12_rest ls_X12_rest rfl rfl (Nat.le_of_ble_eq_true rfl) ⟨by decide, by decide⟩ hc dL_law_398 (fun H locs hH hS => W.eq (g2 := F0 m 401 ls [.int r, .int r]) rfl ?_)
  exact lv_icmp_eq (tgt := 1034) hx hb dL_law_401 (by decide) (fun _ => hK w2 H locs hv2 hH hS) (fun h => absurd rfl h)
set_option maxHeartbeats 4000000 in
set_option maxRecDepth 100000 in
theorem lc_10 (X : Cx p room_1 s m #[Value.ref b] c code 4 RL D cI cT cII 10 380) (hX : va_X b L xs s s.heap) (hbl : b < s.heap.size) (hL : L ≤ 3584) (hc : cells ≤ room_1.cells ∧ slots ≤ room_1.slots) {i : Nat} (hi : i + 7 ≤ L) {w : Wd} {H : Heap} {locs : List Loc} {ls : Array Slot} (hv : INV w) (hH : Hd D cI cT cII s.heap.size w H) (hS : va_S (fun q => s.heap.size ≤ q) s.heap H locs) (hl : lv_has ls 4 [(3, .int (nI i)), (2, .ref (s.heap.size + 202)), (1, .ref (s.heap.size + 0)), (0, .ref b)])
    (hK : ∀ (w : Wd) (H : Heap) (locs : List Loc), INV w → Hd D cI cT cII s.heap.size w H → va_S (fun q => s.heap.size ≤ q) s.heap H locs → W p l e room_1 s m #[Value.ref b] below meth c H locs cells slots Q (F0 m 1034 ls [])) : W p l e room_1 s m #[Value.ref b] below meth c H locs cells slots Q (F0 m 406 ls []) := by
  have hx := X.1
  have hb := X.2.1
  obtain ⟨r, w1, w2, ⟨o1, e1⟩, ⟨o2, e2⟩, hv2⟩ := st_sways hv 
  refine lv_aload_n hx hb dL_law_406 rfl (lv_at hl 2 rfl) ?_
  refine m_callV (base := s.heap.size) (q := 0) (As := []) (rest := []) X hH hS hl.1 o1 rfl (by decide) (k_X11_sways l D cI cT cII s.heap.size 0  w (r, w1) e1) q_X11_sways lk_X11_sways lj_X11_sways ls_X11_sways rfl rfl (Nat.le_of_ble_eq_true rfl) ⟨by decide, by decide⟩ hc dL_law_407 (fun H locs hH hS => W.eq (g2 := F0 m 410 ls [.int r]) rfl ?_)
  refine lv_aload_n hx hb dL_law_410 rfl (lv_at hl 1 rfl) ?_
  refine m_callV (base := s.heap.size) (q := 202) (As := []) (rest := [.int r]) X hH hS hl.1 o2 rfl (by decide) (k_X12_sways l D cI cT cII s.heap.size 202  w1 (r, w2) e2) q_X12_sways lk_X12_sways lj_X12_sways ls_X12_sways rfl rfl (Nat.le_of_ble_eq_true rfl) ⟨by decide, by decide⟩ hc dL_law_411 (fun H locs hH hS => W.eq (g2 := F0 m 414 ls [.int r, .int r]) rfl ?_)
  exact lv_icmp_eq (tgt := 1034) hx hb dL_law_414 (by decide) (fun _ => hK w2 H locs hv2 hH hS) (fun h => absurd rfl h)
set_option maxHeartbeats 4000000 in
set_option maxRecDepth 100000 in
theorem lc_11 (X : Cx p room_1 s m #[Value.ref b] c code 4 RL D cI cT cII 10 380) (hX : va_X b L xs s s.heap) (hbl : b < s.heap.size) (hL : L ≤ 3584) (hc : cells ≤ room_1.cells ∧ slots ≤ room_1.slots) {i : Nat} (hi : i + 7 ≤ L) {w : Wd} {H : Heap} {locs : List Loc} {ls : Array Slot} (hv : INV w) (hH : Hd D cI cT cII s.heap.size w H) (hS : va_S (fun q => s.heap.size ≤ q) s.heap H locs) (hl : lv_has ls 4 [(3, .int (nI i)), (2, .ref (s.heap.size + 202)), (1, .ref (s.heap.size + 0)), (0, .ref b)])
    (hK : ∀ (w : Wd) (H : Heap) (locs : List Loc), INV w → Hd D cI cT cII s.heap.size w H → va_S (fun q => s.heap.size ≤ q) s.heap H locs → W p l e room_1 s m #[Value.ref b] below meth c H locs cells slots Q (F0 m 1034 ls [])) : W p l e room_1 s m #[Value.ref b] below meth c H locs cells slots Q (F0 m 419 ls []) := by
  have hx := X.1
  have hb := X.2.1
  obtain ⟨r, w1, w2, ⟨o1, e1⟩, ⟨o2, e2⟩, hv2⟩ := st_told hv (xs (i + 1)) (xs (i + 2))
  refine lv_aload_n hx hb dL_law_419 rfl (lv_at hl 2 rfl) ?_
  refine lv_aload_n hx hb dL_law_420 rfl (lv_at hl 3 rfl) ?_
  refine lv_iload_n hx hb dL_law_421 rfl (lv_at hl 0 rfl) ?_
  refine lv_iconst (v := (1 : Int32)) hx hb dL_law_422 (by decide) ?_
  refine lv_iadd hx hb dL_law_423 ?_
  refine m_sc X hX hbl hS (j := 1) rfl (by omega) hL dL_law_424 ?_
  refine lv_aload_n hx hb dL_law_425 rfl (lv_at hl 3 rfl) ?_
  refine lv_iload_n hx hb dL_law_426 rfl (lv_at hl 0 rfl) ?_
  refine lv_iconst (v := (2 : Int32)) hx hb dL_law_427 (by decide) ?_
  refine lv_iadd hx hb dL_law_428 ?_
  refine m_sc X hX hbl hS (j := 2) rfl (by omega) hL dL_law_429 ?_
  refine m_callV (base := s.heap.size) (q := 0) (As := [.int (xs (i + 1)), .int (xs (i + 2))]) (rest := []) X hH hS hl.1 o1 rfl (by decide) (k_X11_told l D cI cT cII s.heap.size 0 (xs (i + 1)) (xs (i + 2)) w (r, w1) e1) q_X11_told lk_X11_told lj_X11_told ls_X11_told rfl rfl (Nat.le_of_ble_eq_true rfl) ⟨by decide, by decide⟩ hc dL_law_430 (fun H locs hH hS => W.eq (g2 := F0 m 433 ls [.int r]) rfl ?_)
  refine lv_aload_n hx hb dL_law_433 rfl (lv_at hl 1 rfl) ?_
  refine lv_aload_n hx hb dL_law_434 rfl (lv_at hl 3 rfl) ?_
  refine lv_iload_n hx hb dL_law_435 rfl (lv_at hl 0 rfl) ?_
  refine lv_iconst (v := (1 : Int32)) hx hb dL_law_436 (by decide) ?_
  refine lv_iadd hx hb dL_law_437 ?_
  refine m_sc X hX hbl hS (j := 1) rfl (by omega) hL dL_law_438 ?_
  refine lv_aload_n hx hb dL_law_439 rfl (lv_at hl 3 rfl) ?_
  refine lv_iload_n hx hb dL_law_440 rfl (lv_at hl 0 rfl) ?_
  refine lv_iconst (v := (2 : Int32)) hx hb dL_law_441 (by decide) ?_
  refine lv_iadd hx hb dL_law_442 ?_
  refine m_sc X hX hbl hS (j := 2) rfl (by omega) hL dL_law_443 ?_
  refine m_callV (base := s.heap.size) (q := 202) (As := [.int (xs (i + 1)), .int (xs (i + 2))]) (rest := [.int r]) X hH hS hl.1 o2 rfl (by decide) (k_X12_told l D cI cT cII s.heap.size 202 (xs (i + 1)) (xs (i + 2)) w1 (r, w2) e2) q_X12_told lk_X12_told lj_X12_told ls_X12_told rfl rfl (Nat.le_of_ble_eq_true rfl) ⟨by decide, by decide⟩ hc dL_law_444 (fun H locs hH hS => W.eq (g2 := F0 m 447 ls [.int r, .int r]) rfl ?_)
  exact lv_icmp_eq (tgt := 1034) hx hb dL_law_447 (by decide) (fun _ => hK w2 H locs hv2 hH hS) (fun h => absurd rfl h)
set_option maxHeartbeats 4000000 in
set_option maxRecDepth 100000 in
theorem lc_12 (X : Cx p room_1 s m #[Value.ref b] c code 4 RL D cI cT cII 10 380) (hX : va_X b L xs s s.heap) (hbl : b < s.heap.size) (hL : L ≤ 3584) (hc : cells ≤ room_1.cells ∧ slots ≤ room_1.slots) {i : Nat} (hi : i + 7 ≤ L) {w : Wd} {H : Heap} {locs : List Loc} {ls : Array Slot} (hv : INV w) (hH : Hd D cI cT cII s.heap.size w H) (hS : va_S (fun q => s.heap.size ≤ q) s.heap H locs) (hl : lv_has ls 4 [(3, .int (nI i)), (2, .ref (s.heap.size + 202)), (1, .ref (s.heap.size + 0)), (0, .ref b)])
    (hK : ∀ (w : Wd) (H : Heap) (locs : List Loc), INV w → Hd D cI cT cII s.heap.size w H → va_S (fun q => s.heap.size ≤ q) s.heap H locs → W p l e room_1 s m #[Value.ref b] below meth c H locs cells slots Q (F0 m 1034 ls [])) : W p l e room_1 s m #[Value.ref b] below meth c H locs cells slots Q (F0 m 452 ls []) := by
  have hx := X.1
  have hb := X.2.1
  obtain ⟨r, w1, w2, ⟨o1, e1⟩, ⟨o2, e2⟩, hv2⟩ := st_turn hv (xs (i + 1)) (xs (i + 2)) (xs (i + 3))
  refine lv_aload_n hx hb dL_law_452 rfl (lv_at hl 2 rfl) ?_
  refine lv_aload_n hx hb dL_law_453 rfl (lv_at hl 3 rfl) ?_
  refine lv_iload_n hx hb dL_law_454 rfl (lv_at hl 0 rfl) ?_
  refine lv_iconst (v := (1 : Int32)) hx hb dL_law_455 (by decide) ?_
  refine lv_iadd hx hb dL_law_456 ?_
  refine m_sc X hX hbl hS (j := 1) rfl (by omega) hL dL_law_457 ?_
  refine lv_aload_n hx hb dL_law_458 rfl (lv_at hl 3 rfl) ?_
  refine lv_iload_n hx hb dL_law_459 rfl (lv_at hl 0 rfl) ?_
  refine lv_iconst (v := (2 : Int32)) hx hb dL_law_460 (by decide) ?_
  refine lv_iadd hx hb dL_law_461 ?_
  refine m_sc X hX hbl hS (j := 2) rfl (by omega) hL dL_law_462 ?_
  refine lv_aload_n hx hb dL_law_463 rfl (lv_at hl 3 rfl) ?_
  refine lv_iload_n hx hb dL_law_464 rfl (lv_at hl 0 rfl) ?_
  refine lv_iconst (v := (3 : Int32)) hx hb dL_law_465 (by decide) ?_
  refine lv_iadd hx hb dL_law_466 ?_
  refine m_sc X hX hbl hS (j := 3) rfl (by omega) hL dL_law_467 ?_
  refine m_callV (base := s.heap.size) (q := 0) (As := [.int (xs (i + 1)), .int (xs (i + 2)), .int (xs (i + 3))]) (rest := []) X hH hS hl.1 o1 rfl (by decide) (k_X11_turn l D cI cT cII s.heap.size 0 (xs (i + 1)) (xs (i + 2)) (xs (i + 3)) w (r, w1) e1) q_X11_turn lk_X11_turn lj_X11_turn ls_X11_turn rfl rfl (Nat.le_of_ble_eq_true rfl) ⟨by decide, by decide⟩ hc dL_law_468 (fun H locs hH hS => W.eq (g2 := F0 m 471 ls [.int r]) rfl ?_)
  refine lv_aload_n hx hb dL_law_471 rfl (lv_at hl 1 rfl) ?_
  refine lv_aload_n hx hb dL_law_472 rfl (lv_at hl 3 rfl) ?_
  refine lv_iload_n hx hb dL_law_473 rfl (lv_at hl 0 rfl) ?_
  refine lv_iconst (v := (1 : Int32)) hx hb dL_law_474 (by decide) ?_
  refine lv_iadd hx hb dL_law_475 ?_
  refine m_sc X hX hbl hS (j := 1) rfl (by omega) hL dL_law_476 ?_
  refine lv_aload_n hx hb dL_law_477 rfl (lv_at hl 3 rfl) ?_
  refine lv_iload_n hx hb dL_law_478 rfl (lv_at hl 0 rfl) ?_
  refine lv_iconst (v := (2 : Int32)) hx hb dL_law_479 (by decide) ?_
  refine lv_iadd hx hb dL_law_480 ?_
  refine m_sc X hX hbl hS (j := 2) rfl (by omega) hL dL_law_481 ?_
  refine lv_aload_n hx hb dL_law_482 rfl (lv_at hl 3 rfl) ?_
  refine lv_iload_n hx hb dL_law_483 rfl (lv_at hl 0 rfl) ?_
  refine lv_iconst (v := (3 : Int32)) hx hb dL_law_484 (by decide) ?_
  refine lv_iadd hx hb dL_law_485 ?_
  refine m_sc X hX hbl hS (j := 3) rfl (by omega) hL dL_law_486 ?_
  refine m_callV (base := s.heap.size) (q := 202) (As := [.int (xs (i + 1)), .int (xs (i + 2)), .int (xs (i + 3))]) (rest := [.int r]) X hH hS hl.1 o2 rfl (by decide) (k_X12_turn l D cI cT cII s.heap.size 202 (xs (i + 1)) (xs (i + 2)) (xs (i + 3)) w1 (r, w2) e2) q_X12_turn lk_X12_turn lj_X12_turn ls_X12_turn rfl rfl (Nat.le_of_ble_eq_true rfl) ⟨by decide, by decide⟩ hc dL_law_487 (fun H locs hH hS => W.eq (g2 := F0 m 490 ls [.int r, .int r]) rfl ?_)
  exact lv_icmp_eq (tgt := 1034) hx hb dL_law_490 (by decide) (fun _ => hK w2 H locs hv2 hH hS) (fun h => absurd rfl h)
set_option maxHeartbeats 4000000 in
set_option maxRecDepth 100000 in
theorem lc_13 (X : Cx p room_1 s m #[Value.ref b] c code 4 RL D cI cT cII 10 380) (hX : va_X b L xs s s.heap) (hbl : b < s.heap.size) (hL : L ≤ 3584) (hc : cells ≤ room_1.cells ∧ slots ≤ room_1.slots) {i : Nat} (hi : i + 7 ≤ L) {w : Wd} {H : Heap} {locs : List Loc} {ls : Array Slot} (hv : INV w) (hH : Hd D cI cT cII s.heap.size w H) (hS : va_S (fun q => s.heap.size ≤ q) s.heap H locs) (hl : lv_has ls 4 [(3, .int (nI i)), (2, .ref (s.heap.size + 202)), (1, .ref (s.heap.size + 0)), (0, .ref b)])
    (hK : ∀ (w : Wd) (H : Heap) (locs : List Loc), INV w → Hd D cI cT cII s.heap.size w H → va_S (fun q => s.heap.size ≤ q) s.heap H locs → W p l e room_1 s m #[Value.ref b] below meth c H locs cells slots Q (F0 m 1034 ls [])) : W p l e room_1 s m #[Value.ref b] below meth c H locs cells slots Q (F0 m 495 ls []) := by
  have hx := X.1
  have hb := X.2.1
  obtain ⟨r, w1, w2, ⟨o1, e1⟩, ⟨o2, e2⟩, hv2⟩ := st_leave hv (xs (i + 1))
  refine lv_aload_n hx hb dL_law_495 rfl (lv_at hl 2 rfl) ?_
  refine lv_aload_n hx hb dL_law_496 rfl (lv_at hl 3 rfl) ?_
  refine lv_iload_n hx hb dL_law_497 rfl (lv_at hl 0 rfl) ?_
  refine lv_iconst (v := (1 : Int32)) hx hb dL_law_498 (by decide) ?_
  refine lv_iadd hx hb dL_law_499 ?_
  refine m_sc X hX hbl hS (j := 1) rfl (by omega) hL dL_law_500 ?_
  refine m_callV (base := s.heap.size) (q := 0) (As := [.int (xs (i + 1))]) (rest := []) X hH hS hl.1 o1 rfl (by decide) (k_X11_leave l D cI cT cII s.heap.size 0 (xs (i + 1)) w (r, w1) e1) q_X11_leave lk_X11_leave lj_X11_leave ls_X11_leave rfl rfl (Nat.le_of_ble_eq_true rfl) ⟨by decide, by decide⟩ hc dL_law_501 (fun H locs hH hS => W.eq (g2 := F0 m 504 ls [.int r]) rfl ?_)
  refine lv_aload_n hx hb dL_law_504 rfl (lv_at hl 1 rfl) ?_
  refine lv_aload_n hx hb dL_law_505 rfl (lv_at hl 3 rfl) ?_
  refine lv_iload_n hx hb dL_law_506 rfl (lv_at hl 0 rfl) ?_
  refine lv_iconst (v := (1 : Int32)) hx hb dL_law_507 (by decide) ?_
  refine lv_iadd hx hb dL_law_508 ?_
  refine m_sc X hX hbl hS (j := 1) rfl (by omega) hL dL_law_509 ?_
  refine m_callV (base := s.heap.size) (q := 202) (As := [.int (xs (i + 1))]) (rest := [.int r]) X hH hS hl.1 o2 rfl (by decide) (k_X12_leave l D cI cT cII s.heap.size 202 (xs (i + 1)) w1 (r, w2) e2) q_X12_leave lk_X12_leave lj_X12_leave ls_X12_leave rfl rfl (Nat.le_of_ble_eq_true rfl) ⟨by decide, by decide⟩ hc dL_law_510 (fun H locs hH hS => W.eq (g2 := F0 m 513 ls [.int r, .int r]) rfl ?_)
  exact lv_icmp_eq (tgt := 1034) hx hb dL_law_513 (by decide) (fun _ => hK w2 H locs hv2 hH hS) (fun h => absurd rfl h)
set_option maxHeartbeats 4000000 in
set_option maxRecDepth 100000 in
theorem lc_14 (X : Cx p room_1 s m #[Value.ref b] c code 4 RL D cI cT cII 10 380) (hX : va_X b L xs s s.heap) (hbl : b < s.heap.size) (hL : L ≤ 3584) (hc : cells ≤ room_1.cells ∧ slots ≤ room_1.slots) {i : Nat} (hi : i + 7 ≤ L) {w : Wd} {H : Heap} {locs : List Loc} {ls : Array Slot} (hv : INV w) (hH : Hd D cI cT cII s.heap.size w H) (hS : va_S (fun q => s.heap.size ≤ q) s.heap H locs) (hl : lv_has ls 4 [(3, .int (nI i)), (2, .ref (s.heap.size + 202)), (1, .ref (s.heap.size + 0)), (0, .ref b)])
    (hK : ∀ (w : Wd) (H : Heap) (locs : List Loc), INV w → Hd D cI cT cII s.heap.size w H → va_S (fun q => s.heap.size ≤ q) s.heap H locs → W p l e room_1 s m #[Value.ref b] below meth c H locs cells slots Q (F0 m 1034 ls [])) : W p l e room_1 s m #[Value.ref b] below meth c H locs cells slots Q (F0 m 518 ls []) := by
  have hx := X.1
  have hb := X.2.1
  obtain ⟨r, w1, w2, ⟨o1, e1⟩, ⟨o2, e2⟩, hv2⟩ := st_undo hv 
  refine lv_aload_n hx hb dL_law_518 rfl (lv_at hl 2 rfl) ?_
  refine m_callV (base := s.heap.size) (q := 0) (As := []) (rest := []) X hH hS hl.1 o1 rfl (by decide) (k_X11_undo l D cI cT cII s.heap.size 0  w (r, w1) e1) q_X11_undo lk_X11_undo lj_X11_undo ls_X11_undo rfl rfl (Nat.le_of_ble_eq_true rfl) ⟨by decide, by decide⟩ hc dL_law_519 (fun H locs hH hS => W.eq (g2 := F0 m 522 ls [.int r]) rfl ?_)
  refine lv_aload_n hx hb dL_law_522 rfl (lv_at hl 1 rfl) ?_
  refine m_callV (base := s.heap.size) (q := 202) (As := []) (rest := [.int r]) X hH hS hl.1 o2 rfl (by decide) (k_X12_undo l D cI cT cII s.heap.size 202  w1 (r, w2) e2) q_X12_undo lk_X12_undo lj_X12_undo ls_X12_undo rfl rfl (Nat.le_of_ble_eq_true rfl) ⟨by decide, by decide⟩ hc dL_law_523 (fun H locs hH hS => W.eq (g2 := F0 m 526 ls [.int r, .int r]) rfl ?_)
  exact lv_icmp_eq (tgt := 1034) hx hb dL_law_526 (by decide) (fun _ => hK w2 H locs hv2 hH hS) (fun h => absurd rfl h)
set_option maxHeartbeats 4000000 in
set_option maxRecDepth 100000 in
theorem lc_15 (X : Cx p room_1 s m #[Value.ref b] c code 4 RL D cI cT cII 10 380) (hX : va_X b L xs s s.heap) (hbl : b < s.heap.size) (hL : L ≤ 3584) (hc : cells ≤ room_1.cells ∧ slots ≤ room_1.slots) {i : Nat} (hi : i + 7 ≤ L) {w : Wd} {H : Heap} {locs : List Loc} {ls : Array Slot} (hv : INV w) (hH : Hd D cI cT cII s.heap.size w H) (hS : va_S (fun q => s.heap.size ≤ q) s.heap H locs) (hl : lv_has ls 4 [(3, .int (nI i)), (2, .ref (s.heap.size + 202)), (1, .ref (s.heap.size + 0)), (0, .ref b)])
    (hK : ∀ (w : Wd) (H : Heap) (locs : List Loc), INV w → Hd D cI cT cII s.heap.size w H → va_S (fun q => s.heap.size ≤ q) s.heap H locs → W p l e room_1 s m #[Value.ref b] below meth c H locs cells slots Q (F0 m 1034 ls [])) : W p l e room_1 s m #[Value.ref b] below meth c H locs cells slots Q (F0 m 531 ls []) := by
  have hx := X.1
  have hb := X.2.1
  obtain ⟨r, w1, w2, ⟨o1, e1⟩, ⟨o2, e2⟩, hv2⟩ := st_tempt hv (xs (i + 1)) (xs (i + 2))
  refine lv_aload_n hx hb dL_law_531 rfl (lv_at hl 2 rfl) ?_
  refine lv_aload_n hx hb dL_law_532 rfl (lv_at hl 3 rfl) ?_
  refine lv_iload_n hx hb dL_law_533 rfl (lv_at hl 0 rfl) ?_
  refine lv_iconst (v := (1 : Int32)) hx hb dL_law_534 (by decide) ?_
  refine lv_iadd hx hb dL_law_535 ?_
  refine m_sc X hX hbl hS (j := 1) rfl (by omega) hL dL_law_536 ?_
  refine lv_aload_n hx hb dL_law_537 rfl (lv_at hl 3 rfl) ?_
  refine lv_iload_n hx hb dL_law_538 rfl (lv_at hl 0 rfl) ?_
  refine lv_iconst (v := (2 : Int32)) hx hb dL_law_539 (by decide) ?_
  refine lv_iadd hx hb dL_law_540 ?_
  refine m_sc X hX hbl hS (j := 2) rfl (by omega) hL dL_law_541 ?_
  refine m_callV (base := s.heap.size) (q := 0) (As := [.int (xs (i + 1)), .int (xs (i + 2))]) (rest := []) X hH hS hl.1 o1 rfl (by decide) (k_X11_tempt l D cI cT cII s.heap.size 0 (xs (i + 1)) (xs (i + 2)) w (r, w1) e1) q_X11_tempt lk_X11_tempt lj_X11_tempt ls_X11_tempt rfl rfl (Nat.le_of_ble_eq_true rfl) ⟨by decide, by decide⟩ hc dL_law_542 (fun H locs hH hS => W.eq (g2 := F0 m 545 ls [.int r]) rfl ?_)
  refine lv_aload_n hx hb dL_law_545 rfl (lv_at hl 1 rfl) ?_
  refine lv_aload_n hx hb dL_law_546 rfl (lv_at hl 3 rfl) ?_
  refine lv_iload_n hx hb dL_law_547 rfl (lv_at hl 0 rfl) ?_
  refine lv_iconst (v := (1 : Int32)) hx hb dL_law_548 (by decide) ?_
  refine lv_iadd hx hb dL_law_549 ?_
  refine m_sc X hX hbl hS (j := 1) rfl (by omega) hL dL_law_550 ?_
  refine lv_aload_n hx hb dL_law_551 rfl (lv_at hl 3 rfl) ?_
  refine lv_iload_n hx hb dL_law_552 rfl (lv_at hl 0 rfl) ?_
  refine lv_iconst (v := (2 : Int32)) hx hb dL_law_553 (by decide) ?_
  refine lv_iadd hx hb dL_law_554 ?_
  refine m_sc X hX hbl hS (j := 2) rfl (by omega) hL dL_law_555 ?_
  refine m_callV (base := s.heap.size) (q := 202) (As := [.int (xs (i + 1)), .int (xs (i + 2))]) (rest := [.int r]) X hH hS hl.1 o2 rfl (by decide) (k_X12_tempt l D cI cT cII s.heap.size 202 (xs (i + 1)) (xs (i + 2)) w1 (r, w2) e2) q_X12_tempt lk_X12_tempt lj_X12_tempt ls_X12_tempt rfl rfl (Nat.le_of_ble_eq_true rfl) ⟨by decide, by decide⟩ hc dL_law_556 (fun H locs hH hS => W.eq (g2 := F0 m 559 ls [.int r, .int r]) rfl ?_)
  exact lv_icmp_eq (tgt := 1034) hx hb dL_law_559 (by decide) (fun _ => hK w2 H locs hv2 hH hS) (fun h => absurd rfl h)
set_option maxHeartbeats 4000000 in
set_option maxRecDepth 100000 in
theorem lc_16 (X : Cx p room_1 s m #[Value.ref b] c code 4 RL D cI cT cII 10 380) (hX : va_X b L xs s s.heap) (hbl : b < s.heap.size) (hL : L ≤ 3584) (hc : cells ≤ room_1.cells ∧ slots ≤ room_1.slots) {i : Nat} (hi : i + 7 ≤ L) {w : Wd} {H : Heap} {locs : List Loc} {ls : Array Slot} (hv : INV w) (hH : Hd D cI cT cII s.heap.size w H) (hS : va_S (fun q => s.heap.size ≤ q) s.heap H locs) (hl : lv_has ls 4 [(3, .int (nI i)), (2, .ref (s.heap.size + 202)), (1, .ref (s.heap.size + 0)), (0, .ref b)])
    (hK : ∀ (w : Wd) (H : Heap) (locs : List Loc), INV w → Hd D cI cT cII s.heap.size w H → va_S (fun q => s.heap.size ≤ q) s.heap H locs → W p l e room_1 s m #[Value.ref b] below meth c H locs cells slots Q (F0 m 1034 ls [])) : W p l e room_1 s m #[Value.ref b] below meth c H locs cells slots Q (F0 m 564 ls []) := by
  have hx := X.1
  have hb := X.2.1
  obtain ⟨r, w1, w2, ⟨o1, e1⟩, ⟨o2, e2⟩, hv2⟩ := st_fewest hv (xs (i + 1)) (xs (i + 2))
  refine lv_aload_n hx hb dL_law_564 rfl (lv_at hl 2 rfl) ?_
  refine lv_aload_n hx hb dL_law_565 rfl (lv_at hl 3 rfl) ?_
  refine lv_iload_n hx hb dL_law_566 rfl (lv_at hl 0 rfl) ?_
  refine lv_iconst (v := (1 : Int32)) hx hb dL_law_567 (by decide) ?_
  refine lv_iadd hx hb dL_law_568 ?_
  refine m_sc X hX hbl hS (j := 1) rfl (by omega) hL dL_law_569 ?_
  refine lv_aload_n hx hb dL_law_570 rfl (lv_at hl 3 rfl) ?_
  refine lv_iload_n hx hb dL_law_571 rfl (lv_at hl 0 rfl) ?_
  refine lv_iconst (v := (2 : Int32)) hx hb dL_law_572 (by decide) ?_
  refine lv_iadd hx hb dL_law_573 ?_
  refine m_sc X hX hbl hS (j := 2) rfl (by omega) hL dL_law_574 ?_
  refine m_callV (base := s.heap.size) (q := 0) (As := [.int (xs (i + 1)), .int (xs (i + 2))]) (rest := []) X hH hS hl.1 o1 rfl (by decide) (k_X11_fewest l D cI cT cII s.heap.size 0 (xs (i + 1)) (xs (i + 2)) w (r, w1) e1) q_X11_fewest lk_X11_fewest lj_X11_fewest ls_X11_fewest rfl rfl (Nat.le_of_ble_eq_true rfl) ⟨by decide, by decide⟩ hc dL_law_575 (fun H locs hH hS => W.eq (g2 := F0 m 578 ls [.int r]) rfl ?_)
  refine lv_aload_n hx hb dL_law_578 rfl (lv_at hl 1 rfl) ?_
  refine lv_aload_n hx hb dL_law_579 rfl (lv_at hl 3 rfl) ?_
  refine lv_iload_n hx hb dL_law_580 rfl (lv_at hl 0 rfl) ?_
  refine lv_iconst (v := (1 : Int32)) hx hb dL_law_581 (by decide) ?_
  refine lv_iadd hx hb dL_law_582 ?_
  refine m_sc X hX hbl hS (j := 1) rfl (by omega) hL dL_law_583 ?_
  refine lv_aload_n hx hb dL_law_584 rfl (lv_at hl 3 rfl) ?_
  refine lv_iload_n hx hb dL_law_585 rfl (lv_at hl 0 rfl) ?_
  refine lv_iconst (v := (2 : Int32)) hx hb dL_law_586 (by decide) ?_
  refine lv_iadd hx hb dL_law_587 ?_
  refine m_sc X hX hbl hS (j := 2) rfl (by omega) hL dL_law_588 ?_
  refine m_callV (base := s.heap.size) (q := 202) (As := [.int (xs (i + 1)), .int (xs (i + 2))]) (rest := [.int r]) X hH hS hl.1 o2 rfl (by decide) (k_X12_fewest l D cI cT cII s.heap.size 202 (xs (i + 1)) (xs (i + 2)) w1 (r, w2) e2) q_X12_fewest lk_X12_fewest lj_X12_fewest ls_X12_fewest rfl rfl (Nat.le_of_ble_eq_true rfl) ⟨by decide, by decide⟩ hc dL_law_589 (fun H locs hH hS => W.eq (g2 := F0 m 592 ls [.int r, .int r]) rfl ?_)
  exact lv_icmp_eq (tgt := 1034) hx hb dL_law_592 (by decide) (fun _ => hK w2 H locs hv2 hH hS) (fun h => absurd rfl h)
set_option maxHeartbeats 4000000 in
set_option maxRecDepth 100000 in
theorem lc_17 (X : Cx p room_1 s m #[Value.ref b] c code 4 RL D cI cT cII 10 380) (hX : va_X b L xs s s.heap) (hbl : b < s.heap.size) (hL : L ≤ 3584) (hc : cells ≤ room_1.cells ∧ slots ≤ room_1.slots) {i : Nat} (hi : i + 7 ≤ L) {w : Wd} {H : Heap} {locs : List Loc} {ls : Array Slot} (hv : INV w) (hH : Hd D cI cT cII s.heap.size w H) (hS : va_S (fun q => s.heap.size ≤ q) s.heap H locs) (hl : lv_has ls 4 [(3, .int (nI i)), (2, .ref (s.heap.size + 202)), (1, .ref (s.heap.size + 0)), (0, .ref b)])
    (hK : ∀ (w : Wd) (H : Heap) (locs : List Loc), INV w → Hd D cI cT cII s.heap.size w H → va_S (fun q => s.heap.size ≤ q) s.heap H locs → W p l e room_1 s m #[Value.ref b] below meth c H locs cells slots Q (F0 m 1034 ls [])) : W p l e room_1 s m #[Value.ref b] below meth c H locs cells slots Q (F0 m 597 ls []) := by
  have hx := X.1
  have hb := X.2.1
  obtain ⟨r, w1, w2, ⟨o1, e1⟩, ⟨o2, e2⟩, hv2⟩ := st_safe hv (xs (i + 1))
  refine lv_aload_n hx hb dL_law_597 rfl (lv_at hl 2 rfl) ?_
  refine lv_aload_n hx hb dL_law_598 rfl (lv_at hl 3 rfl) ?_
  refine lv_iload_n hx hb dL_law_599 rfl (lv_at hl 0 rfl) ?_
  refine lv_iconst (v := (1 : Int32)) hx hb dL_law_600 (by decide) ?_
  refine lv_iadd hx hb dL_law_601 ?_
  refine m_sc X hX hbl hS (j := 1) rfl (by omega) hL dL_law_602 ?_
  refine m_callV (base := s.heap.size) (q := 0) (As := [.int (xs (i + 1))]) (rest := []) X hH hS hl.1 o1 rfl (by decide) (k_X11_safe l D cI cT cII s.heap.size 0 (xs (i + 1)) w (r, w1) e1) q_X11_safe lk_X11_safe lj_X11_safe ls_X11_safe rfl rfl (Nat.le_of_ble_eq_true rfl) ⟨by decide, by decide⟩ hc dL_law_603 (fun H locs hH hS => W.eq (g2 := F0 m 606 ls [.int r]) rfl ?_)
  refine lv_aload_n hx hb dL_law_606 rfl (lv_at hl 1 rfl) ?_
  refine lv_aload_n hx hb dL_law_607 rfl (lv_at hl 3 rfl) ?_
  refine lv_iload_n hx hb dL_law_608 rfl (lv_at hl 0 rfl) ?_
  refine lv_iconst (v := (1 : Int32)) hx hb dL_law_609 (by decide) ?_
  refine lv_iadd hx hb dL_law_610 ?_
  refine m_sc X hX hbl hS (j := 1) rfl (by omega) hL dL_law_611 ?_
  refine m_callV (base := s.heap.size) (q := 202) (As := [.int (xs (i + 1))]) (rest := [.int r]) X hH hS hl.1 o2 rfl (by decide) (k_X12_safe l D cI cT cII s.heap.size 202 (xs (i + 1)) w1 (r, w2) e2) q_X12_safe lk_X12_safe lj_X12_safe ls_X12_safe rfl rfl (Nat.le_of_ble_eq_true rfl) ⟨by decide, by decide⟩ hc dL_law_612 (fun H locs hH hS => W.eq (g2 := F0 m 615 ls [.int r, .int r]) rfl ?_)
  exact lv_icmp_eq (tgt := 1034) hx hb dL_law_615 (by decide) (fun _ => hK w2 H locs hv2 hH hS) (fun h => absurd rfl h)
set_option maxHeartbeats 4000000 in
set_option maxRecDepth 100000 in
theorem lc_18 (X : Cx p room_1 s m #[Value.ref b] c code 4 RL D cI cT cII 10 380) (hX : va_X b L xs s s.heap) (hbl : b < s.heap.size) (hL : L ≤ 3584) (hc : cells ≤ room_1.cells ∧ slots ≤ room_1.slots) {i : Nat} (hi : i + 7 ≤ L) {w : Wd} {H : Heap} {locs : List Loc} {ls : Array Slot} (hv : INV w) (hH : Hd D cI cT cII s.heap.size w H) (hS : va_S (fun q => s.heap.size ≤ q) s.heap H locs) (hl : lv_has ls 4 [(3, .int (nI i)), (2, .ref (s.heap.size + 202)), (1, .ref (s.heap.size + 0)), (0, .ref b)])
    (hK : ∀ (w : Wd) (H : Heap) (locs : List Loc), INV w → Hd D cI cT cII s.heap.size w H → va_S (fun q => s.heap.size ≤ q) s.heap H locs → W p l e room_1 s m #[Value.ref b] below meth c H locs cells slots Q (F0 m 1034 ls [])) : W p l e room_1 s m #[Value.ref b] below meth c H locs cells slots Q (F0 m 620 ls []) := by
  have hx := X.1
  have hb := X.2.1
  obtain ⟨r, w1, w2, ⟨o1, e1⟩, ⟨o2, e2⟩, hv2⟩ := st_hang hv (xs (i + 1))
  refine lv_aload_n hx hb dL_law_620 rfl (lv_at hl 2 rfl) ?_
  refine lv_aload_n hx hb dL_law_621 rfl (lv_at hl 3 rfl) ?_
  refine lv_iload_n hx hb dL_law_622 rfl (lv_at hl 0 rfl) ?_
  refine lv_iconst (v := (1 : Int32)) hx hb dL_law_623 (by decide) ?_
  refine lv_iadd hx hb dL_law_624 ?_
  refine m_sc X hX hbl hS (j := 1) rfl (by omega) hL dL_law_625 ?_
  refine m_callV (base := s.heap.size) (q := 0) (As := [.int (xs (i + 1))]) (rest := []) X hH hS hl.1 o1 rfl (by decide) (k_X11_hang l D cI cT cII s.heap.size 0 (xs (i + 1)) w (r, w1) e1) q_X11_hang lk_X11_hang lj_X11_hang ls_X11_hang rfl rfl (Nat.le_of_ble_eq_true rfl) ⟨by decide, by decide⟩ hc dL_law_626 (fun H locs hH hS => W.eq (g2 := F0 m 629 ls [.int r]) rfl ?_)
  refine lv_aload_n hx hb dL_law_629 rfl (lv_at hl 1 rfl) ?_
  refine lv_aload_n hx hb dL_law_630 rfl (lv_at hl 3 rfl) ?_
  refine lv_iload_n hx hb dL_law_631 rfl (lv_at hl 0 rfl) ?_
  refine lv_iconst (v := (1 : Int32)) hx hb dL_law_632 (by decide) ?_
  refine lv_iadd hx hb dL_law_633 ?_
  refine m_sc X hX hbl hS (j := 1) rfl (by omega) hL dL_law_634 ?_
  refine m_callV (base := s.heap.size) (q := 202) (As := [.int (xs (i + 1))]) (rest := [.int r]) X hH hS hl.1 o2 rfl (by decide) (k_X12_hang l D cI cT cII s.heap.size 202 (xs (i + 1)) w1 (r, w2) e2) q_X12_hang lk_X12_hang lj_X12_hang ls_X12_hang rfl rfl (Nat.le_of_ble_eq_true rfl) ⟨by decide, by decide⟩ hc dL_law_635 (fun H locs hH hS => W.eq (g2 := F0 m 638 ls [.int r, .int r]) rfl ?_)
  exact lv_icmp_eq (tgt := 1034) hx hb dL_law_638 (by decide) (fun _ => hK w2 H locs hv2 hH hS) (fun h => absurd rfl h)
set_option maxHeartbeats 4000000 in
set_option maxRecDepth 100000 in
theorem lc_19 (X : Cx p room_1 s m #[Value.ref b] c code 4 RL D cI cT cII 10 380) (hX : va_X b L xs s s.heap) (hbl : b < s.heap.size) (hL : L ≤ 3584) (hc : cells ≤ room_1.cells ∧ slots ≤ room_1.slots) {i : Nat} (hi : i + 7 ≤ L) {w : Wd} {H : Heap} {locs : List Loc} {ls : Array Slot} (hv : INV w) (hH : Hd D cI cT cII s.heap.size w H) (hS : va_S (fun q => s.heap.size ≤ q) s.heap H locs) (hl : lv_has ls 4 [(3, .int (nI i)), (2, .ref (s.heap.size + 202)), (1, .ref (s.heap.size + 0)), (0, .ref b)])
    (hK : ∀ (w : Wd) (H : Heap) (locs : List Loc), INV w → Hd D cI cT cII s.heap.size w H → va_S (fun q => s.heap.size ≤ q) s.heap H locs → W p l e room_1 s m #[Value.ref b] below meth c H locs cells slots Q (F0 m 1034 ls [])) : W p l e room_1 s m #[Value.ref b] below meth c H locs cells slots Q (F0 m 643 ls []) := by
  have hx := X.1
  have hb := X.2.1
  obtain ⟨r, w1, w2, ⟨o1, e1⟩, ⟨o2, e2⟩, hv2⟩ := st_seen hv (xs (i + 1)) (xs (i + 2))
  refine lv_aload_n hx hb dL_law_643 rfl (lv_at hl 2 rfl) ?_
  refine lv_aload_n hx hb dL_law_644 rfl (lv_at hl 3 rfl) ?_
  refine lv_iload_n hx hb dL_law_645 rfl (lv_at hl 0 rfl) ?_
  refine lv_iconst (v := (1 : Int32)) hx hb dL_law_646 (by decide) ?_
  refine lv_iadd hx hb dL_law_647 ?_
  refine m_sc X hX hbl hS (j := 1) rfl (by omega) hL dL_law_648 ?_
  refine lv_aload_n hx hb dL_law_649 rfl (lv_at hl 3 rfl) ?_
  refine lv_iload_n hx hb dL_law_650 rfl (lv_at hl 0 rfl) ?_
  refine lv_iconst (v := (2 : Int32)) hx hb dL_law_651 (by decide) ?_
  refine lv_iadd hx hb dL_law_652 ?_
  refine m_sc X hX hbl hS (j := 2) rfl (by omega) hL dL_law_653 ?_
  refine m_callV (base := s.heap.size) (q := 0) (As := [.int (xs (i + 1)), .int (xs (i + 2))]) (rest := []) X hH hS hl.1 o1 rfl (by decide) (k_X11_seen l D cI cT cII s.heap.size 0 (xs (i + 1)) (xs (i + 2)) w (r, w1) e1) q_X11_seen lk_X11_seen lj_X11_seen ls_X11_seen rfl rfl (Nat.le_of_ble_eq_true rfl) ⟨by decide, by decide⟩ hc dL_law_654 (fun H locs hH hS => W.eq (g2 := F0 m 657 ls [.int r]) rfl ?_)
  refine lv_aload_n hx hb dL_law_657 rfl (lv_at hl 1 rfl) ?_
  refine lv_aload_n hx hb dL_law_658 rfl (lv_at hl 3 rfl) ?_
  refine lv_iload_n hx hb dL_law_659 rfl (lv_at hl 0 rfl) ?_
  refine lv_iconst (v := (1 : Int32)) hx hb dL_law_660 (by decide) ?_
  refine lv_iadd hx hb dL_law_661 ?_
  refine m_sc X hX hbl hS (j := 1) rfl (by omega) hL dL_law_662 ?_
  refine lv_aload_n hx hb dL_law_663 rfl (lv_at hl 3 rfl) ?_
  refine lv_iload_n hx hb dL_law_664 rfl (lv_at hl 0 rfl) ?_
  refine lv_iconst (v := (2 : Int32)) hx hb dL_law_665 (by decide) ?_
  refine lv_iadd hx hb dL_law_666 ?_
  refine m_sc X hX hbl hS (j := 2) rfl (by omega) hL dL_law_667 ?_
  refine m_callV (base := s.heap.size) (q := 202) (As := [.int (xs (i + 1)), .int (xs (i + 2))]) (rest := [.int r]) X hH hS hl.1 o2 rfl (by decide) (k_X12_seen l D cI cT cII s.heap.size 202 (xs (i + 1)) (xs (i + 2)) w1 (r, w2) e2) q_X12_seen lk_X12_seen lj_X12_seen ls_X12_seen rfl rfl (Nat.le_of_ble_eq_true rfl) ⟨by decide, by decide⟩ hc dL_law_668 (fun H locs hH hS => W.eq (g2 := F0 m 671 ls [.int r, .int r]) rfl ?_)
  exact lv_icmp_eq (tgt := 1034) hx hb dL_law_671 (by decide) (fun _ => hK w2 H locs hv2 hH hS) (fun h => absurd rfl h)
set_option maxHeartbeats 4000000 in
set_option maxRecDepth 100000 in
theorem lc_20 (X : Cx p room_1 s m #[Value.ref b] c code 4 RL D cI cT cII 10 380) (hX : va_X b L xs s s.heap) (hbl : b < s.heap.size) (hL : L ≤ 3584) (hc : cells ≤ room_1.cells ∧ slots ≤ room_1.slots) {i : Nat} (hi : i + 7 ≤ L) {w : Wd} {H : Heap} {locs : List Loc} {ls : Array Slot} (hv : INV w) (hH : Hd D cI cT cII s.heap.size w H) (hS : va_S (fun q => s.heap.size ≤ q) s.heap H locs) (hl : lv_has ls 4 [(3, .int (nI i)), (2, .ref (s.heap.size + 202)), (1, .ref (s.heap.size + 0)), (0, .ref b)])
    (hK : ∀ (w : Wd) (H : Heap) (locs : List Loc), INV w → Hd D cI cT cII s.heap.size w H → va_S (fun q => s.heap.size ≤ q) s.heap H locs → W p l e room_1 s m #[Value.ref b] below meth c H locs cells slots Q (F0 m 1034 ls [])) : W p l e room_1 s m #[Value.ref b] below meth c H locs cells slots Q (F0 m 676 ls []) := by
  have hx := X.1
  have hb := X.2.1
  obtain ⟨r, w1, w2, ⟨o1, e1⟩, ⟨o2, e2⟩, hv2⟩ := st_forget hv 
  refine lv_aload_n hx hb dL_law_676 rfl (lv_at hl 2 rfl) ?_
  refine m_callV (base := s.heap.size) (q := 0) (As := []) (rest := []) X hH hS hl.1 o1 rfl (by decide) (k_X11_forget l D cI cT cII s.heap.size 0  w (r, w1) e1) q_X11_forget lk_X11_forget lj_X11_forget ls_X11_forget rfl rfl (Nat.le_of_ble_eq_true rfl) ⟨by decide, by decide⟩ hc dL_law_677 (fun H locs hH hS => W.eq (g2 := F0 m 680 ls [.int r]) rfl ?_)
  refine lv_aload_n hx hb dL_law_680 rfl (lv_at hl 1 rfl) ?_
  refine m_callV (base := s.heap.size) (q := 202) (As := []) (rest := [.int r]) X hH hS hl.1 o2 rfl (by decide) (k_X12_forget l D cI cT cII s.heap.size 202  w1 (r, w2) e2) q_X12_forget lk_X12_forget lj_X12_forget ls_X12_forget rfl rfl (Nat.le_of_ble_eq_true rfl) ⟨by decide, by decide⟩ hc dL_law_681 (fun H locs hH hS => W.eq (g2 := F0 m 684 ls [.int r, .int r]) rfl ?_)
  exact lv_icmp_eq (tgt := 1034) hx hb dL_law_684 (by decide) (fun _ => hK w2 H locs hv2 hH hS) (fun h => absurd rfl h)
set_option maxHeartbeats 4000000 in
set_option maxRecDepth 100000 in
theorem lc_21 (X : Cx p room_1 s m #[Value.ref b] c code 4 RL D cI cT cII 10 380) (hX : va_X b L xs s s.heap) (hbl : b < s.heap.size) (hL : L ≤ 3584) (hc : cells ≤ room_1.cells ∧ slots ≤ room_1.slots) {i : Nat} (hi : i + 7 ≤ L) {w : Wd} {H : Heap} {locs : List Loc} {ls : Array Slot} (hv : INV w) (hH : Hd D cI cT cII s.heap.size w H) (hS : va_S (fun q => s.heap.size ≤ q) s.heap H locs) (hl : lv_has ls 4 [(3, .int (nI i)), (2, .ref (s.heap.size + 202)), (1, .ref (s.heap.size + 0)), (0, .ref b)])
    (hK : ∀ (w : Wd) (H : Heap) (locs : List Loc), INV w → Hd D cI cT cII s.heap.size w H → va_S (fun q => s.heap.size ≤ q) s.heap H locs → W p l e room_1 s m #[Value.ref b] below meth c H locs cells slots Q (F0 m 1034 ls [])) : W p l e room_1 s m #[Value.ref b] below meth c H locs cells slots Q (F0 m 689 ls []) := by
  have hx := X.1
  have hb := X.2.1
  obtain ⟨r, w1, w2, ⟨o1, e1⟩, ⟨o2, e2⟩, hv2⟩ := st_bears hv (xs (i + 1))
  refine lv_aload_n hx hb dL_law_689 rfl (lv_at hl 2 rfl) ?_
  refine lv_aload_n hx hb dL_law_690 rfl (lv_at hl 3 rfl) ?_
  refine lv_iload_n hx hb dL_law_691 rfl (lv_at hl 0 rfl) ?_
  refine lv_iconst (v := (1 : Int32)) hx hb dL_law_692 (by decide) ?_
  refine lv_iadd hx hb dL_law_693 ?_
  refine m_sc X hX hbl hS (j := 1) rfl (by omega) hL dL_law_694 ?_
  refine m_callV (base := s.heap.size) (q := 0) (As := [.int (xs (i + 1))]) (rest := []) X hH hS hl.1 o1 rfl (by decide) (k_X11_bears l D cI cT cII s.heap.size 0 (xs (i + 1)) w (r, w1) e1) q_X11_bears lk_X11_bears lj_X11_bears ls_X11_bears rfl rfl (Nat.le_of_ble_eq_true rfl) ⟨by decide, by decide⟩ hc dL_law_695 (fun H locs hH hS => W.eq (g2 := F0 m 698 ls [.int r]) rfl ?_)
  refine lv_aload_n hx hb dL_law_698 rfl (lv_at hl 1 rfl) ?_
  refine lv_aload_n hx hb dL_law_699 rfl (lv_at hl 3 rfl) ?_
  refine lv_iload_n hx hb dL_law_700 rfl (lv_at hl 0 rfl) ?_
  refine lv_iconst (v := (1 : Int32)) hx hb dL_law_701 (by decide) ?_
  refine lv_iadd hx hb dL_law_702 ?_
  refine m_sc X hX hbl hS (j := 1) rfl (by omega) hL dL_law_703 ?_
  refine m_callV (base := s.heap.size) (q := 202) (As := [.int (xs (i + 1))]) (rest := [.int r]) X hH hS hl.1 o2 rfl (by decide) (k_X12_bears l D cI cT cII s.heap.size 202 (xs (i + 1)) w1 (r, w2) e2) q_X12_bears lk_X12_bears lj_X12_bears ls_X12_bears rfl rfl (Nat.le_of_ble_eq_true rfl) ⟨by decide, by decide⟩ hc dL_law_704 (fun H locs hH hS => W.eq (g2 := F0 m 707 ls [.int r, .int r]) rfl ?_)
  exact lv_icmp_eq (tgt := 1034) hx hb dL_law_707 (by decide) (fun _ => hK w2 H locs hv2 hH hS) (fun h => absurd rfl h)
set_option maxHeartbeats 4000000 in
set_option maxRecDepth 100000 in
theorem lc_22 (X : Cx p room_1 s m #[Value.ref b] c code 4 RL D cI cT cII 10 380) (hX : va_X b L xs s s.heap) (hbl : b < s.heap.size) (hL : L ≤ 3584) (hc : cells ≤ room_1.cells ∧ slots ≤ room_1.slots) {i : Nat} (hi : i + 7 ≤ L) {w : Wd} {H : Heap} {locs : List Loc} {ls : Array Slot} (hv : INV w) (hH : Hd D cI cT cII s.heap.size w H) (hS : va_S (fun q => s.heap.size ≤ q) s.heap H locs) (hl : lv_has ls 4 [(3, .int (nI i)), (2, .ref (s.heap.size + 202)), (1, .ref (s.heap.size + 0)), (0, .ref b)])
    (hK : ∀ (w : Wd) (H : Heap) (locs : List Loc), INV w → Hd D cI cT cII s.heap.size w H → va_S (fun q => s.heap.size ≤ q) s.heap H locs → W p l e room_1 s m #[Value.ref b] below meth c H locs cells slots Q (F0 m 1034 ls [])) : W p l e room_1 s m #[Value.ref b] below meth c H locs cells slots Q (F0 m 712 ls []) := by
  have hx := X.1
  have hb := X.2.1
  obtain ⟨r, w1, w2, ⟨o1, e1⟩, ⟨o2, e2⟩, hv2⟩ := st_look hv (xs (i + 1)) (xs (i + 2))
  refine lv_aload_n hx hb dL_law_712 rfl (lv_at hl 2 rfl) ?_
  refine lv_aload_n hx hb dL_law_713 rfl (lv_at hl 3 rfl) ?_
  refine lv_iload_n hx hb dL_law_714 rfl (lv_at hl 0 rfl) ?_
  refine lv_iconst (v := (1 : Int32)) hx hb dL_law_715 (by decide) ?_
  refine lv_iadd hx hb dL_law_716 ?_
  refine m_sc X hX hbl hS (j := 1) rfl (by omega) hL dL_law_717 ?_
  refine lv_aload_n hx hb dL_law_718 rfl (lv_at hl 3 rfl) ?_
  refine lv_iload_n hx hb dL_law_719 rfl (lv_at hl 0 rfl) ?_
  refine lv_iconst (v := (2 : Int32)) hx hb dL_law_720 (by decide) ?_
  refine lv_iadd hx hb dL_law_721 ?_
  refine m_sc X hX hbl hS (j := 2) rfl (by omega) hL dL_law_722 ?_
  refine m_callV (base := s.heap.size) (q := 0) (As := [.int (xs (i + 1)), .int (xs (i + 2))]) (rest := []) X hH hS hl.1 o1 rfl (by decide) (k_X11_look l D cI cT cII s.heap.size 0 (xs (i + 1)) (xs (i + 2)) w (r, w1) e1) q_X11_look lk_X11_look lj_X11_look ls_X11_look rfl rfl (Nat.le_of_ble_eq_true rfl) ⟨by decide, by decide⟩ hc dL_law_723 (fun H locs hH hS => W.eq (g2 := F0 m 726 ls [.int r]) rfl ?_)
  refine lv_aload_n hx hb dL_law_726 rfl (lv_at hl 1 rfl) ?_
  refine lv_aload_n hx hb dL_law_727 rfl (lv_at hl 3 rfl) ?_
  refine lv_iload_n hx hb dL_law_728 rfl (lv_at hl 0 rfl) ?_
  refine lv_iconst (v := (1 : Int32)) hx hb dL_law_729 (by decide) ?_
  refine lv_iadd hx hb dL_law_730 ?_
  refine m_sc X hX hbl hS (j := 1) rfl (by omega) hL dL_law_731 ?_
  refine lv_aload_n hx hb dL_law_732 rfl (lv_at hl 3 rfl) ?_
  refine lv_iload_n hx hb dL_law_733 rfl (lv_at hl 0 rfl) ?_
  refine lv_iconst (v := (2 : Int32)) hx hb dL_law_734 (by decide) ?_
  refine lv_iadd hx hb dL_law_735 ?_
  refine m_sc X hX hbl hS (j := 2) rfl (by omega) hL dL_law_736 ?_
  refine m_callV (base := s.heap.size) (q := 202) (As := [.int (xs (i + 1)), .int (xs (i + 2))]) (rest := [.int r]) X hH hS hl.1 o2 rfl (by decide) (k_X12_look l D cI cT cII s.heap.size 202 (xs (i + 1)) (xs (i + 2)) w1 (r, w2) e2) q_X12_look lk_X12_look lj_X12_look ls_X12_look rfl rfl (Nat.le_of_ble_eq_true rfl) ⟨by decide, by decide⟩ hc dL_law_737 (fun H locs hH hS => W.eq (g2 := F0 m 740 ls [.int r, .int r]) rfl ?_)
  exact lv_icmp_eq (tgt := 1034) hx hb dL_law_740 (by decide) (fun _ => hK w2 H locs hv2 hH hS) (fun h => absurd rfl h)
set_option maxHeartbeats 4000000 in
set_option maxRecDepth 100000 in
theorem lc_23 (X : Cx p room_1 s m #[Value.ref b] c code 4 RL D cI cT cII 10 380) (hX : va_X b L xs s s.heap) (hbl : b < s.heap.size) (hL : L ≤ 3584) (hc : cells ≤ room_1.cells ∧ slots ≤ room_1.slots) {i : Nat} (hi : i + 7 ≤ L) {w : Wd} {H : Heap} {locs : List Loc} {ls : Array Slot} (hv : INV w) (hH : Hd D cI cT cII s.heap.size w H) (hS : va_S (fun q => s.heap.size ≤ q) s.heap H locs) (hl : lv_has ls 4 [(3, .int (nI i)), (2, .ref (s.heap.size + 202)), (1, .ref (s.heap.size + 0)), (0, .ref b)])
    (hK : ∀ (w : Wd) (H : Heap) (locs : List Loc), INV w → Hd D cI cT cII s.heap.size w H → va_S (fun q => s.heap.size ≤ q) s.heap H locs → W p l e room_1 s m #[Value.ref b] below meth c H locs cells slots Q (F0 m 1034 ls [])) : W p l e room_1 s m #[Value.ref b] below meth c H locs cells slots Q (F0 m 745 ls []) := by
  have hx := X.1
  have hb := X.2.1
  obtain ⟨r, w1, w2, ⟨o1, e1⟩, ⟨o2, e2⟩, hv2⟩ := st_who hv (xs (i + 1)) (xs (i + 2))
  refine lv_aload_n hx hb dL_law_745 rfl (lv_at hl 2 rfl) ?_
  refine lv_aload_n hx hb dL_law_746 rfl (lv_at hl 3 rfl) ?_
  refine lv_iload_n hx hb dL_law_747 rfl (lv_at hl 0 rfl) ?_
  refine lv_iconst (v := (1 : Int32)) hx hb dL_law_748 (by decide) ?_
  refine lv_iadd hx hb dL_law_749 ?_
  refine m_sc X hX hbl hS (j := 1) rfl (by omega) hL dL_law_750 ?_
  refine lv_aload_n hx hb dL_law_751 rfl (lv_at hl 3 rfl) ?_
  refine lv_iload_n hx hb dL_law_752 rfl (lv_at hl 0 rfl) ?_
  refine lv_iconst (v := (2 : Int32)) hx hb dL_law_753 (by decide) ?_
  refine lv_iadd hx hb dL_law_754 ?_
  refine m_sc X hX hbl hS (j := 2) rfl (by omega) hL dL_law_755 ?_
  refine m_callV (base := s.heap.size) (q := 0) (As := [.int (xs (i + 1)), .int (xs (i + 2))]) (rest := []) X hH hS hl.1 o1 rfl (by decide) (k_X11_who l D cI cT cII s.heap.size 0 (xs (i + 1)) (xs (i + 2)) w (r, w1) e1) q_X11_who lk_X11_who lj_X11_who ls_X11_who rfl rfl (Nat.le_of_ble_eq_true rfl) ⟨by decide, by decide⟩ hc dL_law_756 (fun H locs hH hS => W.eq (g2 := F0 m 759 ls [.int r]) rfl ?_)
  refine lv_aload_n hx hb dL_law_759 rfl (lv_at hl 1 rfl) ?_
  refine lv_aload_n hx hb dL_law_760 rfl (lv_at hl 3 rfl) ?_
  refine lv_iload_n hx hb dL_law_761 rfl (lv_at hl 0 rfl) ?_
  refine lv_iconst (v := (1 : Int32)) hx hb dL_law_762 (by decide) ?_
  refine lv_iadd hx hb dL_law_763 ?_
  refine m_sc X hX hbl hS (j := 1) rfl (by omega) hL dL_law_764 ?_
  refine lv_aload_n hx hb dL_law_765 rfl (lv_at hl 3 rfl) ?_
  refine lv_iload_n hx hb dL_law_766 rfl (lv_at hl 0 rfl) ?_
  refine lv_iconst (v := (2 : Int32)) hx hb dL_law_767 (by decide) ?_
  refine lv_iadd hx hb dL_law_768 ?_
  refine m_sc X hX hbl hS (j := 2) rfl (by omega) hL dL_law_769 ?_
  refine m_callV (base := s.heap.size) (q := 202) (As := [.int (xs (i + 1)), .int (xs (i + 2))]) (rest := [.int r]) X hH hS hl.1 o2 rfl (by decide) (k_X12_who l D cI cT cII s.heap.size 202 (xs (i + 1)) (xs (i + 2)) w1 (r, w2) e2) q_X12_who lk_X12_who lj_X12_who ls_X12_who rfl rfl (Nat.le_of_ble_eq_true rfl) ⟨by decide, by decide⟩ hc dL_law_770 (fun H locs hH hS => W.eq (g2 := F0 m 773 ls [.int r, .int r]) rfl ?_)
  exact lv_icmp_eq (tgt := 1034) hx hb dL_law_773 (by decide) (fun _ => hK w2 H locs hv2 hH hS) (fun h => absurd rfl h)
set_option maxHeartbeats 4000000 in
set_option maxRecDepth 100000 in
theorem lc_24 (X : Cx p room_1 s m #[Value.ref b] c code 4 RL D cI cT cII 10 380) (hX : va_X b L xs s s.heap) (hbl : b < s.heap.size) (hL : L ≤ 3584) (hc : cells ≤ room_1.cells ∧ slots ≤ room_1.slots) {i : Nat} (hi : i + 7 ≤ L) {w : Wd} {H : Heap} {locs : List Loc} {ls : Array Slot} (hv : INV w) (hH : Hd D cI cT cII s.heap.size w H) (hS : va_S (fun q => s.heap.size ≤ q) s.heap H locs) (hl : lv_has ls 4 [(3, .int (nI i)), (2, .ref (s.heap.size + 202)), (1, .ref (s.heap.size + 0)), (0, .ref b)])
    (hK : ∀ (w : Wd) (H : Heap) (locs : List Loc), INV w → Hd D cI cT cII s.heap.size w H → va_S (fun q => s.heap.size ≤ q) s.heap H locs → W p l e room_1 s m #[Value.ref b] below meth c H locs cells slots Q (F0 m 1034 ls [])) : W p l e room_1 s m #[Value.ref b] below meth c H locs cells slots Q (F0 m 778 ls []) := by
  have hx := X.1
  have hb := X.2.1
  obtain ⟨r, w1, w2, ⟨o1, e1⟩, ⟨o2, e2⟩, hv2⟩ := st_ends hv (xs (i + 1)) (xs (i + 2)) (xs (i + 3)) (xs (i + 4))
  refine lv_aload_n hx hb dL_law_778 rfl (lv_at hl 2 rfl) ?_
  refine lv_aload_n hx hb dL_law_779 rfl (lv_at hl 3 rfl) ?_
  refine lv_iload_n hx hb dL_law_780 rfl (lv_at hl 0 rfl) ?_
  refine lv_iconst (v := (1 : Int32)) hx hb dL_law_781 (by decide) ?_
  refine lv_iadd hx hb dL_law_782 ?_
  refine m_sc X hX hbl hS (j := 1) rfl (by omega) hL dL_law_783 ?_
  refine lv_aload_n hx hb dL_law_784 rfl (lv_at hl 3 rfl) ?_
  refine lv_iload_n hx hb dL_law_785 rfl (lv_at hl 0 rfl) ?_
  refine lv_iconst (v := (2 : Int32)) hx hb dL_law_786 (by decide) ?_
  refine lv_iadd hx hb dL_law_787 ?_
  refine m_sc X hX hbl hS (j := 2) rfl (by omega) hL dL_law_788 ?_
  refine lv_aload_n hx hb dL_law_789 rfl (lv_at hl 3 rfl) ?_
  refine lv_iload_n hx hb dL_law_790 rfl (lv_at hl 0 rfl) ?_
  refine lv_iconst (v := (3 : Int32)) hx hb dL_law_791 (by decide) ?_
  refine lv_iadd hx hb dL_law_792 ?_
  refine m_sc X hX hbl hS (j := 3) rfl (by omega) hL dL_law_793 ?_
  refine lv_aload_n hx hb dL_law_794 rfl (lv_at hl 3 rfl) ?_
  refine lv_iload_n hx hb dL_law_795 rfl (lv_at hl 0 rfl) ?_
  refine lv_iconst (v := (4 : Int32)) hx hb dL_law_796 (by decide) ?_
  refine lv_iadd hx hb dL_law_797 ?_
  refine m_sc X hX hbl hS (j := 4) rfl (by omega) hL dL_law_798 ?_
  refine m_callV (base := s.heap.size) (q := 0) (As := [.int (xs (i + 1)), .int (xs (i + 2)), .int (xs (i + 3)), .int (xs (i + 4))]) (rest := []) X hH hS hl.1 o1 rfl (by decide) (k_X11_ends l D cI cT cII s.heap.size 0 (xs (i + 1)) (xs (i + 2)) (xs (i + 3)) (xs (i + 4)) w (r, w1) e1) q_X11_ends lk_X11_ends lj_X11_ends ls_X11_ends rfl rfl (Nat.le_of_ble_eq_true rfl) ⟨by decide, by decide⟩ hc dL_law_799 (fun H locs hH hS => W.eq (g2 := F0 m 802 ls [.int r]) rfl ?_)
  refine lv_aload_n hx hb dL_law_802 rfl (lv_at hl 1 rfl) ?_
  refine lv_aload_n hx hb dL_law_803 rfl (lv_at hl 3 rfl) ?_
  refine lv_iload_n hx hb dL_law_804 rfl (lv_at hl 0 rfl) ?_
  refine lv_iconst (v := (1 : Int32)) hx hb dL_law_805 (by decide) ?_
  refine lv_iadd hx hb dL_law_806 ?_
  refine m_sc X hX hbl hS (j := 1) rfl (by omega) hL dL_law_807 ?_
  refine lv_aload_n hx hb dL_law_808 rfl (lv_at hl 3 rfl) ?_
  refine lv_iload_n hx hb dL_law_809 rfl (lv_at hl 0 rfl) ?_
  refine lv_iconst (v := (2 : Int32)) hx hb dL_law_810 (by decide) ?_
  refine lv_iadd hx hb dL_law_811 ?_
  refine m_sc X hX hbl hS (j := 2) rfl (by omega) hL dL_law_812 ?_
  refine lv_aload_n hx hb dL_law_813 rfl (lv_at hl 3 rfl) ?_
  refine lv_iload_n hx hb dL_law_814 rfl (lv_at hl 0 rfl) ?_
  refine lv_iconst (v := (3 : Int32)) hx hb dL_law_815 (by decide) ?_
  refine lv_iadd hx hb dL_law_816 ?_
  refine m_sc X hX hbl hS (j := 3) rfl (by omega) hL dL_law_817 ?_
  refine lv_aload_n hx hb dL_law_818 rfl (lv_at hl 3 rfl) ?_
  refine lv_iload_n hx hb dL_law_819 rfl (lv_at hl 0 rfl) ?_
  refine lv_iconst (v := (4 : Int32)) hx hb dL_law_820 (by decide) ?_
  refine lv_iadd hx hb dL_law_821 ?_
  refine m_sc X hX hbl hS (j := 4) rfl (by omega) hL dL_law_822 ?_
  refine m_callV (base := s.heap.size) (q := 202) (As := [.int (xs (i + 1)), .int (xs (i + 2)), .int (xs (i + 3)), .int (xs (i + 4))]) (rest := [.int r]) X hH hS hl.1 o2 rfl (by decide) (k_X12_ends l D cI cT cII s.heap.size 202 (xs (i + 1)) (xs (i + 2)) (xs (i + 3)) (xs (i + 4)) w1 (r, w2) e2) q_X12_ends lk_X12_ends lj_X12_ends ls_X12_ends rfl rfl (Nat.le_of_ble_eq_true rfl) ⟨by decide, by decide⟩ hc dL_law_823 (fun H locs hH hS => W.eq (g2 := F0 m 826 ls [.int r, .int r]) rfl ?_)
  exact lv_icmp_eq (tgt := 1034) hx hb dL_law_826 (by decide) (fun _ => hK w2 H locs hv2 hH hS) (fun h => absurd rfl h)
set_option maxHeartbeats 4000000 in
set_option maxRecDepth 100000 in
theorem lc_25 (X : Cx p room_1 s m #[Value.ref b] c code 4 RL D cI cT cII 10 380) (hX : va_X b L xs s s.heap) (hbl : b < s.heap.size) (hL : L ≤ 3584) (hc : cells ≤ room_1.cells ∧ slots ≤ room_1.slots) {i : Nat} (hi : i + 7 ≤ L) {w : Wd} {H : Heap} {locs : List Loc} {ls : Array Slot} (hv : INV w) (hH : Hd D cI cT cII s.heap.size w H) (hS : va_S (fun q => s.heap.size ≤ q) s.heap H locs) (hl : lv_has ls 4 [(3, .int (nI i)), (2, .ref (s.heap.size + 202)), (1, .ref (s.heap.size + 0)), (0, .ref b)])
    (hK : ∀ (w : Wd) (H : Heap) (locs : List Loc), INV w → Hd D cI cT cII s.heap.size w H → va_S (fun q => s.heap.size ≤ q) s.heap H locs → W p l e room_1 s m #[Value.ref b] below meth c H locs cells slots Q (F0 m 1034 ls [])) : W p l e room_1 s m #[Value.ref b] below meth c H locs cells slots Q (F0 m 831 ls []) := by
  have hx := X.1
  have hb := X.2.1
  obtain ⟨r, w1, w2, ⟨o1, e1⟩, ⟨o2, e2⟩, hv2⟩ := st_wire hv (xs (i + 1)) (xs (i + 2)) (xs (i + 3)) (xs (i + 4)) (xs (i + 5)) (xs (i + 6))
  refine lv_aload_n hx hb dL_law_831 rfl (lv_at hl 2 rfl) ?_
  refine lv_aload_n hx hb dL_law_832 rfl (lv_at hl 3 rfl) ?_
  refine lv_iload_n hx hb dL_law_833 rfl (lv_at hl 0 rfl) ?_
  refine lv_iconst (v := (1 : Int32)) hx hb dL_law_834 (by decide) ?_
  refine lv_iadd hx hb dL_law_835 ?_
  refine m_sc X hX hbl hS (j := 1) rfl (by omega) hL dL_law_836 ?_
  refine lv_aload_n hx hb dL_law_837 rfl (lv_at hl 3 rfl) ?_
  refine lv_iload_n hx hb dL_law_838 rfl (lv_at hl 0 rfl) ?_
  refine lv_iconst (v := (2 : Int32)) hx hb dL_law_839 (by decide) ?_
  refine lv_iadd hx hb dL_law_840 ?_
  refine m_sc X hX hbl hS (j := 2) rfl (by omega) hL dL_law_841 ?_
  refine lv_aload_n hx hb dL_law_842 rfl (lv_at hl 3 rfl) ?_
  refine lv_iload_n hx hb dL_law_843 rfl (lv_at hl 0 rfl) ?_
  refine lv_iconst (v := (3 : Int32)) hx hb dL_law_844 (by decide) ?_
  refine lv_iadd hx hb dL_law_845 ?_
  refine m_sc X hX hbl hS (j := 3) rfl (by omega) hL dL_law_846 ?_
  refine lv_aload_n hx hb dL_law_847 rfl (lv_at hl 3 rfl) ?_
  refine lv_iload_n hx hb dL_law_848 rfl (lv_at hl 0 rfl) ?_
  refine lv_iconst (v := (4 : Int32)) hx hb dL_law_849 (by decide) ?_
  refine lv_iadd hx hb dL_law_850 ?_
  refine m_sc X hX hbl hS (j := 4) rfl (by omega) hL dL_law_851 ?_
  refine lv_aload_n hx hb dL_law_852 rfl (lv_at hl 3 rfl) ?_
  refine lv_iload_n hx hb dL_law_853 rfl (lv_at hl 0 rfl) ?_
  refine lv_iconst (v := (5 : Int32)) hx hb dL_law_854 (by decide) ?_
  refine lv_iadd hx hb dL_law_855 ?_
  refine m_sc X hX hbl hS (j := 5) rfl (by omega) hL dL_law_856 ?_
  refine lv_aload_n hx hb dL_law_857 rfl (lv_at hl 3 rfl) ?_
  refine lv_iload_n hx hb dL_law_858 rfl (lv_at hl 0 rfl) ?_
  refine lv_bipush (v := (6 : Int32)) hx hb dL_law_859 (by decide) ?_
  refine lv_iadd hx hb dL_law_861 ?_
  refine m_sc X hX hbl hS (j := 6) rfl (by omega) hL dL_law_862 ?_
  refine m_callV (base := s.heap.size) (q := 0) (As := [.int (xs (i + 1)), .int (xs (i + 2)), .int (xs (i + 3)), .int (xs (i + 4)), .int (xs (i + 5)), .int (xs (i + 6))]) (rest := []) X hH hS hl.1 o1 rfl (by decide) (k_X11_wire l D cI cT cII s.heap.size 0 (xs (i + 1)) (xs (i + 2)) (xs (i + 3)) (xs (i + 4)) (xs (i + 5)) (xs (i + 6)) w (r, w1) e1) q_X11_wire lk_X11_wire lj_X11_wire ls_X11_wire rfl rfl (Nat.le_of_ble_eq_true rfl) ⟨by decide, by decide⟩ hc dL_law_863 (fun H locs hH hS => W.eq (g2 := F0 m 866 ls [.int r]) rfl ?_)
  refine lv_aload_n hx hb dL_law_866 rfl (lv_at hl 1 rfl) ?_
  refine lv_aload_n hx hb dL_law_867 rfl (lv_at hl 3 rfl) ?_
  refine lv_iload_n hx hb dL_law_868 rfl (lv_at hl 0 rfl) ?_
  refine lv_iconst (v := (1 : Int32)) hx hb dL_law_869 (by decide) ?_
  refine lv_iadd hx hb dL_law_870 ?_
  refine m_sc X hX hbl hS (j := 1) rfl (by omega) hL dL_law_871 ?_
  refine lv_aload_n hx hb dL_law_872 rfl (lv_at hl 3 rfl) ?_
  refine lv_iload_n hx hb dL_law_873 rfl (lv_at hl 0 rfl) ?_
  refine lv_iconst (v := (2 : Int32)) hx hb dL_law_874 (by decide) ?_
  refine lv_iadd hx hb dL_law_875 ?_
  refine m_sc X hX hbl hS (j := 2) rfl (by omega) hL dL_law_876 ?_
  refine lv_aload_n hx hb dL_law_877 rfl (lv_at hl 3 rfl) ?_
  refine lv_iload_n hx hb dL_law_878 rfl (lv_at hl 0 rfl) ?_
  refine lv_iconst (v := (3 : Int32)) hx hb dL_law_879 (by decide) ?_
  refine lv_iadd hx hb dL_law_880 ?_
  refine m_sc X hX hbl hS (j := 3) rfl (by omega) hL dL_law_881 ?_
  refine lv_aload_n hx hb dL_law_882 rfl (lv_at hl 3 rfl) ?_
  refine lv_iload_n hx hb dL_law_883 rfl (lv_at hl 0 rfl) ?_
  refine lv_iconst (v := (4 : Int32)) hx hb dL_law_884 (by decide) ?_
  refine lv_iadd hx hb dL_law_885 ?_
  refine m_sc X hX hbl hS (j := 4) rfl (by omega) hL dL_law_886 ?_
  refine lv_aload_n hx hb dL_law_887 rfl (lv_at hl 3 rfl) ?_
  refine lv_iload_n hx hb dL_law_888 rfl (lv_at hl 0 rfl) ?_
  refine lv_iconst (v := (5 : Int32)) hx hb dL_law_889 (by decide) ?_
  refine lv_iadd hx hb dL_law_890 ?_
  refine m_sc X hX hbl hS (j := 5) rfl (by omega) hL dL_law_891 ?_
  refine lv_aload_n hx hb dL_law_892 rfl (lv_at hl 3 rfl) ?_
  refine lv_iload_n hx hb dL_law_893 rfl (lv_at hl 0 rfl) ?_
  refine lv_bipush (v := (6 : Int32)) hx hb dL_law_894 (by decide) ?_
  refine lv_iadd hx hb dL_law_896 ?_
  refine m_sc X hX hbl hS (j := 6) rfl (by omega) hL dL_law_897 ?_
  refine m_callV (base := s.heap.size) (q := 202) (As := [.int (xs (i + 1)), .int (xs (i + 2)), .int (xs (i + 3)), .int (xs (i + 4)), .int (xs (i + 5)), .int (xs (i + 6))]) (rest := [.int r]) X hH hS hl.1 o2 rfl (by decide) (k_X12_wire l D cI cT cII s.heap.size 202 (xs (i + 1)) (xs (i + 2)) (xs (i + 3)) (xs (i + 4)) (xs (i + 5)) (xs (i + 6)) w1 (r, w2) e2) q_X12_wire lk_X12_wire lj_X12_wire ls_X12_wire rfl rfl (Nat.le_of_ble_eq_true rfl) ⟨by decide, by decide⟩ hc dL_law_898 (fun H locs hH hS => W.eq (g2 := F0 m 901 ls [.int r, .int r]) rfl ?_)
  exact lv_icmp_eq (tgt := 1034) hx hb dL_law_901 (by decide) (fun _ => hK w2 H locs hv2 hH hS) (fun h => absurd rfl h)
set_option maxHeartbeats 4000000 in
set_option maxRecDepth 100000 in
theorem lc_26 (X : Cx p room_1 s m #[Value.ref b] c code 4 RL D cI cT cII 10 380) (hX : va_X b L xs s s.heap) (hbl : b < s.heap.size) (hL : L ≤ 3584) (hc : cells ≤ room_1.cells ∧ slots ≤ room_1.slots) {i : Nat} (hi : i + 7 ≤ L) {w : Wd} {H : Heap} {locs : List Loc} {ls : Array Slot} (hv : INV w) (hH : Hd D cI cT cII s.heap.size w H) (hS : va_S (fun q => s.heap.size ≤ q) s.heap H locs) (hl : lv_has ls 4 [(3, .int (nI i)), (2, .ref (s.heap.size + 202)), (1, .ref (s.heap.size + 0)), (0, .ref b)])
    (hK : ∀ (w : Wd) (H : Heap) (locs : List Loc), INV w → Hd D cI cT cII s.heap.size w H → va_S (fun q => s.heap.size ≤ q) s.heap H locs → W p l e room_1 s m #[Value.ref b] below meth c H locs cells slots Q (F0 m 1034 ls [])) : W p l e room_1 s m #[Value.ref b] below meth c H locs cells slots Q (F0 m 906 ls []) := by
  have hx := X.1
  have hb := X.2.1
  obtain ⟨r, w1, w2, ⟨o1, e1⟩, ⟨o2, e2⟩, hv2⟩ := st_most hv (xs (i + 1))
  refine lv_aload_n hx hb dL_law_906 rfl (lv_at hl 2 rfl) ?_
  refine lv_aload_n hx hb dL_law_907 rfl (lv_at hl 3 rfl) ?_
  refine lv_iload_n hx hb dL_law_908 rfl (lv_at hl 0 rfl) ?_
  refine lv_iconst (v := (1 : Int32)) hx hb dL_law_909 (by decide) ?_
  refine lv_iadd hx hb dL_law_910 ?_
  refine m_sc X hX hbl hS (j := 1) rfl (by omega) hL dL_law_911 ?_
  refine m_callV (base := s.heap.size) (q := 0) (As := [.int (xs (i + 1))]) (rest := []) X hH hS hl.1 o1 rfl (by decide) (k_X11_most l D cI cT cII s.heap.size 0 (xs (i + 1)) w (r, w1) e1) q_X11_most lk_X11_most lj_X11_most ls_X11_most rfl rfl (Nat.le_of_ble_eq_true rfl) ⟨by decide, by decide⟩ hc dL_law_912 (fun H locs hH hS => W.eq (g2 := F0 m 915 ls [.int r]) rfl ?_)
  refine lv_aload_n hx hb dL_law_915 rfl (lv_at hl 1 rfl) ?_
  refine lv_aload_n hx hb dL_law_916 rfl (lv_at hl 3 rfl) ?_
  refine lv_iload_n hx hb dL_law_917 rfl (lv_at hl 0 rfl) ?_
  refine lv_iconst (v := (1 : Int32)) hx hb dL_law_918 (by decide) ?_
  refine lv_iadd hx hb dL_law_919 ?_
  refine m_sc X hX hbl hS (j := 1) rfl (by omega) hL dL_law_920 ?_
  refine m_callV (base := s.heap.size) (q := 202) (As := [.int (xs (i + 1))]) (rest := [.int r]) X hH hS hl.1 o2 rfl (by decide) (k_X12_most l D cI cT cII s.heap.size 202 (xs (i + 1)) w1 (r, w2) e2) q_X12_most lk_X12_most lj_X12_most ls_X12_most rfl rfl (Nat.le_of_ble_eq_true rfl) ⟨by decide, by decide⟩ hc dL_law_921 (fun H locs hH hS => W.eq (g2 := F0 m 924 ls [.int r, .int r]) rfl ?_)
  exact lv_icmp_eq (tgt := 1034) hx hb dL_law_924 (by decide) (fun _ => hK w2 H locs hv2 hH hS) (fun h => absurd rfl h)
set_option maxHeartbeats 4000000 in
set_option maxRecDepth 100000 in
theorem lc_27 (X : Cx p room_1 s m #[Value.ref b] c code 4 RL D cI cT cII 10 380) (hX : va_X b L xs s s.heap) (hbl : b < s.heap.size) (hL : L ≤ 3584) (hc : cells ≤ room_1.cells ∧ slots ≤ room_1.slots) {i : Nat} (hi : i + 7 ≤ L) {w : Wd} {H : Heap} {locs : List Loc} {ls : Array Slot} (hv : INV w) (hH : Hd D cI cT cII s.heap.size w H) (hS : va_S (fun q => s.heap.size ≤ q) s.heap H locs) (hl : lv_has ls 4 [(3, .int (nI i)), (2, .ref (s.heap.size + 202)), (1, .ref (s.heap.size + 0)), (0, .ref b)])
    (hK : ∀ (w : Wd) (H : Heap) (locs : List Loc), INV w → Hd D cI cT cII s.heap.size w H → va_S (fun q => s.heap.size ≤ q) s.heap H locs → W p l e room_1 s m #[Value.ref b] below meth c H locs cells slots Q (F0 m 1034 ls [])) : W p l e room_1 s m #[Value.ref b] below meth c H locs cells slots Q (F0 m 929 ls []) := by
  have hx := X.1
  have hb := X.2.1
  obtain ⟨r, w1, w2, ⟨o1, e1⟩, ⟨o2, e2⟩, hv2⟩ := st_patches hv (xs (i + 1))
  refine lv_aload_n hx hb dL_law_929 rfl (lv_at hl 2 rfl) ?_
  refine lv_aload_n hx hb dL_law_930 rfl (lv_at hl 3 rfl) ?_
  refine lv_iload_n hx hb dL_law_931 rfl (lv_at hl 0 rfl) ?_
  refine lv_iconst (v := (1 : Int32)) hx hb dL_law_932 (by decide) ?_
  refine lv_iadd hx hb dL_law_933 ?_
  refine m_sc X hX hbl hS (j := 1) rfl (by omega) hL dL_law_934 ?_
  refine m_callV (base := s.heap.size) (q := 0) (As := [.int (xs (i + 1))]) (rest := []) X hH hS hl.1 o1 rfl (by decide) (k_X11_patches l D cI cT cII s.heap.size 0 (xs (i + 1)) w (r, w1) e1) q_X11_patches lk_X11_patches lj_X11_patches ls_X11_patches rfl rfl (Nat.le_of_ble_eq_true rfl) ⟨by decide, by decide⟩ hc dL_law_935 (fun H locs hH hS => W.eq (g2 := F0 m 938 ls [.int r]) rfl ?_)
  refine lv_aload_n hx hb dL_law_938 rfl (lv_at hl 1 rfl) ?_
  refine lv_aload_n hx hb dL_law_939 rfl (lv_at hl 3 rfl) ?_
  refine lv_iload_n hx hb dL_law_940 rfl (lv_at hl 0 rfl) ?_
  refine lv_iconst (v := (1 : Int32)) hx hb dL_law_941 (by decide) ?_
  refine lv_iadd hx hb dL_law_942 ?_
  refine m_sc X hX hbl hS (j := 1) rfl (by omega) hL dL_law_943 ?_
  refine m_callV (base := s.heap.size) (q := 202) (As := [.int (xs (i + 1))]) (rest := [.int r]) X hH hS hl.1 o2 rfl (by decide) (k_X12_patches l D cI cT cII s.heap.size 202 (xs (i + 1)) w1 (r, w2) e2) q_X12_patches lk_X12_patches lj_X12_patches ls_X12_patches rfl rfl (Nat.le_of_ble_eq_true rfl) ⟨by decide, by decide⟩ hc dL_law_944 (fun H locs hH hS => W.eq (g2 := F0 m 947 ls [.int r, .int r]) rfl ?_)
  exact lv_icmp_eq (tgt := 1034) hx hb dL_law_947 (by decide) (fun _ => hK w2 H locs hv2 hH hS) (fun h => absurd rfl h)
set_option maxHeartbeats 4000000 in
set_option maxRecDepth 100000 in
theorem lc_28 (X : Cx p room_1 s m #[Value.ref b] c code 4 RL D cI cT cII 10 380) (hX : va_X b L xs s s.heap) (hbl : b < s.heap.size) (hL : L ≤ 3584) (hc : cells ≤ room_1.cells ∧ slots ≤ room_1.slots) {i : Nat} (hi : i + 7 ≤ L) {w : Wd} {H : Heap} {locs : List Loc} {ls : Array Slot} (hv : INV w) (hH : Hd D cI cT cII s.heap.size w H) (hS : va_S (fun q => s.heap.size ≤ q) s.heap H locs) (hl : lv_has ls 4 [(3, .int (nI i)), (2, .ref (s.heap.size + 202)), (1, .ref (s.heap.size + 0)), (0, .ref b)])
    (hK : ∀ (w : Wd) (H : Heap) (locs : List Loc), INV w → Hd D cI cT cII s.heap.size w H → va_S (fun q => s.heap.size ≤ q) s.heap H locs → W p l e room_1 s m #[Value.ref b] below meth c H locs cells slots Q (F0 m 1034 ls [])) : W p l e room_1 s m #[Value.ref b] below meth c H locs cells slots Q (F0 m 952 ls []) := by
  have hx := X.1
  have hb := X.2.1
  obtain ⟨r, w1, w2, ⟨o1, e1⟩, ⟨o2, e2⟩, hv2⟩ := st_night hv (xs (i + 1)) (xs (i + 2))
  refine lv_aload_n hx hb dL_law_952 rfl (lv_at hl 2 rfl) ?_
  refine lv_aload_n hx hb dL_law_953 rfl (lv_at hl 3 rfl) ?_
  refine lv_iload_n hx hb dL_law_954 rfl (lv_at hl 0 rfl) ?_
  refine lv_iconst (v := (1 : Int32)) hx hb dL_law_955 (by decide) ?_
  refine lv_iadd hx hb dL_law_956 ?_
  refine m_sc X hX hbl hS (j := 1) rfl (by omega) hL dL_law_957 ?_
  refine lv_aload_n hx hb dL_law_958 rfl (lv_at hl 3 rfl) ?_
  refine lv_iload_n hx hb dL_law_959 rfl (lv_at hl 0 rfl) ?_
  refine lv_iconst (v := (2 : Int32)) hx hb dL_law_960 (by decide) ?_
  refine lv_iadd hx hb dL_law_961 ?_
  refine m_sc X hX hbl hS (j := 2) rfl (by omega) hL dL_law_962 ?_
  refine m_callV (base := s.heap.size) (q := 0) (As := [.int (xs (i + 1)), .int (xs (i + 2))]) (rest := []) X hH hS hl.1 o1 rfl (by decide) (k_X11_night l D cI cT cII s.heap.size 0 (xs (i + 1)) (xs (i + 2)) w (r, w1) e1) q_X11_night lk_X11_night lj_X11_night ls_X11_night rfl rfl (Nat.le_of_ble_eq_true rfl) ⟨by decide, by decide⟩ hc dL_law_963 (fun H locs hH hS => W.eq (g2 := F0 m 966 ls [.int r]) rfl ?_)
  refine lv_aload_n hx hb dL_law_966 rfl (lv_at hl 1 rfl) ?_
  refine lv_aload_n hx hb dL_law_967 rfl (lv_at hl 3 rfl) ?_
  refine lv_iload_n hx hb dL_law_968 rfl (lv_at hl 0 rfl) ?_
  refine lv_iconst (v := (1 : Int32)) hx hb dL_law_969 (by decide) ?_
  refine lv_iadd hx hb dL_law_970 ?_
  refine m_sc X hX hbl hS (j := 1) rfl (by omega) hL dL_law_971 ?_
  refine lv_aload_n hx hb dL_law_972 rfl (lv_at hl 3 rfl) ?_
  refine lv_iload_n hx hb dL_law_973 rfl (lv_at hl 0 rfl) ?_
  refine lv_iconst (v := (2 : Int32)) hx hb dL_law_974 (by decide) ?_
  refine lv_iadd hx hb dL_law_975 ?_
  refine m_sc X hX hbl hS (j := 2) rfl (by omega) hL dL_law_976 ?_
  refine m_callV (base := s.heap.size) (q := 202) (As := [.int (xs (i + 1)), .int (xs (i + 2))]) (rest := [.int r]) X hH hS hl.1 o2 rfl (by decide) (k_X12_night l D cI cT cII s.heap.size 202 (xs (i + 1)) (xs (i + 2)) w1 (r, w2) e2) q_X12_night lk_X12_night lj_X12_night ls_X12_night rfl rfl (Nat.le_of_ble_eq_true rfl) ⟨by decide, by decide⟩ hc dL_law_977 (fun H locs hH hS => W.eq (g2 := F0 m 980 ls [.int r, .int r]) rfl ?_)
  exact lv_icmp_eq (tgt := 1034) hx hb dL_law_980 (by decide) (fun _ => hK w2 H locs hv2 hH hS) (fun h => absurd rfl h)
set_option maxHeartbeats 4000000 in
set_option maxRecDepth 100000 in
theorem lc_29 (X : Cx p room_1 s m #[Value.ref b] c code 4 RL D cI cT cII 10 380) (hX : va_X b L xs s s.heap) (hbl : b < s.heap.size) (hL : L ≤ 3584) (hc : cells ≤ room_1.cells ∧ slots ≤ room_1.slots) {i : Nat} (hi : i + 7 ≤ L) {w : Wd} {H : Heap} {locs : List Loc} {ls : Array Slot} (hv : INV w) (hH : Hd D cI cT cII s.heap.size w H) (hS : va_S (fun q => s.heap.size ≤ q) s.heap H locs) (hl : lv_has ls 4 [(3, .int (nI i)), (2, .ref (s.heap.size + 202)), (1, .ref (s.heap.size + 0)), (0, .ref b)])
    (hK : ∀ (w : Wd) (H : Heap) (locs : List Loc), INV w → Hd D cI cT cII s.heap.size w H → va_S (fun q => s.heap.size ≤ q) s.heap H locs → W p l e room_1 s m #[Value.ref b] below meth c H locs cells slots Q (F0 m 1034 ls [])) : W p l e room_1 s m #[Value.ref b] below meth c H locs cells slots Q (F0 m 985 ls []) := by
  have hx := X.1
  have hb := X.2.1
  obtain ⟨r, w1, w2, ⟨o1, e1⟩, ⟨o2, e2⟩, hv2⟩ := st_keep hv 
  refine lv_aload_n hx hb dL_law_985 rfl (lv_at hl 2 rfl) ?_
  refine m_callV (base := s.heap.size) (q := 0) (As := []) (rest := []) X hH hS hl.1 o1 rfl (by decide) (k_X11_keep l D cI cT cII s.heap.size 0  w (r, w1) e1) q_X11_keep lk_X11_keep lj_X11_keep ls_X11_keep rfl rfl (Nat.le_of_ble_eq_true rfl) ⟨by decide, by decide⟩ hc dL_law_986 (fun H locs hH hS => W.eq (g2 := F0 m 989 ls [.int r]) rfl ?_)
  refine lv_aload_n hx hb dL_law_989 rfl (lv_at hl 1 rfl) ?_
  refine m_callV (base := s.heap.size) (q := 202) (As := []) (rest := [.int r]) X hH hS hl.1 o2 rfl (by decide) (k_X12_keep l D cI cT cII s.heap.size 202  w1 (r, w2) e2) q_X12_keep lk_X12_keep lj_X12_keep ls_X12_keep rfl rfl (Nat.le_of_ble_eq_true rfl) ⟨by decide, by decide⟩ hc dL_law_990 (fun H locs hH hS => W.eq (g2 := F0 m 993 ls [.int r, .int r]) rfl ?_)
  exact lv_icmp_eq (tgt := 1034) hx hb dL_law_993 (by decide) (fun _ => hK w2 H locs hv2 hH hS) (fun h => absurd rfl h)
set_option maxHeartbeats 4000000 in
set_option maxRecDepth 100000 in
theorem lc_30 (X : Cx p room_1 s m #[Value.ref b] c code 4 RL D cI cT cII 10 380) (hX : va_X b L xs s s.heap) (hbl : b < s.heap.size) (hL : L ≤ 3584) (hc : cells ≤ room_1.cells ∧ slots ≤ room_1.slots) {i : Nat} (hi : i + 7 ≤ L) {w : Wd} {H : Heap} {locs : List Loc} {ls : Array Slot} (hv : INV w) (hH : Hd D cI cT cII s.heap.size w H) (hS : va_S (fun q => s.heap.size ≤ q) s.heap H locs) (hl : lv_has ls 4 [(3, .int (nI i)), (2, .ref (s.heap.size + 202)), (1, .ref (s.heap.size + 0)), (0, .ref b)])
    (hK : ∀ (w : Wd) (H : Heap) (locs : List Loc), INV w → Hd D cI cT cII s.heap.size w H → va_S (fun q => s.heap.size ≤ q) s.heap H locs → W p l e room_1 s m #[Value.ref b] below meth c H locs cells slots Q (F0 m 1034 ls [])) : W p l e room_1 s m #[Value.ref b] below meth c H locs cells slots Q (F0 m 998 ls []) := by
  have hx := X.1
  have hb := X.2.1
  obtain ⟨r, w1, w2, ⟨o1, e1⟩, ⟨o2, e2⟩, hv2⟩ := st_back hv 
  refine lv_aload_n hx hb dL_law_998 rfl (lv_at hl 2 rfl) ?_
  refine m_callV (base := s.heap.size) (q := 0) (As := []) (rest := []) X hH hS hl.1 o1 rfl (by decide) (k_X11_back l D cI cT cII s.heap.size 0  w (r, w1) e1) q_X11_back lk_X11_back lj_X11_back ls_X11_back rfl rfl (Nat.le_of_ble_eq_true rfl) ⟨by decide, by decide⟩ hc dL_law_999 (fun H locs hH hS => W.eq (g2 := F0 m 1002 ls [.int r]) rfl ?_)
  refine lv_aload_n hx hb dL_law_1002 rfl (lv_at hl 1 rfl) ?_
  refine m_callV (base := s.heap.size) (q := 202) (As := []) (rest := [.int r]) X hH hS hl.1 o2 rfl (by decide) (k_X12_back l D cI cT cII s.heap.size 202  w1 (r, w2) e2) q_X12_back lk_X12_back lj_X12_back ls_X12_back rfl rfl (Nat.le_of_ble_eq_true rfl) ⟨by decide, by decide⟩ hc dL_law_1003 (fun H locs hH hS => W.eq (g2 := F0 m 1006 ls [.int r, .int r]) rfl ?_)
  exact lv_icmp_eq (tgt := 1034) hx hb dL_law_1006 (by decide) (fun _ => hK w2 H locs hv2 hH hS) (fun h => absurd rfl h)
set_option maxHeartbeats 4000000 in
set_option maxRecDepth 100000 in
theorem lc_31 (X : Cx p room_1 s m #[Value.ref b] c code 4 RL D cI cT cII 10 380) (hX : va_X b L xs s s.heap) (hbl : b < s.heap.size) (hL : L ≤ 3584) (hc : cells ≤ room_1.cells ∧ slots ≤ room_1.slots) {i : Nat} (hi : i + 7 ≤ L) {w : Wd} {H : Heap} {locs : List Loc} {ls : Array Slot} (hv : INV w) (hH : Hd D cI cT cII s.heap.size w H) (hS : va_S (fun q => s.heap.size ≤ q) s.heap H locs) (hl : lv_has ls 4 [(3, .int (nI i)), (2, .ref (s.heap.size + 202)), (1, .ref (s.heap.size + 0)), (0, .ref b)])
    (hK : ∀ (w : Wd) (H : Heap) (locs : List Loc), INV w → Hd D cI cT cII s.heap.size w H → va_S (fun q => s.heap.size ≤ q) s.heap H locs → W p l e room_1 s m #[Value.ref b] below meth c H locs cells slots Q (F0 m 1034 ls [])) : W p l e room_1 s m #[Value.ref b] below meth c H locs cells slots Q (F0 m 1011 ls []) := by
  have hx := X.1
  have hb := X.2.1
  obtain ⟨r, w1, w2, ⟨o1, e1⟩, ⟨o2, e2⟩, hv2⟩ := st_count hv (xs (i + 1))
  refine lv_aload_n hx hb dL_law_1011 rfl (lv_at hl 2 rfl) ?_
  refine lv_aload_n hx hb dL_law_1012 rfl (lv_at hl 3 rfl) ?_
  refine lv_iload_n hx hb dL_law_1013 rfl (lv_at hl 0 rfl) ?_
  refine lv_iconst (v := (1 : Int32)) hx hb dL_law_1014 (by decide) ?_
  refine lv_iadd hx hb dL_law_1015 ?_
  refine m_sc X hX hbl hS (j := 1) rfl (by omega) hL dL_law_1016 ?_
  refine m_callV (base := s.heap.size) (q := 0) (As := [.int (xs (i + 1))]) (rest := []) X hH hS hl.1 o1 rfl (by decide) (k_X11_count l D cI cT cII s.heap.size 0 (xs (i + 1)) w (r, w1) e1) q_X11_count lk_X11_count lj_X11_count ls_X11_count rfl rfl (Nat.le_of_ble_eq_true rfl) ⟨by decide, by decide⟩ hc dL_law_1017 (fun H locs hH hS => W.eq (g2 := F0 m 1020 ls [.int r]) rfl ?_)
  refine lv_aload_n hx hb dL_law_1020 rfl (lv_at hl 1 rfl) ?_
  refine lv_aload_n hx hb dL_law_1021 rfl (lv_at hl 3 rfl) ?_
  refine lv_iload_n hx hb dL_law_1022 rfl (lv_at hl 0 rfl) ?_
  refine lv_iconst (v := (1 : Int32)) hx hb dL_law_1023 (by decide) ?_
  refine lv_iadd hx hb dL_law_1024 ?_
  refine m_sc X hX hbl hS (j := 1) rfl (by omega) hL dL_law_1025 ?_
  refine m_callV (base := s.heap.size) (q := 202) (As := [.int (xs (i + 1))]) (rest := [.int r]) X hH hS hl.1 o2 rfl (by decide) (k_X12_count l D cI cT cII s.heap.size 202 (xs (i + 1)) w1 (r, w2) e2) q_X12_count lk_X12_count lj_X12_count ls_X12_count rfl rfl (Nat.le_of_ble_eq_true rfl) ⟨by decide, by decide⟩ hc dL_law_1026 (fun H locs hH hS => W.eq (g2 := F0 m 1029 ls [.int r, .int r]) rfl ?_)
  exact lv_icmp_eq (tgt := 1034) hx hb dL_law_1029 (by decide) (fun _ => hK w2 H locs hv2 hH hS) (fun h => absurd rfl h)
end LAWC
