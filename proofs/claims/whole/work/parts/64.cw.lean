/-! words of the constructors -/
theorem kw_116 : (Jvm.Cond.methodLink "CrookedFrames$Turns" (3 : Nat) ({ cls := "java/lang/Object", name := "<init>", desc := "()V" } : Jvm.MethodName)) ∈ gT := gT_of (List.mem_of_getElem? (i := 116) (by decide +kernel)) rfl
theorem kw_246 : (Jvm.Cond.methodLink "CrookedFrames$Chance" (3 : Nat) ({ cls := "java/lang/Object", name := "<init>", desc := "()V" } : Jvm.MethodName)) ∈ gT := gT_of (List.mem_of_getElem? (i := 246) (by decide +kernel)) rfl
theorem kw_232 : (Jvm.Cond.methodLink "CrookedFrames$Draws" (3 : Nat) ({ cls := "java/lang/Object", name := "<init>", desc := "()V" } : Jvm.MethodName)) ∈ gT := gT_of (List.mem_of_getElem? (i := 232) (by decide +kernel)) rfl
theorem kw_103 : (Jvm.Cond.methodLink "CrookedFrames$Reader" (3 : Nat) ({ cls := "java/lang/Object", name := "<init>", desc := "()V" } : Jvm.MethodName)) ∈ gT := gT_of (List.mem_of_getElem? (i := 103) (by decide +kernel)) rfl
theorem kw_212 : (Jvm.Cond.methodLink "CrookedFrames$Sights" (3 : Nat) ({ cls := "java/lang/Object", name := "<init>", desc := "()V" } : Jvm.MethodName)) ∈ gT := gT_of (List.mem_of_getElem? (i := 212) (by decide +kernel)) rfl
theorem kw_87 : (Jvm.Cond.methodLink "CrookedFrames$Text" (3 : Nat) ({ cls := "java/lang/Object", name := "<init>", desc := "()V" } : Jvm.MethodName)) ∈ gT := gT_of (List.mem_of_getElem? (i := 87) (by decide +kernel)) rfl
theorem kw_160 : (Jvm.Cond.methodLink "CrookedFrames$Days" (3 : Nat) ({ cls := "java/lang/Object", name := "<init>", desc := "()V" } : Jvm.MethodName)) ∈ gT := gT_of (List.mem_of_getElem? (i := 160) (by decide +kernel)) rfl
theorem kw_161 : (Jvm.Cond.classLink "CrookedFrames$Days" (9 : Nat) "[[I") ∈ gT := gT_of (List.mem_of_getElem? (i := 161) (by decide +kernel)) rfl
theorem kw_189 : (Jvm.Cond.methodLink "CrookedFrames$Lures" (3 : Nat) ({ cls := "java/lang/Object", name := "<init>", desc := "()V" } : Jvm.MethodName)) ∈ gT := gT_of (List.mem_of_getElem? (i := 189) (by decide +kernel)) rfl
theorem kw_190 : (Jvm.Cond.classLink "CrookedFrames$Lures" (21 : Nat) "[[I") ∈ gT := gT_of (List.mem_of_getElem? (i := 190) (by decide +kernel)) rfl
theorem kw_259 : (Jvm.Cond.methodLink "CrookedFrames$House" (3 : Nat) ({ cls := "java/lang/Object", name := "<init>", desc := "()V" } : Jvm.MethodName)) ∈ gT := gT_of (List.mem_of_getElem? (i := 259) (by decide +kernel)) rfl
theorem kw_260 : (Jvm.Cond.classLink "CrookedFrames$House" (39 : Nat) "CrookedFrames$Turns") ∈ gT := gT_of (List.mem_of_getElem? (i := 260) (by decide +kernel)) rfl
theorem kw_112 : (Jvm.Cond.instantiable "CrookedFrames$Turns" (4 : Nat)) ∈ gT := gT_of (List.mem_of_getElem? (i := 112) (by decide +kernel)) rfl
theorem kw_56 : (Jvm.Cond.initialized "CrookedFrames$Turns") ∈ gT := gT_of (List.mem_of_getElem? (i := 56) (by decide +kernel)) rfl
theorem kc_X10_init : Cond.code yX10_init cX10_init 1 none ∈ gT := gT_of (List.mem_of_getElem? (i := 115) (by decide +kernel)) rfl
theorem kw_261 : (Jvm.Cond.methodLinkNest "CrookedFrames$House" (41 : Nat) ({ cls := "CrookedFrames$Turns", name := "<init>", desc := "()V" } : Jvm.MethodName) "CrookedFrames") ∈ nT := nT_of (List.mem_of_getElem? (i := 261) (by decide +kernel)) rfl
theorem kw_114 : (Jvm.Cond.instanceMethod ({ cls := "CrookedFrames$Turns", name := "<init>", desc := "()V" } : Jvm.MethodName)) ∈ gT := gT_of (List.mem_of_getElem? (i := 114) (by decide +kernel)) rfl
theorem kw_140 : (Jvm.Cond.methodLink "CrookedFrames$Shelf" (1 : Nat) ({ cls := "java/lang/Object", name := "<init>", desc := "()V" } : Jvm.MethodName)) ∈ gT := gT_of (List.mem_of_getElem? (i := 140) (by decide +kernel)) rfl
theorem kw_141 : (Jvm.Cond.methodLink "CrookedFrames$Shelf" (7 : Nat) ({ cls := "java/lang/Math", name := "max", desc := "(II)I" } : Jvm.MethodName)) ∈ gT := gT_of (List.mem_of_getElem? (i := 141) (by decide +kernel)) rfl
theorem kw_144 : (Jvm.Cond.classLink "CrookedFrames$Shelf" (13 : Nat) "CrookedFrames$Turns") ∈ gT := gT_of (List.mem_of_getElem? (i := 144) (by decide +kernel)) rfl
theorem kw_146 : (Jvm.Cond.methodLinkNest "CrookedFrames$Shelf" (21 : Nat) ({ cls := "CrookedFrames$Turns", name := "<init>", desc := "()V" } : Jvm.MethodName) "CrookedFrames") ∈ nT := nT_of (List.mem_of_getElem? (i := 146) (by decide +kernel)) rfl
theorem kw_842 : (Jvm.Cond.methodLink "CrookedFramesModel" (1 : Nat) ({ cls := "java/lang/Object", name := "<init>", desc := "()V" } : Jvm.MethodName)) ∈ gT := gT_of (List.mem_of_getElem? (i := 842) (by decide +kernel)) rfl
theorem kw_79 : (Jvm.Cond.methodLink "CrookedFrames" (1 : Nat) ({ cls := "java/lang/Object", name := "<init>", desc := "()V" } : Jvm.MethodName)) ∈ gT := gT_of (List.mem_of_getElem? (i := 79) (by decide +kernel)) rfl
theorem kw_82 : (Jvm.Cond.classLink "CrookedFrames" (7 : Nat) "CrookedFrames$Text") ∈ gT := gT_of (List.mem_of_getElem? (i := 82) (by decide +kernel)) rfl
theorem kw_83 : (Jvm.Cond.instantiable "CrookedFrames$Text" (2 : Nat)) ∈ gT := gT_of (List.mem_of_getElem? (i := 83) (by decide +kernel)) rfl
theorem kw_54 : (Jvm.Cond.initialized "CrookedFrames$Text") ∈ gT := gT_of (List.mem_of_getElem? (i := 54) (by decide +kernel)) rfl
theorem kc_X9_init : Cond.code yX9_init cX9_init 1 none ∈ gT := gT_of (List.mem_of_getElem? (i := 86) (by decide +kernel)) rfl
theorem kw_84 : (Jvm.Cond.methodLinkNest "CrookedFrames" (9 : Nat) ({ cls := "CrookedFrames$Text", name := "<init>", desc := "()V" } : Jvm.MethodName) "CrookedFrames") ∈ nT := nT_of (List.mem_of_getElem? (i := 84) (by decide +kernel)) rfl
theorem kw_85 : (Jvm.Cond.instanceMethod ({ cls := "CrookedFrames$Text", name := "<init>", desc := "()V" } : Jvm.MethodName)) ∈ gT := gT_of (List.mem_of_getElem? (i := 85) (by decide +kernel)) rfl
theorem kw_98 : (Jvm.Cond.classLink "CrookedFrames" (16 : Nat) "CrookedFrames$Reader") ∈ gT := gT_of (List.mem_of_getElem? (i := 98) (by decide +kernel)) rfl
theorem kw_99 : (Jvm.Cond.instantiable "CrookedFrames$Reader" (2 : Nat)) ∈ gT := gT_of (List.mem_of_getElem? (i := 99) (by decide +kernel)) rfl
theorem kw_55 : (Jvm.Cond.initialized "CrookedFrames$Reader") ∈ gT := gT_of (List.mem_of_getElem? (i := 55) (by decide +kernel)) rfl
theorem kc_X6_init : Cond.code yX6_init cX6_init 1 none ∈ gT := gT_of (List.mem_of_getElem? (i := 102) (by decide +kernel)) rfl
theorem kw_100 : (Jvm.Cond.methodLinkNest "CrookedFrames" (18 : Nat) ({ cls := "CrookedFrames$Reader", name := "<init>", desc := "()V" } : Jvm.MethodName) "CrookedFrames") ∈ nT := nT_of (List.mem_of_getElem? (i := 100) (by decide +kernel)) rfl
theorem kw_101 : (Jvm.Cond.instanceMethod ({ cls := "CrookedFrames$Reader", name := "<init>", desc := "()V" } : Jvm.MethodName)) ∈ gT := gT_of (List.mem_of_getElem? (i := 101) (by decide +kernel)) rfl
theorem kw_111 : (Jvm.Cond.classLink "CrookedFrames" (23 : Nat) "CrookedFrames$Turns") ∈ gT := gT_of (List.mem_of_getElem? (i := 111) (by decide +kernel)) rfl
theorem kw_113 : (Jvm.Cond.methodLinkNest "CrookedFrames" (25 : Nat) ({ cls := "CrookedFrames$Turns", name := "<init>", desc := "()V" } : Jvm.MethodName) "CrookedFrames") ∈ nT := nT_of (List.mem_of_getElem? (i := 113) (by decide +kernel)) rfl
theorem kw_135 : (Jvm.Cond.classLink "CrookedFrames" (30 : Nat) "CrookedFrames$Shelf") ∈ gT := gT_of (List.mem_of_getElem? (i := 135) (by decide +kernel)) rfl
theorem kw_136 : (Jvm.Cond.instantiable "CrookedFrames$Shelf" (2 : Nat)) ∈ gT := gT_of (List.mem_of_getElem? (i := 136) (by decide +kernel)) rfl
theorem kw_57 : (Jvm.Cond.initialized "CrookedFrames$Shelf") ∈ gT := gT_of (List.mem_of_getElem? (i := 57) (by decide +kernel)) rfl
theorem kc_X7_init : Cond.code yX7_init cX7_init 3 none ∈ gT := gT_of (List.mem_of_getElem? (i := 139) (by decide +kernel)) rfl
theorem kw_137 : (Jvm.Cond.methodLink "CrookedFrames" (32 : Nat) ({ cls := "CrookedFrames$Shelf", name := "<init>", desc := "(I)V" } : Jvm.MethodName)) ∈ gT := gT_of (List.mem_of_getElem? (i := 137) (by decide +kernel)) rfl
theorem kw_138 : (Jvm.Cond.instanceMethod ({ cls := "CrookedFrames$Shelf", name := "<init>", desc := "(I)V" } : Jvm.MethodName)) ∈ gT := gT_of (List.mem_of_getElem? (i := 138) (by decide +kernel)) rfl
theorem kw_155 : (Jvm.Cond.classLink "CrookedFrames" (42 : Nat) "CrookedFrames$Days") ∈ gT := gT_of (List.mem_of_getElem? (i := 155) (by decide +kernel)) rfl
theorem kw_156 : (Jvm.Cond.instantiable "CrookedFrames$Days" (5 : Nat)) ∈ gT := gT_of (List.mem_of_getElem? (i := 156) (by decide +kernel)) rfl
theorem kw_59 : (Jvm.Cond.initialized "CrookedFrames$Days") ∈ gT := gT_of (List.mem_of_getElem? (i := 59) (by decide +kernel)) rfl
theorem kc_X1_init : Cond.code yX1_init cX1_init 1 none ∈ gT := gT_of (List.mem_of_getElem? (i := 159) (by decide +kernel)) rfl
theorem kw_157 : (Jvm.Cond.methodLinkNest "CrookedFrames" (44 : Nat) ({ cls := "CrookedFrames$Days", name := "<init>", desc := "()V" } : Jvm.MethodName) "CrookedFrames") ∈ nT := nT_of (List.mem_of_getElem? (i := 157) (by decide +kernel)) rfl
theorem kw_158 : (Jvm.Cond.instanceMethod ({ cls := "CrookedFrames$Days", name := "<init>", desc := "()V" } : Jvm.MethodName)) ∈ gT := gT_of (List.mem_of_getElem? (i := 158) (by decide +kernel)) rfl
theorem kw_184 : (Jvm.Cond.classLink "CrookedFrames" (49 : Nat) "CrookedFrames$Lures") ∈ gT := gT_of (List.mem_of_getElem? (i := 184) (by decide +kernel)) rfl
theorem kw_185 : (Jvm.Cond.instantiable "CrookedFrames$Lures" (5 : Nat)) ∈ gT := gT_of (List.mem_of_getElem? (i := 185) (by decide +kernel)) rfl
theorem kw_60 : (Jvm.Cond.initialized "CrookedFrames$Lures") ∈ gT := gT_of (List.mem_of_getElem? (i := 60) (by decide +kernel)) rfl
theorem kc_X5_init : Cond.code yX5_init cX5_init 1 none ∈ gT := gT_of (List.mem_of_getElem? (i := 188) (by decide +kernel)) rfl
theorem kw_186 : (Jvm.Cond.methodLinkNest "CrookedFrames" (51 : Nat) ({ cls := "CrookedFrames$Lures", name := "<init>", desc := "()V" } : Jvm.MethodName) "CrookedFrames") ∈ nT := nT_of (List.mem_of_getElem? (i := 186) (by decide +kernel)) rfl
theorem kw_187 : (Jvm.Cond.instanceMethod ({ cls := "CrookedFrames$Lures", name := "<init>", desc := "()V" } : Jvm.MethodName)) ∈ gT := gT_of (List.mem_of_getElem? (i := 187) (by decide +kernel)) rfl
theorem kw_207 : (Jvm.Cond.classLink "CrookedFrames" (56 : Nat) "CrookedFrames$Sights") ∈ gT := gT_of (List.mem_of_getElem? (i := 207) (by decide +kernel)) rfl
theorem kw_208 : (Jvm.Cond.instantiable "CrookedFrames$Sights" (4 : Nat)) ∈ gT := gT_of (List.mem_of_getElem? (i := 208) (by decide +kernel)) rfl
theorem kw_61 : (Jvm.Cond.initialized "CrookedFrames$Sights") ∈ gT := gT_of (List.mem_of_getElem? (i := 61) (by decide +kernel)) rfl
theorem kc_X8_init : Cond.code yX8_init cX8_init 1 none ∈ gT := gT_of (List.mem_of_getElem? (i := 211) (by decide +kernel)) rfl
theorem kw_209 : (Jvm.Cond.methodLinkNest "CrookedFrames" (58 : Nat) ({ cls := "CrookedFrames$Sights", name := "<init>", desc := "()V" } : Jvm.MethodName) "CrookedFrames") ∈ nT := nT_of (List.mem_of_getElem? (i := 209) (by decide +kernel)) rfl
theorem kw_210 : (Jvm.Cond.instanceMethod ({ cls := "CrookedFrames$Sights", name := "<init>", desc := "()V" } : Jvm.MethodName)) ∈ gT := gT_of (List.mem_of_getElem? (i := 210) (by decide +kernel)) rfl
theorem kw_227 : (Jvm.Cond.classLink "CrookedFrames" (63 : Nat) "CrookedFrames$Draws") ∈ gT := gT_of (List.mem_of_getElem? (i := 227) (by decide +kernel)) rfl
theorem kw_228 : (Jvm.Cond.instantiable "CrookedFrames$Draws" (2 : Nat)) ∈ gT := gT_of (List.mem_of_getElem? (i := 228) (by decide +kernel)) rfl
theorem kw_62 : (Jvm.Cond.initialized "CrookedFrames$Draws") ∈ gT := gT_of (List.mem_of_getElem? (i := 62) (by decide +kernel)) rfl
theorem kc_X2_init : Cond.code yX2_init cX2_init 1 none ∈ gT := gT_of (List.mem_of_getElem? (i := 231) (by decide +kernel)) rfl
theorem kw_229 : (Jvm.Cond.methodLinkNest "CrookedFrames" (65 : Nat) ({ cls := "CrookedFrames$Draws", name := "<init>", desc := "()V" } : Jvm.MethodName) "CrookedFrames") ∈ nT := nT_of (List.mem_of_getElem? (i := 229) (by decide +kernel)) rfl
theorem kw_230 : (Jvm.Cond.instanceMethod ({ cls := "CrookedFrames$Draws", name := "<init>", desc := "()V" } : Jvm.MethodName)) ∈ gT := gT_of (List.mem_of_getElem? (i := 230) (by decide +kernel)) rfl
theorem kw_241 : (Jvm.Cond.classLink "CrookedFrames" (70 : Nat) "CrookedFrames$Chance") ∈ gT := gT_of (List.mem_of_getElem? (i := 241) (by decide +kernel)) rfl
theorem kw_242 : (Jvm.Cond.instantiable "CrookedFrames$Chance" (2 : Nat)) ∈ gT := gT_of (List.mem_of_getElem? (i := 242) (by decide +kernel)) rfl
theorem kw_63 : (Jvm.Cond.initialized "CrookedFrames$Chance") ∈ gT := gT_of (List.mem_of_getElem? (i := 63) (by decide +kernel)) rfl
theorem kc_X0_init : Cond.code yX0_init cX0_init 1 none ∈ gT := gT_of (List.mem_of_getElem? (i := 245) (by decide +kernel)) rfl
theorem kw_243 : (Jvm.Cond.methodLinkNest "CrookedFrames" (72 : Nat) ({ cls := "CrookedFrames$Chance", name := "<init>", desc := "()V" } : Jvm.MethodName) "CrookedFrames") ∈ nT := nT_of (List.mem_of_getElem? (i := 243) (by decide +kernel)) rfl
theorem kw_244 : (Jvm.Cond.instanceMethod ({ cls := "CrookedFrames$Chance", name := "<init>", desc := "()V" } : Jvm.MethodName)) ∈ gT := gT_of (List.mem_of_getElem? (i := 244) (by decide +kernel)) rfl
theorem kw_254 : (Jvm.Cond.classLink "CrookedFrames" (77 : Nat) "CrookedFrames$House") ∈ gT := gT_of (List.mem_of_getElem? (i := 254) (by decide +kernel)) rfl
theorem kw_255 : (Jvm.Cond.instantiable "CrookedFrames$House" (13 : Nat)) ∈ gT := gT_of (List.mem_of_getElem? (i := 255) (by decide +kernel)) rfl
theorem kw_64 : (Jvm.Cond.initialized "CrookedFrames$House") ∈ gT := gT_of (List.mem_of_getElem? (i := 64) (by decide +kernel)) rfl
theorem kc_X4_init : Cond.code yX4_init cX4_init 1 none ∈ gT := gT_of (List.mem_of_getElem? (i := 258) (by decide +kernel)) rfl
theorem kw_256 : (Jvm.Cond.methodLinkNest "CrookedFrames" (79 : Nat) ({ cls := "CrookedFrames$House", name := "<init>", desc := "()V" } : Jvm.MethodName) "CrookedFrames") ∈ nT := nT_of (List.mem_of_getElem? (i := 256) (by decide +kernel)) rfl
theorem kw_257 : (Jvm.Cond.instanceMethod ({ cls := "CrookedFrames$House", name := "<init>", desc := "()V" } : Jvm.MethodName)) ∈ gT := gT_of (List.mem_of_getElem? (i := 257) (by decide +kernel)) rfl
theorem kO_i : Cond.instanceMethod Lib.objectInit ∈ gT := gT_of (List.mem_of_getElem? (i := 80) (by decide +kernel)) rfl
theorem kO_c : Cond.code Lib.objectInit ⟨#[0xb1]⟩ 1 none ∈ gT := gT_of (List.mem_of_getElem? (i := 81) (by decide +kernel)) rfl
theorem kA_int : Cond.arrayClass .int ∈ gT := gT_of (List.mem_of_getElem? (i := 97) (by decide +kernel)) rfl
theorem gr_X10_9 : GRd RX10 9 9 0 RX10 RX10 TX10 4 true tyX10 (tyX10 0) := ⟨⟨rfl, by decide, rfl, by decide, in_X10, kw_117, rfl⟩, tyX10_ok, nmX10, rfl, rfl, by decide +kernel⟩
theorem gr_X10_15 : GRd RX10 15 9 1 RX10 RX10 TX10 4 true tyX10 (tyX10 1) := ⟨⟨rfl, by decide, rfl, by decide, in_X10, kw_119, rfl⟩, tyX10_ok, nmX10, rfl, rfl, by decide +kernel⟩
theorem gr_X10_18 : GRd RX10 18 9 2 RX10 RX10 TX10 4 true tyX10 (tyX10 2) := ⟨⟨rfl, by decide, rfl, by decide, in_X10, kw_121, rfl⟩, tyX10_ok, nmX10, rfl, rfl, by decide +kernel⟩
theorem gr_X2_9 : GRd RX2 9 2 0 RX2 RX2 TX2 2 true tyX2 (tyX2 0) := ⟨⟨rfl, by decide, rfl, by decide, in_X2, kw_233, rfl⟩, tyX2_ok, nmX2, rfl, rfl, by decide +kernel⟩
theorem gr_X2_15 : GRd RX2 15 2 1 RX2 RX2 TX2 2 true tyX2 (tyX2 1) := ⟨⟨rfl, by decide, rfl, by decide, in_X2, kw_235, rfl⟩, tyX2_ok, nmX2, rfl, rfl, by decide +kernel⟩
theorem gr_X6_11 : GRd RX6 11 5 0 RX6 RX6 TX6 2 true tyX6 (tyX6 0) := ⟨⟨rfl, by decide, rfl, by decide, in_X6, kw_104, rfl⟩, tyX6_ok, nmX6, rfl, rfl, by decide +kernel⟩
theorem gr_X8_9 : GRd RX8 9 7 0 RX8 RX8 TX8 4 true tyX8 (tyX8 0) := ⟨⟨rfl, by decide, rfl, by decide, in_X8, kw_213, rfl⟩, tyX8_ok, nmX8, rfl, rfl, by decide +kernel⟩
theorem gr_X8_15 : GRd RX8 15 7 1 RX8 RX8 TX8 4 true tyX8 (tyX8 1) := ⟨⟨rfl, by decide, rfl, by decide, in_X8, kw_214, rfl⟩, tyX8_ok, nmX8, rfl, rfl, by decide +kernel⟩
theorem gr_X8_18 : GRd RX8 18 7 3 RX8 RX8 TX8 4 true tyX8 (tyX8 3) := ⟨⟨rfl, by decide, rfl, by decide, in_X8, kw_217, rfl⟩, tyX8_ok, nmX8, rfl, rfl, by decide +kernel⟩
theorem gr_X9_9 : GRd RX9 9 8 0 RX9 RX9 TX9 2 true tyX9 (tyX9 0) := ⟨⟨rfl, by decide, rfl, by decide, in_X9, kw_88, rfl⟩, tyX9_ok, nmX9, rfl, rfl, by decide +kernel⟩
theorem gr_X1_11 : GRd RX1 11 1 0 RX1 RX1 TX1 5 true tyX1 (tyX1 0) := ⟨⟨rfl, by decide, rfl, by decide, in_X1, kw_163, rfl⟩, tyX1_ok, nmX1, rfl, rfl, by decide +kernel⟩
theorem gr_X1_16 : GRd RX1 16 1 1 RX1 RX1 TX1 5 true tyX1 (tyX1 1) := ⟨⟨rfl, by decide, rfl, by decide, in_X1, kw_165, rfl⟩, tyX1_ok, nmX1, rfl, rfl, by decide +kernel⟩
theorem gr_X1_19 : GRd RX1 19 1 2 RX1 RX1 TX1 5 true tyX1 (tyX1 2) := ⟨⟨rfl, by decide, rfl, by decide, in_X1, kw_167, rfl⟩, tyX1_ok, nmX1, rfl, rfl, by decide +kernel⟩
theorem gr_X1_22 : GRd RX1 22 1 3 RX1 RX1 TX1 5 true tyX1 (tyX1 3) := ⟨⟨rfl, by decide, rfl, by decide, in_X1, kw_169, rfl⟩, tyX1_ok, nmX1, rfl, rfl, by decide +kernel⟩
theorem gr_X5_9 : GRd RX5 9 4 0 RX5 RX5 TX5 5 true tyX5 (tyX5 0) := ⟨⟨rfl, by decide, rfl, by decide, in_X5, kw_191, rfl⟩, tyX5_ok, nmX5, rfl, rfl, by decide +kernel⟩
theorem gr_X5_15 : GRd RX5 15 4 1 RX5 RX5 TX5 5 true tyX5 (tyX5 1) := ⟨⟨rfl, by decide, rfl, by decide, in_X5, kw_192, rfl⟩, tyX5_ok, nmX5, rfl, rfl, by decide +kernel⟩
theorem gr_X5_18 : GRd RX5 18 4 2 RX5 RX5 TX5 5 true tyX5 (tyX5 2) := ⟨⟨rfl, by decide, rfl, by decide, in_X5, kw_193, rfl⟩, tyX5_ok, nmX5, rfl, rfl, by decide +kernel⟩
theorem gr_X5_23 : GRd RX5 23 4 3 RX5 RX5 TX5 5 true tyX5 (tyX5 3) := ⟨⟨rfl, by decide, rfl, by decide, in_X5, kw_194, rfl⟩, tyX5_ok, nmX5, rfl, rfl, by decide +kernel⟩
theorem gr_X5_26 : GRd RX5 26 4 4 RX5 RX5 TX5 5 true tyX5 (tyX5 4) := ⟨⟨rfl, by decide, rfl, by decide, in_X5, kw_195, rfl⟩, tyX5_ok, nmX5, rfl, rfl, by decide +kernel⟩
theorem gr_X4_9 : GRd RX4 9 3 0 RX4 RX4 TX4 13 true tyX4 (tyX4 0) := ⟨⟨rfl, by decide, rfl, by decide, in_X4, kw_262, rfl⟩, tyX4_ok, nmX4, rfl, rfl, by decide +kernel⟩
theorem gr_X4_15 : GRd RX4 15 3 1 RX4 RX4 TX4 13 true tyX4 (tyX4 1) := ⟨⟨rfl, by decide, rfl, by decide, in_X4, kw_265, rfl⟩, tyX4_ok, nmX4, rfl, rfl, by decide +kernel⟩
theorem gr_X4_18 : GRd RX4 18 3 2 RX4 RX4 TX4 13 true tyX4 (tyX4 2) := ⟨⟨rfl, by decide, rfl, by decide, in_X4, kw_269, rfl⟩, tyX4_ok, nmX4, rfl, rfl, by decide +kernel⟩
theorem gr_X4_21 : GRd RX4 21 3 3 RX4 RX4 TX4 13 true tyX4 (tyX4 3) := ⟨⟨rfl, by decide, rfl, by decide, in_X4, kw_271, rfl⟩, tyX4_ok, nmX4, rfl, rfl, by decide +kernel⟩
theorem gr_X4_24 : GRd RX4 24 3 5 RX4 RX4 TX4 13 true tyX4 (tyX4 5) := ⟨⟨rfl, by decide, rfl, by decide, in_X4, kw_278, rfl⟩, tyX4_ok, nmX4, rfl, rfl, by decide +kernel⟩
theorem gr_X4_27 : GRd RX4 27 3 6 RX4 RX4 TX4 13 true tyX4 (tyX4 6) := ⟨⟨rfl, by decide, rfl, by decide, in_X4, kw_280, rfl⟩, tyX4_ok, nmX4, rfl, rfl, by decide +kernel⟩
theorem gr_X4_30 : GRd RX4 30 3 8 RX4 RX4 TX4 13 true tyX4 (tyX4 8) := ⟨⟨rfl, by decide, rfl, by decide, in_X4, kw_285, rfl⟩, tyX4_ok, nmX4, rfl, rfl, by decide +kernel⟩
theorem gr_X4_33 : GRd RX4 33 3 9 RX4 RX4 TX4 13 true tyX4 (tyX4 9) := ⟨⟨rfl, by decide, rfl, by decide, in_X4, kw_286, rfl⟩, tyX4_ok, nmX4, rfl, rfl, by decide +kernel⟩
theorem gr_X4_36 : GRd RX4 36 3 10 RX4 RX4 TX4 13 true tyX4 (tyX4 10) := ⟨⟨rfl, by decide, rfl, by decide, in_X4, kw_287, rfl⟩, tyX4_ok, nmX4, rfl, rfl, by decide +kernel⟩
theorem gn_X4_39 : GNd RX4 39 9 RX10 TX10 4 tyX10 := ⟨rfl, by decide, in_X10, tyX10_ok, kw_260, kw_112, kw_56, by decide⟩
theorem q_X10_init : CalS yX10_init cX10_init 1 none 0 := ⟨⟨kc_X10_init, ki_X10⟩, by decide +kernel⟩
theorem gr_X4_42 : GRd RX4 42 3 12 RX4 RX4 TX4 13 true tyX4 (tyX4 12) := ⟨⟨rfl, by decide, rfl, by decide, in_X4, kw_292, rfl⟩, tyX4_ok, nmX4, rfl, rfl, by decide +kernel⟩
theorem gr_X7_15 : GRd RX7 15 6 0 RX7 RX7 TX7 2 true tyX7 (tyX7 0) := ⟨⟨rfl, by decide, rfl, by decide, in_X7, kw_147, rfl⟩, tyX7_ok, nmX7, rfl, rfl, by decide +kernel⟩
theorem gn_X7_13 : GNd RX7 13 9 RX10 TX10 4 tyX10 := ⟨rfl, by decide, in_X10, tyX10_ok, kw_144, kw_112, kw_56, by decide⟩
theorem gr_X12_13 : GRd RX12 13 11 1 RX12 RX12 TX12 32 true tyX12 (tyX12 1) := ⟨⟨rfl, by decide, rfl, by decide, in_X12, kw_851, rfl⟩, tyX12_ok, nmX12, rfl, rfl, by decide +kernel⟩
theorem gr_X12_20 : GRd RX12 20 11 3 RX12 RX12 TX12 32 true tyX12 (tyX12 3) := ⟨⟨rfl, by decide, rfl, by decide, in_X12, kw_853, rfl⟩, tyX12_ok, nmX12, rfl, rfl, by decide +kernel⟩
theorem gr_X12_26 : GRd RX12 26 11 5 RX12 RX12 TX12 32 true tyX12 (tyX12 5) := ⟨⟨rfl, by decide, rfl, by decide, in_X12, kw_855, rfl⟩, tyX12_ok, nmX12, rfl, rfl, by decide +kernel⟩
theorem gr_X12_29 : GRd RX12 29 11 6 RX12 RX12 TX12 32 true tyX12 (tyX12 6) := ⟨⟨rfl, by decide, rfl, by decide, in_X12, kw_856, rfl⟩, tyX12_ok, nmX12, rfl, rfl, by decide +kernel⟩
theorem gr_X12_32 : GRd RX12 32 11 7 RX12 RX12 TX12 32 true tyX12 (tyX12 7) := ⟨⟨rfl, by decide, rfl, by decide, in_X12, kw_857, rfl⟩, tyX12_ok, nmX12, rfl, rfl, by decide +kernel⟩
theorem gr_X12_35 : GRd RX12 35 11 9 RX12 RX12 TX12 32 true tyX12 (tyX12 9) := ⟨⟨rfl, by decide, rfl, by decide, in_X12, kw_859, rfl⟩, tyX12_ok, nmX12, rfl, rfl, by decide +kernel⟩
theorem gr_X12_38 : GRd RX12 38 11 11 RX12 RX12 TX12 32 true tyX12 (tyX12 11) := ⟨⟨rfl, by decide, rfl, by decide, in_X12, kw_861, rfl⟩, tyX12_ok, nmX12, rfl, rfl, by decide +kernel⟩
theorem gr_X12_41 : GRd RX12 41 11 13 RX12 RX12 TX12 32 true tyX12 (tyX12 13) := ⟨⟨rfl, by decide, rfl, by decide, in_X12, kw_863, rfl⟩, tyX12_ok, nmX12, rfl, rfl, by decide +kernel⟩
theorem gr_X12_44 : GRd RX12 44 11 14 RX12 RX12 TX12 32 true tyX12 (tyX12 14) := ⟨⟨rfl, by decide, rfl, by decide, in_X12, kw_864, rfl⟩, tyX12_ok, nmX12, rfl, rfl, by decide +kernel⟩
theorem gr_X12_47 : GRd RX12 47 11 17 RX12 RX12 TX12 32 true tyX12 (tyX12 17) := ⟨⟨rfl, by decide, rfl, by decide, in_X12, kw_867, rfl⟩, tyX12_ok, nmX12, rfl, rfl, by decide +kernel⟩
theorem gr_X12_50 : GRd RX12 50 11 19 RX12 RX12 TX12 32 true tyX12 (tyX12 19) := ⟨⟨rfl, by decide, rfl, by decide, in_X12, kw_869, rfl⟩, tyX12_ok, nmX12, rfl, rfl, by decide +kernel⟩
theorem gr_X12_53 : GRd RX12 53 11 21 RX12 RX12 TX12 32 true tyX12 (tyX12 21) := ⟨⟨rfl, by decide, rfl, by decide, in_X12, kw_871, rfl⟩, tyX12_ok, nmX12, rfl, rfl, by decide +kernel⟩
theorem gr_X12_56 : GRd RX12 56 11 23 RX12 RX12 TX12 32 true tyX12 (tyX12 23) := ⟨⟨rfl, by decide, rfl, by decide, in_X12, kw_873, rfl⟩, tyX12_ok, nmX12, rfl, rfl, by decide +kernel⟩
theorem gr_X12_59 : GRd RX12 59 11 24 RX12 RX12 TX12 32 true tyX12 (tyX12 24) := ⟨⟨rfl, by decide, rfl, by decide, in_X12, kw_874, rfl⟩, tyX12_ok, nmX12, rfl, rfl, by decide +kernel⟩
theorem gr_X12_62 : GRd RX12 62 11 25 RX12 RX12 TX12 32 true tyX12 (tyX12 25) := ⟨⟨rfl, by decide, rfl, by decide, in_X12, kw_875, rfl⟩, tyX12_ok, nmX12, rfl, rfl, by decide +kernel⟩
theorem gr_X12_65 : GRd RX12 65 11 26 RX12 RX12 TX12 32 true tyX12 (tyX12 26) := ⟨⟨rfl, by decide, rfl, by decide, in_X12, kw_876, rfl⟩, tyX12_ok, nmX12, rfl, rfl, by decide +kernel⟩
theorem gr_X12_68 : GRd RX12 68 11 27 RX12 RX12 TX12 32 true tyX12 (tyX12 27) := ⟨⟨rfl, by decide, rfl, by decide, in_X12, kw_877, rfl⟩, tyX12_ok, nmX12, rfl, rfl, by decide +kernel⟩
theorem gr_X12_71 : GRd RX12 71 11 29 RX12 RX12 TX12 32 true tyX12 (tyX12 29) := ⟨⟨rfl, by decide, rfl, by decide, in_X12, kw_879, rfl⟩, tyX12_ok, nmX12, rfl, rfl, by decide +kernel⟩
theorem gr_X12_74 : GRd RX12 74 11 30 RX12 RX12 TX12 32 true tyX12 (tyX12 30) := ⟨⟨rfl, by decide, rfl, by decide, in_X12, kw_880, rfl⟩, tyX12_ok, nmX12, rfl, rfl, by decide +kernel⟩
theorem gr_X12_77 : GRd RX12 77 11 31 RX12 RX12 TX12 32 true tyX12 (tyX12 31) := ⟨⟨rfl, by decide, rfl, by decide, in_X12, kw_881, rfl⟩, tyX12_ok, nmX12, rfl, rfl, by decide +kernel⟩
theorem gn_X11_7 : GNd RX11 7 8 RX9 TX9 2 tyX9 := ⟨rfl, by decide, in_X9, tyX9_ok, kw_82, kw_83, kw_54, by decide⟩
theorem q_X9_init : CalS yX9_init cX9_init 1 none 0 := ⟨⟨kc_X9_init, ki_X9⟩, by decide +kernel⟩
theorem gr_X11_10 : GRd RX11 10 10 0 RX11 RX11 TX11 12 true tyX11 (tyX11 0) := ⟨⟨rfl, by decide, rfl, by decide, in_X11, kw_453, rfl⟩, tyX11_ok, nmX11, rfl, rfl, by decide +kernel⟩
theorem gn_X11_16 : GNd RX11 16 5 RX6 TX6 2 tyX6 := ⟨rfl, by decide, in_X6, tyX6_ok, kw_98, kw_99, kw_55, by decide⟩
theorem q_X6_init : CalS yX6_init cX6_init 1 none 0 := ⟨⟨kc_X6_init, ki_X6⟩, by decide +kernel⟩
theorem gr_X11_19 : GRd RX11 19 10 1 RX11 RX11 TX11 12 true tyX11 (tyX11 1) := ⟨⟨rfl, by decide, rfl, by decide, in_X11, kw_454, rfl⟩, tyX11_ok, nmX11, rfl, rfl, by decide +kernel⟩
theorem gn_X11_23 : GNd RX11 23 9 RX10 TX10 4 tyX10 := ⟨rfl, by decide, in_X10, tyX10_ok, kw_111, kw_112, kw_56, by decide⟩
theorem gr_X11_26 : GRd RX11 26 10 2 RX11 RX11 TX11 12 true tyX11 (tyX11 2) := ⟨⟨rfl, by decide, rfl, by decide, in_X11, kw_455, rfl⟩, tyX11_ok, nmX11, rfl, rfl, by decide +kernel⟩
theorem gn_X11_30 : GNd RX11 30 6 RX7 TX7 2 tyX7 := ⟨rfl, by decide, in_X7, tyX7_ok, kw_135, kw_136, kw_57, by decide⟩
theorem q_X7_init : CalS yX7_init cX7_init 3 none 1 := ⟨⟨kc_X7_init, ki_X7⟩, by decide +kernel⟩
theorem gr_X11_35 : GRd RX11 35 10 3 RX11 RX11 TX11 12 true tyX11 (tyX11 3) := ⟨⟨rfl, by decide, rfl, by decide, in_X11, kw_456, rfl⟩, tyX11_ok, nmX11, rfl, rfl, by decide +kernel⟩
theorem gr_X11_39 : GRd RX11 39 10 4 RX11 RX11 TX11 12 true tyX11 (tyX11 4) := ⟨⟨rfl, by decide, rfl, by decide, in_X11, kw_457, rfl⟩, tyX11_ok, nmX11, rfl, rfl, by decide +kernel⟩
theorem gn_X11_42 : GNd RX11 42 1 RX1 TX1 5 tyX1 := ⟨rfl, by decide, in_X1, tyX1_ok, kw_155, kw_156, kw_59, by decide⟩
theorem q_X1_init : CalS yX1_init cX1_init 1 none 0 := ⟨⟨kc_X1_init, ki_X1⟩, by decide +kernel⟩
theorem gr_X11_45 : GRd RX11 45 10 5 RX11 RX11 TX11 12 true tyX11 (tyX11 5) := ⟨⟨rfl, by decide, rfl, by decide, in_X11, kw_458, rfl⟩, tyX11_ok, nmX11, rfl, rfl, by decide +kernel⟩
theorem gn_X11_49 : GNd RX11 49 4 RX5 TX5 5 tyX5 := ⟨rfl, by decide, in_X5, tyX5_ok, kw_184, kw_185, kw_60, by decide⟩
theorem q_X5_init : CalS yX5_init cX5_init 1 none 0 := ⟨⟨kc_X5_init, ki_X5⟩, by decide +kernel⟩
theorem gr_X11_52 : GRd RX11 52 10 6 RX11 RX11 TX11 12 true tyX11 (tyX11 6) := ⟨⟨rfl, by decide, rfl, by decide, in_X11, kw_459, rfl⟩, tyX11_ok, nmX11, rfl, rfl, by decide +kernel⟩
theorem gn_X11_56 : GNd RX11 56 7 RX8 TX8 4 tyX8 := ⟨rfl, by decide, in_X8, tyX8_ok, kw_207, kw_208, kw_61, by decide⟩
theorem q_X8_init : CalS yX8_init cX8_init 1 none 0 := ⟨⟨kc_X8_init, ki_X8⟩, by decide +kernel⟩
theorem gr_X11_59 : GRd RX11 59 10 7 RX11 RX11 TX11 12 true tyX11 (tyX11 7) := ⟨⟨rfl, by decide, rfl, by decide, in_X11, kw_460, rfl⟩, tyX11_ok, nmX11, rfl, rfl, by decide +kernel⟩
theorem gn_X11_63 : GNd RX11 63 2 RX2 TX2 2 tyX2 := ⟨rfl, by decide, in_X2, tyX2_ok, kw_227, kw_228, kw_62, by decide⟩
theorem q_X2_init : CalS yX2_init cX2_init 1 none 0 := ⟨⟨kc_X2_init, ki_X2⟩, by decide +kernel⟩
theorem gr_X11_66 : GRd RX11 66 10 8 RX11 RX11 TX11 12 true tyX11 (tyX11 8) := ⟨⟨rfl, by decide, rfl, by decide, in_X11, kw_461, rfl⟩, tyX11_ok, nmX11, rfl, rfl, by decide +kernel⟩
theorem gn_X11_70 : GNd RX11 70 0 RX0 TX0 2 tyX0 := ⟨rfl, by decide, in_X0, tyX0_ok, kw_241, kw_242, kw_63, by decide⟩
theorem q_X0_init : CalS yX0_init cX0_init 1 none 0 := ⟨⟨kc_X0_init, ki_X0⟩, by decide +kernel⟩
theorem gr_X11_73 : GRd RX11 73 10 9 RX11 RX11 TX11 12 true tyX11 (tyX11 9) := ⟨⟨rfl, by decide, rfl, by decide, in_X11, kw_462, rfl⟩, tyX11_ok, nmX11, rfl, rfl, by decide +kernel⟩
theorem gn_X11_77 : GNd RX11 77 3 RX4 TX4 13 tyX4 := ⟨rfl, by decide, in_X4, tyX4_ok, kw_254, kw_255, kw_64, by decide⟩
theorem q_X4_init : CalS yX4_init cX4_init 1 none 0 := ⟨⟨kc_X4_init, ki_X4⟩, by decide +kernel⟩
