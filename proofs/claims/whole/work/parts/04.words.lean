/-! a field of a class, as an instruction of 'own' names it by its pool's index -/
def GFd (own : String) (index ci j : Nat) (C ref : String) (T : u_T) (N : Nat) (b : Bool) : Prop := vwCl[ci]? = some (C, T, N) ∧ ci < 12 ∧ (fK ci)[j]? = some b ∧ j < N ∧ (∀ w ∈ u_ws C T N, w ∈ gT) ∧ Cond.fieldLink own index ref (T j).2.1 (T j).2.2.1 ∈ gT ∧ (T j).1 = ref
def GHd (own : String) (index ci j : Nat) (C ref : String) (T : u_T) (N : Nat) (b : Bool) (host : String) : Prop := vwCl[ci]? = some (C, T, N) ∧ ci < 12 ∧ (fK ci)[j]? = some b ∧ j < N ∧ (∀ w ∈ u_ws C T N, w ∈ gT) ∧ Cond.fieldLinkNest own index ref (T j).2.1 (T j).2.2.1 host ∈ nT ∧ (T j).1 = ref
def GPd (own : String) (index ci j : Nat) (C ref : String) (T : u_T) (N : Nat) (b : Bool) (ty0 : Nat → FieldType) (ty : FieldType) : Prop := GFd own index ci j C ref T N b ∧ (∀ k, k < N → parseFieldDescriptor (T k).2.2.1 = some (ty0 k)) ∧ (∀ a, a < N → ∀ b, b < N → a ≠ b → (T a).2.1 ≠ (T b).2.1) ∧ (T j).2.2.2 = false ∧ parseFieldDescriptor (T j).2.2.1 = some ty
def GQd (own : String) (index ci j : Nat) (C ref : String) (T : u_T) (N : Nat) (b : Bool) (host : String) (ty0 : Nat → FieldType) (ty : FieldType) : Prop := GHd own index ci j C ref T N b host ∧ (∀ k, k < N → parseFieldDescriptor (T k).2.2.1 = some (ty0 k)) ∧ (∀ a, a < N → ∀ b, b < N → a ≠ b → (T a).2.1 ≠ (T b).2.1) ∧ (T j).2.2.2 = false ∧ parseFieldDescriptor (T j).2.2.1 = some ty
section WORDS
variable {p : Program} {l : Launch} {e : Env} {R : Room} {s : State} {m : MethodId} {args : Array Value} {below : List Frame} {meth : Method} {c : Code} {H : Heap} {locs : List Loc} {cells slots : Nat} {Q : State → Prop}
variable {cc : ByteArray} {pc nL fr lo : Nat} {ls : Array Slot} {rest : List Value} {D : va_G} {cI cT cII : ClassId} {base : Nat} {w w' : Wd} {H0 : Heap} {own C ref host : String} {T : u_T} {N ci j q index : Nat} {ty0 : Nat → FieldType} {ty : FieldType}
theorem m_gI {x : Int32} (X : Cx p R s m args c cc nL own D cI cT cII fr lo) (hH : Hd D cI cT cII base w H) (hv : gfI ci j q w = some x) (G : GFd own index ci j C ref T N false) (hdg : decode cc pc = .ok (.getfield index, 3))
    (k : W p l e R s m args below meth c H locs cells slots Q (F0 m (pc + 3) ls (.int x :: rest))) : W p l e R s m args below meth c H locs cells slots Q (F0 m pc ls (.ref (base + q) :: rest)) := m_gfI X hH hv G.1 G.2.1 G.2.2.1 G.2.2.2.1 G.2.2.2.2.1 G.2.2.2.2.2.1 G.2.2.2.2.2.2 hdg k
theorem m_gR {x : Nat} (X : Cx p R s m args c cc nL own D cI cT cII fr lo) (hH : Hd D cI cT cII base w H) (hv : gfR ci j q w = some x) (G : GFd own index ci j C ref T N true) (hdg : decode cc pc = .ok (.getfield index, 3))
    (k : W p l e R s m args below meth c H locs cells slots Q (F0 m (pc + 3) ls (.ref (base + x) :: rest))) : W p l e R s m args below meth c H locs cells slots Q (F0 m pc ls (.ref (base + q) :: rest)) := m_gfR X hH hv G.1 G.2.1 G.2.2.1 G.2.2.2.1 G.2.2.2.2.1 G.2.2.2.2.2.1 G.2.2.2.2.2.2 hdg k
theorem m_hI {x : Int32} (X : Cx p R s m args c cc nL own D cI cT cII fr lo) (hH : Hd D cI cT cII base w H) (hv : gfI ci j q w = some x) (G : GHd own index ci j C ref T N false host) (hdg : decode cc pc = .ok (.getfield index, 3))
    (k : W p l e R s m args below meth c H locs cells slots Q (F0 m (pc + 3) ls (.int x :: rest))) : W p l e R s m args below meth c H locs cells slots Q (F0 m pc ls (.ref (base + q) :: rest)) := m_gnI X hH hv G.1 G.2.1 G.2.2.1 G.2.2.2.1 G.2.2.2.2.1 G.2.2.2.2.2.1 G.2.2.2.2.2.2 hdg k
theorem m_hR {x : Nat} (X : Cx p R s m args c cc nL own D cI cT cII fr lo) (hH : Hd D cI cT cII base w H) (hv : gfR ci j q w = some x) (G : GHd own index ci j C ref T N true host) (hdg : decode cc pc = .ok (.getfield index, 3))
    (k : W p l e R s m args below meth c H locs cells slots Q (F0 m (pc + 3) ls (.ref (base + x) :: rest))) : W p l e R s m args below meth c H locs cells slots Q (F0 m pc ls (.ref (base + q) :: rest)) := m_gnR X hH hv G.1 G.2.1 G.2.2.1 G.2.2.2.1 G.2.2.2.2.1 G.2.2.2.2.2.1 G.2.2.2.2.2.2 hdg k
theorem m_pI {x : Int32} (X : Cx p R s m args c cc nL own D cI cT cII fr lo) (hH : Hd D cI cT cII base w H) (hS : va_S (fun q => base ≤ q) H0 H locs) (hv : pfI ci j q x w = some w') (G : GPd own index ci j C ref T N false ty0 ty) (hn : narrow ty (.int x) = .int x) (hfit : fits ty (.int x) = true) (hdg : decode cc pc = .ok (.putfield index, 3))
    (k : ∀ (H : Heap) (locs : List Loc), Hd D cI cT cII base w' H → va_S (fun q => base ≤ q) H0 H locs → W p l e R s m args below meth c H locs cells slots Q (F0 m (pc + 3) ls rest)) : W p l e R s m args below meth c H locs cells slots Q (F0 m pc ls (.int x :: .ref (base + q) :: rest)) := m_pfI X hH hS hv G.1.1 G.1.2.1 G.1.2.2.1 G.1.2.2.2.1 G.1.2.2.2.2.1 ty0 G.2.1 G.2.2.1 G.1.2.2.2.2.2.1 G.1.2.2.2.2.2.2 G.2.2.2.1 G.2.2.2.2 hn hfit hdg k
theorem m_pR {z : Nat} (X : Cx p R s m args c cc nL own D cI cT cII fr lo) (hH : Hd D cI cT cII base w H) (hS : va_S (fun q => base ≤ q) H0 H locs) (hv : pfR ci j q z w = some w') (G : GPd own index ci j C ref T N true ty0 ty) (hn : narrow ty (.ref (base + z)) = .ref (base + z)) (hfit : fits ty (.ref (base + z)) = true) (hdg : decode cc pc = .ok (.putfield index, 3))
    (k : ∀ (H : Heap) (locs : List Loc), Hd D cI cT cII base w' H → va_S (fun q => base ≤ q) H0 H locs → W p l e R s m args below meth c H locs cells slots Q (F0 m (pc + 3) ls rest)) : W p l e R s m args below meth c H locs cells slots Q (F0 m pc ls (.ref (base + z) :: .ref (base + q) :: rest)) := m_pfR X hH hS hv G.1.1 G.1.2.1 G.1.2.2.1 G.1.2.2.2.1 G.1.2.2.2.2.1 ty0 G.2.1 G.2.2.1 G.1.2.2.2.2.2.1 G.1.2.2.2.2.2.2 G.2.2.2.1 G.2.2.2.2 hn hfit hdg k
theorem m_qI {x : Int32} (X : Cx p R s m args c cc nL own D cI cT cII fr lo) (hH : Hd D cI cT cII base w H) (hS : va_S (fun q => base ≤ q) H0 H locs) (hv : pfI ci j q x w = some w') (G : GQd own index ci j C ref T N false host ty0 ty) (hn : narrow ty (.int x) = .int x) (hfit : fits ty (.int x) = true) (hdg : decode cc pc = .ok (.putfield index, 3))
    (k : ∀ (H : Heap) (locs : List Loc), Hd D cI cT cII base w' H → va_S (fun q => base ≤ q) H0 H locs → W p l e R s m args below meth c H locs cells slots Q (F0 m (pc + 3) ls rest)) : W p l e R s m args below meth c H locs cells slots Q (F0 m pc ls (.int x :: .ref (base + q) :: rest)) := m_pnI X hH hS hv G.1.1 G.1.2.1 G.1.2.2.1 G.1.2.2.2.1 G.1.2.2.2.2.1 ty0 G.2.1 G.2.2.1 G.1.2.2.2.2.2.1 G.1.2.2.2.2.2.2 G.2.2.2.1 G.2.2.2.2 hn hfit hdg k
end WORDS
def iabs (x : Int32) : Int32 := if 0 ≤ x then x else 0 - x
def imax (x y : Int32) : Int32 := if x < y then y else x
def imin (x y : Int32) : Int32 := if y < x then y else x
theorem kM_i : Cond.initialized "java/lang/Math" ∈ gT := gT_of (List.mem_of_getElem? (i := 58) (by decide +kernel)) rfl
theorem kM_absS : Cond.static Lib.Math.abs.name ∈ gT := gT_of (List.mem_of_getElem? (i := 562) (by decide +kernel)) rfl
theorem kM_absC : Cond.code Lib.Math.abs.name Lib.Math.abs.code 1 (some .int) ∈ gT := gT_of (List.mem_of_getElem? (i := 563) (by decide +kernel)) rfl
theorem kM_maxS : Cond.static Lib.Math.max.name ∈ gT := gT_of (List.mem_of_getElem? (i := 142) (by decide +kernel)) rfl
theorem kM_maxC : Cond.code Lib.Math.max.name Lib.Math.max.code 2 (some .int) ∈ gT := gT_of (List.mem_of_getElem? (i := 143) (by decide +kernel)) rfl
theorem kM_minS : Cond.static Lib.Math.min.name ∈ gT := gT_of (List.mem_of_getElem? (i := 539) (by decide +kernel)) rfl
theorem kM_minC : Cond.code Lib.Math.min.name Lib.Math.min.code 2 (some .int) ∈ gT := gT_of (List.mem_of_getElem? (i := 540) (by decide +kernel)) rfl
section MATH
variable {p : Program} {l : Launch} {e : Env} {R : Room} {s : State} {m : MethodId} {args : Array Value} {below : List Frame} {meth : Method} {c : Code} {H : Heap} {locs : List Loc} {cells slots : Nat} {Q : State → Prop}
variable {cc : ByteArray} {pc nL fr lo : Nat} {ls : Array Slot} {rest : List Value} {D : va_G} {cI cT cII : ClassId} {own : String} {index : Nat}
theorem m_mabs {x : Int32} (X : Cx p R s m args c cc nL own D cI cT cII fr lo) (hz : ls.size = nL) (k1 : Cond.methodLink own index Lib.Math.abs.name ∈ gT) (hfr : 1 ≤ fr) (hlo : (rest.map fun v => v.category).sum + 13 ≤ lo) (hc : cells ≤ R.cells ∧ slots ≤ R.slots) (hdg : decode cc pc = .ok (.invokestatic index, 3))
    (k : W p l e R s m args below meth c H locs cells slots Q (F0 m (pc + 3) ls (.int (iabs x) :: rest))) : W p l e R s m args below meth c H locs cells slots Q (F0 m pc ls (.int x :: rest)) :=
  va_mabs X.1 X.2.1 (X.2.2.1.trans hz.symm) X.2.2.2.1 (X.2.2.2.2.1 _ k1) (X.2.2.2.2.1 _ kM_absS) (X.2.2.2.2.1 _ kM_i) (X.2.2.2.2.1 _ kM_absC) (Nat.le_trans hfr X.2.2.2.2.2.2.1) (Nat.le_trans hlo X.2.2.2.2.2.2.2) hc.1 hc.2 hdg k
theorem m_mmax {x y : Int32} (X : Cx p R s m args c cc nL own D cI cT cII fr lo) (hz : ls.size = nL) (k1 : Cond.methodLink own index Lib.Math.max.name ∈ gT) (hfr : 1 ≤ fr) (hlo : (rest.map fun v => v.category).sum + 13 ≤ lo) (hc : cells ≤ R.cells ∧ slots ≤ R.slots) (hdg : decode cc pc = .ok (.invokestatic index, 3))
    (k : W p l e R s m args below meth c H locs cells slots Q (F0 m (pc + 3) ls (.int (imax x y) :: rest))) : W p l e R s m args below meth c H locs cells slots Q (F0 m pc ls (.int y :: .int x :: rest)) :=
  va_mmax X.1 X.2.1 (X.2.2.1.trans hz.symm) X.2.2.2.1 (X.2.2.2.2.1 _ k1) (X.2.2.2.2.1 _ kM_maxS) (X.2.2.2.2.1 _ kM_i) (X.2.2.2.2.1 _ kM_maxC) (Nat.le_trans hfr X.2.2.2.2.2.2.1) (Nat.le_trans hlo X.2.2.2.2.2.2.2) hc.1 hc.2 hdg k
theorem m_mmin {x y : Int32} (X : Cx p R s m args c cc nL own D cI cT cII fr lo) (hz : ls.size = nL) (k1 : Cond.methodLink own index Lib.Math.min.name ∈ gT) (hfr : 1 ≤ fr) (hlo : (rest.map fun v => v.category).sum + 13 ≤ lo) (hc : cells ≤ R.cells ∧ slots ≤ R.slots) (hdg : decode cc pc = .ok (.invokestatic index, 3))
    (k : W p l e R s m args below meth c H locs cells slots Q (F0 m (pc + 3) ls (.int (imin x y) :: rest))) : W p l e R s m args below meth c H locs cells slots Q (F0 m pc ls (.int y :: .int x :: rest)) :=
  va_mmin X.1 X.2.1 (X.2.2.1.trans hz.symm) X.2.2.2.1 (X.2.2.2.2.1 _ k1) (X.2.2.2.2.1 _ kM_minS) (X.2.2.2.2.1 _ kM_i) (X.2.2.2.2.1 _ kM_minC) (Nat.le_trans hfr X.2.2.2.2.2.2.1) (Nat.le_trans hlo X.2.2.2.2.2.2.2) hc.1 hc.2 hdg k
end MATH
theorem kw_0 : Jvm.Cond.selects "CrookedFrames$Reader" ({ cls := "CrookedFrames$Reader", name := "readItem", desc := "(LCrookedFrames$Text;)Z" } : Jvm.MethodName) ({ cls := "CrookedFrames$Reader", name := "readItem", desc := "(LCrookedFrames$Text;)Z" } : Jvm.MethodName) ∈ gT := gT_of (List.mem_of_getElem? (i := 0) (by decide +kernel)) rfl
theorem kw_1 : Jvm.Cond.selects "CrookedFrames$Reader" ({ cls := "CrookedFrames$Reader", name := "readNumber", desc := "(LCrookedFrames$Text;)I" } : Jvm.MethodName) ({ cls := "CrookedFrames$Reader", name := "readNumber", desc := "(LCrookedFrames$Text;)I" } : Jvm.MethodName) ∈ gT := gT_of (List.mem_of_getElem? (i := 1) (by decide +kernel)) rfl
theorem kw_2 : Jvm.Cond.selects "CrookedFrames$House" ({ cls := "CrookedFrames$House", name := "takeFrame", desc := "(II)Z" } : Jvm.MethodName) ({ cls := "CrookedFrames$House", name := "takeFrame", desc := "(II)Z" } : Jvm.MethodName) ∈ gT := gT_of (List.mem_of_getElem? (i := 2) (by decide +kernel)) rfl
theorem kw_3 : Jvm.Cond.selects "CrookedFrames$House" ({ cls := "CrookedFrames$House", name := "takeWire", desc := "(II)Z" } : Jvm.MethodName) ({ cls := "CrookedFrames$House", name := "takeWire", desc := "(II)Z" } : Jvm.MethodName) ∈ gT := gT_of (List.mem_of_getElem? (i := 3) (by decide +kernel)) rfl
theorem kw_4 : Jvm.Cond.selects "CrookedFrames$House" ({ cls := "CrookedFrames$House", name := "takePerson", desc := "(II)Z" } : Jvm.MethodName) ({ cls := "CrookedFrames$House", name := "takePerson", desc := "(II)Z" } : Jvm.MethodName) ∈ gT := gT_of (List.mem_of_getElem? (i := 4) (by decide +kernel)) rfl
theorem kw_5 : Jvm.Cond.selects "CrookedFrames$House" ({ cls := "CrookedFrames$House", name := "takeComing", desc := "(III)Z" } : Jvm.MethodName) ({ cls := "CrookedFrames$House", name := "takeComing", desc := "(III)Z" } : Jvm.MethodName) ∈ gT := gT_of (List.mem_of_getElem? (i := 5) (by decide +kernel)) rfl
theorem kw_6 : Jvm.Cond.selects "CrookedFrames$House" ({ cls := "CrookedFrames$House", name := "takeTurn", desc := "(III)Z" } : Jvm.MethodName) ({ cls := "CrookedFrames$House", name := "takeTurn", desc := "(III)Z" } : Jvm.MethodName) ∈ gT := gT_of (List.mem_of_getElem? (i := 6) (by decide +kernel)) rfl
theorem kw_7 : Jvm.Cond.selects "CrookedFrames$House" ({ cls := "CrookedFrames$House", name := "takePatch", desc := "(II)Z" } : Jvm.MethodName) ({ cls := "CrookedFrames$House", name := "takePatch", desc := "(II)Z" } : Jvm.MethodName) ∈ gT := gT_of (List.mem_of_getElem? (i := 7) (by decide +kernel)) rfl
theorem kw_8 : Jvm.Cond.selects "CrookedFrames" ({ cls := "CrookedFrames", name := "moveIn", desc := "()V" } : Jvm.MethodName) ({ cls := "CrookedFrames", name := "moveIn", desc := "()V" } : Jvm.MethodName) ∈ gT := gT_of (List.mem_of_getElem? (i := 8) (by decide +kernel)) rfl
theorem kw_9 : Jvm.Cond.selects "CrookedFrames" ({ cls := "CrookedFrames", name := "daysNow", desc := "()LCrookedFrames$Days;" } : Jvm.MethodName) ({ cls := "CrookedFrames", name := "daysNow", desc := "()LCrookedFrames$Days;" } : Jvm.MethodName) ∈ gT := gT_of (List.mem_of_getElem? (i := 9) (by decide +kernel)) rfl
theorem kw_10 : Jvm.Cond.selects "CrookedFrames$House" ({ cls := "CrookedFrames$House", name := "firstTempting", desc := "(II[I)I" } : Jvm.MethodName) ({ cls := "CrookedFrames$House", name := "firstTempting", desc := "(II[I)I" } : Jvm.MethodName) ∈ gT := gT_of (List.mem_of_getElem? (i := 10) (by decide +kernel)) rfl
theorem kw_11 : Jvm.Cond.selects "CrookedFrames$Days" ({ cls := "CrookedFrames$Days", name := "isAsAhead", desc := "(LCrookedFrames$House;I)Z" } : Jvm.MethodName) ({ cls := "CrookedFrames$Days", name := "isAsAhead", desc := "(LCrookedFrames$House;I)Z" } : Jvm.MethodName) ∈ gT := gT_of (List.mem_of_getElem? (i := 11) (by decide +kernel)) rfl
theorem kw_12 : Jvm.Cond.selects "CrookedFrames$Days" ({ cls := "CrookedFrames$Days", name := "swaysOne", desc := "(I)Z" } : Jvm.MethodName) ({ cls := "CrookedFrames$Days", name := "swaysOne", desc := "(I)Z" } : Jvm.MethodName) ∈ gT := gT_of (List.mem_of_getElem? (i := 12) (by decide +kernel)) rfl
theorem kw_13 : Jvm.Cond.selects "CrookedFrames$Lures" ({ cls := "CrookedFrames$Lures", name := "isWon", desc := "(LCrookedFrames$House;[IIII)Z" } : Jvm.MethodName) ({ cls := "CrookedFrames$Lures", name := "isWon", desc := "(LCrookedFrames$House;[IIII)Z" } : Jvm.MethodName) ∈ gT := gT_of (List.mem_of_getElem? (i := 13) (by decide +kernel)) rfl
theorem kw_14 : Jvm.Cond.selects "CrookedFrames$Lures" ({ cls := "CrookedFrames$Lures", name := "wonWith", desc := "(LCrookedFrames$House;[III)I" } : Jvm.MethodName) ({ cls := "CrookedFrames$Lures", name := "wonWith", desc := "(LCrookedFrames$House;[III)I" } : Jvm.MethodName) ∈ gT := gT_of (List.mem_of_getElem? (i := 14) (by decide +kernel)) rfl
theorem kw_15 : Jvm.Cond.selects "CrookedFrames$Lures" ({ cls := "CrookedFrames$Lures", name := "findAlike", desc := "(LCrookedFrames$House;)V" } : Jvm.MethodName) ({ cls := "CrookedFrames$Lures", name := "findAlike", desc := "(LCrookedFrames$House;)V" } : Jvm.MethodName) ∈ gT := gT_of (List.mem_of_getElem? (i := 15) (by decide +kernel)) rfl
theorem kw_16 : Jvm.Cond.selects "CrookedFrames$Lures" ({ cls := "CrookedFrames$Lures", name := "areAlike", desc := "(LCrookedFrames$House;II)Z" } : Jvm.MethodName) ({ cls := "CrookedFrames$Lures", name := "areAlike", desc := "(LCrookedFrames$House;II)Z" } : Jvm.MethodName) ∈ gT := gT_of (List.mem_of_getElem? (i := 16) (by decide +kernel)) rfl
theorem kw_17 : Jvm.Cond.selects "CrookedFrames$Lures" ({ cls := "CrookedFrames$Lures", name := "reachAll", desc := "(LCrookedFrames$House;[I)V" } : Jvm.MethodName) ({ cls := "CrookedFrames$Lures", name := "reachAll", desc := "(LCrookedFrames$House;[I)V" } : Jvm.MethodName) ∈ gT := gT_of (List.mem_of_getElem? (i := 17) (by decide +kernel)) rfl
theorem kw_18 : Jvm.Cond.selects "CrookedFrames$Lures" ({ cls := "CrookedFrames$Lures", name := "reach", desc := "(LCrookedFrames$House;III)V" } : Jvm.MethodName) ({ cls := "CrookedFrames$Lures", name := "reach", desc := "(LCrookedFrames$House;III)V" } : Jvm.MethodName) ∈ gT := gT_of (List.mem_of_getElem? (i := 18) (by decide +kernel)) rfl
theorem kw_19 : Jvm.Cond.selects "CrookedFrames$Lures" ({ cls := "CrookedFrames$Lures", name := "addReached", desc := "(II)V" } : Jvm.MethodName) ({ cls := "CrookedFrames$Lures", name := "addReached", desc := "(II)V" } : Jvm.MethodName) ∈ gT := gT_of (List.mem_of_getElem? (i := 19) (by decide +kernel)) rfl
theorem kw_20 : Jvm.Cond.selects "CrookedFrames$Lures" ({ cls := "CrookedFrames$Lures", name := "isWonByReached", desc := "(LCrookedFrames$House;[III)Z" } : Jvm.MethodName) ({ cls := "CrookedFrames$Lures", name := "isWonByReached", desc := "(LCrookedFrames$House;[III)Z" } : Jvm.MethodName) ∈ gT := gT_of (List.mem_of_getElem? (i := 20) (by decide +kernel)) rfl
theorem kw_21 : Jvm.Cond.selects "CrookedFrames$Lures" ({ cls := "CrookedFrames$Lures", name := "isWonByBoth", desc := "(LCrookedFrames$House;[IIII)Z" } : Jvm.MethodName) ({ cls := "CrookedFrames$Lures", name := "isWonByBoth", desc := "(LCrookedFrames$House;[IIII)Z" } : Jvm.MethodName) ∈ gT := gT_of (List.mem_of_getElem? (i := 21) (by decide +kernel)) rfl
theorem kw_22 : Jvm.Cond.selects "CrookedFrames$Sights" ({ cls := "CrookedFrames$Sights", name := "fits", desc := "(II)Z" } : Jvm.MethodName) ({ cls := "CrookedFrames$Sights", name := "fits", desc := "(II)Z" } : Jvm.MethodName) ∈ gT := gT_of (List.mem_of_getElem? (i := 22) (by decide +kernel)) rfl
theorem kw_23 : Jvm.Cond.selects "CrookedFrames$Draws" ({ cls := "CrookedFrames$Draws", name := "turnOne", desc := "(II)V" } : Jvm.MethodName) ({ cls := "CrookedFrames$Draws", name := "turnOne", desc := "(II)V" } : Jvm.MethodName) ∈ gT := gT_of (List.mem_of_getElem? (i := 23) (by decide +kernel)) rfl
theorem kw_24 : Jvm.Cond.selects "CrookedFramesModel" ({ cls := "CrookedFramesModel", name := "orders", desc := "()V" } : Jvm.MethodName) ({ cls := "CrookedFramesModel", name := "orders", desc := "()V" } : Jvm.MethodName) ∈ gT := gT_of (List.mem_of_getElem? (i := 24) (by decide +kernel)) rfl
theorem kw_25 : Jvm.Cond.selects "CrookedFramesModel" ({ cls := "CrookedFramesModel", name := "readItem", desc := "()Z" } : Jvm.MethodName) ({ cls := "CrookedFramesModel", name := "readItem", desc := "()Z" } : Jvm.MethodName) ∈ gT := gT_of (List.mem_of_getElem? (i := 25) (by decide +kernel)) rfl
theorem kw_26 : Jvm.Cond.selects "CrookedFramesModel" ({ cls := "CrookedFramesModel", name := "letterAt", desc := "(I)I" } : Jvm.MethodName) ({ cls := "CrookedFramesModel", name := "letterAt", desc := "(I)I" } : Jvm.MethodName) ∈ gT := gT_of (List.mem_of_getElem? (i := 26) (by decide +kernel)) rfl
theorem kw_27 : Jvm.Cond.selects "CrookedFramesModel" ({ cls := "CrookedFramesModel", name := "readFrameOf", desc := "()Z" } : Jvm.MethodName) ({ cls := "CrookedFramesModel", name := "readFrameOf", desc := "()Z" } : Jvm.MethodName) ∈ gT := gT_of (List.mem_of_getElem? (i := 27) (by decide +kernel)) rfl
theorem kw_28 : Jvm.Cond.selects "CrookedFramesModel" ({ cls := "CrookedFramesModel", name := "readNumbers", desc := "(I)Z" } : Jvm.MethodName) ({ cls := "CrookedFramesModel", name := "readNumbers", desc := "(I)Z" } : Jvm.MethodName) ∈ gT := gT_of (List.mem_of_getElem? (i := 28) (by decide +kernel)) rfl
theorem kw_29 : Jvm.Cond.selects "CrookedFramesModel" ({ cls := "CrookedFramesModel", name := "isTold", desc := "(III)Z" } : Jvm.MethodName) ({ cls := "CrookedFramesModel", name := "isTold", desc := "(III)Z" } : Jvm.MethodName) ∈ gT := gT_of (List.mem_of_getElem? (i := 29) (by decide +kernel)) rfl
theorem kw_30 : Jvm.Cond.selects "CrookedFramesModel" ({ cls := "CrookedFramesModel", name := "readTwist", desc := "()Z" } : Jvm.MethodName) ({ cls := "CrookedFramesModel", name := "readTwist", desc := "()Z" } : Jvm.MethodName) ∈ gT := gT_of (List.mem_of_getElem? (i := 30) (by decide +kernel)) rfl
theorem kw_31 : Jvm.Cond.selects "CrookedFramesModel" ({ cls := "CrookedFramesModel", name := "readPersonOf", desc := "()Z" } : Jvm.MethodName) ({ cls := "CrookedFramesModel", name := "readPersonOf", desc := "()Z" } : Jvm.MethodName) ∈ gT := gT_of (List.mem_of_getElem? (i := 31) (by decide +kernel)) rfl
theorem kw_32 : Jvm.Cond.selects "CrookedFramesModel" ({ cls := "CrookedFramesModel", name := "readComingOf", desc := "()Z" } : Jvm.MethodName) ({ cls := "CrookedFramesModel", name := "readComingOf", desc := "()Z" } : Jvm.MethodName) ∈ gT := gT_of (List.mem_of_getElem? (i := 32) (by decide +kernel)) rfl
theorem kw_33 : Jvm.Cond.selects "CrookedFramesModel" ({ cls := "CrookedFramesModel", name := "readTurn", desc := "()Z" } : Jvm.MethodName) ({ cls := "CrookedFramesModel", name := "readTurn", desc := "()Z" } : Jvm.MethodName) ∈ gT := gT_of (List.mem_of_getElem? (i := 33) (by decide +kernel)) rfl
theorem kw_34 : Jvm.Cond.selects "CrookedFramesModel" ({ cls := "CrookedFramesModel", name := "readPatch", desc := "()Z" } : Jvm.MethodName) ({ cls := "CrookedFramesModel", name := "readPatch", desc := "()Z" } : Jvm.MethodName) ∈ gT := gT_of (List.mem_of_getElem? (i := 34) (by decide +kernel)) rfl
theorem kw_35 : Jvm.Cond.selects "CrookedFramesModel" ({ cls := "CrookedFramesModel", name := "isFrame", desc := "(I)Z" } : Jvm.MethodName) ({ cls := "CrookedFramesModel", name := "isFrame", desc := "(I)Z" } : Jvm.MethodName) ∈ gT := gT_of (List.mem_of_getElem? (i := 35) (by decide +kernel)) rfl
theorem kw_36 : Jvm.Cond.selects "CrookedFramesModel" ({ cls := "CrookedFramesModel", name := "isPerson", desc := "(I)Z" } : Jvm.MethodName) ({ cls := "CrookedFramesModel", name := "isPerson", desc := "(I)Z" } : Jvm.MethodName) ∈ gT := gT_of (List.mem_of_getElem? (i := 36) (by decide +kernel)) rfl
theorem kw_37 : Jvm.Cond.selects "CrookedFramesModel" ({ cls := "CrookedFramesModel", name := "goes", desc := "(I)V" } : Jvm.MethodName) ({ cls := "CrookedFramesModel", name := "goes", desc := "(I)V" } : Jvm.MethodName) ∈ gT := gT_of (List.mem_of_getElem? (i := 37) (by decide +kernel)) rfl
theorem kw_38 : Jvm.Cond.selects "CrookedFramesModel" ({ cls := "CrookedFramesModel", name := "begins", desc := "()V" } : Jvm.MethodName) ({ cls := "CrookedFramesModel", name := "begins", desc := "()V" } : Jvm.MethodName) ∈ gT := gT_of (List.mem_of_getElem? (i := 38) (by decide +kernel)) rfl
theorem kw_39 : Jvm.Cond.selects "CrookedFramesModel" ({ cls := "CrookedFramesModel", name := "nightOf", desc := "(I)V" } : Jvm.MethodName) ({ cls := "CrookedFramesModel", name := "nightOf", desc := "(I)V" } : Jvm.MethodName) ∈ gT := gT_of (List.mem_of_getElem? (i := 39) (by decide +kernel)) rfl
theorem kw_40 : Jvm.Cond.selects "CrookedFramesModel" ({ cls := "CrookedFramesModel", name := "twists", desc := "()V" } : Jvm.MethodName) ({ cls := "CrookedFramesModel", name := "twists", desc := "()V" } : Jvm.MethodName) ∈ gT := gT_of (List.mem_of_getElem? (i := 40) (by decide +kernel)) rfl
theorem kw_41 : Jvm.Cond.selects "CrookedFramesModel" ({ cls := "CrookedFramesModel", name := "turnsBy", desc := "(II)V" } : Jvm.MethodName) ({ cls := "CrookedFramesModel", name := "turnsBy", desc := "(II)V" } : Jvm.MethodName) ∈ gT := gT_of (List.mem_of_getElem? (i := 41) (by decide +kernel)) rfl
theorem kw_42 : Jvm.Cond.selects "CrookedFramesModel" ({ cls := "CrookedFramesModel", name := "morning", desc := "()V" } : Jvm.MethodName) ({ cls := "CrookedFramesModel", name := "morning", desc := "()V" } : Jvm.MethodName) ∈ gT := gT_of (List.mem_of_getElem? (i := 42) (by decide +kernel)) rfl
theorem kw_43 : Jvm.Cond.selects "CrookedFramesModel" ({ cls := "CrookedFramesModel", name := "comes", desc := "(II)V" } : Jvm.MethodName) ({ cls := "CrookedFramesModel", name := "comes", desc := "(II)V" } : Jvm.MethodName) ∈ gT := gT_of (List.mem_of_getElem? (i := 43) (by decide +kernel)) rfl
theorem kw_44 : Jvm.Cond.selects "CrookedFramesModel" ({ cls := "CrookedFramesModel", name := "madeBy", desc := "(II)I" } : Jvm.MethodName) ({ cls := "CrookedFramesModel", name := "madeBy", desc := "(II)I" } : Jvm.MethodName) ∈ gT := gT_of (List.mem_of_getElem? (i := 44) (by decide +kernel)) rfl
theorem kw_45 : Jvm.Cond.selects "CrookedFramesModel" ({ cls := "CrookedFramesModel", name := "remembers", desc := "()V" } : Jvm.MethodName) ({ cls := "CrookedFramesModel", name := "remembers", desc := "()V" } : Jvm.MethodName) ∈ gT := gT_of (List.mem_of_getElem? (i := 45) (by decide +kernel)) rfl
theorem kw_46 : Jvm.Cond.selects "CrookedFramesModel" ({ cls := "CrookedFramesModel", name := "tempted", desc := "(I)I" } : Jvm.MethodName) ({ cls := "CrookedFramesModel", name := "tempted", desc := "(I)I" } : Jvm.MethodName) ∈ gT := gT_of (List.mem_of_getElem? (i := 46) (by decide +kernel)) rfl
theorem kw_47 : Jvm.Cond.selects "CrookedFramesModel" ({ cls := "CrookedFramesModel", name := "tries", desc := "(I)V" } : Jvm.MethodName) ({ cls := "CrookedFramesModel", name := "tries", desc := "(I)V" } : Jvm.MethodName) ∈ gT := gT_of (List.mem_of_getElem? (i := 47) (by decide +kernel)) rfl
theorem kw_48 : Jvm.Cond.selects "CrookedFramesModel" ({ cls := "CrookedFramesModel", name := "fromDawn", desc := "()V" } : Jvm.MethodName) ({ cls := "CrookedFramesModel", name := "fromDawn", desc := "()V" } : Jvm.MethodName) ∈ gT := gT_of (List.mem_of_getElem? (i := 48) (by decide +kernel)) rfl
theorem kw_49 : Jvm.Cond.selects "CrookedFramesModel" ({ cls := "CrookedFramesModel", name := "byOf", desc := "(I)I" } : Jvm.MethodName) ({ cls := "CrookedFramesModel", name := "byOf", desc := "(I)I" } : Jvm.MethodName) ∈ gT := gT_of (List.mem_of_getElem? (i := 49) (by decide +kernel)) rfl
theorem kw_50 : Jvm.Cond.selects "CrookedFramesModel" ({ cls := "CrookedFramesModel", name := "borne", desc := "(I)I" } : Jvm.MethodName) ({ cls := "CrookedFramesModel", name := "borne", desc := "(I)I" } : Jvm.MethodName) ∈ gT := gT_of (List.mem_of_getElem? (i := 50) (by decide +kernel)) rfl
theorem kw_51 : Jvm.Cond.selects "CrookedFramesModel" ({ cls := "CrookedFramesModel", name := "bearsBy", desc := "(I)I" } : Jvm.MethodName) ({ cls := "CrookedFramesModel", name := "bearsBy", desc := "(I)I" } : Jvm.MethodName) ∈ gT := gT_of (List.mem_of_getElem? (i := 51) (by decide +kernel)) rfl
theorem kw_70 : (Jvm.Cond.initialized "java/lang/System") ∈ gT := gT_of (List.mem_of_getElem? (i := 70) (by decide +kernel)) rfl
theorem kw_370 : (Jvm.Cond.methodLink "CrookedFrames" (99 : Nat) ({ cls := "CrookedFrames$Text", name := "add", desc := "(I)Z" } : Jvm.MethodName)) ∈ gT := gT_of (List.mem_of_getElem? (i := 370) (by decide +kernel)) rfl
theorem kw_371 : (Jvm.Cond.instanceMethod ({ cls := "CrookedFrames$Text", name := "add", desc := "(I)Z" } : Jvm.MethodName)) ∈ gT := gT_of (List.mem_of_getElem? (i := 371) (by decide +kernel)) rfl
theorem kw_372 : (Jvm.Cond.selects "CrookedFrames$Text" ({ cls := "CrookedFrames$Text", name := "add", desc := "(I)Z" } : Jvm.MethodName) ({ cls := "CrookedFrames$Text", name := "add", desc := "(I)Z" } : Jvm.MethodName)) ∈ gT := gT_of (List.mem_of_getElem? (i := 372) (by decide +kernel)) rfl
theorem kw_374 : (Jvm.Cond.methodLink "CrookedFrames" (103 : Nat) ({ cls := "CrookedFrames$Reader", name := "readAll", desc := "(LCrookedFrames$Text;LCrookedFrames$House;)I" } : Jvm.MethodName)) ∈ gT := gT_of (List.mem_of_getElem? (i := 374) (by decide +kernel)) rfl
theorem kw_375 : (Jvm.Cond.instanceMethod ({ cls := "CrookedFrames$Reader", name := "readAll", desc := "(LCrookedFrames$Text;LCrookedFrames$House;)I" } : Jvm.MethodName)) ∈ gT := gT_of (List.mem_of_getElem? (i := 375) (by decide +kernel)) rfl
theorem kw_376 : (Jvm.Cond.selects "CrookedFrames$Reader" ({ cls := "CrookedFrames$Reader", name := "readAll", desc := "(LCrookedFrames$Text;LCrookedFrames$House;)I" } : Jvm.MethodName) ({ cls := "CrookedFrames$Reader", name := "readAll", desc := "(LCrookedFrames$Text;LCrookedFrames$House;)I" } : Jvm.MethodName)) ∈ gT := gT_of (List.mem_of_getElem? (i := 376) (by decide +kernel)) rfl
theorem kw_378 : (Jvm.Cond.methodLink "CrookedFrames$Reader" (15 : Nat) ({ cls := "CrookedFrames$House", name := "empty", desc := "()V" } : Jvm.MethodName)) ∈ gT := gT_of (List.mem_of_getElem? (i := 378) (by decide +kernel)) rfl
theorem kw_379 : (Jvm.Cond.instanceMethod ({ cls := "CrookedFrames$House", name := "empty", desc := "()V" } : Jvm.MethodName)) ∈ gT := gT_of (List.mem_of_getElem? (i := 379) (by decide +kernel)) rfl
theorem kw_380 : (Jvm.Cond.selects "CrookedFrames$House" ({ cls := "CrookedFrames$House", name := "empty", desc := "()V" } : Jvm.MethodName) ({ cls := "CrookedFrames$House", name := "empty", desc := "()V" } : Jvm.MethodName)) ∈ gT := gT_of (List.mem_of_getElem? (i := 380) (by decide +kernel)) rfl
theorem kw_382 : (Jvm.Cond.methodLink "CrookedFrames$Reader" (29 : Nat) ({ cls := "CrookedFrames$Reader", name := "readItem", desc := "(LCrookedFrames$Text;)Z" } : Jvm.MethodName)) ∈ gT := gT_of (List.mem_of_getElem? (i := 382) (by decide +kernel)) rfl
theorem kw_384 : (Jvm.Cond.instanceMethod ({ cls := "CrookedFrames$Reader", name := "readItem", desc := "(LCrookedFrames$Text;)Z" } : Jvm.MethodName)) ∈ gT := gT_of (List.mem_of_getElem? (i := 384) (by decide +kernel)) rfl
theorem kw_386 : (Jvm.Cond.methodLink "CrookedFrames$Reader" (33 : Nat) ({ cls := "CrookedFrames$Text", name := "letterAt", desc := "(I)I" } : Jvm.MethodName)) ∈ gT := gT_of (List.mem_of_getElem? (i := 386) (by decide +kernel)) rfl
theorem kw_387 : (Jvm.Cond.instanceMethod ({ cls := "CrookedFrames$Text", name := "letterAt", desc := "(I)I" } : Jvm.MethodName)) ∈ gT := gT_of (List.mem_of_getElem? (i := 387) (by decide +kernel)) rfl
theorem kw_388 : (Jvm.Cond.selects "CrookedFrames$Text" ({ cls := "CrookedFrames$Text", name := "letterAt", desc := "(I)I" } : Jvm.MethodName) ({ cls := "CrookedFrames$Text", name := "letterAt", desc := "(I)I" } : Jvm.MethodName)) ∈ gT := gT_of (List.mem_of_getElem? (i := 388) (by decide +kernel)) rfl
theorem kw_390 : (Jvm.Cond.methodLinkNest "CrookedFrames$Text" (19 : Nat) ({ cls := "CrookedFrames", name := "outside", desc := "(II)Z" } : Jvm.MethodName) "CrookedFrames") ∈ nT := nT_of (List.mem_of_getElem? (i := 390) (by decide +kernel)) rfl
theorem kw_391 : (Jvm.Cond.static ({ cls := "CrookedFrames", name := "outside", desc := "(II)Z" } : Jvm.MethodName)) ∈ gT := gT_of (List.mem_of_getElem? (i := 391) (by decide +kernel)) rfl
theorem kw_393 : (Jvm.Cond.methodLink "CrookedFrames$Reader" (41 : Nat) ({ cls := "CrookedFrames$Reader", name := "numbersBehind", desc := "(I)I" } : Jvm.MethodName)) ∈ gT := gT_of (List.mem_of_getElem? (i := 393) (by decide +kernel)) rfl
theorem kw_394 : (Jvm.Cond.static ({ cls := "CrookedFrames$Reader", name := "numbersBehind", desc := "(I)I" } : Jvm.MethodName)) ∈ gT := gT_of (List.mem_of_getElem? (i := 394) (by decide +kernel)) rfl
theorem kw_396 : (Jvm.Cond.methodLink "CrookedFrames$Reader" (44 : Nat) ({ cls := "CrookedFrames$Reader", name := "readNumber", desc := "(LCrookedFrames$Text;)I" } : Jvm.MethodName)) ∈ gT := gT_of (List.mem_of_getElem? (i := 396) (by decide +kernel)) rfl
theorem kw_398 : (Jvm.Cond.instanceMethod ({ cls := "CrookedFrames$Reader", name := "readNumber", desc := "(LCrookedFrames$Text;)I" } : Jvm.MethodName)) ∈ gT := gT_of (List.mem_of_getElem? (i := 398) (by decide +kernel)) rfl
theorem kw_400 : (Jvm.Cond.methodLink "CrookedFrames$Reader" (48 : Nat) ({ cls := "CrookedFrames$Reader", name := "figureAt", desc := "(LCrookedFrames$Text;I)I" } : Jvm.MethodName)) ∈ gT := gT_of (List.mem_of_getElem? (i := 400) (by decide +kernel)) rfl
theorem kw_401 : (Jvm.Cond.static ({ cls := "CrookedFrames$Reader", name := "figureAt", desc := "(LCrookedFrames$Text;I)I" } : Jvm.MethodName)) ∈ gT := gT_of (List.mem_of_getElem? (i := 401) (by decide +kernel)) rfl
theorem kw_403 : (Jvm.Cond.methodLink "CrookedFrames$Reader" (37 : Nat) ({ cls := "CrookedFrames$House", name := "take", desc := "(I[I)Z" } : Jvm.MethodName)) ∈ gT := gT_of (List.mem_of_getElem? (i := 403) (by decide +kernel)) rfl
theorem kw_404 : (Jvm.Cond.instanceMethod ({ cls := "CrookedFrames$House", name := "take", desc := "(I[I)Z" } : Jvm.MethodName)) ∈ gT := gT_of (List.mem_of_getElem? (i := 404) (by decide +kernel)) rfl
theorem kw_405 : (Jvm.Cond.selects "CrookedFrames$House" ({ cls := "CrookedFrames$House", name := "take", desc := "(I[I)Z" } : Jvm.MethodName) ({ cls := "CrookedFrames$House", name := "take", desc := "(I[I)Z" } : Jvm.MethodName)) ∈ gT := gT_of (List.mem_of_getElem? (i := 405) (by decide +kernel)) rfl
theorem kw_407 : (Jvm.Cond.methodLink "CrookedFrames$House" (59 : Nat) ({ cls := "CrookedFrames$House", name := "takeFrame", desc := "(II)Z" } : Jvm.MethodName)) ∈ gT := gT_of (List.mem_of_getElem? (i := 407) (by decide +kernel)) rfl
theorem kw_409 : (Jvm.Cond.instanceMethod ({ cls := "CrookedFrames$House", name := "takeFrame", desc := "(II)Z" } : Jvm.MethodName)) ∈ gT := gT_of (List.mem_of_getElem? (i := 409) (by decide +kernel)) rfl
theorem kw_411 : (Jvm.Cond.methodLinkNest "CrookedFrames$House" (79 : Nat) ({ cls := "CrookedFrames", name := "outside", desc := "(II)Z" } : Jvm.MethodName) "CrookedFrames") ∈ nT := nT_of (List.mem_of_getElem? (i := 411) (by decide +kernel)) rfl
theorem kw_412 : (Jvm.Cond.methodLink "CrookedFrames$House" (63 : Nat) ({ cls := "CrookedFrames$House", name := "takeWire", desc := "(II)Z" } : Jvm.MethodName)) ∈ gT := gT_of (List.mem_of_getElem? (i := 412) (by decide +kernel)) rfl
theorem kw_414 : (Jvm.Cond.instanceMethod ({ cls := "CrookedFrames$House", name := "takeWire", desc := "(II)Z" } : Jvm.MethodName)) ∈ gT := gT_of (List.mem_of_getElem? (i := 414) (by decide +kernel)) rfl
theorem kw_416 : (Jvm.Cond.methodLink "CrookedFrames$House" (66 : Nat) ({ cls := "CrookedFrames$House", name := "takePerson", desc := "(II)Z" } : Jvm.MethodName)) ∈ gT := gT_of (List.mem_of_getElem? (i := 416) (by decide +kernel)) rfl
theorem kw_418 : (Jvm.Cond.instanceMethod ({ cls := "CrookedFrames$House", name := "takePerson", desc := "(II)Z" } : Jvm.MethodName)) ∈ gT := gT_of (List.mem_of_getElem? (i := 418) (by decide +kernel)) rfl
theorem kw_420 : (Jvm.Cond.methodLink "CrookedFrames$House" (69 : Nat) ({ cls := "CrookedFrames$House", name := "takeComing", desc := "(III)Z" } : Jvm.MethodName)) ∈ gT := gT_of (List.mem_of_getElem? (i := 420) (by decide +kernel)) rfl
theorem kw_422 : (Jvm.Cond.instanceMethod ({ cls := "CrookedFrames$House", name := "takeComing", desc := "(III)Z" } : Jvm.MethodName)) ∈ gT := gT_of (List.mem_of_getElem? (i := 422) (by decide +kernel)) rfl
theorem kw_424 : (Jvm.Cond.methodLink "CrookedFrames$House" (73 : Nat) ({ cls := "CrookedFrames$House", name := "takeTurn", desc := "(III)Z" } : Jvm.MethodName)) ∈ gT := gT_of (List.mem_of_getElem? (i := 424) (by decide +kernel)) rfl
theorem kw_426 : (Jvm.Cond.instanceMethod ({ cls := "CrookedFrames$House", name := "takeTurn", desc := "(III)Z" } : Jvm.MethodName)) ∈ gT := gT_of (List.mem_of_getElem? (i := 426) (by decide +kernel)) rfl
theorem kw_428 : (Jvm.Cond.methodLink "CrookedFrames$House" (82 : Nat) ({ cls := "CrookedFrames$Turns", name := "add", desc := "(III)V" } : Jvm.MethodName)) ∈ gT := gT_of (List.mem_of_getElem? (i := 428) (by decide +kernel)) rfl
theorem kw_429 : (Jvm.Cond.instanceMethod ({ cls := "CrookedFrames$Turns", name := "add", desc := "(III)V" } : Jvm.MethodName)) ∈ gT := gT_of (List.mem_of_getElem? (i := 429) (by decide +kernel)) rfl
theorem kw_430 : (Jvm.Cond.selects "CrookedFrames$Turns" ({ cls := "CrookedFrames$Turns", name := "add", desc := "(III)V" } : Jvm.MethodName) ({ cls := "CrookedFrames$Turns", name := "add", desc := "(III)V" } : Jvm.MethodName)) ∈ gT := gT_of (List.mem_of_getElem? (i := 430) (by decide +kernel)) rfl
theorem kw_432 : (Jvm.Cond.methodLink "CrookedFrames$House" (76 : Nat) ({ cls := "CrookedFrames$House", name := "takePatch", desc := "(II)Z" } : Jvm.MethodName)) ∈ gT := gT_of (List.mem_of_getElem? (i := 432) (by decide +kernel)) rfl
theorem kw_434 : (Jvm.Cond.instanceMethod ({ cls := "CrookedFrames$House", name := "takePatch", desc := "(II)Z" } : Jvm.MethodName)) ∈ gT := gT_of (List.mem_of_getElem? (i := 434) (by decide +kernel)) rfl
theorem kw_436 : (Jvm.Cond.methodLink "CrookedFrames" (107 : Nat) ({ cls := "CrookedFrames", name := "moveIn", desc := "()V" } : Jvm.MethodName)) ∈ gT := gT_of (List.mem_of_getElem? (i := 436) (by decide +kernel)) rfl
theorem kw_438 : (Jvm.Cond.instanceMethod ({ cls := "CrookedFrames", name := "moveIn", desc := "()V" } : Jvm.MethodName)) ∈ gT := gT_of (List.mem_of_getElem? (i := 438) (by decide +kernel)) rfl
theorem kw_440 : (Jvm.Cond.methodLink "CrookedFrames" (265 : Nat) ({ cls := "CrookedFrames$Turns", name := "copy", desc := "(LCrookedFrames$Turns;)V" } : Jvm.MethodName)) ∈ gT := gT_of (List.mem_of_getElem? (i := 440) (by decide +kernel)) rfl
theorem kw_441 : (Jvm.Cond.instanceMethod ({ cls := "CrookedFrames$Turns", name := "copy", desc := "(LCrookedFrames$Turns;)V" } : Jvm.MethodName)) ∈ gT := gT_of (List.mem_of_getElem? (i := 441) (by decide +kernel)) rfl
theorem kw_442 : (Jvm.Cond.selects "CrookedFrames$Turns" ({ cls := "CrookedFrames$Turns", name := "copy", desc := "(LCrookedFrames$Turns;)V" } : Jvm.MethodName) ({ cls := "CrookedFrames$Turns", name := "copy", desc := "(LCrookedFrames$Turns;)V" } : Jvm.MethodName)) ∈ gT := gT_of (List.mem_of_getElem? (i := 442) (by decide +kernel)) rfl
theorem kw_444 : (Jvm.Cond.methodLink "CrookedFrames$Turns" (29 : Nat) ({ cls := "CrookedFrames$Turns", name := "add", desc := "(III)V" } : Jvm.MethodName)) ∈ gT := gT_of (List.mem_of_getElem? (i := 444) (by decide +kernel)) rfl
theorem kw_445 : (Jvm.Cond.methodLink "CrookedFrames" (222 : Nat) ({ cls := "CrookedFrames$Sights", name := "empty", desc := "()I" } : Jvm.MethodName)) ∈ gT := gT_of (List.mem_of_getElem? (i := 445) (by decide +kernel)) rfl
theorem kw_446 : (Jvm.Cond.instanceMethod ({ cls := "CrookedFrames$Sights", name := "empty", desc := "()I" } : Jvm.MethodName)) ∈ gT := gT_of (List.mem_of_getElem? (i := 446) (by decide +kernel)) rfl
theorem kw_447 : (Jvm.Cond.selects "CrookedFrames$Sights" ({ cls := "CrookedFrames$Sights", name := "empty", desc := "()I" } : Jvm.MethodName) ({ cls := "CrookedFrames$Sights", name := "empty", desc := "()I" } : Jvm.MethodName)) ∈ gT := gT_of (List.mem_of_getElem? (i := 447) (by decide +kernel)) rfl
theorem kw_449 : (Jvm.Cond.methodLink "CrookedFrames" (110 : Nat) ({ cls := "CrookedFrames$Text", name := "empty", desc := "()I" } : Jvm.MethodName)) ∈ gT := gT_of (List.mem_of_getElem? (i := 449) (by decide +kernel)) rfl
theorem kw_450 : (Jvm.Cond.instanceMethod ({ cls := "CrookedFrames$Text", name := "empty", desc := "()I" } : Jvm.MethodName)) ∈ gT := gT_of (List.mem_of_getElem? (i := 450) (by decide +kernel)) rfl
theorem kw_451 : (Jvm.Cond.selects "CrookedFrames$Text" ({ cls := "CrookedFrames$Text", name := "empty", desc := "()I" } : Jvm.MethodName) ({ cls := "CrookedFrames$Text", name := "empty", desc := "()I" } : Jvm.MethodName)) ∈ gT := gT_of (List.mem_of_getElem? (i := 451) (by decide +kernel)) rfl
theorem kw_511 : (Jvm.Cond.methodLink "CrookedFrames" (119 : Nat) ({ cls := "CrookedFrames", name := "outside", desc := "(II)Z" } : Jvm.MethodName)) ∈ gT := gT_of (List.mem_of_getElem? (i := 511) (by decide +kernel)) rfl
theorem kw_520 : (Jvm.Cond.methodLink "CrookedFrames" (145 : Nat) ({ cls := "CrookedFrames", name := "daysNow", desc := "()LCrookedFrames$Days;" } : Jvm.MethodName)) ∈ gT := gT_of (List.mem_of_getElem? (i := 520) (by decide +kernel)) rfl
theorem kw_522 : (Jvm.Cond.instanceMethod ({ cls := "CrookedFrames", name := "daysNow", desc := "()LCrookedFrames$Days;" } : Jvm.MethodName)) ∈ gT := gT_of (List.mem_of_getElem? (i := 522) (by decide +kernel)) rfl
theorem kw_524 : (Jvm.Cond.methodLink "CrookedFrames" (268 : Nat) ({ cls := "CrookedFrames$Days", name := "play", desc := "(LCrookedFrames$House;LCrookedFrames$Turns;)V" } : Jvm.MethodName)) ∈ gT := gT_of (List.mem_of_getElem? (i := 524) (by decide +kernel)) rfl
theorem kw_525 : (Jvm.Cond.instanceMethod ({ cls := "CrookedFrames$Days", name := "play", desc := "(LCrookedFrames$House;LCrookedFrames$Turns;)V" } : Jvm.MethodName)) ∈ gT := gT_of (List.mem_of_getElem? (i := 525) (by decide +kernel)) rfl
theorem kw_526 : (Jvm.Cond.selects "CrookedFrames$Days" ({ cls := "CrookedFrames$Days", name := "play", desc := "(LCrookedFrames$House;LCrookedFrames$Turns;)V" } : Jvm.MethodName) ({ cls := "CrookedFrames$Days", name := "play", desc := "(LCrookedFrames$House;LCrookedFrames$Turns;)V" } : Jvm.MethodName)) ∈ gT := gT_of (List.mem_of_getElem? (i := 526) (by decide +kernel)) rfl
theorem kw_528 : (Jvm.Cond.methodLink "CrookedFrames$Days" (35 : Nat) ({ cls := "java/lang/System", name := "arraycopy", desc := "(Ljava/lang/Object;ILjava/lang/Object;II)V" } : Jvm.MethodName)) ∈ gT := gT_of (List.mem_of_getElem? (i := 528) (by decide +kernel)) rfl
theorem kw_529 : (Jvm.Cond.static ({ cls := "java/lang/System", name := "arraycopy", desc := "(Ljava/lang/Object;ILjava/lang/Object;II)V" } : Jvm.MethodName)) ∈ gT := gT_of (List.mem_of_getElem? (i := 529) (by decide +kernel)) rfl
theorem kw_530 : (Jvm.Cond.native ({ cls := "java/lang/System", name := "arraycopy", desc := "(Ljava/lang/Object;ILjava/lang/Object;II)V" } : Jvm.MethodName)) ∈ gT := gT_of (List.mem_of_getElem? (i := 530) (by decide +kernel)) rfl
theorem kw_531 : (Jvm.Cond.methodLink "CrookedFrames$Days" (41 : Nat) ({ cls := "CrookedFrames$House", name := "twist", desc := "([I)V" } : Jvm.MethodName)) ∈ gT := gT_of (List.mem_of_getElem? (i := 531) (by decide +kernel)) rfl
theorem kw_532 : (Jvm.Cond.instanceMethod ({ cls := "CrookedFrames$House", name := "twist", desc := "([I)V" } : Jvm.MethodName)) ∈ gT := gT_of (List.mem_of_getElem? (i := 532) (by decide +kernel)) rfl
theorem kw_533 : (Jvm.Cond.selects "CrookedFrames$House" ({ cls := "CrookedFrames$House", name := "twist", desc := "([I)V" } : Jvm.MethodName) ({ cls := "CrookedFrames$House", name := "twist", desc := "([I)V" } : Jvm.MethodName)) ∈ gT := gT_of (List.mem_of_getElem? (i := 533) (by decide +kernel)) rfl
theorem kw_535 : (Jvm.Cond.methodLinkNest "CrookedFrames$House" (92 : Nat) ({ cls := "CrookedFrames", name := "keptWithin", desc := "(I)I" } : Jvm.MethodName) "CrookedFrames") ∈ nT := nT_of (List.mem_of_getElem? (i := 535) (by decide +kernel)) rfl
theorem kw_536 : (Jvm.Cond.static ({ cls := "CrookedFrames", name := "keptWithin", desc := "(I)I" } : Jvm.MethodName)) ∈ gT := gT_of (List.mem_of_getElem? (i := 536) (by decide +kernel)) rfl
theorem kw_538 : (Jvm.Cond.methodLink "CrookedFrames" (271 : Nat) ({ cls := "java/lang/Math", name := "min", desc := "(II)I" } : Jvm.MethodName)) ∈ gT := gT_of (List.mem_of_getElem? (i := 538) (by decide +kernel)) rfl
theorem kw_541 : (Jvm.Cond.methodLink "CrookedFrames" (274 : Nat) ({ cls := "java/lang/Math", name := "max", desc := "(II)I" } : Jvm.MethodName)) ∈ gT := gT_of (List.mem_of_getElem? (i := 541) (by decide +kernel)) rfl
theorem kw_542 : (Jvm.Cond.methodLink "CrookedFrames$Days" (45 : Nat) ({ cls := "CrookedFrames$Turns", name := "turnAll", desc := "(I[I)V" } : Jvm.MethodName)) ∈ gT := gT_of (List.mem_of_getElem? (i := 542) (by decide +kernel)) rfl
theorem kw_543 : (Jvm.Cond.instanceMethod ({ cls := "CrookedFrames$Turns", name := "turnAll", desc := "(I[I)V" } : Jvm.MethodName)) ∈ gT := gT_of (List.mem_of_getElem? (i := 543) (by decide +kernel)) rfl
theorem kw_544 : (Jvm.Cond.selects "CrookedFrames$Turns" ({ cls := "CrookedFrames$Turns", name := "turnAll", desc := "(I[I)V" } : Jvm.MethodName) ({ cls := "CrookedFrames$Turns", name := "turnAll", desc := "(I[I)V" } : Jvm.MethodName)) ∈ gT := gT_of (List.mem_of_getElem? (i := 544) (by decide +kernel)) rfl
theorem kw_546 : (Jvm.Cond.methodLinkNest "CrookedFrames$Turns" (33 : Nat) ({ cls := "CrookedFrames", name := "keptWithin", desc := "(I)I" } : Jvm.MethodName) "CrookedFrames") ∈ nT := nT_of (List.mem_of_getElem? (i := 546) (by decide +kernel)) rfl
theorem kw_547 : (Jvm.Cond.methodLink "CrookedFrames$Days" (51 : Nat) ({ cls := "CrookedFrames$House", name := "letCome", desc := "([I[I)I" } : Jvm.MethodName)) ∈ gT := gT_of (List.mem_of_getElem? (i := 547) (by decide +kernel)) rfl
theorem kw_548 : (Jvm.Cond.instanceMethod ({ cls := "CrookedFrames$House", name := "letCome", desc := "([I[I)I" } : Jvm.MethodName)) ∈ gT := gT_of (List.mem_of_getElem? (i := 548) (by decide +kernel)) rfl
theorem kw_549 : (Jvm.Cond.selects "CrookedFrames$House" ({ cls := "CrookedFrames$House", name := "letCome", desc := "([I[I)I" } : Jvm.MethodName) ({ cls := "CrookedFrames$House", name := "letCome", desc := "([I[I)I" } : Jvm.MethodName)) ∈ gT := gT_of (List.mem_of_getElem? (i := 549) (by decide +kernel)) rfl
theorem kw_551 : (Jvm.Cond.methodLink "CrookedFrames$House" (96 : Nat) ({ cls := "java/util/Arrays", name := "fill", desc := "([II)V" } : Jvm.MethodName)) ∈ gT := gT_of (List.mem_of_getElem? (i := 551) (by decide +kernel)) rfl
theorem kw_552 : (Jvm.Cond.static ({ cls := "java/util/Arrays", name := "fill", desc := "([II)V" } : Jvm.MethodName)) ∈ gT := gT_of (List.mem_of_getElem? (i := 552) (by decide +kernel)) rfl
theorem kw_554 : (Jvm.Cond.methodLink "CrookedFrames$House" (102 : Nat) ({ cls := "CrookedFrames$House", name := "firstTempting", desc := "(II[I)I" } : Jvm.MethodName)) ∈ gT := gT_of (List.mem_of_getElem? (i := 554) (by decide +kernel)) rfl
theorem kw_556 : (Jvm.Cond.instanceMethod ({ cls := "CrookedFrames$House", name := "firstTempting", desc := "(II[I)I" } : Jvm.MethodName)) ∈ gT := gT_of (List.mem_of_getElem? (i := 556) (by decide +kernel)) rfl
theorem kw_558 : (Jvm.Cond.methodLink "CrookedFrames$House" (110 : Nat) ({ cls := "CrookedFrames$Habit", name := "farthestBorne", desc := "(II)I" } : Jvm.MethodName)) ∈ gT := gT_of (List.mem_of_getElem? (i := 558) (by decide +kernel)) rfl
theorem kw_559 : (Jvm.Cond.static ({ cls := "CrookedFrames$Habit", name := "farthestBorne", desc := "(II)I" } : Jvm.MethodName)) ∈ gT := gT_of (List.mem_of_getElem? (i := 559) (by decide +kernel)) rfl
theorem kw_561 : (Jvm.Cond.methodLink "CrookedFrames$House" (113 : Nat) ({ cls := "java/lang/Math", name := "abs", desc := "(I)I" } : Jvm.MethodName)) ∈ gT := gT_of (List.mem_of_getElem? (i := 561) (by decide +kernel)) rfl
theorem kw_564 : (Jvm.Cond.methodLink "CrookedFrames$House" (106 : Nat) ({ cls := "CrookedFrames$House", name := "setBy", desc := "(II)I" } : Jvm.MethodName)) ∈ gT := gT_of (List.mem_of_getElem? (i := 564) (by decide +kernel)) rfl
theorem kw_565 : (Jvm.Cond.instanceMethod ({ cls := "CrookedFrames$House", name := "setBy", desc := "(II)I" } : Jvm.MethodName)) ∈ gT := gT_of (List.mem_of_getElem? (i := 565) (by decide +kernel)) rfl
theorem kw_566 : (Jvm.Cond.selects "CrookedFrames$House" ({ cls := "CrookedFrames$House", name := "setBy", desc := "(II)I" } : Jvm.MethodName) ({ cls := "CrookedFrames$House", name := "setBy", desc := "(II)I" } : Jvm.MethodName)) ∈ gT := gT_of (List.mem_of_getElem? (i := 566) (by decide +kernel)) rfl
theorem kw_568 : (Jvm.Cond.methodLink "CrookedFrames$House" (86 : Nat) ({ cls := "CrookedFrames$Habit", name := "settle", desc := "(III)I" } : Jvm.MethodName)) ∈ gT := gT_of (List.mem_of_getElem? (i := 568) (by decide +kernel)) rfl
theorem kw_569 : (Jvm.Cond.static ({ cls := "CrookedFrames$Habit", name := "settle", desc := "(III)I" } : Jvm.MethodName)) ∈ gT := gT_of (List.mem_of_getElem? (i := 569) (by decide +kernel)) rfl
theorem kw_571 : (Jvm.Cond.methodLink "CrookedFrames$Habit" (9 : Nat) ({ cls := "java/lang/Math", name := "abs", desc := "(I)I" } : Jvm.MethodName)) ∈ gT := gT_of (List.mem_of_getElem? (i := 571) (by decide +kernel)) rfl
theorem kw_572 : (Jvm.Cond.methodLink "CrookedFrames$Habit" (15 : Nat) ({ cls := "CrookedFrames$Habit", name := "farthestBorne", desc := "(II)I" } : Jvm.MethodName)) ∈ gT := gT_of (List.mem_of_getElem? (i := 572) (by decide +kernel)) rfl
theorem kw_585 : (Jvm.Cond.methodLink "CrookedFrames" (159 : Nat) ({ cls := "CrookedFrames$Days", name := "firstOfRest", desc := "(LCrookedFrames$House;)I" } : Jvm.MethodName)) ∈ gT := gT_of (List.mem_of_getElem? (i := 585) (by decide +kernel)) rfl
theorem kw_586 : (Jvm.Cond.instanceMethod ({ cls := "CrookedFrames$Days", name := "firstOfRest", desc := "(LCrookedFrames$House;)I" } : Jvm.MethodName)) ∈ gT := gT_of (List.mem_of_getElem? (i := 586) (by decide +kernel)) rfl
theorem kw_587 : (Jvm.Cond.selects "CrookedFrames$Days" ({ cls := "CrookedFrames$Days", name := "firstOfRest", desc := "(LCrookedFrames$House;)I" } : Jvm.MethodName) ({ cls := "CrookedFrames$Days", name := "firstOfRest", desc := "(LCrookedFrames$House;)I" } : Jvm.MethodName)) ∈ gT := gT_of (List.mem_of_getElem? (i := 587) (by decide +kernel)) rfl
theorem kw_589 : (Jvm.Cond.methodLink "CrookedFrames$Days" (55 : Nat) ({ cls := "CrookedFrames$Days", name := "isAsAhead", desc := "(LCrookedFrames$House;I)Z" } : Jvm.MethodName)) ∈ gT := gT_of (List.mem_of_getElem? (i := 589) (by decide +kernel)) rfl
theorem kw_591 : (Jvm.Cond.instanceMethod ({ cls := "CrookedFrames$Days", name := "isAsAhead", desc := "(LCrookedFrames$House;I)Z" } : Jvm.MethodName)) ∈ gT := gT_of (List.mem_of_getElem? (i := 591) (by decide +kernel)) rfl
theorem kw_597 : (Jvm.Cond.methodLink "CrookedFrames" (163 : Nat) ({ cls := "CrookedFrames$Days", name := "swaying", desc := "(I)I" } : Jvm.MethodName)) ∈ gT := gT_of (List.mem_of_getElem? (i := 597) (by decide +kernel)) rfl
theorem kw_598 : (Jvm.Cond.instanceMethod ({ cls := "CrookedFrames$Days", name := "swaying", desc := "(I)I" } : Jvm.MethodName)) ∈ gT := gT_of (List.mem_of_getElem? (i := 598) (by decide +kernel)) rfl
theorem kw_599 : (Jvm.Cond.selects "CrookedFrames$Days" ({ cls := "CrookedFrames$Days", name := "swaying", desc := "(I)I" } : Jvm.MethodName) ({ cls := "CrookedFrames$Days", name := "swaying", desc := "(I)I" } : Jvm.MethodName)) ∈ gT := gT_of (List.mem_of_getElem? (i := 599) (by decide +kernel)) rfl
theorem kw_601 : (Jvm.Cond.methodLink "CrookedFrames$Days" (63 : Nat) ({ cls := "CrookedFrames$Days", name := "swaysOne", desc := "(I)Z" } : Jvm.MethodName)) ∈ gT := gT_of (List.mem_of_getElem? (i := 601) (by decide +kernel)) rfl
theorem kw_603 : (Jvm.Cond.instanceMethod ({ cls := "CrookedFrames$Days", name := "swaysOne", desc := "(I)Z" } : Jvm.MethodName)) ∈ gT := gT_of (List.mem_of_getElem? (i := 603) (by decide +kernel)) rfl
theorem kw_613 : (Jvm.Cond.methodLink "CrookedFrames" (178 : Nat) ({ cls := "CrookedFrames$Shelf", name := "put", desc := "(LCrookedFrames$Turns;)V" } : Jvm.MethodName)) ∈ gT := gT_of (List.mem_of_getElem? (i := 613) (by decide +kernel)) rfl
theorem kw_614 : (Jvm.Cond.instanceMethod ({ cls := "CrookedFrames$Shelf", name := "put", desc := "(LCrookedFrames$Turns;)V" } : Jvm.MethodName)) ∈ gT := gT_of (List.mem_of_getElem? (i := 614) (by decide +kernel)) rfl
theorem kw_615 : (Jvm.Cond.selects "CrookedFrames$Shelf" ({ cls := "CrookedFrames$Shelf", name := "put", desc := "(LCrookedFrames$Turns;)V" } : Jvm.MethodName) ({ cls := "CrookedFrames$Shelf", name := "put", desc := "(LCrookedFrames$Turns;)V" } : Jvm.MethodName)) ∈ gT := gT_of (List.mem_of_getElem? (i := 615) (by decide +kernel)) rfl
theorem kw_617 : (Jvm.Cond.methodLink "CrookedFrames$Shelf" (26 : Nat) ({ cls := "CrookedFrames$Turns", name := "copy", desc := "(LCrookedFrames$Turns;)V" } : Jvm.MethodName)) ∈ gT := gT_of (List.mem_of_getElem? (i := 617) (by decide +kernel)) rfl
theorem kw_618 : (Jvm.Cond.methodLink "CrookedFrames" (182 : Nat) ({ cls := "CrookedFrames$Turns", name := "add", desc := "(III)V" } : Jvm.MethodName)) ∈ gT := gT_of (List.mem_of_getElem? (i := 618) (by decide +kernel)) rfl
theorem kw_623 : (Jvm.Cond.methodLink "CrookedFrames" (189 : Nat) ({ cls := "CrookedFrames$Turns", name := "remove", desc := "(I)V" } : Jvm.MethodName)) ∈ gT := gT_of (List.mem_of_getElem? (i := 623) (by decide +kernel)) rfl
theorem kw_624 : (Jvm.Cond.instanceMethod ({ cls := "CrookedFrames$Turns", name := "remove", desc := "(I)V" } : Jvm.MethodName)) ∈ gT := gT_of (List.mem_of_getElem? (i := 624) (by decide +kernel)) rfl
theorem kw_625 : (Jvm.Cond.selects "CrookedFrames$Turns" ({ cls := "CrookedFrames$Turns", name := "remove", desc := "(I)V" } : Jvm.MethodName) ({ cls := "CrookedFrames$Turns", name := "remove", desc := "(I)V" } : Jvm.MethodName)) ∈ gT := gT_of (List.mem_of_getElem? (i := 625) (by decide +kernel)) rfl
theorem kw_627 : (Jvm.Cond.methodLinkNest "CrookedFrames$Turns" (25 : Nat) ({ cls := "CrookedFrames", name := "outside", desc := "(II)Z" } : Jvm.MethodName) "CrookedFrames") ∈ nT := nT_of (List.mem_of_getElem? (i := 627) (by decide +kernel)) rfl
theorem kw_632 : (Jvm.Cond.methodLink "CrookedFrames" (192 : Nat) ({ cls := "CrookedFrames$Shelf", name := "takeLast", desc := "(LCrookedFrames$Turns;)Z" } : Jvm.MethodName)) ∈ gT := gT_of (List.mem_of_getElem? (i := 632) (by decide +kernel)) rfl
theorem kw_633 : (Jvm.Cond.instanceMethod ({ cls := "CrookedFrames$Shelf", name := "takeLast", desc := "(LCrookedFrames$Turns;)Z" } : Jvm.MethodName)) ∈ gT := gT_of (List.mem_of_getElem? (i := 633) (by decide +kernel)) rfl
theorem kw_634 : (Jvm.Cond.selects "CrookedFrames$Shelf" ({ cls := "CrookedFrames$Shelf", name := "takeLast", desc := "(LCrookedFrames$Turns;)Z" } : Jvm.MethodName) ({ cls := "CrookedFrames$Shelf", name := "takeLast", desc := "(LCrookedFrames$Turns;)Z" } : Jvm.MethodName)) ∈ gT := gT_of (List.mem_of_getElem? (i := 634) (by decide +kernel)) rfl
theorem kw_640 : (Jvm.Cond.methodLink "CrookedFrames" (200 : Nat) ({ cls := "CrookedFrames$Lures", name := "leastTurn", desc := "(LCrookedFrames$House;[II)I" } : Jvm.MethodName)) ∈ gT := gT_of (List.mem_of_getElem? (i := 640) (by decide +kernel)) rfl
theorem kw_641 : (Jvm.Cond.instanceMethod ({ cls := "CrookedFrames$Lures", name := "leastTurn", desc := "(LCrookedFrames$House;[II)I" } : Jvm.MethodName)) ∈ gT := gT_of (List.mem_of_getElem? (i := 641) (by decide +kernel)) rfl
theorem kw_642 : (Jvm.Cond.selects "CrookedFrames$Lures" ({ cls := "CrookedFrames$Lures", name := "leastTurn", desc := "(LCrookedFrames$House;[II)I" } : Jvm.MethodName) ({ cls := "CrookedFrames$Lures", name := "leastTurn", desc := "(LCrookedFrames$House;[II)I" } : Jvm.MethodName)) ∈ gT := gT_of (List.mem_of_getElem? (i := 642) (by decide +kernel)) rfl
theorem kw_644 : (Jvm.Cond.methodLink "CrookedFrames$Lures" (35 : Nat) ({ cls := "CrookedFrames$Lures", name := "isWon", desc := "(LCrookedFrames$House;[IIII)Z" } : Jvm.MethodName)) ∈ gT := gT_of (List.mem_of_getElem? (i := 644) (by decide +kernel)) rfl
theorem kw_646 : (Jvm.Cond.instanceMethod ({ cls := "CrookedFrames$Lures", name := "isWon", desc := "(LCrookedFrames$House;[IIII)Z" } : Jvm.MethodName)) ∈ gT := gT_of (List.mem_of_getElem? (i := 646) (by decide +kernel)) rfl
theorem kw_648 : (Jvm.Cond.methodLinkNest "CrookedFrames$Lures" (39 : Nat) ({ cls := "CrookedFrames", name := "keptWithin", desc := "(I)I" } : Jvm.MethodName) "CrookedFrames") ∈ nT := nT_of (List.mem_of_getElem? (i := 648) (by decide +kernel)) rfl
theorem kw_649 : (Jvm.Cond.methodLink "CrookedFrames$Lures" (43 : Nat) ({ cls := "CrookedFrames$Lures", name := "wonWith", desc := "(LCrookedFrames$House;[III)I" } : Jvm.MethodName)) ∈ gT := gT_of (List.mem_of_getElem? (i := 649) (by decide +kernel)) rfl
theorem kw_651 : (Jvm.Cond.instanceMethod ({ cls := "CrookedFrames$Lures", name := "wonWith", desc := "(LCrookedFrames$House;[III)I" } : Jvm.MethodName)) ∈ gT := gT_of (List.mem_of_getElem? (i := 651) (by decide +kernel)) rfl
theorem kw_653 : (Jvm.Cond.methodLink "CrookedFrames$Lures" (66 : Nat) ({ cls := "java/lang/System", name := "arraycopy", desc := "(Ljava/lang/Object;ILjava/lang/Object;II)V" } : Jvm.MethodName)) ∈ gT := gT_of (List.mem_of_getElem? (i := 653) (by decide +kernel)) rfl
theorem kw_654 : (Jvm.Cond.methodLink "CrookedFrames$Lures" (72 : Nat) ({ cls := "CrookedFrames$House", name := "letCome", desc := "([I[I)I" } : Jvm.MethodName)) ∈ gT := gT_of (List.mem_of_getElem? (i := 654) (by decide +kernel)) rfl
theorem kw_659 : (Jvm.Cond.methodLink "CrookedFrames" (204 : Nat) ({ cls := "CrookedFrames$Lures", name := "oneOrTwo", desc := "(LCrookedFrames$House;[II)I" } : Jvm.MethodName)) ∈ gT := gT_of (List.mem_of_getElem? (i := 659) (by decide +kernel)) rfl
theorem kw_660 : (Jvm.Cond.instanceMethod ({ cls := "CrookedFrames$Lures", name := "oneOrTwo", desc := "(LCrookedFrames$House;[II)I" } : Jvm.MethodName)) ∈ gT := gT_of (List.mem_of_getElem? (i := 660) (by decide +kernel)) rfl
theorem kw_661 : (Jvm.Cond.selects "CrookedFrames$Lures" ({ cls := "CrookedFrames$Lures", name := "oneOrTwo", desc := "(LCrookedFrames$House;[II)I" } : Jvm.MethodName) ({ cls := "CrookedFrames$Lures", name := "oneOrTwo", desc := "(LCrookedFrames$House;[II)I" } : Jvm.MethodName)) ∈ gT := gT_of (List.mem_of_getElem? (i := 661) (by decide +kernel)) rfl
theorem kw_663 : (Jvm.Cond.methodLink "CrookedFrames$Lures" (47 : Nat) ({ cls := "CrookedFrames$Lures", name := "findAlike", desc := "(LCrookedFrames$House;)V" } : Jvm.MethodName)) ∈ gT := gT_of (List.mem_of_getElem? (i := 663) (by decide +kernel)) rfl
theorem kw_665 : (Jvm.Cond.instanceMethod ({ cls := "CrookedFrames$Lures", name := "findAlike", desc := "(LCrookedFrames$House;)V" } : Jvm.MethodName)) ∈ gT := gT_of (List.mem_of_getElem? (i := 665) (by decide +kernel)) rfl
theorem kw_667 : (Jvm.Cond.methodLink "CrookedFrames$Lures" (98 : Nat) ({ cls := "CrookedFrames$Lures", name := "areAlike", desc := "(LCrookedFrames$House;II)Z" } : Jvm.MethodName)) ∈ gT := gT_of (List.mem_of_getElem? (i := 667) (by decide +kernel)) rfl
theorem kw_669 : (Jvm.Cond.instanceMethod ({ cls := "CrookedFrames$Lures", name := "areAlike", desc := "(LCrookedFrames$House;II)Z" } : Jvm.MethodName)) ∈ gT := gT_of (List.mem_of_getElem? (i := 669) (by decide +kernel)) rfl
theorem kw_671 : (Jvm.Cond.methodLink "CrookedFrames$Lures" (105 : Nat) ({ cls := "CrookedFrames$House", name := "setBy", desc := "(II)I" } : Jvm.MethodName)) ∈ gT := gT_of (List.mem_of_getElem? (i := 671) (by decide +kernel)) rfl
theorem kw_672 : (Jvm.Cond.methodLink "CrookedFrames$Lures" (83 : Nat) ({ cls := "java/lang/Math", name := "abs", desc := "(I)I" } : Jvm.MethodName)) ∈ gT := gT_of (List.mem_of_getElem? (i := 672) (by decide +kernel)) rfl
theorem kw_673 : (Jvm.Cond.methodLink "CrookedFrames$Lures" (51 : Nat) ({ cls := "CrookedFrames$Lures", name := "reachAll", desc := "(LCrookedFrames$House;[I)V" } : Jvm.MethodName)) ∈ gT := gT_of (List.mem_of_getElem? (i := 673) (by decide +kernel)) rfl
theorem kw_675 : (Jvm.Cond.instanceMethod ({ cls := "CrookedFrames$Lures", name := "reachAll", desc := "(LCrookedFrames$House;[I)V" } : Jvm.MethodName)) ∈ gT := gT_of (List.mem_of_getElem? (i := 675) (by decide +kernel)) rfl
theorem kw_677 : (Jvm.Cond.methodLink "CrookedFrames$Lures" (62 : Nat) ({ cls := "CrookedFrames$Lures", name := "reach", desc := "(LCrookedFrames$House;III)V" } : Jvm.MethodName)) ∈ gT := gT_of (List.mem_of_getElem? (i := 677) (by decide +kernel)) rfl
theorem kw_679 : (Jvm.Cond.instanceMethod ({ cls := "CrookedFrames$Lures", name := "reach", desc := "(LCrookedFrames$House;III)V" } : Jvm.MethodName)) ∈ gT := gT_of (List.mem_of_getElem? (i := 679) (by decide +kernel)) rfl
theorem kw_681 : (Jvm.Cond.methodLink "CrookedFrames$Lures" (79 : Nat) ({ cls := "CrookedFrames$Lures", name := "isEntered", desc := "(LCrookedFrames$House;I)Z" } : Jvm.MethodName)) ∈ gT := gT_of (List.mem_of_getElem? (i := 681) (by decide +kernel)) rfl
theorem kw_682 : (Jvm.Cond.static ({ cls := "CrookedFrames$Lures", name := "isEntered", desc := "(LCrookedFrames$House;I)Z" } : Jvm.MethodName)) ∈ gT := gT_of (List.mem_of_getElem? (i := 682) (by decide +kernel)) rfl
theorem kw_684 : (Jvm.Cond.methodLink "CrookedFrames$Lures" (88 : Nat) ({ cls := "CrookedFrames$Lures", name := "addReached", desc := "(II)V" } : Jvm.MethodName)) ∈ gT := gT_of (List.mem_of_getElem? (i := 684) (by decide +kernel)) rfl
theorem kw_686 : (Jvm.Cond.instanceMethod ({ cls := "CrookedFrames$Lures", name := "addReached", desc := "(II)V" } : Jvm.MethodName)) ∈ gT := gT_of (List.mem_of_getElem? (i := 686) (by decide +kernel)) rfl
theorem kw_688 : (Jvm.Cond.methodLink "CrookedFrames$Lures" (55 : Nat) ({ cls := "CrookedFrames$Lures", name := "isWonByReached", desc := "(LCrookedFrames$House;[III)Z" } : Jvm.MethodName)) ∈ gT := gT_of (List.mem_of_getElem? (i := 688) (by decide +kernel)) rfl
theorem kw_690 : (Jvm.Cond.instanceMethod ({ cls := "CrookedFrames$Lures", name := "isWonByReached", desc := "(LCrookedFrames$House;[III)Z" } : Jvm.MethodName)) ∈ gT := gT_of (List.mem_of_getElem? (i := 690) (by decide +kernel)) rfl
theorem kw_692 : (Jvm.Cond.methodLink "CrookedFrames$Lures" (59 : Nat) ({ cls := "CrookedFrames$Lures", name := "isWonByBoth", desc := "(LCrookedFrames$House;[IIII)Z" } : Jvm.MethodName)) ∈ gT := gT_of (List.mem_of_getElem? (i := 692) (by decide +kernel)) rfl
theorem kw_694 : (Jvm.Cond.instanceMethod ({ cls := "CrookedFrames$Lures", name := "isWonByBoth", desc := "(LCrookedFrames$House;[IIII)Z" } : Jvm.MethodName)) ∈ gT := gT_of (List.mem_of_getElem? (i := 694) (by decide +kernel)) rfl
theorem kw_700 : (Jvm.Cond.methodLink "CrookedFrames" (207 : Nat) ({ cls := "CrookedFrames$Lures", name := "anybodyByOne", desc := "(LCrookedFrames$House;[I)I" } : Jvm.MethodName)) ∈ gT := gT_of (List.mem_of_getElem? (i := 700) (by decide +kernel)) rfl
theorem kw_701 : (Jvm.Cond.instanceMethod ({ cls := "CrookedFrames$Lures", name := "anybodyByOne", desc := "(LCrookedFrames$House;[I)I" } : Jvm.MethodName)) ∈ gT := gT_of (List.mem_of_getElem? (i := 701) (by decide +kernel)) rfl
theorem kw_702 : (Jvm.Cond.selects "CrookedFrames$Lures" ({ cls := "CrookedFrames$Lures", name := "anybodyByOne", desc := "(LCrookedFrames$House;[I)I" } : Jvm.MethodName) ({ cls := "CrookedFrames$Lures", name := "anybodyByOne", desc := "(LCrookedFrames$House;[I)I" } : Jvm.MethodName)) ∈ gT := gT_of (List.mem_of_getElem? (i := 702) (by decide +kernel)) rfl
theorem kw_708 : (Jvm.Cond.methodLink "CrookedFrames" (211 : Nat) ({ cls := "java/lang/Math", name := "abs", desc := "(I)I" } : Jvm.MethodName)) ∈ gT := gT_of (List.mem_of_getElem? (i := 708) (by decide +kernel)) rfl
theorem kw_709 : (Jvm.Cond.methodLink "CrookedFrames" (216 : Nat) ({ cls := "CrookedFrames$House", name := "farthestBorneIn", desc := "(I)I" } : Jvm.MethodName)) ∈ gT := gT_of (List.mem_of_getElem? (i := 709) (by decide +kernel)) rfl
theorem kw_710 : (Jvm.Cond.instanceMethod ({ cls := "CrookedFrames$House", name := "farthestBorneIn", desc := "(I)I" } : Jvm.MethodName)) ∈ gT := gT_of (List.mem_of_getElem? (i := 710) (by decide +kernel)) rfl
theorem kw_711 : (Jvm.Cond.selects "CrookedFrames$House" ({ cls := "CrookedFrames$House", name := "farthestBorneIn", desc := "(I)I" } : Jvm.MethodName) ({ cls := "CrookedFrames$House", name := "farthestBorneIn", desc := "(I)I" } : Jvm.MethodName)) ∈ gT := gT_of (List.mem_of_getElem? (i := 711) (by decide +kernel)) rfl
theorem kw_713 : (Jvm.Cond.methodLink "CrookedFrames$House" (118 : Nat) ({ cls := "java/lang/Math", name := "min", desc := "(II)I" } : Jvm.MethodName)) ∈ gT := gT_of (List.mem_of_getElem? (i := 713) (by decide +kernel)) rfl
theorem kw_718 : (Jvm.Cond.methodLink "CrookedFrames" (219 : Nat) ({ cls := "CrookedFrames$Sights", name := "add", desc := "(II)Z" } : Jvm.MethodName)) ∈ gT := gT_of (List.mem_of_getElem? (i := 718) (by decide +kernel)) rfl
theorem kw_719 : (Jvm.Cond.instanceMethod ({ cls := "CrookedFrames$Sights", name := "add", desc := "(II)Z" } : Jvm.MethodName)) ∈ gT := gT_of (List.mem_of_getElem? (i := 719) (by decide +kernel)) rfl
theorem kw_720 : (Jvm.Cond.selects "CrookedFrames$Sights" ({ cls := "CrookedFrames$Sights", name := "add", desc := "(II)Z" } : Jvm.MethodName) ({ cls := "CrookedFrames$Sights", name := "add", desc := "(II)Z" } : Jvm.MethodName)) ∈ gT := gT_of (List.mem_of_getElem? (i := 720) (by decide +kernel)) rfl
theorem kw_730 : (Jvm.Cond.methodLink "CrookedFrames" (223 : Nat) ({ cls := "CrookedFrames$Sights", name := "fitting", desc := "(I)I" } : Jvm.MethodName)) ∈ gT := gT_of (List.mem_of_getElem? (i := 730) (by decide +kernel)) rfl
theorem kw_731 : (Jvm.Cond.instanceMethod ({ cls := "CrookedFrames$Sights", name := "fitting", desc := "(I)I" } : Jvm.MethodName)) ∈ gT := gT_of (List.mem_of_getElem? (i := 731) (by decide +kernel)) rfl
theorem kw_732 : (Jvm.Cond.selects "CrookedFrames$Sights" ({ cls := "CrookedFrames$Sights", name := "fitting", desc := "(I)I" } : Jvm.MethodName) ({ cls := "CrookedFrames$Sights", name := "fitting", desc := "(I)I" } : Jvm.MethodName)) ∈ gT := gT_of (List.mem_of_getElem? (i := 732) (by decide +kernel)) rfl
theorem kw_734 : (Jvm.Cond.methodLink "CrookedFrames$Sights" (25 : Nat) ({ cls := "CrookedFrames$Sights", name := "fits", desc := "(II)Z" } : Jvm.MethodName)) ∈ gT := gT_of (List.mem_of_getElem? (i := 734) (by decide +kernel)) rfl
theorem kw_736 : (Jvm.Cond.instanceMethod ({ cls := "CrookedFrames$Sights", name := "fits", desc := "(II)Z" } : Jvm.MethodName)) ∈ gT := gT_of (List.mem_of_getElem? (i := 736) (by decide +kernel)) rfl
theorem kw_738 : (Jvm.Cond.methodLink "CrookedFrames$Sights" (29 : Nat) ({ cls := "CrookedFrames$Habit", name := "settle", desc := "(III)I" } : Jvm.MethodName)) ∈ gT := gT_of (List.mem_of_getElem? (i := 738) (by decide +kernel)) rfl
theorem kw_743 : (Jvm.Cond.methodLink "CrookedFrames" (226 : Nat) ({ cls := "CrookedFrames$Sights", name := "bestLook", desc := "(II)I" } : Jvm.MethodName)) ∈ gT := gT_of (List.mem_of_getElem? (i := 743) (by decide +kernel)) rfl
theorem kw_744 : (Jvm.Cond.instanceMethod ({ cls := "CrookedFrames$Sights", name := "bestLook", desc := "(II)I" } : Jvm.MethodName)) ∈ gT := gT_of (List.mem_of_getElem? (i := 744) (by decide +kernel)) rfl
theorem kw_745 : (Jvm.Cond.selects "CrookedFrames$Sights" ({ cls := "CrookedFrames$Sights", name := "bestLook", desc := "(II)I" } : Jvm.MethodName) ({ cls := "CrookedFrames$Sights", name := "bestLook", desc := "(II)I" } : Jvm.MethodName)) ∈ gT := gT_of (List.mem_of_getElem? (i := 745) (by decide +kernel)) rfl
theorem kw_747 : (Jvm.Cond.methodLink "CrookedFrames$Sights" (35 : Nat) ({ cls := "CrookedFrames$Sights", name := "mostAlike", desc := "(III)I" } : Jvm.MethodName)) ∈ gT := gT_of (List.mem_of_getElem? (i := 747) (by decide +kernel)) rfl
theorem kw_748 : (Jvm.Cond.instanceMethod ({ cls := "CrookedFrames$Sights", name := "mostAlike", desc := "(III)I" } : Jvm.MethodName)) ∈ gT := gT_of (List.mem_of_getElem? (i := 748) (by decide +kernel)) rfl
theorem kw_749 : (Jvm.Cond.selects "CrookedFrames$Sights" ({ cls := "CrookedFrames$Sights", name := "mostAlike", desc := "(III)I" } : Jvm.MethodName) ({ cls := "CrookedFrames$Sights", name := "mostAlike", desc := "(III)I" } : Jvm.MethodName)) ∈ gT := gT_of (List.mem_of_getElem? (i := 749) (by decide +kernel)) rfl
theorem kw_751 : (Jvm.Cond.methodLink "CrookedFrames$Sights" (38 : Nat) ({ cls := "java/util/Arrays", name := "fill", desc := "([II)V" } : Jvm.MethodName)) ∈ gT := gT_of (List.mem_of_getElem? (i := 751) (by decide +kernel)) rfl
theorem kw_752 : (Jvm.Cond.methodLinkNest "CrookedFrames$Sights" (44 : Nat) ({ cls := "CrookedFrames", name := "keptWithin", desc := "(I)I" } : Jvm.MethodName) "CrookedFrames") ∈ nT := nT_of (List.mem_of_getElem? (i := 752) (by decide +kernel)) rfl
theorem kw_753 : (Jvm.Cond.methodLink "CrookedFrames$Sights" (48 : Nat) ({ cls := "java/lang/Math", name := "max", desc := "(II)I" } : Jvm.MethodName)) ∈ gT := gT_of (List.mem_of_getElem? (i := 753) (by decide +kernel)) rfl
theorem kw_754 : (Jvm.Cond.methodLink "CrookedFrames" (230 : Nat) ({ cls := "CrookedFrames$Sights", name := "mostAlike", desc := "(III)I" } : Jvm.MethodName)) ∈ gT := gT_of (List.mem_of_getElem? (i := 754) (by decide +kernel)) rfl
theorem kw_759 : (Jvm.Cond.methodLink "CrookedFrames" (234 : Nat) ({ cls := "CrookedFrames$House", name := "setBy", desc := "(II)I" } : Jvm.MethodName)) ∈ gT := gT_of (List.mem_of_getElem? (i := 759) (by decide +kernel)) rfl
theorem kw_768 : (Jvm.Cond.methodLink "CrookedFrames" (237 : Nat) ({ cls := "CrookedFrames$Chance", name := "twist", desc := "(III)V" } : Jvm.MethodName)) ∈ gT := gT_of (List.mem_of_getElem? (i := 768) (by decide +kernel)) rfl
theorem kw_769 : (Jvm.Cond.instanceMethod ({ cls := "CrookedFrames$Chance", name := "twist", desc := "(III)V" } : Jvm.MethodName)) ∈ gT := gT_of (List.mem_of_getElem? (i := 769) (by decide +kernel)) rfl
theorem kw_770 : (Jvm.Cond.selects "CrookedFrames$Chance" ({ cls := "CrookedFrames$Chance", name := "twist", desc := "(III)V" } : Jvm.MethodName) ({ cls := "CrookedFrames$Chance", name := "twist", desc := "(III)V" } : Jvm.MethodName)) ∈ gT := gT_of (List.mem_of_getElem? (i := 770) (by decide +kernel)) rfl
theorem kw_772 : (Jvm.Cond.methodLink "CrookedFrames$Chance" (18 : Nat) ({ cls := "java/util/Arrays", name := "fill", desc := "([II)V" } : Jvm.MethodName)) ∈ gT := gT_of (List.mem_of_getElem? (i := 772) (by decide +kernel)) rfl
theorem kw_773 : (Jvm.Cond.methodLink "CrookedFrames" (240 : Nat) ({ cls := "CrookedFrames$Chance", name := "waysWithin", desc := "(II)I" } : Jvm.MethodName)) ∈ gT := gT_of (List.mem_of_getElem? (i := 773) (by decide +kernel)) rfl
theorem kw_774 : (Jvm.Cond.instanceMethod ({ cls := "CrookedFrames$Chance", name := "waysWithin", desc := "(II)I" } : Jvm.MethodName)) ∈ gT := gT_of (List.mem_of_getElem? (i := 774) (by decide +kernel)) rfl
theorem kw_775 : (Jvm.Cond.selects "CrookedFrames$Chance" ({ cls := "CrookedFrames$Chance", name := "waysWithin", desc := "(II)I" } : Jvm.MethodName) ({ cls := "CrookedFrames$Chance", name := "waysWithin", desc := "(II)I" } : Jvm.MethodName)) ∈ gT := gT_of (List.mem_of_getElem? (i := 775) (by decide +kernel)) rfl
theorem kw_777 : (Jvm.Cond.methodLink "CrookedFrames$Chance" (24 : Nat) ({ cls := "java/lang/Math", name := "abs", desc := "(I)I" } : Jvm.MethodName)) ∈ gT := gT_of (List.mem_of_getElem? (i := 777) (by decide +kernel)) rfl
theorem kw_778 : (Jvm.Cond.methodLink "CrookedFrames" (243 : Nat) ({ cls := "CrookedFrames$Chance", name := "allWays", desc := "(I)I" } : Jvm.MethodName)) ∈ gT := gT_of (List.mem_of_getElem? (i := 778) (by decide +kernel)) rfl
theorem kw_779 : (Jvm.Cond.instanceMethod ({ cls := "CrookedFrames$Chance", name := "allWays", desc := "(I)I" } : Jvm.MethodName)) ∈ gT := gT_of (List.mem_of_getElem? (i := 779) (by decide +kernel)) rfl
theorem kw_780 : (Jvm.Cond.selects "CrookedFrames$Chance" ({ cls := "CrookedFrames$Chance", name := "allWays", desc := "(I)I" } : Jvm.MethodName) ({ cls := "CrookedFrames$Chance", name := "allWays", desc := "(I)I" } : Jvm.MethodName)) ∈ gT := gT_of (List.mem_of_getElem? (i := 780) (by decide +kernel)) rfl
theorem kw_782 : (Jvm.Cond.methodLink "CrookedFrames" (246 : Nat) ({ cls := "CrookedFrames$Chance", name := "commonDivisor", desc := "(II)I" } : Jvm.MethodName)) ∈ gT := gT_of (List.mem_of_getElem? (i := 782) (by decide +kernel)) rfl
theorem kw_783 : (Jvm.Cond.static ({ cls := "CrookedFrames$Chance", name := "commonDivisor", desc := "(II)I" } : Jvm.MethodName)) ∈ gT := gT_of (List.mem_of_getElem? (i := 783) (by decide +kernel)) rfl
theorem kw_789 : (Jvm.Cond.methodLink "CrookedFrames" (249 : Nat) ({ cls := "CrookedFrames$Days", name := "daysWon", desc := "(I)I" } : Jvm.MethodName)) ∈ gT := gT_of (List.mem_of_getElem? (i := 789) (by decide +kernel)) rfl
theorem kw_790 : (Jvm.Cond.instanceMethod ({ cls := "CrookedFrames$Days", name := "daysWon", desc := "(I)I" } : Jvm.MethodName)) ∈ gT := gT_of (List.mem_of_getElem? (i := 790) (by decide +kernel)) rfl
theorem kw_791 : (Jvm.Cond.selects "CrookedFrames$Days" ({ cls := "CrookedFrames$Days", name := "daysWon", desc := "(I)I" } : Jvm.MethodName) ({ cls := "CrookedFrames$Days", name := "daysWon", desc := "(I)I" } : Jvm.MethodName)) ∈ gT := gT_of (List.mem_of_getElem? (i := 791) (by decide +kernel)) rfl
theorem kw_801 : (Jvm.Cond.methodLink "CrookedFrames" (252 : Nat) ({ cls := "CrookedFrames$Draws", name := "play", desc := "(LCrookedFrames$House;I)I" } : Jvm.MethodName)) ∈ gT := gT_of (List.mem_of_getElem? (i := 801) (by decide +kernel)) rfl
theorem kw_802 : (Jvm.Cond.instanceMethod ({ cls := "CrookedFrames$Draws", name := "play", desc := "(LCrookedFrames$House;I)I" } : Jvm.MethodName)) ∈ gT := gT_of (List.mem_of_getElem? (i := 802) (by decide +kernel)) rfl
theorem kw_803 : (Jvm.Cond.selects "CrookedFrames$Draws" ({ cls := "CrookedFrames$Draws", name := "play", desc := "(LCrookedFrames$House;I)I" } : Jvm.MethodName) ({ cls := "CrookedFrames$Draws", name := "play", desc := "(LCrookedFrames$House;I)I" } : Jvm.MethodName)) ∈ gT := gT_of (List.mem_of_getElem? (i := 803) (by decide +kernel)) rfl
theorem kw_805 : (Jvm.Cond.methodLink "CrookedFrames$Draws" (23 : Nat) ({ cls := "java/lang/System", name := "arraycopy", desc := "(Ljava/lang/Object;ILjava/lang/Object;II)V" } : Jvm.MethodName)) ∈ gT := gT_of (List.mem_of_getElem? (i := 805) (by decide +kernel)) rfl
theorem kw_806 : (Jvm.Cond.methodLink "CrookedFrames$Draws" (29 : Nat) ({ cls := "CrookedFrames$House", name := "twist", desc := "([I)V" } : Jvm.MethodName)) ∈ gT := gT_of (List.mem_of_getElem? (i := 806) (by decide +kernel)) rfl
theorem kw_807 : (Jvm.Cond.methodLink "CrookedFrames$Draws" (37 : Nat) ({ cls := "CrookedFrames$Draws", name := "draw", desc := "(II)I" } : Jvm.MethodName)) ∈ gT := gT_of (List.mem_of_getElem? (i := 807) (by decide +kernel)) rfl
theorem kw_808 : (Jvm.Cond.static ({ cls := "CrookedFrames$Draws", name := "draw", desc := "(II)I" } : Jvm.MethodName)) ∈ gT := gT_of (List.mem_of_getElem? (i := 808) (by decide +kernel)) rfl
theorem kw_810 : (Jvm.Cond.constantLong "CrookedFrames$Draws" (58 : Nat) (7919 : Int64)) ∈ gT := gT_of (List.mem_of_getElem? (i := 810) (by decide +kernel)) rfl
theorem kw_811 : (Jvm.Cond.constantLong "CrookedFrames$Draws" (60 : Nat) (6151 : Int64)) ∈ gT := gT_of (List.mem_of_getElem? (i := 811) (by decide +kernel)) rfl
theorem kw_812 : (Jvm.Cond.constantLong "CrookedFrames$Draws" (62 : Nat) (65521 : Int64)) ∈ gT := gT_of (List.mem_of_getElem? (i := 812) (by decide +kernel)) rfl
theorem kw_813 : (Jvm.Cond.methodLink "CrookedFrames$Draws" (41 : Nat) ({ cls := "CrookedFrames$Draws", name := "turnOne", desc := "(II)V" } : Jvm.MethodName)) ∈ gT := gT_of (List.mem_of_getElem? (i := 813) (by decide +kernel)) rfl
theorem kw_815 : (Jvm.Cond.instanceMethod ({ cls := "CrookedFrames$Draws", name := "turnOne", desc := "(II)V" } : Jvm.MethodName)) ∈ gT := gT_of (List.mem_of_getElem? (i := 815) (by decide +kernel)) rfl
theorem kw_817 : (Jvm.Cond.methodLinkNest "CrookedFrames$Draws" (55 : Nat) ({ cls := "CrookedFrames", name := "keptWithin", desc := "(I)I" } : Jvm.MethodName) "CrookedFrames") ∈ nT := nT_of (List.mem_of_getElem? (i := 817) (by decide +kernel)) rfl
theorem kw_818 : (Jvm.Cond.methodLink "CrookedFrames$Draws" (45 : Nat) ({ cls := "CrookedFrames$House", name := "letCome", desc := "([I[I)I" } : Jvm.MethodName)) ∈ gT := gT_of (List.mem_of_getElem? (i := 818) (by decide +kernel)) rfl
theorem kw_819 : (Jvm.Cond.methodLink "CrookedFrames$Draws" (49 : Nat) ({ cls := "java/lang/Integer", name := "bitCount", desc := "(I)I" } : Jvm.MethodName)) ∈ gT := gT_of (List.mem_of_getElem? (i := 819) (by decide +kernel)) rfl
theorem kw_820 : (Jvm.Cond.static ({ cls := "java/lang/Integer", name := "bitCount", desc := "(I)I" } : Jvm.MethodName)) ∈ gT := gT_of (List.mem_of_getElem? (i := 820) (by decide +kernel)) rfl
theorem kw_822 : (Jvm.Cond.constant "java/lang/Integer" (265 : Nat) (1431655765 : Int32)) ∈ gT := gT_of (List.mem_of_getElem? (i := 822) (by decide +kernel)) rfl
theorem kw_823 : (Jvm.Cond.constant "java/lang/Integer" (266 : Nat) (858993459 : Int32)) ∈ gT := gT_of (List.mem_of_getElem? (i := 823) (by decide +kernel)) rfl
theorem kw_824 : (Jvm.Cond.constant "java/lang/Integer" (267 : Nat) (252645135 : Int32)) ∈ gT := gT_of (List.mem_of_getElem? (i := 824) (by decide +kernel)) rfl
theorem kw_843 : (Jvm.Cond.methodLink "CrookedFramesModel" (80 : Nat) ({ cls := "CrookedFramesModel", name := "lays", desc := "([IIIII)V" } : Jvm.MethodName)) ∈ gT := gT_of (List.mem_of_getElem? (i := 843) (by decide +kernel)) rfl
theorem kw_844 : (Jvm.Cond.static ({ cls := "CrookedFramesModel", name := "lays", desc := "([IIIII)V" } : Jvm.MethodName)) ∈ gT := gT_of (List.mem_of_getElem? (i := 844) (by decide +kernel)) rfl
theorem kw_846 : (Jvm.Cond.methodLink "CrookedFramesModel" (84 : Nat) ({ cls := "CrookedFramesModel", name := "orders", desc := "()V" } : Jvm.MethodName)) ∈ gT := gT_of (List.mem_of_getElem? (i := 846) (by decide +kernel)) rfl
theorem kw_848 : (Jvm.Cond.instanceMethod ({ cls := "CrookedFramesModel", name := "orders", desc := "()V" } : Jvm.MethodName)) ∈ gT := gT_of (List.mem_of_getElem? (i := 848) (by decide +kernel)) rfl
theorem kw_951 : (Jvm.Cond.methodLink "CrookedFramesModel" (87 : Nat) ({ cls := "CrookedFramesModel", name := "in", desc := "(III)Z" } : Jvm.MethodName)) ∈ gT := gT_of (List.mem_of_getElem? (i := 951) (by decide +kernel)) rfl
theorem kw_952 : (Jvm.Cond.static ({ cls := "CrookedFramesModel", name := "in", desc := "(III)Z" } : Jvm.MethodName)) ∈ gT := gT_of (List.mem_of_getElem? (i := 952) (by decide +kernel)) rfl
theorem kw_959 : (Jvm.Cond.instanceMethod ({ cls := "CrookedFramesModel", name := "fault", desc := "()I" } : Jvm.MethodName)) ∈ gT := gT_of (List.mem_of_getElem? (i := 959) (by decide +kernel)) rfl
theorem kw_960 : (Jvm.Cond.selects "CrookedFramesModel" ({ cls := "CrookedFramesModel", name := "fault", desc := "()I" } : Jvm.MethodName) ({ cls := "CrookedFramesModel", name := "fault", desc := "()I" } : Jvm.MethodName)) ∈ gT := gT_of (List.mem_of_getElem? (i := 960) (by decide +kernel)) rfl
theorem kw_962 : (Jvm.Cond.methodLink "CrookedFramesModel" (143 : Nat) ({ cls := "CrookedFramesModel", name := "readItem", desc := "()Z" } : Jvm.MethodName)) ∈ gT := gT_of (List.mem_of_getElem? (i := 962) (by decide +kernel)) rfl
theorem kw_964 : (Jvm.Cond.instanceMethod ({ cls := "CrookedFramesModel", name := "readItem", desc := "()Z" } : Jvm.MethodName)) ∈ gT := gT_of (List.mem_of_getElem? (i := 964) (by decide +kernel)) rfl
theorem kw_966 : (Jvm.Cond.methodLink "CrookedFramesModel" (97 : Nat) ({ cls := "CrookedFramesModel", name := "letterAt", desc := "(I)I" } : Jvm.MethodName)) ∈ gT := gT_of (List.mem_of_getElem? (i := 966) (by decide +kernel)) rfl
theorem kw_968 : (Jvm.Cond.instanceMethod ({ cls := "CrookedFramesModel", name := "letterAt", desc := "(I)I" } : Jvm.MethodName)) ∈ gT := gT_of (List.mem_of_getElem? (i := 968) (by decide +kernel)) rfl
theorem kw_970 : (Jvm.Cond.methodLink "CrookedFramesModel" (124 : Nat) ({ cls := "CrookedFramesModel", name := "readFrameOf", desc := "()Z" } : Jvm.MethodName)) ∈ gT := gT_of (List.mem_of_getElem? (i := 970) (by decide +kernel)) rfl
theorem kw_972 : (Jvm.Cond.instanceMethod ({ cls := "CrookedFramesModel", name := "readFrameOf", desc := "()Z" } : Jvm.MethodName)) ∈ gT := gT_of (List.mem_of_getElem? (i := 972) (by decide +kernel)) rfl
theorem kw_974 : (Jvm.Cond.methodLink "CrookedFramesModel" (108 : Nat) ({ cls := "CrookedFramesModel", name := "readNumbers", desc := "(I)Z" } : Jvm.MethodName)) ∈ gT := gT_of (List.mem_of_getElem? (i := 974) (by decide +kernel)) rfl
theorem kw_976 : (Jvm.Cond.instanceMethod ({ cls := "CrookedFramesModel", name := "readNumbers", desc := "(I)Z" } : Jvm.MethodName)) ∈ gT := gT_of (List.mem_of_getElem? (i := 976) (by decide +kernel)) rfl
theorem kw_978 : (Jvm.Cond.methodLink "CrookedFramesModel" (101 : Nat) ({ cls := "CrookedFramesModel", name := "isFigure", desc := "(I)Z" } : Jvm.MethodName)) ∈ gT := gT_of (List.mem_of_getElem? (i := 978) (by decide +kernel)) rfl
theorem kw_979 : (Jvm.Cond.static ({ cls := "CrookedFramesModel", name := "isFigure", desc := "(I)Z" } : Jvm.MethodName)) ∈ gT := gT_of (List.mem_of_getElem? (i := 979) (by decide +kernel)) rfl
theorem kw_981 : (Jvm.Cond.methodLink "CrookedFramesModel" (111 : Nat) ({ cls := "CrookedFramesModel", name := "isTold", desc := "(III)Z" } : Jvm.MethodName)) ∈ gT := gT_of (List.mem_of_getElem? (i := 981) (by decide +kernel)) rfl
theorem kw_983 : (Jvm.Cond.instanceMethod ({ cls := "CrookedFramesModel", name := "isTold", desc := "(III)Z" } : Jvm.MethodName)) ∈ gT := gT_of (List.mem_of_getElem? (i := 983) (by decide +kernel)) rfl
theorem kw_985 : (Jvm.Cond.methodLink "CrookedFramesModel" (128 : Nat) ({ cls := "CrookedFramesModel", name := "readTwist", desc := "()Z" } : Jvm.MethodName)) ∈ gT := gT_of (List.mem_of_getElem? (i := 985) (by decide +kernel)) rfl
theorem kw_987 : (Jvm.Cond.instanceMethod ({ cls := "CrookedFramesModel", name := "readTwist", desc := "()Z" } : Jvm.MethodName)) ∈ gT := gT_of (List.mem_of_getElem? (i := 987) (by decide +kernel)) rfl
theorem kw_989 : (Jvm.Cond.methodLink "CrookedFramesModel" (131 : Nat) ({ cls := "CrookedFramesModel", name := "readPersonOf", desc := "()Z" } : Jvm.MethodName)) ∈ gT := gT_of (List.mem_of_getElem? (i := 989) (by decide +kernel)) rfl
theorem kw_991 : (Jvm.Cond.instanceMethod ({ cls := "CrookedFramesModel", name := "readPersonOf", desc := "()Z" } : Jvm.MethodName)) ∈ gT := gT_of (List.mem_of_getElem? (i := 991) (by decide +kernel)) rfl
theorem kw_993 : (Jvm.Cond.methodLink "CrookedFramesModel" (117 : Nat) ({ cls := "CrookedFramesModel", name := "put", desc := "([II[II)V" } : Jvm.MethodName)) ∈ gT := gT_of (List.mem_of_getElem? (i := 993) (by decide +kernel)) rfl
theorem kw_994 : (Jvm.Cond.static ({ cls := "CrookedFramesModel", name := "put", desc := "([II[II)V" } : Jvm.MethodName)) ∈ gT := gT_of (List.mem_of_getElem? (i := 994) (by decide +kernel)) rfl
theorem kw_996 : (Jvm.Cond.methodLink "CrookedFramesModel" (134 : Nat) ({ cls := "CrookedFramesModel", name := "readComingOf", desc := "()Z" } : Jvm.MethodName)) ∈ gT := gT_of (List.mem_of_getElem? (i := 996) (by decide +kernel)) rfl
theorem kw_998 : (Jvm.Cond.instanceMethod ({ cls := "CrookedFramesModel", name := "readComingOf", desc := "()Z" } : Jvm.MethodName)) ∈ gT := gT_of (List.mem_of_getElem? (i := 998) (by decide +kernel)) rfl
theorem kw_1000 : (Jvm.Cond.methodLink "CrookedFramesModel" (137 : Nat) ({ cls := "CrookedFramesModel", name := "readTurn", desc := "()Z" } : Jvm.MethodName)) ∈ gT := gT_of (List.mem_of_getElem? (i := 1000) (by decide +kernel)) rfl
theorem kw_1002 : (Jvm.Cond.instanceMethod ({ cls := "CrookedFramesModel", name := "readTurn", desc := "()Z" } : Jvm.MethodName)) ∈ gT := gT_of (List.mem_of_getElem? (i := 1002) (by decide +kernel)) rfl
theorem kw_1004 : (Jvm.Cond.methodLink "CrookedFramesModel" (140 : Nat) ({ cls := "CrookedFramesModel", name := "readPatch", desc := "()Z" } : Jvm.MethodName)) ∈ gT := gT_of (List.mem_of_getElem? (i := 1004) (by decide +kernel)) rfl
theorem kw_1006 : (Jvm.Cond.instanceMethod ({ cls := "CrookedFramesModel", name := "readPatch", desc := "()Z" } : Jvm.MethodName)) ∈ gT := gT_of (List.mem_of_getElem? (i := 1006) (by decide +kernel)) rfl
theorem kw_1012 : (Jvm.Cond.methodLink "CrookedFramesModel" (146 : Nat) ({ cls := "CrookedFramesModel", name := "fault", desc := "()I" } : Jvm.MethodName)) ∈ gT := gT_of (List.mem_of_getElem? (i := 1012) (by decide +kernel)) rfl
theorem kw_1017 : (Jvm.Cond.methodLink "CrookedFramesModel" (159 : Nat) ({ cls := "CrookedFramesModel", name := "isFrame", desc := "(I)Z" } : Jvm.MethodName)) ∈ gT := gT_of (List.mem_of_getElem? (i := 1017) (by decide +kernel)) rfl
theorem kw_1019 : (Jvm.Cond.instanceMethod ({ cls := "CrookedFramesModel", name := "isFrame", desc := "(I)Z" } : Jvm.MethodName)) ∈ gT := gT_of (List.mem_of_getElem? (i := 1019) (by decide +kernel)) rfl
theorem kw_1025 : (Jvm.Cond.methodLink "CrookedFramesModel" (162 : Nat) ({ cls := "CrookedFramesModel", name := "isPerson", desc := "(I)Z" } : Jvm.MethodName)) ∈ gT := gT_of (List.mem_of_getElem? (i := 1025) (by decide +kernel)) rfl
theorem kw_1027 : (Jvm.Cond.instanceMethod ({ cls := "CrookedFramesModel", name := "isPerson", desc := "(I)Z" } : Jvm.MethodName)) ∈ gT := gT_of (List.mem_of_getElem? (i := 1027) (by decide +kernel)) rfl
theorem kw_1033 : (Jvm.Cond.methodLink "CrookedFramesModel" (206 : Nat) ({ cls := "CrookedFramesModel", name := "isDay", desc := "(I)Z" } : Jvm.MethodName)) ∈ gT := gT_of (List.mem_of_getElem? (i := 1033) (by decide +kernel)) rfl
theorem kw_1034 : (Jvm.Cond.static ({ cls := "CrookedFramesModel", name := "isDay", desc := "(I)Z" } : Jvm.MethodName)) ∈ gT := gT_of (List.mem_of_getElem? (i := 1034) (by decide +kernel)) rfl
theorem kw_1036 : (Jvm.Cond.methodLink "CrookedFramesModel" (209 : Nat) ({ cls := "CrookedFramesModel", name := "goes", desc := "(I)V" } : Jvm.MethodName)) ∈ gT := gT_of (List.mem_of_getElem? (i := 1036) (by decide +kernel)) rfl
theorem kw_1038 : (Jvm.Cond.instanceMethod ({ cls := "CrookedFramesModel", name := "goes", desc := "(I)V" } : Jvm.MethodName)) ∈ gT := gT_of (List.mem_of_getElem? (i := 1038) (by decide +kernel)) rfl
theorem kw_1040 : (Jvm.Cond.methodLink "CrookedFramesModel" (196 : Nat) ({ cls := "CrookedFramesModel", name := "begins", desc := "()V" } : Jvm.MethodName)) ∈ gT := gT_of (List.mem_of_getElem? (i := 1040) (by decide +kernel)) rfl
theorem kw_1042 : (Jvm.Cond.instanceMethod ({ cls := "CrookedFramesModel", name := "begins", desc := "()V" } : Jvm.MethodName)) ∈ gT := gT_of (List.mem_of_getElem? (i := 1042) (by decide +kernel)) rfl
theorem kw_1044 : (Jvm.Cond.methodLink "CrookedFramesModel" (199 : Nat) ({ cls := "CrookedFramesModel", name := "nightOf", desc := "(I)V" } : Jvm.MethodName)) ∈ gT := gT_of (List.mem_of_getElem? (i := 1044) (by decide +kernel)) rfl
theorem kw_1046 : (Jvm.Cond.instanceMethod ({ cls := "CrookedFramesModel", name := "nightOf", desc := "(I)V" } : Jvm.MethodName)) ∈ gT := gT_of (List.mem_of_getElem? (i := 1046) (by decide +kernel)) rfl
theorem kw_1048 : (Jvm.Cond.methodLink "CrookedFramesModel" (175 : Nat) ({ cls := "CrookedFramesModel", name := "twists", desc := "()V" } : Jvm.MethodName)) ∈ gT := gT_of (List.mem_of_getElem? (i := 1048) (by decide +kernel)) rfl
theorem kw_1050 : (Jvm.Cond.instanceMethod ({ cls := "CrookedFramesModel", name := "twists", desc := "()V" } : Jvm.MethodName)) ∈ gT := gT_of (List.mem_of_getElem? (i := 1050) (by decide +kernel)) rfl
theorem kw_1052 : (Jvm.Cond.methodLink "CrookedFramesModel" (172 : Nat) ({ cls := "CrookedFramesModel", name := "within", desc := "(I)I" } : Jvm.MethodName)) ∈ gT := gT_of (List.mem_of_getElem? (i := 1052) (by decide +kernel)) rfl
theorem kw_1053 : (Jvm.Cond.static ({ cls := "CrookedFramesModel", name := "within", desc := "(I)I" } : Jvm.MethodName)) ∈ gT := gT_of (List.mem_of_getElem? (i := 1053) (by decide +kernel)) rfl
theorem kw_1055 : (Jvm.Cond.methodLink "CrookedFramesModel" (178 : Nat) ({ cls := "CrookedFramesModel", name := "turnsBy", desc := "(II)V" } : Jvm.MethodName)) ∈ gT := gT_of (List.mem_of_getElem? (i := 1055) (by decide +kernel)) rfl
theorem kw_1057 : (Jvm.Cond.instanceMethod ({ cls := "CrookedFramesModel", name := "turnsBy", desc := "(II)V" } : Jvm.MethodName)) ∈ gT := gT_of (List.mem_of_getElem? (i := 1057) (by decide +kernel)) rfl
theorem kw_1059 : (Jvm.Cond.methodLink "CrookedFramesModel" (203 : Nat) ({ cls := "CrookedFramesModel", name := "morning", desc := "()V" } : Jvm.MethodName)) ∈ gT := gT_of (List.mem_of_getElem? (i := 1059) (by decide +kernel)) rfl
theorem kw_1061 : (Jvm.Cond.instanceMethod ({ cls := "CrookedFramesModel", name := "morning", desc := "()V" } : Jvm.MethodName)) ∈ gT := gT_of (List.mem_of_getElem? (i := 1061) (by decide +kernel)) rfl
theorem kw_1063 : (Jvm.Cond.methodLink "CrookedFramesModel" (193 : Nat) ({ cls := "CrookedFramesModel", name := "comes", desc := "(II)V" } : Jvm.MethodName)) ∈ gT := gT_of (List.mem_of_getElem? (i := 1063) (by decide +kernel)) rfl
theorem kw_1065 : (Jvm.Cond.instanceMethod ({ cls := "CrookedFramesModel", name := "comes", desc := "(II)V" } : Jvm.MethodName)) ∈ gT := gT_of (List.mem_of_getElem? (i := 1065) (by decide +kernel)) rfl
theorem kw_1067 : (Jvm.Cond.methodLink "CrookedFramesModel" (185 : Nat) ({ cls := "CrookedFramesModel", name := "has", desc := "(II)Z" } : Jvm.MethodName)) ∈ gT := gT_of (List.mem_of_getElem? (i := 1067) (by decide +kernel)) rfl
theorem kw_1068 : (Jvm.Cond.static ({ cls := "CrookedFramesModel", name := "has", desc := "(II)Z" } : Jvm.MethodName)) ∈ gT := gT_of (List.mem_of_getElem? (i := 1068) (by decide +kernel)) rfl
theorem kw_1070 : (Jvm.Cond.methodLink "CrookedFramesModel" (189 : Nat) ({ cls := "CrookedFramesModel", name := "madeBy", desc := "(II)I" } : Jvm.MethodName)) ∈ gT := gT_of (List.mem_of_getElem? (i := 1070) (by decide +kernel)) rfl
theorem kw_1072 : (Jvm.Cond.instanceMethod ({ cls := "CrookedFramesModel", name := "madeBy", desc := "(II)I" } : Jvm.MethodName)) ∈ gT := gT_of (List.mem_of_getElem? (i := 1072) (by decide +kernel)) rfl
theorem kw_1074 : (Jvm.Cond.methodLink "CrookedFramesModel" (168 : Nat) ({ cls := "CrookedFramesModel", name := "madeOf", desc := "(III)I" } : Jvm.MethodName)) ∈ gT := gT_of (List.mem_of_getElem? (i := 1074) (by decide +kernel)) rfl
theorem kw_1075 : (Jvm.Cond.static ({ cls := "CrookedFramesModel", name := "madeOf", desc := "(III)I" } : Jvm.MethodName)) ∈ gT := gT_of (List.mem_of_getElem? (i := 1075) (by decide +kernel)) rfl
theorem kw_1077 : (Jvm.Cond.methodLink "CrookedFramesModel" (165 : Nat) ({ cls := "CrookedFramesModel", name := "size", desc := "(I)I" } : Jvm.MethodName)) ∈ gT := gT_of (List.mem_of_getElem? (i := 1077) (by decide +kernel)) rfl
theorem kw_1078 : (Jvm.Cond.static ({ cls := "CrookedFramesModel", name := "size", desc := "(I)I" } : Jvm.MethodName)) ∈ gT := gT_of (List.mem_of_getElem? (i := 1078) (by decide +kernel)) rfl
theorem kw_1096 : (Jvm.Cond.methodLink "CrookedFramesModel" (212 : Nat) ({ cls := "CrookedFramesModel", name := "bits", desc := "(I)I" } : Jvm.MethodName)) ∈ gT := gT_of (List.mem_of_getElem? (i := 1096) (by decide +kernel)) rfl
theorem kw_1097 : (Jvm.Cond.static ({ cls := "CrookedFramesModel", name := "bits", desc := "(I)I" } : Jvm.MethodName)) ∈ gT := gT_of (List.mem_of_getElem? (i := 1097) (by decide +kernel)) rfl
theorem kw_1107 : (Jvm.Cond.methodLink "CrookedFramesModel" (215 : Nat) ({ cls := "CrookedFramesModel", name := "remembers", desc := "()V" } : Jvm.MethodName)) ∈ gT := gT_of (List.mem_of_getElem? (i := 1107) (by decide +kernel)) rfl
theorem kw_1109 : (Jvm.Cond.instanceMethod ({ cls := "CrookedFramesModel", name := "remembers", desc := "()V" } : Jvm.MethodName)) ∈ gT := gT_of (List.mem_of_getElem? (i := 1109) (by decide +kernel)) rfl
theorem kw_1123 : (Jvm.Cond.methodLink "CrookedFramesModel" (227 : Nat) ({ cls := "CrookedFramesModel", name := "tempted", desc := "(I)I" } : Jvm.MethodName)) ∈ gT := gT_of (List.mem_of_getElem? (i := 1123) (by decide +kernel)) rfl
theorem kw_1125 : (Jvm.Cond.instanceMethod ({ cls := "CrookedFramesModel", name := "tempted", desc := "(I)I" } : Jvm.MethodName)) ∈ gT := gT_of (List.mem_of_getElem? (i := 1125) (by decide +kernel)) rfl
theorem kw_1127 : (Jvm.Cond.methodLink "CrookedFramesModel" (224 : Nat) ({ cls := "CrookedFramesModel", name := "tries", desc := "(I)V" } : Jvm.MethodName)) ∈ gT := gT_of (List.mem_of_getElem? (i := 1127) (by decide +kernel)) rfl
theorem kw_1129 : (Jvm.Cond.instanceMethod ({ cls := "CrookedFramesModel", name := "tries", desc := "(I)V" } : Jvm.MethodName)) ∈ gT := gT_of (List.mem_of_getElem? (i := 1129) (by decide +kernel)) rfl
theorem kw_1131 : (Jvm.Cond.methodLink "CrookedFramesModel" (218 : Nat) ({ cls := "CrookedFramesModel", name := "fromDawn", desc := "()V" } : Jvm.MethodName)) ∈ gT := gT_of (List.mem_of_getElem? (i := 1131) (by decide +kernel)) rfl
theorem kw_1133 : (Jvm.Cond.instanceMethod ({ cls := "CrookedFramesModel", name := "fromDawn", desc := "()V" } : Jvm.MethodName)) ∈ gT := gT_of (List.mem_of_getElem? (i := 1133) (by decide +kernel)) rfl
theorem kw_1135 : (Jvm.Cond.methodLink "CrookedFramesModel" (221 : Nat) ({ cls := "CrookedFramesModel", name := "byOf", desc := "(I)I" } : Jvm.MethodName)) ∈ gT := gT_of (List.mem_of_getElem? (i := 1135) (by decide +kernel)) rfl
theorem kw_1137 : (Jvm.Cond.instanceMethod ({ cls := "CrookedFramesModel", name := "byOf", desc := "(I)I" } : Jvm.MethodName)) ∈ gT := gT_of (List.mem_of_getElem? (i := 1137) (by decide +kernel)) rfl
theorem kw_1151 : (Jvm.Cond.methodLink "CrookedFramesModel" (230 : Nat) ({ cls := "CrookedFramesModel", name := "borne", desc := "(I)I" } : Jvm.MethodName)) ∈ gT := gT_of (List.mem_of_getElem? (i := 1151) (by decide +kernel)) rfl
theorem kw_1153 : (Jvm.Cond.instanceMethod ({ cls := "CrookedFramesModel", name := "borne", desc := "(I)I" } : Jvm.MethodName)) ∈ gT := gT_of (List.mem_of_getElem? (i := 1153) (by decide +kernel)) rfl
theorem kw_1167 : (Jvm.Cond.methodLink "CrookedFramesModel" (233 : Nat) ({ cls := "CrookedFramesModel", name := "bearsBy", desc := "(I)I" } : Jvm.MethodName)) ∈ gT := gT_of (List.mem_of_getElem? (i := 1167) (by decide +kernel)) rfl
theorem kw_1169 : (Jvm.Cond.instanceMethod ({ cls := "CrookedFramesModel", name := "bearsBy", desc := "(I)I" } : Jvm.MethodName)) ∈ gT := gT_of (List.mem_of_getElem? (i := 1169) (by decide +kernel)) rfl
theorem kw_1175 : (Jvm.Cond.methodLink "CrookedFramesModel" (236 : Nat) ({ cls := "CrookedFramesModel", name := "alike", desc := "(III)I" } : Jvm.MethodName)) ∈ gT := gT_of (List.mem_of_getElem? (i := 1175) (by decide +kernel)) rfl
theorem kw_1176 : (Jvm.Cond.static ({ cls := "CrookedFramesModel", name := "alike", desc := "(III)I" } : Jvm.MethodName)) ∈ gT := gT_of (List.mem_of_getElem? (i := 1176) (by decide +kernel)) rfl
theorem kw_1202 : (Jvm.Cond.constantLong "CrookedFramesModel" (239 : Nat) (7919 : Int64)) ∈ gT := gT_of (List.mem_of_getElem? (i := 1202) (by decide +kernel)) rfl
theorem kw_1203 : (Jvm.Cond.constantLong "CrookedFramesModel" (241 : Nat) (6151 : Int64)) ∈ gT := gT_of (List.mem_of_getElem? (i := 1203) (by decide +kernel)) rfl
theorem kw_1204 : (Jvm.Cond.constantLong "CrookedFramesModel" (243 : Nat) (65521 : Int64)) ∈ gT := gT_of (List.mem_of_getElem? (i := 1204) (by decide +kernel)) rfl
theorem kw_88 : (Jvm.Cond.fieldLink "CrookedFrames$Text" (9 : Nat) "CrookedFrames$Text" "letters" "[I") ∈ gT := gT_of (List.mem_of_getElem? (i := 88) (by decide +kernel)) rfl
theorem kw_89 : (Jvm.Cond.fieldLink "CrookedFrames$Text" (15 : Nat) "CrookedFrames$Text" "length" "I") ∈ gT := gT_of (List.mem_of_getElem? (i := 89) (by decide +kernel)) rfl
theorem kw_90 : (Jvm.Cond.fieldLinkNest "CrookedFrames$Reader" (24 : Nat) "CrookedFrames$Text" "length" "I" "CrookedFrames") ∈ nT := nT_of (List.mem_of_getElem? (i := 90) (by decide +kernel)) rfl
theorem kw_91 : (Jvm.Cond.fieldLinkNest "CrookedFrames" (113 : Nat) "CrookedFrames$Text" "length" "I" "CrookedFrames") ∈ nT := nT_of (List.mem_of_getElem? (i := 91) (by decide +kernel)) rfl
theorem kw_104 : (Jvm.Cond.fieldLink "CrookedFrames$Reader" (11 : Nat) "CrookedFrames$Reader" "numbers" "[I") ∈ gT := gT_of (List.mem_of_getElem? (i := 104) (by decide +kernel)) rfl
theorem kw_105 : (Jvm.Cond.fieldLink "CrookedFrames$Reader" (20 : Nat) "CrookedFrames$Reader" "place" "I") ∈ gT := gT_of (List.mem_of_getElem? (i := 105) (by decide +kernel)) rfl
theorem kw_117 : (Jvm.Cond.fieldLink "CrookedFrames$Turns" (9 : Nat) "CrookedFrames$Turns" "nights" "[I") ∈ gT := gT_of (List.mem_of_getElem? (i := 117) (by decide +kernel)) rfl
theorem kw_118 : (Jvm.Cond.fieldLinkNest "CrookedFrames" (170 : Nat) "CrookedFrames$Turns" "nights" "[I" "CrookedFrames") ∈ nT := nT_of (List.mem_of_getElem? (i := 118) (by decide +kernel)) rfl
theorem kw_119 : (Jvm.Cond.fieldLink "CrookedFrames$Turns" (15 : Nat) "CrookedFrames$Turns" "frames" "[I") ∈ gT := gT_of (List.mem_of_getElem? (i := 119) (by decide +kernel)) rfl
theorem kw_120 : (Jvm.Cond.fieldLinkNest "CrookedFrames" (173 : Nat) "CrookedFrames$Turns" "frames" "[I" "CrookedFrames") ∈ nT := nT_of (List.mem_of_getElem? (i := 120) (by decide +kernel)) rfl
theorem kw_121 : (Jvm.Cond.fieldLink "CrookedFrames$Turns" (18 : Nat) "CrookedFrames$Turns" "by" "[I") ∈ gT := gT_of (List.mem_of_getElem? (i := 121) (by decide +kernel)) rfl
theorem kw_122 : (Jvm.Cond.fieldLinkNest "CrookedFrames" (175 : Nat) "CrookedFrames$Turns" "by" "[I" "CrookedFrames") ∈ nT := nT_of (List.mem_of_getElem? (i := 122) (by decide +kernel)) rfl
theorem kw_123 : (Jvm.Cond.fieldLink "CrookedFrames$Turns" (21 : Nat) "CrookedFrames$Turns" "size" "I") ∈ gT := gT_of (List.mem_of_getElem? (i := 123) (by decide +kernel)) rfl
theorem kw_124 : (Jvm.Cond.fieldLinkNest "CrookedFrames$House" (56 : Nat) "CrookedFrames$Turns" "size" "I" "CrookedFrames") ∈ nT := nT_of (List.mem_of_getElem? (i := 124) (by decide +kernel)) rfl
theorem kw_125 : (Jvm.Cond.fieldLinkNest "CrookedFrames" (167 : Nat) "CrookedFrames$Turns" "size" "I" "CrookedFrames") ∈ nT := nT_of (List.mem_of_getElem? (i := 125) (by decide +kernel)) rfl
theorem kw_147 : (Jvm.Cond.fieldLink "CrookedFrames$Shelf" (15 : Nat) "CrookedFrames$Shelf" "rows" "[LCrookedFrames$Turns;") ∈ gT := gT_of (List.mem_of_getElem? (i := 147) (by decide +kernel)) rfl
theorem kw_148 : (Jvm.Cond.fieldLink "CrookedFrames$Shelf" (22 : Nat) "CrookedFrames$Shelf" "size" "I") ∈ gT := gT_of (List.mem_of_getElem? (i := 148) (by decide +kernel)) rfl
theorem kw_149 : (Jvm.Cond.fieldLinkNest "CrookedFrames" (196 : Nat) "CrookedFrames$Shelf" "size" "I" "CrookedFrames") ∈ nT := nT_of (List.mem_of_getElem? (i := 149) (by decide +kernel)) rfl
theorem kw_163 : (Jvm.Cond.fieldLink "CrookedFrames$Days" (11 : Nat) "CrookedFrames$Days" "mornings" "[[I") ∈ gT := gT_of (List.mem_of_getElem? (i := 163) (by decide +kernel)) rfl
theorem kw_164 : (Jvm.Cond.fieldLinkNest "CrookedFrames" (197 : Nat) "CrookedFrames$Days" "mornings" "[[I" "CrookedFrames") ∈ nT := nT_of (List.mem_of_getElem? (i := 164) (by decide +kernel)) rfl
theorem kw_165 : (Jvm.Cond.fieldLink "CrookedFrames$Days" (16 : Nat) "CrookedFrames$Days" "evenings" "[[I") ∈ gT := gT_of (List.mem_of_getElem? (i := 165) (by decide +kernel)) rfl
theorem kw_166 : (Jvm.Cond.fieldLinkNest "CrookedFrames" (149 : Nat) "CrookedFrames$Days" "evenings" "[[I" "CrookedFrames") ∈ nT := nT_of (List.mem_of_getElem? (i := 166) (by decide +kernel)) rfl
theorem kw_167 : (Jvm.Cond.fieldLink "CrookedFrames$Days" (19 : Nat) "CrookedFrames$Days" "righted" "[[I") ∈ gT := gT_of (List.mem_of_getElem? (i := 167) (by decide +kernel)) rfl
theorem kw_168 : (Jvm.Cond.fieldLinkNest "CrookedFrames" (156 : Nat) "CrookedFrames$Days" "righted" "[[I" "CrookedFrames") ∈ nT := nT_of (List.mem_of_getElem? (i := 168) (by decide +kernel)) rfl
theorem kw_169 : (Jvm.Cond.fieldLink "CrookedFrames$Days" (22 : Nat) "CrookedFrames$Days" "won" "[I") ∈ gT := gT_of (List.mem_of_getElem? (i := 169) (by decide +kernel)) rfl
theorem kw_170 : (Jvm.Cond.fieldLinkNest "CrookedFrames" (153 : Nat) "CrookedFrames$Days" "won" "[I" "CrookedFrames") ∈ nT := nT_of (List.mem_of_getElem? (i := 170) (by decide +kernel)) rfl
theorem kw_171 : (Jvm.Cond.fieldLink "CrookedFrames$Days" (26 : Nat) "CrookedFrames$Days" "stale" "Z") ∈ gT := gT_of (List.mem_of_getElem? (i := 171) (by decide +kernel)) rfl
theorem kw_172 : (Jvm.Cond.fieldLinkNest "CrookedFrames" (185 : Nat) "CrookedFrames$Days" "stale" "Z" "CrookedFrames") ∈ nT := nT_of (List.mem_of_getElem? (i := 172) (by decide +kernel)) rfl
theorem kw_191 : (Jvm.Cond.fieldLink "CrookedFrames$Lures" (9 : Nat) "CrookedFrames$Lures" "row" "[I") ∈ gT := gT_of (List.mem_of_getElem? (i := 191) (by decide +kernel)) rfl
theorem kw_192 : (Jvm.Cond.fieldLink "CrookedFrames$Lures" (15 : Nat) "CrookedFrames$Lures" "righted" "[I") ∈ gT := gT_of (List.mem_of_getElem? (i := 192) (by decide +kernel)) rfl
theorem kw_193 : (Jvm.Cond.fieldLink "CrookedFrames$Lures" (18 : Nat) "CrookedFrames$Lures" "alike" "[I") ∈ gT := gT_of (List.mem_of_getElem? (i := 193) (by decide +kernel)) rfl
theorem kw_194 : (Jvm.Cond.fieldLink "CrookedFrames$Lures" (23 : Nat) "CrookedFrames$Lures" "reached" "[[I") ∈ gT := gT_of (List.mem_of_getElem? (i := 194) (by decide +kernel)) rfl
theorem kw_195 : (Jvm.Cond.fieldLink "CrookedFrames$Lures" (26 : Nat) "CrookedFrames$Lures" "reachedSize" "[I") ∈ gT := gT_of (List.mem_of_getElem? (i := 195) (by decide +kernel)) rfl
theorem kw_213 : (Jvm.Cond.fieldLink "CrookedFrames$Sights" (9 : Nat) "CrookedFrames$Sights" "from" "[I") ∈ gT := gT_of (List.mem_of_getElem? (i := 213) (by decide +kernel)) rfl
theorem kw_214 : (Jvm.Cond.fieldLink "CrookedFrames$Sights" (15 : Nat) "CrookedFrames$Sights" "to" "[I") ∈ gT := gT_of (List.mem_of_getElem? (i := 214) (by decide +kernel)) rfl
theorem kw_215 : (Jvm.Cond.fieldLink "CrookedFrames$Sights" (21 : Nat) "CrookedFrames$Sights" "size" "I") ∈ gT := gT_of (List.mem_of_getElem? (i := 215) (by decide +kernel)) rfl
theorem kw_216 : (Jvm.Cond.fieldLinkNest "CrookedFrames" (221 : Nat) "CrookedFrames$Sights" "size" "I" "CrookedFrames") ∈ nT := nT_of (List.mem_of_getElem? (i := 216) (by decide +kernel)) rfl
theorem kw_217 : (Jvm.Cond.fieldLink "CrookedFrames$Sights" (18 : Nat) "CrookedFrames$Sights" "tally" "[I") ∈ gT := gT_of (List.mem_of_getElem? (i := 217) (by decide +kernel)) rfl
theorem kw_233 : (Jvm.Cond.fieldLink "CrookedFrames$Draws" (9 : Nat) "CrookedFrames$Draws" "row" "[I") ∈ gT := gT_of (List.mem_of_getElem? (i := 233) (by decide +kernel)) rfl
theorem kw_234 : (Jvm.Cond.fieldLinkNest "CrookedFrames" (256 : Nat) "CrookedFrames$Draws" "row" "[I" "CrookedFrames") ∈ nT := nT_of (List.mem_of_getElem? (i := 234) (by decide +kernel)) rfl
theorem kw_235 : (Jvm.Cond.fieldLink "CrookedFrames$Draws" (15 : Nat) "CrookedFrames$Draws" "righted" "[I") ∈ gT := gT_of (List.mem_of_getElem? (i := 235) (by decide +kernel)) rfl
theorem kw_247 : (Jvm.Cond.fieldLink "CrookedFrames$Chance" (11 : Nat) "CrookedFrames$Chance" "ways" "[I") ∈ gT := gT_of (List.mem_of_getElem? (i := 247) (by decide +kernel)) rfl
theorem kw_248 : (Jvm.Cond.fieldLink "CrookedFrames$Chance" (15 : Nat) "CrookedFrames$Chance" "next" "[I") ∈ gT := gT_of (List.mem_of_getElem? (i := 248) (by decide +kernel)) rfl
theorem kw_262 : (Jvm.Cond.fieldLink "CrookedFrames$House" (9 : Nat) "CrookedFrames$House" "rooms" "[I") ∈ gT := gT_of (List.mem_of_getElem? (i := 262) (by decide +kernel)) rfl
theorem kw_263 : (Jvm.Cond.fieldLinkNest "CrookedFrames" (123 : Nat) "CrookedFrames$House" "rooms" "[I" "CrookedFrames") ∈ nT := nT_of (List.mem_of_getElem? (i := 263) (by decide +kernel)) rfl
theorem kw_264 : (Jvm.Cond.fieldLinkNest "CrookedFrames$Lures" (76 : Nat) "CrookedFrames$House" "rooms" "[I" "CrookedFrames") ∈ nT := nT_of (List.mem_of_getElem? (i := 264) (by decide +kernel)) rfl
theorem kw_265 : (Jvm.Cond.fieldLink "CrookedFrames$House" (15 : Nat) "CrookedFrames$House" "angles" "[I") ∈ gT := gT_of (List.mem_of_getElem? (i := 265) (by decide +kernel)) rfl
theorem kw_266 : (Jvm.Cond.fieldLinkNest "CrookedFrames$Days" (30 : Nat) "CrookedFrames$House" "angles" "[I" "CrookedFrames") ∈ nT := nT_of (List.mem_of_getElem? (i := 266) (by decide +kernel)) rfl
theorem kw_267 : (Jvm.Cond.fieldLinkNest "CrookedFrames$Draws" (18 : Nat) "CrookedFrames$House" "angles" "[I" "CrookedFrames") ∈ nT := nT_of (List.mem_of_getElem? (i := 267) (by decide +kernel)) rfl
theorem kw_268 : (Jvm.Cond.fieldLinkNest "CrookedFrames" (127 : Nat) "CrookedFrames$House" "angles" "[I" "CrookedFrames") ∈ nT := nT_of (List.mem_of_getElem? (i := 268) (by decide +kernel)) rfl
theorem kw_269 : (Jvm.Cond.fieldLink "CrookedFrames$House" (18 : Nat) "CrookedFrames$House" "wires" "[I") ∈ gT := gT_of (List.mem_of_getElem? (i := 269) (by decide +kernel)) rfl
theorem kw_270 : (Jvm.Cond.fieldLinkNest "CrookedFrames" (130 : Nat) "CrookedFrames$House" "wires" "[I" "CrookedFrames") ∈ nT := nT_of (List.mem_of_getElem? (i := 270) (by decide +kernel)) rfl
theorem kw_271 : (Jvm.Cond.fieldLink "CrookedFrames$House" (21 : Nat) "CrookedFrames$House" "patches" "[I") ∈ gT := gT_of (List.mem_of_getElem? (i := 271) (by decide +kernel)) rfl
theorem kw_272 : (Jvm.Cond.fieldLinkNest "CrookedFrames" (133 : Nat) "CrookedFrames$House" "patches" "[I" "CrookedFrames") ∈ nT := nT_of (List.mem_of_getElem? (i := 272) (by decide +kernel)) rfl
theorem kw_273 : (Jvm.Cond.fieldLink "CrookedFrames$House" (46 : Nat) "CrookedFrames$House" "frames" "I") ∈ gT := gT_of (List.mem_of_getElem? (i := 273) (by decide +kernel)) rfl
theorem kw_274 : (Jvm.Cond.fieldLinkNest "CrookedFrames$Lures" (29 : Nat) "CrookedFrames$House" "frames" "I" "CrookedFrames") ∈ nT := nT_of (List.mem_of_getElem? (i := 274) (by decide +kernel)) rfl
theorem kw_275 : (Jvm.Cond.fieldLinkNest "CrookedFrames$Draws" (33 : Nat) "CrookedFrames$House" "frames" "I" "CrookedFrames") ∈ nT := nT_of (List.mem_of_getElem? (i := 275) (by decide +kernel)) rfl
theorem kw_276 : (Jvm.Cond.fieldLinkNest "CrookedFrames$Days" (59 : Nat) "CrookedFrames$House" "frames" "I" "CrookedFrames") ∈ nT := nT_of (List.mem_of_getElem? (i := 276) (by decide +kernel)) rfl
theorem kw_277 : (Jvm.Cond.fieldLinkNest "CrookedFrames" (116 : Nat) "CrookedFrames$House" "frames" "I" "CrookedFrames") ∈ nT := nT_of (List.mem_of_getElem? (i := 277) (by decide +kernel)) rfl
theorem kw_278 : (Jvm.Cond.fieldLink "CrookedFrames$House" (24 : Nat) "CrookedFrames$House" "kinds" "[I") ∈ gT := gT_of (List.mem_of_getElem? (i := 278) (by decide +kernel)) rfl
theorem kw_279 : (Jvm.Cond.fieldLinkNest "CrookedFrames" (139 : Nat) "CrookedFrames$House" "kinds" "[I" "CrookedFrames") ∈ nT := nT_of (List.mem_of_getElem? (i := 279) (by decide +kernel)) rfl
theorem kw_280 : (Jvm.Cond.fieldLink "CrookedFrames$House" (27 : Nat) "CrookedFrames$House" "borne" "[I") ∈ gT := gT_of (List.mem_of_getElem? (i := 280) (by decide +kernel)) rfl
theorem kw_281 : (Jvm.Cond.fieldLinkNest "CrookedFrames" (142 : Nat) "CrookedFrames$House" "borne" "[I" "CrookedFrames") ∈ nT := nT_of (List.mem_of_getElem? (i := 281) (by decide +kernel)) rfl
theorem kw_282 : (Jvm.Cond.fieldLink "CrookedFrames$House" (50 : Nat) "CrookedFrames$House" "persons" "I") ∈ gT := gT_of (List.mem_of_getElem? (i := 282) (by decide +kernel)) rfl
theorem kw_283 : (Jvm.Cond.fieldLinkNest "CrookedFrames" (136 : Nat) "CrookedFrames$House" "persons" "I" "CrookedFrames") ∈ nT := nT_of (List.mem_of_getElem? (i := 283) (by decide +kernel)) rfl
theorem kw_284 : (Jvm.Cond.fieldLinkNest "CrookedFrames$Lures" (102 : Nat) "CrookedFrames$House" "persons" "I" "CrookedFrames") ∈ nT := nT_of (List.mem_of_getElem? (i := 284) (by decide +kernel)) rfl
theorem kw_285 : (Jvm.Cond.fieldLink "CrookedFrames$House" (30 : Nat) "CrookedFrames$House" "comers" "[I") ∈ gT := gT_of (List.mem_of_getElem? (i := 285) (by decide +kernel)) rfl
theorem kw_286 : (Jvm.Cond.fieldLink "CrookedFrames$House" (33 : Nat) "CrookedFrames$House" "hours" "[I") ∈ gT := gT_of (List.mem_of_getElem? (i := 286) (by decide +kernel)) rfl
theorem kw_287 : (Jvm.Cond.fieldLink "CrookedFrames$House" (36 : Nat) "CrookedFrames$House" "places" "[I") ∈ gT := gT_of (List.mem_of_getElem? (i := 287) (by decide +kernel)) rfl
theorem kw_288 : (Jvm.Cond.fieldLinkNest "CrookedFrames$Lures" (95 : Nat) "CrookedFrames$House" "places" "[I" "CrookedFrames") ∈ nT := nT_of (List.mem_of_getElem? (i := 288) (by decide +kernel)) rfl
theorem kw_289 : (Jvm.Cond.fieldLink "CrookedFrames$House" (53 : Nat) "CrookedFrames$House" "comings" "I") ∈ gT := gT_of (List.mem_of_getElem? (i := 289) (by decide +kernel)) rfl
theorem kw_290 : (Jvm.Cond.fieldLinkNest "CrookedFrames$Lures" (92 : Nat) "CrookedFrames$House" "comings" "I" "CrookedFrames") ∈ nT := nT_of (List.mem_of_getElem? (i := 290) (by decide +kernel)) rfl
theorem kw_291 : (Jvm.Cond.fieldLinkNest "CrookedFrames" (259 : Nat) "CrookedFrames$House" "comings" "I" "CrookedFrames") ∈ nT := nT_of (List.mem_of_getElem? (i := 291) (by decide +kernel)) rfl
theorem kw_292 : (Jvm.Cond.fieldLink "CrookedFrames$House" (42 : Nat) "CrookedFrames$House" "told" "LCrookedFrames$Turns;") ∈ gT := gT_of (List.mem_of_getElem? (i := 292) (by decide +kernel)) rfl
theorem kw_293 : (Jvm.Cond.fieldLinkNest "CrookedFrames" (262 : Nat) "CrookedFrames$House" "told" "LCrookedFrames$Turns;" "CrookedFrames") ∈ nT := nT_of (List.mem_of_getElem? (i := 293) (by decide +kernel)) rfl
theorem kw_453 : (Jvm.Cond.fieldLink "CrookedFrames" (10 : Nat) "CrookedFrames" "text" "LCrookedFrames$Text;") ∈ gT := gT_of (List.mem_of_getElem? (i := 453) (by decide +kernel)) rfl
theorem kw_454 : (Jvm.Cond.fieldLink "CrookedFrames" (19 : Nat) "CrookedFrames" "reader" "LCrookedFrames$Reader;") ∈ gT := gT_of (List.mem_of_getElem? (i := 454) (by decide +kernel)) rfl
theorem kw_455 : (Jvm.Cond.fieldLink "CrookedFrames" (26 : Nat) "CrookedFrames" "turns" "LCrookedFrames$Turns;") ∈ gT := gT_of (List.mem_of_getElem? (i := 455) (by decide +kernel)) rfl
theorem kw_456 : (Jvm.Cond.fieldLink "CrookedFrames" (35 : Nat) "CrookedFrames" "undoable" "LCrookedFrames$Shelf;") ∈ gT := gT_of (List.mem_of_getElem? (i := 456) (by decide +kernel)) rfl
theorem kw_457 : (Jvm.Cond.fieldLink "CrookedFrames" (39 : Nat) "CrookedFrames" "kept" "LCrookedFrames$Shelf;") ∈ gT := gT_of (List.mem_of_getElem? (i := 457) (by decide +kernel)) rfl
theorem kw_458 : (Jvm.Cond.fieldLink "CrookedFrames" (45 : Nat) "CrookedFrames" "days" "LCrookedFrames$Days;") ∈ gT := gT_of (List.mem_of_getElem? (i := 458) (by decide +kernel)) rfl
theorem kw_459 : (Jvm.Cond.fieldLink "CrookedFrames" (52 : Nat) "CrookedFrames" "lures" "LCrookedFrames$Lures;") ∈ gT := gT_of (List.mem_of_getElem? (i := 459) (by decide +kernel)) rfl
theorem kw_460 : (Jvm.Cond.fieldLink "CrookedFrames" (59 : Nat) "CrookedFrames" "sights" "LCrookedFrames$Sights;") ∈ gT := gT_of (List.mem_of_getElem? (i := 460) (by decide +kernel)) rfl
theorem kw_461 : (Jvm.Cond.fieldLink "CrookedFrames" (66 : Nat) "CrookedFrames" "draws" "LCrookedFrames$Draws;") ∈ gT := gT_of (List.mem_of_getElem? (i := 461) (by decide +kernel)) rfl
theorem kw_462 : (Jvm.Cond.fieldLink "CrookedFrames" (73 : Nat) "CrookedFrames" "chance" "LCrookedFrames$Chance;") ∈ gT := gT_of (List.mem_of_getElem? (i := 462) (by decide +kernel)) rfl
theorem kw_463 : (Jvm.Cond.fieldLink "CrookedFrames" (80 : Nat) "CrookedFrames" "house" "LCrookedFrames$House;") ∈ gT := gT_of (List.mem_of_getElem? (i := 463) (by decide +kernel)) rfl
theorem kw_464 : (Jvm.Cond.fieldLink "CrookedFrames" (84 : Nat) "CrookedFrames" "draft" "LCrookedFrames$House;") ∈ gT := gT_of (List.mem_of_getElem? (i := 464) (by decide +kernel)) rfl
theorem kw_850 : (Jvm.Cond.fieldLink "CrookedFramesModel" (7 : Nat) "CrookedFramesModel" "frames" "I") ∈ gT := gT_of (List.mem_of_getElem? (i := 850) (by decide +kernel)) rfl
theorem kw_851 : (Jvm.Cond.fieldLink "CrookedFramesModel" (13 : Nat) "CrookedFramesModel" "frame" "[I") ∈ gT := gT_of (List.mem_of_getElem? (i := 851) (by decide +kernel)) rfl
theorem kw_852 : (Jvm.Cond.fieldLink "CrookedFramesModel" (17 : Nat) "CrookedFramesModel" "persons" "I") ∈ gT := gT_of (List.mem_of_getElem? (i := 852) (by decide +kernel)) rfl
theorem kw_853 : (Jvm.Cond.fieldLink "CrookedFramesModel" (20 : Nat) "CrookedFramesModel" "person" "[I") ∈ gT := gT_of (List.mem_of_getElem? (i := 853) (by decide +kernel)) rfl
theorem kw_854 : (Jvm.Cond.fieldLink "CrookedFramesModel" (23 : Nat) "CrookedFramesModel" "comings" "I") ∈ gT := gT_of (List.mem_of_getElem? (i := 854) (by decide +kernel)) rfl
theorem kw_855 : (Jvm.Cond.fieldLink "CrookedFramesModel" (26 : Nat) "CrookedFramesModel" "coming" "[I") ∈ gT := gT_of (List.mem_of_getElem? (i := 855) (by decide +kernel)) rfl
theorem kw_856 : (Jvm.Cond.fieldLink "CrookedFramesModel" (29 : Nat) "CrookedFramesModel" "order" "[I") ∈ gT := gT_of (List.mem_of_getElem? (i := 856) (by decide +kernel)) rfl
theorem kw_857 : (Jvm.Cond.fieldLink "CrookedFramesModel" (32 : Nat) "CrookedFramesModel" "st" "[I") ∈ gT := gT_of (List.mem_of_getElem? (i := 857) (by decide +kernel)) rfl
theorem kw_858 : (Jvm.Cond.fieldLink "CrookedFramesModel" (150 : Nat) "CrookedFramesModel" "acts" "I") ∈ gT := gT_of (List.mem_of_getElem? (i := 858) (by decide +kernel)) rfl
theorem kw_859 : (Jvm.Cond.fieldLink "CrookedFramesModel" (35 : Nat) "CrookedFramesModel" "was" "[I") ∈ gT := gT_of (List.mem_of_getElem? (i := 859) (by decide +kernel)) rfl
theorem kw_860 : (Jvm.Cond.fieldLink "CrookedFramesModel" (153 : Nat) "CrookedFramesModel" "keeps" "I") ∈ gT := gT_of (List.mem_of_getElem? (i := 860) (by decide +kernel)) rfl
theorem kw_861 : (Jvm.Cond.fieldLink "CrookedFramesModel" (38 : Nat) "CrookedFramesModel" "kept" "[I") ∈ gT := gT_of (List.mem_of_getElem? (i := 861) (by decide +kernel)) rfl
theorem kw_862 : (Jvm.Cond.fieldLink "CrookedFramesModel" (156 : Nat) "CrookedFramesModel" "seens" "I") ∈ gT := gT_of (List.mem_of_getElem? (i := 862) (by decide +kernel)) rfl
theorem kw_863 : (Jvm.Cond.fieldLink "CrookedFramesModel" (41 : Nat) "CrookedFramesModel" "seen" "[I") ∈ gT := gT_of (List.mem_of_getElem? (i := 863) (by decide +kernel)) rfl
theorem kw_864 : (Jvm.Cond.fieldLink "CrookedFramesModel" (44 : Nat) "CrookedFramesModel" "text" "[I") ∈ gT := gT_of (List.mem_of_getElem? (i := 864) (by decide +kernel)) rfl
theorem kw_865 : (Jvm.Cond.fieldLink "CrookedFramesModel" (91 : Nat) "CrookedFramesModel" "texted" "I") ∈ gT := gT_of (List.mem_of_getElem? (i := 865) (by decide +kernel)) rfl
theorem kw_866 : (Jvm.Cond.fieldLink "CrookedFramesModel" (94 : Nat) "CrookedFramesModel" "at" "I") ∈ gT := gT_of (List.mem_of_getElem? (i := 866) (by decide +kernel)) rfl
theorem kw_867 : (Jvm.Cond.fieldLink "CrookedFramesModel" (47 : Nat) "CrookedFramesModel" "told" "[I") ∈ gT := gT_of (List.mem_of_getElem? (i := 867) (by decide +kernel)) rfl
theorem kw_868 : (Jvm.Cond.fieldLink "CrookedFramesModel" (105 : Nat) "CrookedFramesModel" "readFrames" "I") ∈ gT := gT_of (List.mem_of_getElem? (i := 868) (by decide +kernel)) rfl
theorem kw_869 : (Jvm.Cond.fieldLink "CrookedFramesModel" (50 : Nat) "CrookedFramesModel" "readFrame" "[I") ∈ gT := gT_of (List.mem_of_getElem? (i := 869) (by decide +kernel)) rfl
theorem kw_870 : (Jvm.Cond.fieldLink "CrookedFramesModel" (114 : Nat) "CrookedFramesModel" "readPersons" "I") ∈ gT := gT_of (List.mem_of_getElem? (i := 870) (by decide +kernel)) rfl
theorem kw_871 : (Jvm.Cond.fieldLink "CrookedFramesModel" (53 : Nat) "CrookedFramesModel" "readPerson" "[I") ∈ gT := gT_of (List.mem_of_getElem? (i := 871) (by decide +kernel)) rfl
theorem kw_872 : (Jvm.Cond.fieldLink "CrookedFramesModel" (121 : Nat) "CrookedFramesModel" "readComings" "I") ∈ gT := gT_of (List.mem_of_getElem? (i := 872) (by decide +kernel)) rfl
theorem kw_873 : (Jvm.Cond.fieldLink "CrookedFramesModel" (56 : Nat) "CrookedFramesModel" "readComing" "[I") ∈ gT := gT_of (List.mem_of_getElem? (i := 873) (by decide +kernel)) rfl
theorem kw_874 : (Jvm.Cond.fieldLink "CrookedFramesModel" (59 : Nat) "CrookedFramesModel" "readSt" "[I") ∈ gT := gT_of (List.mem_of_getElem? (i := 874) (by decide +kernel)) rfl
theorem kw_875 : (Jvm.Cond.fieldLink "CrookedFramesModel" (62 : Nat) "CrookedFramesModel" "angle" "[I") ∈ gT := gT_of (List.mem_of_getElem? (i := 875) (by decide +kernel)) rfl
theorem kw_876 : (Jvm.Cond.fieldLink "CrookedFramesModel" (65 : Nat) "CrookedFramesModel" "dawn" "[I") ∈ gT := gT_of (List.mem_of_getElem? (i := 876) (by decide +kernel)) rfl
theorem kw_877 : (Jvm.Cond.fieldLink "CrookedFramesModel" (68 : Nat) "CrookedFramesModel" "setBy" "[I") ∈ gT := gT_of (List.mem_of_getElem? (i := 877) (by decide +kernel)) rfl
theorem kw_878 : (Jvm.Cond.fieldLink "CrookedFramesModel" (182 : Nat) "CrookedFramesModel" "hers" "I") ∈ gT := gT_of (List.mem_of_getElem? (i := 878) (by decide +kernel)) rfl
theorem kw_879 : (Jvm.Cond.fieldLink "CrookedFramesModel" (71 : Nat) "CrookedFramesModel" "ahead" "[I") ∈ gT := gT_of (List.mem_of_getElem? (i := 879) (by decide +kernel)) rfl
theorem kw_880 : (Jvm.Cond.fieldLink "CrookedFramesModel" (74 : Nat) "CrookedFramesModel" "ways" "[I") ∈ gT := gT_of (List.mem_of_getElem? (i := 880) (by decide +kernel)) rfl
theorem kw_881 : (Jvm.Cond.fieldLink "CrookedFramesModel" (77 : Nat) "CrookedFramesModel" "often" "[I") ∈ gT := gT_of (List.mem_of_getElem? (i := 881) (by decide +kernel)) rfl
theorem kc_J6_bitCount_0f7a4 : Cond.code yJ6_bitCount_0f7a4 cJ6_bitCount_0f7a4 1 (some .int) ∈ gT := gT_of (List.mem_of_getElem? (i := 821) (by decide +kernel)) rfl
theorem kc_J7_fill_53178 : Cond.code yJ7_fill_53178 cJ7_fill_53178 4 none ∈ gT := gT_of (List.mem_of_getElem? (i := 553) (by decide +kernel)) rfl
theorem kc_X0_allWays : Cond.code yX0_allWays cX0_allWays 4 (some .int) ∈ gT := gT_of (List.mem_of_getElem? (i := 781) (by decide +kernel)) rfl
theorem kc_X0_commonDivisor : Cond.code yX0_commonDivisor cX0_commonDivisor 6 (some .int) ∈ gT := gT_of (List.mem_of_getElem? (i := 784) (by decide +kernel)) rfl
theorem kc_X0_twist : Cond.code yX0_twist cX0_twist 6 none ∈ gT := gT_of (List.mem_of_getElem? (i := 771) (by decide +kernel)) rfl
theorem kc_X0_waysWithin : Cond.code yX0_waysWithin cX0_waysWithin 5 (some .int) ∈ gT := gT_of (List.mem_of_getElem? (i := 776) (by decide +kernel)) rfl
theorem kc_X10_add : Cond.code yX10_add cX10_add 4 none ∈ gT := gT_of (List.mem_of_getElem? (i := 431) (by decide +kernel)) rfl
theorem kc_X10_copy : Cond.code yX10_copy cX10_copy 3 none ∈ gT := gT_of (List.mem_of_getElem? (i := 443) (by decide +kernel)) rfl
theorem kc_X10_remove : Cond.code yX10_remove cX10_remove 3 none ∈ gT := gT_of (List.mem_of_getElem? (i := 626) (by decide +kernel)) rfl
theorem kc_X10_turnAll : Cond.code yX10_turnAll cX10_turnAll 4 none ∈ gT := gT_of (List.mem_of_getElem? (i := 545) (by decide +kernel)) rfl
theorem kc_X11_angle : Cond.code yX11_angle cX11_angle 3 (some .int) ∈ gT := gT_of (List.mem_of_getElem? (i := 519) (by decide +kernel)) rfl
theorem kc_X11_back : Cond.code yX11_back cX11_back 1 (some .int) ∈ gT := gT_of (List.mem_of_getElem? (i := 832) (by decide +kernel)) rfl
theorem kc_X11_bears : Cond.code yX11_bears cX11_bears 2 (some .int) ∈ gT := gT_of (List.mem_of_getElem? (i := 729) (by decide +kernel)) rfl
theorem kc_X11_count : Cond.code yX11_count cX11_count 2 (some .int) ∈ gT := gT_of (List.mem_of_getElem? (i := 836) (by decide +kernel)) rfl
theorem kc_X11_daysNow : Cond.code yX11_daysNow cX11_daysNow 1 (some (.object "CrookedFrames$Days")) ∈ gT := gT_of (List.mem_of_getElem? (i := 523) (by decide +kernel)) rfl
theorem kc_X11_ends : Cond.code yX11_ends cX11_ends 7 (some .int) ∈ gT := gT_of (List.mem_of_getElem? (i := 763) (by decide +kernel)) rfl
theorem kc_X11_fault : Cond.code yX11_fault cX11_fault 1 (some .int) ∈ gT := gT_of (List.mem_of_getElem? (i := 502) (by decide +kernel)) rfl
theorem kc_X11_fewest : Cond.code yX11_fewest cX11_fewest 3 (some .int) ∈ gT := gT_of (List.mem_of_getElem? (i := 658) (by decide +kernel)) rfl
theorem kc_X11_forget : Cond.code yX11_forget cX11_forget 1 (some .int) ∈ gT := gT_of (List.mem_of_getElem? (i := 725) (by decide +kernel)) rfl
theorem kc_X11_frame : Cond.code yX11_frame cX11_frame 3 (some .int) ∈ gT := gT_of (List.mem_of_getElem? (i := 510) (by decide +kernel)) rfl
theorem kc_X11_hang : Cond.code yX11_hang cX11_hang 5 (some .int) ∈ gT := gT_of (List.mem_of_getElem? (i := 707) (by decide +kernel)) rfl
theorem kc_X11_hers : Cond.code yX11_hers cX11_hers 2 (some .int) ∈ gT := gT_of (List.mem_of_getElem? (i := 576) (by decide +kernel)) rfl
theorem kc_X11_keep : Cond.code yX11_keep cX11_keep 1 (some .int) ∈ gT := gT_of (List.mem_of_getElem? (i := 828) (by decide +kernel)) rfl
theorem kc_X11_keptWithin : Cond.code yX11_keptWithin cX11_keptWithin 1 (some .int) ∈ gT := gT_of (List.mem_of_getElem? (i := 537) (by decide +kernel)) rfl
theorem kc_X11_lay : Cond.code yX11_lay cX11_lay 1 (some .int) ∈ gT := gT_of (List.mem_of_getElem? (i := 506) (by decide +kernel)) rfl
theorem kc_X11_leave : Cond.code yX11_leave cX11_leave 2 (some .int) ∈ gT := gT_of (List.mem_of_getElem? (i := 622) (by decide +kernel)) rfl
theorem kc_X11_look : Cond.code yX11_look cX11_look 5 (some .int) ∈ gT := gT_of (List.mem_of_getElem? (i := 742) (by decide +kernel)) rfl
theorem kc_X11_most : Cond.code yX11_most cX11_most 4 (some .int) ∈ gT := gT_of (List.mem_of_getElem? (i := 788) (by decide +kernel)) rfl
theorem kc_X11_moveIn : Cond.code yX11_moveIn cX11_moveIn 2 none ∈ gT := gT_of (List.mem_of_getElem? (i := 439) (by decide +kernel)) rfl
theorem kc_X11_night : Cond.code yX11_night cX11_night 4 (some .int) ∈ gT := gT_of (List.mem_of_getElem? (i := 800) (by decide +kernel)) rfl
theorem kc_X11_outside : Cond.code yX11_outside cX11_outside 2 (some .boolean) ∈ gT := gT_of (List.mem_of_getElem? (i := 392) (by decide +kernel)) rfl
theorem kc_X11_patches : Cond.code yX11_patches cX11_patches 4 (some .int) ∈ gT := gT_of (List.mem_of_getElem? (i := 796) (by decide +kernel)) rfl
theorem kc_X11_person : Cond.code yX11_person cX11_person 3 (some .int) ∈ gT := gT_of (List.mem_of_getElem? (i := 515) (by decide +kernel)) rfl
theorem kc_X11_rest : Cond.code yX11_rest cX11_rest 1 (some .int) ∈ gT := gT_of (List.mem_of_getElem? (i := 584) (by decide +kernel)) rfl
theorem kc_X11_safe : Cond.code yX11_safe cX11_safe 3 (some .int) ∈ gT := gT_of (List.mem_of_getElem? (i := 699) (by decide +kernel)) rfl
theorem kc_X11_seen : Cond.code yX11_seen cX11_seen 3 (some .int) ∈ gT := gT_of (List.mem_of_getElem? (i := 717) (by decide +kernel)) rfl
theorem kc_X11_sets : Cond.code yX11_sets cX11_sets 3 (some .int) ∈ gT := gT_of (List.mem_of_getElem? (i := 580) (by decide +kernel)) rfl
theorem kc_X11_sways : Cond.code yX11_sways cX11_sways 1 (some .int) ∈ gT := gT_of (List.mem_of_getElem? (i := 596) (by decide +kernel)) rfl
theorem kc_X11_tempt : Cond.code yX11_tempt cX11_tempt 3 (some .int) ∈ gT := gT_of (List.mem_of_getElem? (i := 639) (by decide +kernel)) rfl
theorem kc_X11_told : Cond.code yX11_told cX11_told 3 (some .int) ∈ gT := gT_of (List.mem_of_getElem? (i := 608) (by decide +kernel)) rfl
theorem kc_X11_turn : Cond.code yX11_turn cX11_turn 4 (some .int) ∈ gT := gT_of (List.mem_of_getElem? (i := 612) (by decide +kernel)) rfl
theorem kc_X11_undo : Cond.code yX11_undo cX11_undo 1 (some .int) ∈ gT := gT_of (List.mem_of_getElem? (i := 631) (by decide +kernel)) rfl
theorem kc_X11_who : Cond.code yX11_who cX11_who 5 (some .int) ∈ gT := gT_of (List.mem_of_getElem? (i := 758) (by decide +kernel)) rfl
theorem kc_X11_wipe : Cond.code yX11_wipe cX11_wipe 1 (some .int) ∈ gT := gT_of (List.mem_of_getElem? (i := 498) (by decide +kernel)) rfl
theorem kc_X11_wire : Cond.code yX11_wire cX11_wire 11 (some .int) ∈ gT := gT_of (List.mem_of_getElem? (i := 767) (by decide +kernel)) rfl
theorem kc_X11_write : Cond.code yX11_write cX11_write 2 (some .int) ∈ gT := gT_of (List.mem_of_getElem? (i := 494) (by decide +kernel)) rfl
theorem kc_X12_alike : Cond.code yX12_alike cX12_alike 7 (some .int) ∈ gT := gT_of (List.mem_of_getElem? (i := 1177) (by decide +kernel)) rfl
theorem kc_X12_angle : Cond.code yX12_angle cX12_angle 3 (some .int) ∈ gT := gT_of (List.mem_of_getElem? (i := 1032) (by decide +kernel)) rfl
theorem kc_X12_back : Cond.code yX12_back cX12_back 2 (some .int) ∈ gT := gT_of (List.mem_of_getElem? (i := 1212) (by decide +kernel)) rfl
theorem kc_X12_bears : Cond.code yX12_bears cX12_bears 2 (some .int) ∈ gT := gT_of (List.mem_of_getElem? (i := 1166) (by decide +kernel)) rfl
theorem kc_X12_bearsBy : Cond.code yX12_bearsBy cX12_bearsBy 6 (some .int) ∈ gT := gT_of (List.mem_of_getElem? (i := 1170) (by decide +kernel)) rfl
theorem kc_X12_begins : Cond.code yX12_begins cX12_begins 2 none ∈ gT := gT_of (List.mem_of_getElem? (i := 1043) (by decide +kernel)) rfl
theorem kc_X12_bits : Cond.code yX12_bits cX12_bits 3 (some .int) ∈ gT := gT_of (List.mem_of_getElem? (i := 1098) (by decide +kernel)) rfl
theorem kc_X12_borne : Cond.code yX12_borne cX12_borne 6 (some .int) ∈ gT := gT_of (List.mem_of_getElem? (i := 1154) (by decide +kernel)) rfl
theorem kc_X12_byOf : Cond.code yX12_byOf cX12_byOf 3 (some .int) ∈ gT := gT_of (List.mem_of_getElem? (i := 1138) (by decide +kernel)) rfl
theorem kc_X12_comes : Cond.code yX12_comes cX12_comes 4 none ∈ gT := gT_of (List.mem_of_getElem? (i := 1066) (by decide +kernel)) rfl
theorem kc_X12_count : Cond.code yX12_count cX12_count 2 (some .int) ∈ gT := gT_of (List.mem_of_getElem? (i := 1216) (by decide +kernel)) rfl
theorem kc_X12_ends : Cond.code yX12_ends cX12_ends 7 (some .int) ∈ gT := gT_of (List.mem_of_getElem? (i := 1185) (by decide +kernel)) rfl
theorem kc_X12_fault : Cond.code yX12_fault cX12_fault 2 (some .int) ∈ gT := gT_of (List.mem_of_getElem? (i := 961) (by decide +kernel)) rfl
theorem kc_X12_fewest : Cond.code yX12_fewest cX12_fewest 5 (some .int) ∈ gT := gT_of (List.mem_of_getElem? (i := 1142) (by decide +kernel)) rfl
theorem kc_X12_forget : Cond.code yX12_forget cX12_forget 2 (some .int) ∈ gT := gT_of (List.mem_of_getElem? (i := 1162) (by decide +kernel)) rfl
theorem kc_X12_frame : Cond.code yX12_frame cX12_frame 4 (some .int) ∈ gT := gT_of (List.mem_of_getElem? (i := 1016) (by decide +kernel)) rfl
theorem kc_X12_fromDawn : Cond.code yX12_fromDawn cX12_fromDawn 2 none ∈ gT := gT_of (List.mem_of_getElem? (i := 1134) (by decide +kernel)) rfl
theorem kc_X12_goes : Cond.code yX12_goes cX12_goes 4 none ∈ gT := gT_of (List.mem_of_getElem? (i := 1039) (by decide +kernel)) rfl
theorem kc_X12_hang : Cond.code yX12_hang cX12_hang 6 (some .int) ∈ gT := gT_of (List.mem_of_getElem? (i := 1150) (by decide +kernel)) rfl
theorem kc_X12_has : Cond.code yX12_has cX12_has 2 (some .boolean) ∈ gT := gT_of (List.mem_of_getElem? (i := 1069) (by decide +kernel)) rfl
theorem kc_X12_hers : Cond.code yX12_hers cX12_hers 2 (some .int) ∈ gT := gT_of (List.mem_of_getElem? (i := 1083) (by decide +kernel)) rfl
theorem kc_X12_in : Cond.code yX12_in cX12_in 3 (some .boolean) ∈ gT := gT_of (List.mem_of_getElem? (i := 953) (by decide +kernel)) rfl
theorem kc_X12_isDay : Cond.code yX12_isDay cX12_isDay 1 (some .boolean) ∈ gT := gT_of (List.mem_of_getElem? (i := 1035) (by decide +kernel)) rfl
theorem kc_X12_isFigure : Cond.code yX12_isFigure cX12_isFigure 1 (some .boolean) ∈ gT := gT_of (List.mem_of_getElem? (i := 980) (by decide +kernel)) rfl
theorem kc_X12_isFrame : Cond.code yX12_isFrame cX12_isFrame 2 (some .boolean) ∈ gT := gT_of (List.mem_of_getElem? (i := 1020) (by decide +kernel)) rfl
theorem kc_X12_isPerson : Cond.code yX12_isPerson cX12_isPerson 2 (some .boolean) ∈ gT := gT_of (List.mem_of_getElem? (i := 1028) (by decide +kernel)) rfl
theorem kc_X12_isTold : Cond.code yX12_isTold cX12_isTold 4 (some .boolean) ∈ gT := gT_of (List.mem_of_getElem? (i := 984) (by decide +kernel)) rfl
theorem kc_X12_keep : Cond.code yX12_keep cX12_keep 2 (some .int) ∈ gT := gT_of (List.mem_of_getElem? (i := 1208) (by decide +kernel)) rfl
theorem kc_X12_lay : Cond.code yX12_lay cX12_lay 1 (some .int) ∈ gT := gT_of (List.mem_of_getElem? (i := 1011) (by decide +kernel)) rfl
theorem kc_X12_lays : Cond.code yX12_lays cX12_lays 5 none ∈ gT := gT_of (List.mem_of_getElem? (i := 845) (by decide +kernel)) rfl
theorem kc_X12_leave : Cond.code yX12_leave cX12_leave 3 (some .int) ∈ gT := gT_of (List.mem_of_getElem? (i := 1114) (by decide +kernel)) rfl
theorem kc_X12_letterAt : Cond.code yX12_letterAt cX12_letterAt 2 (some .int) ∈ gT := gT_of (List.mem_of_getElem? (i := 969) (by decide +kernel)) rfl
theorem kc_X12_look : Cond.code yX12_look cX12_look 6 (some .int) ∈ gT := gT_of (List.mem_of_getElem? (i := 1174) (by decide +kernel)) rfl
theorem kc_X12_madeBy : Cond.code yX12_madeBy cX12_madeBy 3 (some .int) ∈ gT := gT_of (List.mem_of_getElem? (i := 1073) (by decide +kernel)) rfl
theorem kc_X12_madeOf : Cond.code yX12_madeOf cX12_madeOf 3 (some .int) ∈ gT := gT_of (List.mem_of_getElem? (i := 1076) (by decide +kernel)) rfl
theorem kc_X12_morning : Cond.code yX12_morning cX12_morning 2 none ∈ gT := gT_of (List.mem_of_getElem? (i := 1062) (by decide +kernel)) rfl
theorem kc_X12_most : Cond.code yX12_most cX12_most 4 (some .int) ∈ gT := gT_of (List.mem_of_getElem? (i := 1193) (by decide +kernel)) rfl
theorem kc_X12_night : Cond.code yX12_night cX12_night 8 (some .int) ∈ gT := gT_of (List.mem_of_getElem? (i := 1201) (by decide +kernel)) rfl
theorem kc_X12_nightOf : Cond.code yX12_nightOf cX12_nightOf 3 none ∈ gT := gT_of (List.mem_of_getElem? (i := 1047) (by decide +kernel)) rfl
theorem kc_X12_orders : Cond.code yX12_orders cX12_orders 4 none ∈ gT := gT_of (List.mem_of_getElem? (i := 849) (by decide +kernel)) rfl
theorem kc_X12_patches : Cond.code yX12_patches cX12_patches 4 (some .int) ∈ gT := gT_of (List.mem_of_getElem? (i := 1197) (by decide +kernel)) rfl
theorem kc_X12_person : Cond.code yX12_person cX12_person 3 (some .int) ∈ gT := gT_of (List.mem_of_getElem? (i := 1024) (by decide +kernel)) rfl
theorem kc_X12_put : Cond.code yX12_put cX12_put 5 none ∈ gT := gT_of (List.mem_of_getElem? (i := 995) (by decide +kernel)) rfl
theorem kc_X12_readComingOf : Cond.code yX12_readComingOf cX12_readComingOf 1 (some .boolean) ∈ gT := gT_of (List.mem_of_getElem? (i := 999) (by decide +kernel)) rfl
theorem kc_X12_readFrameOf : Cond.code yX12_readFrameOf cX12_readFrameOf 2 (some .boolean) ∈ gT := gT_of (List.mem_of_getElem? (i := 973) (by decide +kernel)) rfl
theorem kc_X12_readItem : Cond.code yX12_readItem cX12_readItem 2 (some .boolean) ∈ gT := gT_of (List.mem_of_getElem? (i := 965) (by decide +kernel)) rfl
theorem kc_X12_readNumbers : Cond.code yX12_readNumbers cX12_readNumbers 3 (some .boolean) ∈ gT := gT_of (List.mem_of_getElem? (i := 977) (by decide +kernel)) rfl
theorem kc_X12_readPatch : Cond.code yX12_readPatch cX12_readPatch 2 (some .boolean) ∈ gT := gT_of (List.mem_of_getElem? (i := 1007) (by decide +kernel)) rfl
theorem kc_X12_readPersonOf : Cond.code yX12_readPersonOf cX12_readPersonOf 1 (some .boolean) ∈ gT := gT_of (List.mem_of_getElem? (i := 992) (by decide +kernel)) rfl
theorem kc_X12_readTurn : Cond.code yX12_readTurn cX12_readTurn 1 (some .boolean) ∈ gT := gT_of (List.mem_of_getElem? (i := 1003) (by decide +kernel)) rfl
theorem kc_X12_readTwist : Cond.code yX12_readTwist cX12_readTwist 2 (some .boolean) ∈ gT := gT_of (List.mem_of_getElem? (i := 988) (by decide +kernel)) rfl
theorem kc_X12_remembers : Cond.code yX12_remembers cX12_remembers 2 none ∈ gT := gT_of (List.mem_of_getElem? (i := 1110) (by decide +kernel)) rfl
theorem kc_X12_rest : Cond.code yX12_rest cX12_rest 4 (some .int) ∈ gT := gT_of (List.mem_of_getElem? (i := 1091) (by decide +kernel)) rfl
theorem kc_X12_safe : Cond.code yX12_safe cX12_safe 4 (some .int) ∈ gT := gT_of (List.mem_of_getElem? (i := 1146) (by decide +kernel)) rfl
theorem kc_X12_seen : Cond.code yX12_seen cX12_seen 3 (some .int) ∈ gT := gT_of (List.mem_of_getElem? (i := 1158) (by decide +kernel)) rfl
theorem kc_X12_sets : Cond.code yX12_sets cX12_sets 3 (some .int) ∈ gT := gT_of (List.mem_of_getElem? (i := 1087) (by decide +kernel)) rfl
theorem kc_X12_size : Cond.code yX12_size cX12_size 1 (some .int) ∈ gT := gT_of (List.mem_of_getElem? (i := 1079) (by decide +kernel)) rfl
theorem kc_X12_sways : Cond.code yX12_sways cX12_sways 4 (some .int) ∈ gT := gT_of (List.mem_of_getElem? (i := 1095) (by decide +kernel)) rfl
theorem kc_X12_tempt : Cond.code yX12_tempt cX12_tempt 3 (some .int) ∈ gT := gT_of (List.mem_of_getElem? (i := 1122) (by decide +kernel)) rfl
theorem kc_X12_tempted : Cond.code yX12_tempted cX12_tempted 3 (some .int) ∈ gT := gT_of (List.mem_of_getElem? (i := 1126) (by decide +kernel)) rfl
theorem kc_X12_told : Cond.code yX12_told cX12_told 3 (some .int) ∈ gT := gT_of (List.mem_of_getElem? (i := 1102) (by decide +kernel)) rfl
theorem kc_X12_tries : Cond.code yX12_tries cX12_tries 2 none ∈ gT := gT_of (List.mem_of_getElem? (i := 1130) (by decide +kernel)) rfl
theorem kc_X12_turn : Cond.code yX12_turn cX12_turn 4 (some .int) ∈ gT := gT_of (List.mem_of_getElem? (i := 1106) (by decide +kernel)) rfl
theorem kc_X12_turnsBy : Cond.code yX12_turnsBy cX12_turnsBy 3 none ∈ gT := gT_of (List.mem_of_getElem? (i := 1058) (by decide +kernel)) rfl
theorem kc_X12_twists : Cond.code yX12_twists cX12_twists 2 none ∈ gT := gT_of (List.mem_of_getElem? (i := 1051) (by decide +kernel)) rfl
theorem kc_X12_undo : Cond.code yX12_undo cX12_undo 2 (some .int) ∈ gT := gT_of (List.mem_of_getElem? (i := 1118) (by decide +kernel)) rfl
theorem kc_X12_who : Cond.code yX12_who cX12_who 5 (some .int) ∈ gT := gT_of (List.mem_of_getElem? (i := 1181) (by decide +kernel)) rfl
theorem kc_X12_wipe : Cond.code yX12_wipe cX12_wipe 2 (some .int) ∈ gT := gT_of (List.mem_of_getElem? (i := 957) (by decide +kernel)) rfl
theorem kc_X12_wire : Cond.code yX12_wire cX12_wire 13 (some .int) ∈ gT := gT_of (List.mem_of_getElem? (i := 1189) (by decide +kernel)) rfl
theorem kc_X12_within : Cond.code yX12_within cX12_within 1 (some .int) ∈ gT := gT_of (List.mem_of_getElem? (i := 1054) (by decide +kernel)) rfl
theorem kc_X12_write : Cond.code yX12_write cX12_write 2 (some .int) ∈ gT := gT_of (List.mem_of_getElem? (i := 950) (by decide +kernel)) rfl
theorem kc_X1_daysWon : Cond.code yX1_daysWon cX1_daysWon 4 (some .int) ∈ gT := gT_of (List.mem_of_getElem? (i := 792) (by decide +kernel)) rfl
theorem kc_X1_firstOfRest : Cond.code yX1_firstOfRest cX1_firstOfRest 3 (some .int) ∈ gT := gT_of (List.mem_of_getElem? (i := 588) (by decide +kernel)) rfl
theorem kc_X1_isAsAhead : Cond.code yX1_isAsAhead cX1_isAsAhead 5 (some .boolean) ∈ gT := gT_of (List.mem_of_getElem? (i := 592) (by decide +kernel)) rfl
theorem kc_X1_play : Cond.code yX1_play cX1_play 7 none ∈ gT := gT_of (List.mem_of_getElem? (i := 527) (by decide +kernel)) rfl
theorem kc_X1_swaying : Cond.code yX1_swaying cX1_swaying 4 (some .int) ∈ gT := gT_of (List.mem_of_getElem? (i := 600) (by decide +kernel)) rfl
theorem kc_X1_swaysOne : Cond.code yX1_swaysOne cX1_swaysOne 3 (some .boolean) ∈ gT := gT_of (List.mem_of_getElem? (i := 604) (by decide +kernel)) rfl
theorem kc_X2_draw : Cond.code yX2_draw cX2_draw 4 (some .int) ∈ gT := gT_of (List.mem_of_getElem? (i := 809) (by decide +kernel)) rfl
theorem kc_X2_play : Cond.code yX2_play cX2_play 5 (some .int) ∈ gT := gT_of (List.mem_of_getElem? (i := 804) (by decide +kernel)) rfl
theorem kc_X2_turnOne : Cond.code yX2_turnOne cX2_turnOne 4 none ∈ gT := gT_of (List.mem_of_getElem? (i := 816) (by decide +kernel)) rfl
theorem kc_X3_farthestBorne : Cond.code yX3_farthestBorne cX3_farthestBorne 2 (some .int) ∈ gT := gT_of (List.mem_of_getElem? (i := 560) (by decide +kernel)) rfl
theorem kc_X3_settle : Cond.code yX3_settle cX3_settle 3 (some .int) ∈ gT := gT_of (List.mem_of_getElem? (i := 570) (by decide +kernel)) rfl
theorem kc_X4_empty : Cond.code yX4_empty cX4_empty 1 none ∈ gT := gT_of (List.mem_of_getElem? (i := 381) (by decide +kernel)) rfl
theorem kc_X4_farthestBorneIn : Cond.code yX4_farthestBorneIn cX4_farthestBorneIn 5 (some .int) ∈ gT := gT_of (List.mem_of_getElem? (i := 712) (by decide +kernel)) rfl
theorem kc_X4_firstTempting : Cond.code yX4_firstTempting cX4_firstTempting 6 (some .int) ∈ gT := gT_of (List.mem_of_getElem? (i := 557) (by decide +kernel)) rfl
theorem kc_X4_letCome : Cond.code yX4_letCome cX4_letCome 7 (some .int) ∈ gT := gT_of (List.mem_of_getElem? (i := 550) (by decide +kernel)) rfl
theorem kc_X4_setBy : Cond.code yX4_setBy cX4_setBy 3 (some .int) ∈ gT := gT_of (List.mem_of_getElem? (i := 567) (by decide +kernel)) rfl
theorem kc_X4_take : Cond.code yX4_take cX4_take 6 (some .boolean) ∈ gT := gT_of (List.mem_of_getElem? (i := 406) (by decide +kernel)) rfl
theorem kc_X4_takeComing : Cond.code yX4_takeComing cX4_takeComing 5 (some .boolean) ∈ gT := gT_of (List.mem_of_getElem? (i := 423) (by decide +kernel)) rfl
theorem kc_X4_takeFrame : Cond.code yX4_takeFrame cX4_takeFrame 3 (some .boolean) ∈ gT := gT_of (List.mem_of_getElem? (i := 410) (by decide +kernel)) rfl
theorem kc_X4_takePatch : Cond.code yX4_takePatch cX4_takePatch 3 (some .boolean) ∈ gT := gT_of (List.mem_of_getElem? (i := 435) (by decide +kernel)) rfl
theorem kc_X4_takePerson : Cond.code yX4_takePerson cX4_takePerson 3 (some .boolean) ∈ gT := gT_of (List.mem_of_getElem? (i := 419) (by decide +kernel)) rfl
theorem kc_X4_takeTurn : Cond.code yX4_takeTurn cX4_takeTurn 4 (some .boolean) ∈ gT := gT_of (List.mem_of_getElem? (i := 427) (by decide +kernel)) rfl
theorem kc_X4_takeWire : Cond.code yX4_takeWire cX4_takeWire 3 (some .boolean) ∈ gT := gT_of (List.mem_of_getElem? (i := 415) (by decide +kernel)) rfl
theorem kc_X4_twist : Cond.code yX4_twist cX4_twist 3 none ∈ gT := gT_of (List.mem_of_getElem? (i := 534) (by decide +kernel)) rfl
theorem kc_X5_addReached : Cond.code yX5_addReached cX5_addReached 4 none ∈ gT := gT_of (List.mem_of_getElem? (i := 687) (by decide +kernel)) rfl
theorem kc_X5_anybodyByOne : Cond.code yX5_anybodyByOne cX5_anybodyByOne 6 (some .int) ∈ gT := gT_of (List.mem_of_getElem? (i := 703) (by decide +kernel)) rfl
theorem kc_X5_areAlike : Cond.code yX5_areAlike cX5_areAlike 9 (some .boolean) ∈ gT := gT_of (List.mem_of_getElem? (i := 670) (by decide +kernel)) rfl
theorem kc_X5_findAlike : Cond.code yX5_findAlike cX5_findAlike 4 none ∈ gT := gT_of (List.mem_of_getElem? (i := 666) (by decide +kernel)) rfl
theorem kc_X5_isEntered : Cond.code yX5_isEntered cX5_isEntered 3 (some .boolean) ∈ gT := gT_of (List.mem_of_getElem? (i := 683) (by decide +kernel)) rfl
theorem kc_X5_isWon : Cond.code yX5_isWon cX5_isWon 7 (some .boolean) ∈ gT := gT_of (List.mem_of_getElem? (i := 647) (by decide +kernel)) rfl
theorem kc_X5_isWonByBoth : Cond.code yX5_isWonByBoth cX5_isWonByBoth 8 (some .boolean) ∈ gT := gT_of (List.mem_of_getElem? (i := 695) (by decide +kernel)) rfl
theorem kc_X5_isWonByReached : Cond.code yX5_isWonByReached cX5_isWonByReached 6 (some .boolean) ∈ gT := gT_of (List.mem_of_getElem? (i := 691) (by decide +kernel)) rfl
theorem kc_X5_leastTurn : Cond.code yX5_leastTurn cX5_leastTurn 6 (some .int) ∈ gT := gT_of (List.mem_of_getElem? (i := 643) (by decide +kernel)) rfl
theorem kc_X5_oneOrTwo : Cond.code yX5_oneOrTwo cX5_oneOrTwo 6 (some .int) ∈ gT := gT_of (List.mem_of_getElem? (i := 662) (by decide +kernel)) rfl
theorem kc_X5_reach : Cond.code yX5_reach cX5_reach 6 none ∈ gT := gT_of (List.mem_of_getElem? (i := 680) (by decide +kernel)) rfl
theorem kc_X5_reachAll : Cond.code yX5_reachAll cX5_reachAll 4 none ∈ gT := gT_of (List.mem_of_getElem? (i := 676) (by decide +kernel)) rfl
theorem kc_X5_wonWith : Cond.code yX5_wonWith cX5_wonWith 5 (some .int) ∈ gT := gT_of (List.mem_of_getElem? (i := 652) (by decide +kernel)) rfl
theorem kc_X6_figureAt : Cond.code yX6_figureAt cX6_figureAt 3 (some .int) ∈ gT := gT_of (List.mem_of_getElem? (i := 402) (by decide +kernel)) rfl
theorem kc_X6_numbersBehind : Cond.code yX6_numbersBehind cX6_numbersBehind 1 (some .int) ∈ gT := gT_of (List.mem_of_getElem? (i := 395) (by decide +kernel)) rfl
theorem kc_X6_readAll : Cond.code yX6_readAll cX6_readAll 5 (some .int) ∈ gT := gT_of (List.mem_of_getElem? (i := 377) (by decide +kernel)) rfl
theorem kc_X6_readItem : Cond.code yX6_readItem cX6_readItem 5 (some .boolean) ∈ gT := gT_of (List.mem_of_getElem? (i := 385) (by decide +kernel)) rfl
theorem kc_X6_readNumber : Cond.code yX6_readNumber cX6_readNumber 4 (some .int) ∈ gT := gT_of (List.mem_of_getElem? (i := 399) (by decide +kernel)) rfl
theorem kc_X7_put : Cond.code yX7_put cX7_put 4 none ∈ gT := gT_of (List.mem_of_getElem? (i := 616) (by decide +kernel)) rfl
theorem kc_X7_takeLast : Cond.code yX7_takeLast cX7_takeLast 2 (some .boolean) ∈ gT := gT_of (List.mem_of_getElem? (i := 635) (by decide +kernel)) rfl
theorem kc_X8_add : Cond.code yX8_add cX8_add 3 (some .boolean) ∈ gT := gT_of (List.mem_of_getElem? (i := 721) (by decide +kernel)) rfl
theorem kc_X8_bestLook : Cond.code yX8_bestLook cX8_bestLook 7 (some .int) ∈ gT := gT_of (List.mem_of_getElem? (i := 746) (by decide +kernel)) rfl
theorem kc_X8_empty : Cond.code yX8_empty cX8_empty 2 (some .int) ∈ gT := gT_of (List.mem_of_getElem? (i := 448) (by decide +kernel)) rfl
theorem kc_X8_fits : Cond.code yX8_fits cX8_fits 4 (some .boolean) ∈ gT := gT_of (List.mem_of_getElem? (i := 737) (by decide +kernel)) rfl
theorem kc_X8_fitting : Cond.code yX8_fitting cX8_fitting 4 (some .int) ∈ gT := gT_of (List.mem_of_getElem? (i := 733) (by decide +kernel)) rfl
theorem kc_X8_mostAlike : Cond.code yX8_mostAlike cX8_mostAlike 7 (some .int) ∈ gT := gT_of (List.mem_of_getElem? (i := 750) (by decide +kernel)) rfl
theorem kc_X9_add : Cond.code yX9_add cX9_add 2 (some .boolean) ∈ gT := gT_of (List.mem_of_getElem? (i := 373) (by decide +kernel)) rfl
theorem kc_X9_empty : Cond.code yX9_empty cX9_empty 2 (some .int) ∈ gT := gT_of (List.mem_of_getElem? (i := 452) (by decide +kernel)) rfl
theorem kc_X9_letterAt : Cond.code yX9_letterAt cX9_letterAt 2 (some .int) ∈ gT := gT_of (List.mem_of_getElem? (i := 389) (by decide +kernel)) rfl
theorem ki_X11 : Cond.initialized RX11 ∈ gT := gT_of (List.mem_of_getElem? (i := 53) (by decide +kernel)) rfl
theorem ki_X0 : Cond.initialized RX0 ∈ gT := gT_of (List.mem_of_getElem? (i := 63) (by decide +kernel)) rfl
theorem ki_X1 : Cond.initialized RX1 ∈ gT := gT_of (List.mem_of_getElem? (i := 59) (by decide +kernel)) rfl
theorem ki_X2 : Cond.initialized RX2 ∈ gT := gT_of (List.mem_of_getElem? (i := 62) (by decide +kernel)) rfl
theorem ki_X3 : Cond.initialized RX3 ∈ gT := gT_of (List.mem_of_getElem? (i := 72) (by decide +kernel)) rfl
theorem ki_X4 : Cond.initialized RX4 ∈ gT := gT_of (List.mem_of_getElem? (i := 64) (by decide +kernel)) rfl
theorem ki_X5 : Cond.initialized RX5 ∈ gT := gT_of (List.mem_of_getElem? (i := 60) (by decide +kernel)) rfl
theorem ki_X6 : Cond.initialized RX6 ∈ gT := gT_of (List.mem_of_getElem? (i := 55) (by decide +kernel)) rfl
theorem ki_X7 : Cond.initialized RX7 ∈ gT := gT_of (List.mem_of_getElem? (i := 57) (by decide +kernel)) rfl
theorem ki_X8 : Cond.initialized RX8 ∈ gT := gT_of (List.mem_of_getElem? (i := 61) (by decide +kernel)) rfl
theorem ki_X9 : Cond.initialized RX9 ∈ gT := gT_of (List.mem_of_getElem? (i := 54) (by decide +kernel)) rfl
theorem ki_X10 : Cond.initialized RX10 ∈ gT := gT_of (List.mem_of_getElem? (i := 56) (by decide +kernel)) rfl
theorem ki_X12 : Cond.initialized RX12 ∈ gT := gT_of (List.mem_of_getElem? (i := 69) (by decide +kernel)) rfl
theorem ki_J6 : Cond.initialized RJ6 ∈ gT := gT_of (List.mem_of_getElem? (i := 73) (by decide +kernel)) rfl
theorem ki_J7 : Cond.initialized RJ7 ∈ gT := gT_of (List.mem_of_getElem? (i := 71) (by decide +kernel)) rfl
theorem in_X0 : ∀ w ∈ u_ws RX0 TX0 2, w ∈ gT := by decide +kernel
theorem in_X1 : ∀ w ∈ u_ws RX1 TX1 5, w ∈ gT := by decide +kernel
theorem in_X2 : ∀ w ∈ u_ws RX2 TX2 2, w ∈ gT := by decide +kernel
theorem in_X4 : ∀ w ∈ u_ws RX4 TX4 13, w ∈ gT := by decide +kernel
theorem in_X5 : ∀ w ∈ u_ws RX5 TX5 5, w ∈ gT := by decide +kernel
theorem in_X6 : ∀ w ∈ u_ws RX6 TX6 2, w ∈ gT := by decide +kernel
theorem in_X7 : ∀ w ∈ u_ws RX7 TX7 2, w ∈ gT := by decide +kernel
theorem in_X8 : ∀ w ∈ u_ws RX8 TX8 4, w ∈ gT := by decide +kernel
theorem in_X9 : ∀ w ∈ u_ws RX9 TX9 2, w ∈ gT := by decide +kernel
theorem in_X10 : ∀ w ∈ u_ws RX10 TX10 4, w ∈ gT := by decide +kernel
theorem in_X11 : ∀ w ∈ u_ws RX11 TX11 12, w ∈ gT := by decide +kernel
theorem in_X12 : ∀ w ∈ u_ws RX12 TX12 32, w ∈ gT := by decide +kernel
theorem gg_X0_11 : GFd RX0 11 0 0 RX0 RX0 TX0 2 true  := ⟨rfl, by decide, rfl, by decide, in_X0, kw_247, rfl⟩
theorem gg_X0_15 : GFd RX0 15 0 1 RX0 RX0 TX0 2 true  := ⟨rfl, by decide, rfl, by decide, in_X0, kw_248, rfl⟩
theorem gp_X0_11 : GPd RX0 11 0 0 RX0 RX0 TX0 2 true  tyX0 (tyX0 0) := ⟨⟨rfl, by decide, rfl, by decide, in_X0, kw_247, rfl⟩, tyX0_ok, nmX0, rfl, by decide +kernel⟩
theorem gp_X0_15 : GPd RX0 15 0 1 RX0 RX0 TX0 2 true  tyX0 (tyX0 1) := ⟨⟨rfl, by decide, rfl, by decide, in_X0, kw_248, rfl⟩, tyX0_ok, nmX0, rfl, by decide +kernel⟩
theorem gg_X10_21 : GFd RX10 21 9 3 RX10 RX10 TX10 4 false  := ⟨rfl, by decide, rfl, by decide, in_X10, kw_123, rfl⟩
theorem gg_X10_9 : GFd RX10 9 9 0 RX10 RX10 TX10 4 true  := ⟨rfl, by decide, rfl, by decide, in_X10, kw_117, rfl⟩
theorem gg_X10_15 : GFd RX10 15 9 1 RX10 RX10 TX10 4 true  := ⟨rfl, by decide, rfl, by decide, in_X10, kw_119, rfl⟩
theorem gg_X10_18 : GFd RX10 18 9 2 RX10 RX10 TX10 4 true  := ⟨rfl, by decide, rfl, by decide, in_X10, kw_121, rfl⟩
theorem gp_X10_21 : GPd RX10 21 9 3 RX10 RX10 TX10 4 false  tyX10 .int := ⟨⟨rfl, by decide, rfl, by decide, in_X10, kw_123, rfl⟩, tyX10_ok, nmX10, rfl, by decide +kernel⟩
theorem gg_X4_46 : GFd RX4 46 3 4 RX4 RX4 TX4 13 false  := ⟨rfl, by decide, rfl, by decide, in_X4, kw_273, rfl⟩
theorem gg_X4_18 : GFd RX4 18 3 2 RX4 RX4 TX4 13 true  := ⟨rfl, by decide, rfl, by decide, in_X4, kw_269, rfl⟩
theorem gg_X4_24 : GFd RX4 24 3 5 RX4 RX4 TX4 13 true  := ⟨rfl, by decide, rfl, by decide, in_X4, kw_278, rfl⟩
theorem gg_X4_27 : GFd RX4 27 3 6 RX4 RX4 TX4 13 true  := ⟨rfl, by decide, rfl, by decide, in_X4, kw_280, rfl⟩
theorem gg_X4_9 : GFd RX4 9 3 0 RX4 RX4 TX4 13 true  := ⟨rfl, by decide, rfl, by decide, in_X4, kw_262, rfl⟩
theorem gg_X4_53 : GFd RX4 53 3 11 RX4 RX4 TX4 13 false  := ⟨rfl, by decide, rfl, by decide, in_X4, kw_289, rfl⟩
theorem gg_X4_30 : GFd RX4 30 3 8 RX4 RX4 TX4 13 true  := ⟨rfl, by decide, rfl, by decide, in_X4, kw_285, rfl⟩
theorem gg_X4_36 : GFd RX4 36 3 10 RX4 RX4 TX4 13 true  := ⟨rfl, by decide, rfl, by decide, in_X4, kw_287, rfl⟩
theorem gg_X1_30 : GHd RX1 30 3 1 RX4 RX4 TX4 13 true "CrookedFrames" := ⟨rfl, by decide, rfl, by decide, in_X4, kw_266, rfl⟩
theorem gg_X1_11 : GFd RX1 11 1 0 RX1 RX1 TX1 5 true  := ⟨rfl, by decide, rfl, by decide, in_X1, kw_163, rfl⟩
theorem gg_X1_16 : GFd RX1 16 1 1 RX1 RX1 TX1 5 true  := ⟨rfl, by decide, rfl, by decide, in_X1, kw_165, rfl⟩
theorem gg_X1_22 : GFd RX1 22 1 3 RX1 RX1 TX1 5 true  := ⟨rfl, by decide, rfl, by decide, in_X1, kw_169, rfl⟩
theorem gg_X1_19 : GFd RX1 19 1 2 RX1 RX1 TX1 5 true  := ⟨rfl, by decide, rfl, by decide, in_X1, kw_167, rfl⟩
theorem gp_X1_26 : GPd RX1 26 1 4 RX1 RX1 TX1 5 false  tyX1 .boolean := ⟨⟨rfl, by decide, rfl, by decide, in_X1, kw_171, rfl⟩, tyX1_ok, nmX1, rfl, by decide +kernel⟩
theorem gg_X11_45 : GFd RX11 45 10 5 RX11 RX11 TX11 12 true  := ⟨rfl, by decide, rfl, by decide, in_X11, kw_458, rfl⟩
theorem gg_X11_185 : GHd RX11 185 1 4 RX1 RX1 TX1 5 false "CrookedFrames" := ⟨rfl, by decide, rfl, by decide, in_X1, kw_172, rfl⟩
theorem gg_X11_80 : GFd RX11 80 10 10 RX11 RX11 TX11 12 true  := ⟨rfl, by decide, rfl, by decide, in_X11, kw_463, rfl⟩
theorem gg_X11_26 : GFd RX11 26 10 2 RX11 RX11 TX11 12 true  := ⟨rfl, by decide, rfl, by decide, in_X11, kw_455, rfl⟩
theorem gg_X11_116 : GHd RX11 116 3 4 RX4 RX4 TX4 13 false "CrookedFrames" := ⟨rfl, by decide, rfl, by decide, in_X4, kw_277, rfl⟩
theorem gg_X11_149 : GHd RX11 149 1 1 RX1 RX1 TX1 5 true "CrookedFrames" := ⟨rfl, by decide, rfl, by decide, in_X1, kw_166, rfl⟩
theorem gg_X7_22 : GFd RX7 22 6 1 RX7 RX7 TX7 2 false  := ⟨rfl, by decide, rfl, by decide, in_X7, kw_148, rfl⟩
theorem gp_X7_22 : GPd RX7 22 6 1 RX7 RX7 TX7 2 false  tyX7 .int := ⟨⟨rfl, by decide, rfl, by decide, in_X7, kw_148, rfl⟩, tyX7_ok, nmX7, rfl, by decide +kernel⟩
theorem gg_X7_15 : GFd RX7 15 6 0 RX7 RX7 TX7 2 true  := ⟨rfl, by decide, rfl, by decide, in_X7, kw_147, rfl⟩
theorem gg_X11_39 : GFd RX11 39 10 4 RX11 RX11 TX11 12 true  := ⟨rfl, by decide, rfl, by decide, in_X11, kw_457, rfl⟩
theorem gg_X11_35 : GFd RX11 35 10 3 RX11 RX11 TX11 12 true  := ⟨rfl, by decide, rfl, by decide, in_X11, kw_456, rfl⟩
theorem gp_X11_196 : GQd RX11 196 6 1 RX7 RX7 TX7 2 false "CrookedFrames" tyX7 .int := ⟨⟨rfl, by decide, rfl, by decide, in_X7, kw_149, rfl⟩, tyX7_ok, nmX7, rfl, by decide +kernel⟩
theorem gp_X11_185 : GQd RX11 185 1 4 RX1 RX1 TX1 5 false "CrookedFrames" tyX1 .boolean := ⟨⟨rfl, by decide, rfl, by decide, in_X1, kw_172, rfl⟩, tyX1_ok, nmX1, rfl, by decide +kernel⟩
theorem gg_X11_196 : GHd RX11 196 6 1 RX7 RX7 TX7 2 false "CrookedFrames" := ⟨rfl, by decide, rfl, by decide, in_X7, kw_149, rfl⟩
theorem gg_X8_21 : GFd RX8 21 7 2 RX8 RX8 TX8 4 false  := ⟨rfl, by decide, rfl, by decide, in_X8, kw_215, rfl⟩
theorem gg_X8_9 : GFd RX8 9 7 0 RX8 RX8 TX8 4 true  := ⟨rfl, by decide, rfl, by decide, in_X8, kw_213, rfl⟩
theorem gg_X8_15 : GFd RX8 15 7 1 RX8 RX8 TX8 4 true  := ⟨rfl, by decide, rfl, by decide, in_X8, kw_214, rfl⟩
theorem gg_X11_59 : GFd RX11 59 10 7 RX11 RX11 TX11 12 true  := ⟨rfl, by decide, rfl, by decide, in_X11, kw_460, rfl⟩
theorem gg_X11_136 : GHd RX11 136 3 7 RX4 RX4 TX4 13 false "CrookedFrames" := ⟨rfl, by decide, rfl, by decide, in_X4, kw_283, rfl⟩
theorem gg_X11_259 : GHd RX11 259 3 11 RX4 RX4 TX4 13 false "CrookedFrames" := ⟨rfl, by decide, rfl, by decide, in_X4, kw_291, rfl⟩
theorem gg_X11_167 : GHd RX11 167 9 3 RX10 RX10 TX10 4 false "CrookedFrames" := ⟨rfl, by decide, rfl, by decide, in_X10, kw_125, rfl⟩
theorem gg_X11_221 : GHd RX11 221 7 2 RX8 RX8 TX8 4 false "CrookedFrames" := ⟨rfl, by decide, rfl, by decide, in_X8, kw_216, rfl⟩
theorem gg_X11_10 : GFd RX11 10 10 0 RX11 RX11 TX11 12 true  := ⟨rfl, by decide, rfl, by decide, in_X11, kw_453, rfl⟩
theorem gg_X11_113 : GHd RX11 113 8 1 RX9 RX9 TX9 2 false "CrookedFrames" := ⟨rfl, by decide, rfl, by decide, in_X9, kw_91, rfl⟩
theorem gp_X4_46 : GPd RX4 46 3 4 RX4 RX4 TX4 13 false  tyX4 .int := ⟨⟨rfl, by decide, rfl, by decide, in_X4, kw_273, rfl⟩, tyX4_ok, nmX4, rfl, by decide +kernel⟩
theorem gp_X4_50 : GPd RX4 50 3 7 RX4 RX4 TX4 13 false  tyX4 .int := ⟨⟨rfl, by decide, rfl, by decide, in_X4, kw_282, rfl⟩, tyX4_ok, nmX4, rfl, by decide +kernel⟩
theorem gp_X4_53 : GPd RX4 53 3 11 RX4 RX4 TX4 13 false  tyX4 .int := ⟨⟨rfl, by decide, rfl, by decide, in_X4, kw_289, rfl⟩, tyX4_ok, nmX4, rfl, by decide +kernel⟩
theorem gg_X4_42 : GFd RX4 42 3 12 RX4 RX4 TX4 13 true  := ⟨rfl, by decide, rfl, by decide, in_X4, kw_292, rfl⟩
theorem gp_X4_56 : GQd RX4 56 9 3 RX10 RX10 TX10 4 false "CrookedFrames" tyX10 .int := ⟨⟨rfl, by decide, rfl, by decide, in_X10, kw_124, rfl⟩, tyX10_ok, nmX10, rfl, by decide +kernel⟩
theorem gg_X9_15 : GFd RX9 15 8 1 RX9 RX9 TX9 2 false  := ⟨rfl, by decide, rfl, by decide, in_X9, kw_89, rfl⟩
theorem gg_X9_9 : GFd RX9 9 8 0 RX9 RX9 TX9 2 true  := ⟨rfl, by decide, rfl, by decide, in_X9, kw_88, rfl⟩
theorem gg_X6_20 : GFd RX6 20 5 1 RX6 RX6 TX6 2 false  := ⟨rfl, by decide, rfl, by decide, in_X6, kw_105, rfl⟩
theorem gp_X6_20 : GPd RX6 20 5 1 RX6 RX6 TX6 2 false  tyX6 .int := ⟨⟨rfl, by decide, rfl, by decide, in_X6, kw_105, rfl⟩, tyX6_ok, nmX6, rfl, by decide +kernel⟩
theorem gg_X6_11 : GFd RX6 11 5 0 RX6 RX6 TX6 2 true  := ⟨rfl, by decide, rfl, by decide, in_X6, kw_104, rfl⟩
theorem gg_X4_15 : GFd RX4 15 3 1 RX4 RX4 TX4 13 true  := ⟨rfl, by decide, rfl, by decide, in_X4, kw_265, rfl⟩
theorem gg_X4_21 : GFd RX4 21 3 3 RX4 RX4 TX4 13 true  := ⟨rfl, by decide, rfl, by decide, in_X4, kw_271, rfl⟩
theorem gg_X4_50 : GFd RX4 50 3 7 RX4 RX4 TX4 13 false  := ⟨rfl, by decide, rfl, by decide, in_X4, kw_282, rfl⟩
theorem gg_X4_33 : GFd RX4 33 3 9 RX4 RX4 TX4 13 true  := ⟨rfl, by decide, rfl, by decide, in_X4, kw_286, rfl⟩
theorem gg_X4_56 : GHd RX4 56 9 3 RX10 RX10 TX10 4 false "CrookedFrames" := ⟨rfl, by decide, rfl, by decide, in_X10, kw_124, rfl⟩
theorem gg_X6_24 : GHd RX6 24 8 1 RX9 RX9 TX9 2 false "CrookedFrames" := ⟨rfl, by decide, rfl, by decide, in_X9, kw_90, rfl⟩
theorem gg_X11_19 : GFd RX11 19 10 1 RX11 RX11 TX11 12 true  := ⟨rfl, by decide, rfl, by decide, in_X11, kw_454, rfl⟩
theorem gg_X11_84 : GFd RX11 84 10 11 RX11 RX11 TX11 12 true  := ⟨rfl, by decide, rfl, by decide, in_X11, kw_464, rfl⟩
theorem gg_X5_102 : GHd RX5 102 3 7 RX4 RX4 TX4 13 false "CrookedFrames" := ⟨rfl, by decide, rfl, by decide, in_X4, kw_284, rfl⟩
theorem gg_X5_18 : GFd RX5 18 4 2 RX5 RX5 TX5 5 true  := ⟨rfl, by decide, rfl, by decide, in_X5, kw_193, rfl⟩
theorem gg_X5_92 : GHd RX5 92 3 11 RX4 RX4 TX4 13 false "CrookedFrames" := ⟨rfl, by decide, rfl, by decide, in_X4, kw_290, rfl⟩
theorem gg_X5_95 : GHd RX5 95 3 10 RX4 RX4 TX4 13 true "CrookedFrames" := ⟨rfl, by decide, rfl, by decide, in_X4, kw_288, rfl⟩
theorem gg_X5_26 : GFd RX5 26 4 4 RX5 RX5 TX5 5 true  := ⟨rfl, by decide, rfl, by decide, in_X5, kw_195, rfl⟩
theorem gg_X5_23 : GFd RX5 23 4 3 RX5 RX5 TX5 5 true  := ⟨rfl, by decide, rfl, by decide, in_X5, kw_194, rfl⟩
theorem gg_X5_76 : GHd RX5 76 3 0 RX4 RX4 TX4 13 true "CrookedFrames" := ⟨rfl, by decide, rfl, by decide, in_X4, kw_264, rfl⟩
theorem gg_X5_29 : GHd RX5 29 3 4 RX4 RX4 TX4 13 false "CrookedFrames" := ⟨rfl, by decide, rfl, by decide, in_X4, kw_274, rfl⟩
theorem gg_X5_9 : GFd RX5 9 4 0 RX5 RX5 TX5 5 true  := ⟨rfl, by decide, rfl, by decide, in_X5, kw_191, rfl⟩
theorem gg_X5_15 : GFd RX5 15 4 1 RX5 RX5 TX5 5 true  := ⟨rfl, by decide, rfl, by decide, in_X5, kw_192, rfl⟩
theorem gg_X11_153 : GHd RX11 153 1 3 RX1 RX1 TX1 5 true "CrookedFrames" := ⟨rfl, by decide, rfl, by decide, in_X1, kw_170, rfl⟩
theorem gg_X11_52 : GFd RX11 52 10 6 RX11 RX11 TX11 12 true  := ⟨rfl, by decide, rfl, by decide, in_X11, kw_459, rfl⟩
theorem gg_X11_197 : GHd RX11 197 1 0 RX1 RX1 TX1 5 true "CrookedFrames" := ⟨rfl, by decide, rfl, by decide, in_X1, kw_164, rfl⟩
theorem gp_X8_21 : GPd RX8 21 7 2 RX8 RX8 TX8 4 false  tyX8 .int := ⟨⟨rfl, by decide, rfl, by decide, in_X8, kw_215, rfl⟩, tyX8_ok, nmX8, rfl, by decide +kernel⟩
theorem gg_X11_123 : GHd RX11 123 3 0 RX4 RX4 TX4 13 true "CrookedFrames" := ⟨rfl, by decide, rfl, by decide, in_X4, kw_263, rfl⟩
theorem gg_X11_127 : GHd RX11 127 3 1 RX4 RX4 TX4 13 true "CrookedFrames" := ⟨rfl, by decide, rfl, by decide, in_X4, kw_268, rfl⟩
theorem gg_X11_130 : GHd RX11 130 3 2 RX4 RX4 TX4 13 true "CrookedFrames" := ⟨rfl, by decide, rfl, by decide, in_X4, kw_270, rfl⟩
theorem gg_X11_133 : GHd RX11 133 3 3 RX4 RX4 TX4 13 true "CrookedFrames" := ⟨rfl, by decide, rfl, by decide, in_X4, kw_272, rfl⟩
theorem gp_X9_15 : GPd RX9 15 8 1 RX9 RX9 TX9 2 false  tyX9 .int := ⟨⟨rfl, by decide, rfl, by decide, in_X9, kw_89, rfl⟩, tyX9_ok, nmX9, rfl, by decide +kernel⟩
theorem gp_X11_80 : GPd RX11 80 10 10 RX11 RX11 TX11 12 true  tyX11 (tyX11 10) := ⟨⟨rfl, by decide, rfl, by decide, in_X11, kw_463, rfl⟩, tyX11_ok, nmX11, rfl, by decide +kernel⟩
theorem gp_X11_84 : GPd RX11 84 10 11 RX11 RX11 TX11 12 true  tyX11 (tyX11 11) := ⟨⟨rfl, by decide, rfl, by decide, in_X11, kw_464, rfl⟩, tyX11_ok, nmX11, rfl, by decide +kernel⟩
theorem gg_X11_262 : GHd RX11 262 3 12 RX4 RX4 TX4 13 true "CrookedFrames" := ⟨rfl, by decide, rfl, by decide, in_X4, kw_293, rfl⟩
theorem gg_X8_18 : GFd RX8 18 7 3 RX8 RX8 TX8 4 true  := ⟨rfl, by decide, rfl, by decide, in_X8, kw_217, rfl⟩
theorem gg_X2_9 : GFd RX2 9 2 0 RX2 RX2 TX2 2 true  := ⟨rfl, by decide, rfl, by decide, in_X2, kw_233, rfl⟩
theorem gg_X2_18 : GHd RX2 18 3 1 RX4 RX4 TX4 13 true "CrookedFrames" := ⟨rfl, by decide, rfl, by decide, in_X4, kw_267, rfl⟩
theorem gg_X2_33 : GHd RX2 33 3 4 RX4 RX4 TX4 13 false "CrookedFrames" := ⟨rfl, by decide, rfl, by decide, in_X4, kw_275, rfl⟩
theorem gg_X2_15 : GFd RX2 15 2 1 RX2 RX2 TX2 2 true  := ⟨rfl, by decide, rfl, by decide, in_X2, kw_235, rfl⟩
theorem gg_X11_66 : GFd RX11 66 10 8 RX11 RX11 TX11 12 true  := ⟨rfl, by decide, rfl, by decide, in_X11, kw_461, rfl⟩
theorem gg_X11_256 : GHd RX11 256 2 0 RX2 RX2 TX2 2 true "CrookedFrames" := ⟨rfl, by decide, rfl, by decide, in_X2, kw_234, rfl⟩
theorem gg_X11_142 : GHd RX11 142 3 6 RX4 RX4 TX4 13 true "CrookedFrames" := ⟨rfl, by decide, rfl, by decide, in_X4, kw_281, rfl⟩
theorem gg_X11_139 : GHd RX11 139 3 5 RX4 RX4 TX4 13 true "CrookedFrames" := ⟨rfl, by decide, rfl, by decide, in_X4, kw_279, rfl⟩
theorem gg_X1_59 : GHd RX1 59 3 4 RX4 RX4 TX4 13 false "CrookedFrames" := ⟨rfl, by decide, rfl, by decide, in_X4, kw_276, rfl⟩
theorem gg_X11_156 : GHd RX11 156 1 2 RX1 RX1 TX1 5 true "CrookedFrames" := ⟨rfl, by decide, rfl, by decide, in_X1, kw_168, rfl⟩
theorem gg_X11_170 : GHd RX11 170 9 0 RX10 RX10 TX10 4 true "CrookedFrames" := ⟨rfl, by decide, rfl, by decide, in_X10, kw_118, rfl⟩
theorem gg_X11_173 : GHd RX11 173 9 1 RX10 RX10 TX10 4 true "CrookedFrames" := ⟨rfl, by decide, rfl, by decide, in_X10, kw_120, rfl⟩
theorem gg_X11_175 : GHd RX11 175 9 2 RX10 RX10 TX10 4 true "CrookedFrames" := ⟨rfl, by decide, rfl, by decide, in_X10, kw_122, rfl⟩
theorem gg_X11_73 : GFd RX11 73 10 9 RX11 RX11 TX11 12 true  := ⟨rfl, by decide, rfl, by decide, in_X11, kw_462, rfl⟩
theorem gg_X12_7 : GFd RX12 7 11 0 RX12 RX12 TX12 32 false  := ⟨rfl, by decide, rfl, by decide, in_X12, kw_850, rfl⟩
theorem gg_X12_62 : GFd RX12 62 11 25 RX12 RX12 TX12 32 true  := ⟨rfl, by decide, rfl, by decide, in_X12, kw_875, rfl⟩
theorem gg_X12_13 : GFd RX12 13 11 1 RX12 RX12 TX12 32 true  := ⟨rfl, by decide, rfl, by decide, in_X12, kw_851, rfl⟩
theorem gg_X12_32 : GFd RX12 32 11 7 RX12 RX12 TX12 32 true  := ⟨rfl, by decide, rfl, by decide, in_X12, kw_857, rfl⟩
theorem gg_X12_20 : GFd RX12 20 11 3 RX12 RX12 TX12 32 true  := ⟨rfl, by decide, rfl, by decide, in_X12, kw_853, rfl⟩
theorem gg_X12_182 : GFd RX12 182 11 28 RX12 RX12 TX12 32 false  := ⟨rfl, by decide, rfl, by decide, in_X12, kw_878, rfl⟩
theorem gg_X12_68 : GFd RX12 68 11 27 RX12 RX12 TX12 32 true  := ⟨rfl, by decide, rfl, by decide, in_X12, kw_877, rfl⟩
theorem gp_X12_182 : GPd RX12 182 11 28 RX12 RX12 TX12 32 false  tyX12 .int := ⟨⟨rfl, by decide, rfl, by decide, in_X12, kw_878, rfl⟩, tyX12_ok, nmX12, rfl, by decide +kernel⟩
theorem gg_X12_23 : GFd RX12 23 11 4 RX12 RX12 TX12 32 false  := ⟨rfl, by decide, rfl, by decide, in_X12, kw_854, rfl⟩
theorem gg_X12_26 : GFd RX12 26 11 5 RX12 RX12 TX12 32 true  := ⟨rfl, by decide, rfl, by decide, in_X12, kw_855, rfl⟩
theorem gg_X12_29 : GFd RX12 29 11 6 RX12 RX12 TX12 32 true  := ⟨rfl, by decide, rfl, by decide, in_X12, kw_856, rfl⟩
theorem gg_X12_65 : GFd RX12 65 11 26 RX12 RX12 TX12 32 true  := ⟨rfl, by decide, rfl, by decide, in_X12, kw_876, rfl⟩
theorem gg_X12_153 : GFd RX12 153 11 10 RX12 RX12 TX12 32 false  := ⟨rfl, by decide, rfl, by decide, in_X12, kw_860, rfl⟩
theorem gp_X12_153 : GPd RX12 153 11 10 RX12 RX12 TX12 32 false  tyX12 .int := ⟨⟨rfl, by decide, rfl, by decide, in_X12, kw_860, rfl⟩, tyX12_ok, nmX12, rfl, by decide +kernel⟩
theorem gg_X12_38 : GFd RX12 38 11 11 RX12 RX12 TX12 32 true  := ⟨rfl, by decide, rfl, by decide, in_X12, kw_861, rfl⟩
theorem gp_X12_150 : GPd RX12 150 11 8 RX12 RX12 TX12 32 false  tyX12 .int := ⟨⟨rfl, by decide, rfl, by decide, in_X12, kw_858, rfl⟩, tyX12_ok, nmX12, rfl, by decide +kernel⟩
theorem gg_X12_156 : GFd RX12 156 11 12 RX12 RX12 TX12 32 false  := ⟨rfl, by decide, rfl, by decide, in_X12, kw_862, rfl⟩
theorem gg_X12_41 : GFd RX12 41 11 13 RX12 RX12 TX12 32 true  := ⟨rfl, by decide, rfl, by decide, in_X12, kw_863, rfl⟩
theorem gg_X12_17 : GFd RX12 17 11 2 RX12 RX12 TX12 32 false  := ⟨rfl, by decide, rfl, by decide, in_X12, kw_852, rfl⟩
theorem gg_X12_150 : GFd RX12 150 11 8 RX12 RX12 TX12 32 false  := ⟨rfl, by decide, rfl, by decide, in_X12, kw_858, rfl⟩
theorem gg_X12_91 : GFd RX12 91 11 15 RX12 RX12 TX12 32 false  := ⟨rfl, by decide, rfl, by decide, in_X12, kw_865, rfl⟩
theorem gg_X12_44 : GFd RX12 44 11 14 RX12 RX12 TX12 32 true  := ⟨rfl, by decide, rfl, by decide, in_X12, kw_864, rfl⟩
theorem gg_X12_94 : GFd RX12 94 11 16 RX12 RX12 TX12 32 false  := ⟨rfl, by decide, rfl, by decide, in_X12, kw_866, rfl⟩
theorem gg_X12_47 : GFd RX12 47 11 17 RX12 RX12 TX12 32 true  := ⟨rfl, by decide, rfl, by decide, in_X12, kw_867, rfl⟩
theorem gp_X12_94 : GPd RX12 94 11 16 RX12 RX12 TX12 32 false  tyX12 .int := ⟨⟨rfl, by decide, rfl, by decide, in_X12, kw_866, rfl⟩, tyX12_ok, nmX12, rfl, by decide +kernel⟩
theorem gg_X12_105 : GFd RX12 105 11 18 RX12 RX12 TX12 32 false  := ⟨rfl, by decide, rfl, by decide, in_X12, kw_868, rfl⟩
theorem gg_X12_50 : GFd RX12 50 11 19 RX12 RX12 TX12 32 true  := ⟨rfl, by decide, rfl, by decide, in_X12, kw_869, rfl⟩
theorem gp_X12_105 : GPd RX12 105 11 18 RX12 RX12 TX12 32 false  tyX12 .int := ⟨⟨rfl, by decide, rfl, by decide, in_X12, kw_868, rfl⟩, tyX12_ok, nmX12, rfl, by decide +kernel⟩
theorem gg_X12_114 : GFd RX12 114 11 20 RX12 RX12 TX12 32 false  := ⟨rfl, by decide, rfl, by decide, in_X12, kw_870, rfl⟩
theorem gg_X12_53 : GFd RX12 53 11 21 RX12 RX12 TX12 32 true  := ⟨rfl, by decide, rfl, by decide, in_X12, kw_871, rfl⟩
theorem gp_X12_114 : GPd RX12 114 11 20 RX12 RX12 TX12 32 false  tyX12 .int := ⟨⟨rfl, by decide, rfl, by decide, in_X12, kw_870, rfl⟩, tyX12_ok, nmX12, rfl, by decide +kernel⟩
theorem gg_X12_121 : GFd RX12 121 11 22 RX12 RX12 TX12 32 false  := ⟨rfl, by decide, rfl, by decide, in_X12, kw_872, rfl⟩
theorem gg_X12_56 : GFd RX12 56 11 23 RX12 RX12 TX12 32 true  := ⟨rfl, by decide, rfl, by decide, in_X12, kw_873, rfl⟩
theorem gp_X12_121 : GPd RX12 121 11 22 RX12 RX12 TX12 32 false  tyX12 .int := ⟨⟨rfl, by decide, rfl, by decide, in_X12, kw_872, rfl⟩, tyX12_ok, nmX12, rfl, by decide +kernel⟩
theorem gg_X12_59 : GFd RX12 59 11 24 RX12 RX12 TX12 32 true  := ⟨rfl, by decide, rfl, by decide, in_X12, kw_874, rfl⟩
theorem gp_X12_156 : GPd RX12 156 11 12 RX12 RX12 TX12 32 false  tyX12 .int := ⟨⟨rfl, by decide, rfl, by decide, in_X12, kw_862, rfl⟩, tyX12_ok, nmX12, rfl, by decide +kernel⟩
theorem gp_X12_7 : GPd RX12 7 11 0 RX12 RX12 TX12 32 false  tyX12 .int := ⟨⟨rfl, by decide, rfl, by decide, in_X12, kw_850, rfl⟩, tyX12_ok, nmX12, rfl, by decide +kernel⟩
theorem gp_X12_17 : GPd RX12 17 11 2 RX12 RX12 TX12 32 false  tyX12 .int := ⟨⟨rfl, by decide, rfl, by decide, in_X12, kw_852, rfl⟩, tyX12_ok, nmX12, rfl, by decide +kernel⟩
theorem gp_X12_23 : GPd RX12 23 11 4 RX12 RX12 TX12 32 false  tyX12 .int := ⟨⟨rfl, by decide, rfl, by decide, in_X12, kw_854, rfl⟩, tyX12_ok, nmX12, rfl, by decide +kernel⟩
theorem gg_X12_35 : GFd RX12 35 11 9 RX12 RX12 TX12 32 true  := ⟨rfl, by decide, rfl, by decide, in_X12, kw_859, rfl⟩
theorem gg_X12_77 : GFd RX12 77 11 31 RX12 RX12 TX12 32 true  := ⟨rfl, by decide, rfl, by decide, in_X12, kw_881, rfl⟩
theorem gg_X12_71 : GFd RX12 71 11 29 RX12 RX12 TX12 32 true  := ⟨rfl, by decide, rfl, by decide, in_X12, kw_879, rfl⟩
theorem gp_X12_91 : GPd RX12 91 11 15 RX12 RX12 TX12 32 false  tyX12 .int := ⟨⟨rfl, by decide, rfl, by decide, in_X12, kw_865, rfl⟩, tyX12_ok, nmX12, rfl, by decide +kernel⟩
theorem gg_X12_74 : GFd RX12 74 11 30 RX12 RX12 TX12 32 true  := ⟨rfl, by decide, rfl, by decide, in_X12, kw_880, rfl⟩
theorem q_J6_bitCount_0f7a4 : CalS yJ6_bitCount_0f7a4 cJ6_bitCount_0f7a4 1 (some .int) 1 := ⟨⟨kc_J6_bitCount_0f7a4, ki_J6⟩, by decide +kernel⟩
theorem q_J7_fill_53178 : CalS yJ7_fill_53178 cJ7_fill_53178 4 none 2 := ⟨⟨kc_J7_fill_53178, ki_J7⟩, by decide +kernel⟩
theorem q_X0_allWays : CalS yX0_allWays cX0_allWays 4 (some .int) 1 := ⟨⟨kc_X0_allWays, ki_X0⟩, by decide +kernel⟩
theorem q_X0_commonDivisor : CalS yX0_commonDivisor cX0_commonDivisor 6 (some .int) 2 := ⟨⟨kc_X0_commonDivisor, ki_X0⟩, by decide +kernel⟩
theorem q_X0_twist : CalS yX0_twist cX0_twist 6 none 3 := ⟨⟨kc_X0_twist, ki_X0⟩, by decide +kernel⟩
theorem q_X0_waysWithin : CalS yX0_waysWithin cX0_waysWithin 5 (some .int) 2 := ⟨⟨kc_X0_waysWithin, ki_X0⟩, by decide +kernel⟩
theorem q_X10_add : CalS yX10_add cX10_add 4 none 3 := ⟨⟨kc_X10_add, ki_X10⟩, by decide +kernel⟩
theorem q_X10_copy : CalS yX10_copy cX10_copy 3 none 1 := ⟨⟨kc_X10_copy, ki_X10⟩, by decide +kernel⟩
theorem q_X10_remove : CalS yX10_remove cX10_remove 3 none 1 := ⟨⟨kc_X10_remove, ki_X10⟩, by decide +kernel⟩
theorem q_X10_turnAll : CalS yX10_turnAll cX10_turnAll 4 none 2 := ⟨⟨kc_X10_turnAll, ki_X10⟩, by decide +kernel⟩
theorem q_X11_angle : CalS yX11_angle cX11_angle 3 (some .int) 2 := ⟨⟨kc_X11_angle, ki_X11⟩, by decide +kernel⟩
theorem q_X11_back : CalS yX11_back cX11_back 1 (some .int) 0 := ⟨⟨kc_X11_back, ki_X11⟩, by decide +kernel⟩
theorem q_X11_bears : CalS yX11_bears cX11_bears 2 (some .int) 1 := ⟨⟨kc_X11_bears, ki_X11⟩, by decide +kernel⟩
theorem q_X11_count : CalS yX11_count cX11_count 2 (some .int) 1 := ⟨⟨kc_X11_count, ki_X11⟩, by decide +kernel⟩
theorem q_X11_daysNow : CalS yX11_daysNow cX11_daysNow 1 (some (.object "CrookedFrames$Days")) 0 := ⟨⟨kc_X11_daysNow, ki_X11⟩, by decide +kernel⟩
theorem q_X11_ends : CalS yX11_ends cX11_ends 7 (some .int) 4 := ⟨⟨kc_X11_ends, ki_X11⟩, by decide +kernel⟩
theorem q_X11_fault : CalS yX11_fault cX11_fault 1 (some .int) 0 := ⟨⟨kc_X11_fault, ki_X11⟩, by decide +kernel⟩
theorem q_X11_fewest : CalS yX11_fewest cX11_fewest 3 (some .int) 2 := ⟨⟨kc_X11_fewest, ki_X11⟩, by decide +kernel⟩
theorem q_X11_forget : CalS yX11_forget cX11_forget 1 (some .int) 0 := ⟨⟨kc_X11_forget, ki_X11⟩, by decide +kernel⟩
theorem q_X11_frame : CalS yX11_frame cX11_frame 3 (some .int) 2 := ⟨⟨kc_X11_frame, ki_X11⟩, by decide +kernel⟩
theorem q_X11_hang : CalS yX11_hang cX11_hang 5 (some .int) 1 := ⟨⟨kc_X11_hang, ki_X11⟩, by decide +kernel⟩
theorem q_X11_hers : CalS yX11_hers cX11_hers 2 (some .int) 1 := ⟨⟨kc_X11_hers, ki_X11⟩, by decide +kernel⟩
theorem q_X11_keep : CalS yX11_keep cX11_keep 1 (some .int) 0 := ⟨⟨kc_X11_keep, ki_X11⟩, by decide +kernel⟩
theorem q_X11_keptWithin : CalS yX11_keptWithin cX11_keptWithin 1 (some .int) 1 := ⟨⟨kc_X11_keptWithin, ki_X11⟩, by decide +kernel⟩
theorem q_X11_lay : CalS yX11_lay cX11_lay 1 (some .int) 0 := ⟨⟨kc_X11_lay, ki_X11⟩, by decide +kernel⟩
theorem q_X11_leave : CalS yX11_leave cX11_leave 2 (some .int) 1 := ⟨⟨kc_X11_leave, ki_X11⟩, by decide +kernel⟩
theorem q_X11_look : CalS yX11_look cX11_look 5 (some .int) 2 := ⟨⟨kc_X11_look, ki_X11⟩, by decide +kernel⟩
theorem q_X11_most : CalS yX11_most cX11_most 4 (some .int) 1 := ⟨⟨kc_X11_most, ki_X11⟩, by decide +kernel⟩
theorem q_X11_moveIn : CalS yX11_moveIn cX11_moveIn 2 none 0 := ⟨⟨kc_X11_moveIn, ki_X11⟩, by decide +kernel⟩
theorem q_X11_night : CalS yX11_night cX11_night 4 (some .int) 2 := ⟨⟨kc_X11_night, ki_X11⟩, by decide +kernel⟩
theorem q_X11_outside : CalS yX11_outside cX11_outside 2 (some .boolean) 2 := ⟨⟨kc_X11_outside, ki_X11⟩, by decide +kernel⟩
theorem q_X11_patches : CalS yX11_patches cX11_patches 4 (some .int) 1 := ⟨⟨kc_X11_patches, ki_X11⟩, by decide +kernel⟩
theorem q_X11_person : CalS yX11_person cX11_person 3 (some .int) 2 := ⟨⟨kc_X11_person, ki_X11⟩, by decide +kernel⟩
theorem q_X11_rest : CalS yX11_rest cX11_rest 1 (some .int) 0 := ⟨⟨kc_X11_rest, ki_X11⟩, by decide +kernel⟩
theorem q_X11_safe : CalS yX11_safe cX11_safe 3 (some .int) 1 := ⟨⟨kc_X11_safe, ki_X11⟩, by decide +kernel⟩
theorem q_X11_seen : CalS yX11_seen cX11_seen 3 (some .int) 2 := ⟨⟨kc_X11_seen, ki_X11⟩, by decide +kernel⟩
theorem q_X11_sets : CalS yX11_sets cX11_sets 3 (some .int) 2 := ⟨⟨kc_X11_sets, ki_X11⟩, by decide +kernel⟩
theorem q_X11_sways : CalS yX11_sways cX11_sways 1 (some .int) 0 := ⟨⟨kc_X11_sways, ki_X11⟩, by decide +kernel⟩
theorem q_X11_tempt : CalS yX11_tempt cX11_tempt 3 (some .int) 2 := ⟨⟨kc_X11_tempt, ki_X11⟩, by decide +kernel⟩
theorem q_X11_told : CalS yX11_told cX11_told 3 (some .int) 2 := ⟨⟨kc_X11_told, ki_X11⟩, by decide +kernel⟩
theorem q_X11_turn : CalS yX11_turn cX11_turn 4 (some .int) 3 := ⟨⟨kc_X11_turn, ki_X11⟩, by decide +kernel⟩
theorem q_X11_undo : CalS yX11_undo cX11_undo 1 (some .int) 0 := ⟨⟨kc_X11_undo, ki_X11⟩, by decide +kernel⟩
theorem q_X11_who : CalS yX11_who cX11_who 5 (some .int) 2 := ⟨⟨kc_X11_who, ki_X11⟩, by decide +kernel⟩
theorem q_X11_wipe : CalS yX11_wipe cX11_wipe 1 (some .int) 0 := ⟨⟨kc_X11_wipe, ki_X11⟩, by decide +kernel⟩
theorem q_X11_wire : CalS yX11_wire cX11_wire 11 (some .int) 6 := ⟨⟨kc_X11_wire, ki_X11⟩, by decide +kernel⟩
theorem q_X11_write : CalS yX11_write cX11_write 2 (some .int) 1 := ⟨⟨kc_X11_write, ki_X11⟩, by decide +kernel⟩
theorem q_X12_alike : CalS yX12_alike cX12_alike 7 (some .int) 3 := ⟨⟨kc_X12_alike, ki_X12⟩, by decide +kernel⟩
theorem q_X12_angle : CalS yX12_angle cX12_angle 3 (some .int) 2 := ⟨⟨kc_X12_angle, ki_X12⟩, by decide +kernel⟩
theorem q_X12_back : CalS yX12_back cX12_back 2 (some .int) 0 := ⟨⟨kc_X12_back, ki_X12⟩, by decide +kernel⟩
theorem q_X12_bears : CalS yX12_bears cX12_bears 2 (some .int) 1 := ⟨⟨kc_X12_bears, ki_X12⟩, by decide +kernel⟩
theorem q_X12_bearsBy : CalS yX12_bearsBy cX12_bearsBy 6 (some .int) 1 := ⟨⟨kc_X12_bearsBy, ki_X12⟩, by decide +kernel⟩
theorem q_X12_begins : CalS yX12_begins cX12_begins 2 none 0 := ⟨⟨kc_X12_begins, ki_X12⟩, by decide +kernel⟩
theorem q_X12_bits : CalS yX12_bits cX12_bits 3 (some .int) 1 := ⟨⟨kc_X12_bits, ki_X12⟩, by decide +kernel⟩
theorem q_X12_borne : CalS yX12_borne cX12_borne 6 (some .int) 1 := ⟨⟨kc_X12_borne, ki_X12⟩, by decide +kernel⟩
theorem q_X12_byOf : CalS yX12_byOf cX12_byOf 3 (some .int) 1 := ⟨⟨kc_X12_byOf, ki_X12⟩, by decide +kernel⟩
theorem q_X12_comes : CalS yX12_comes cX12_comes 4 none 2 := ⟨⟨kc_X12_comes, ki_X12⟩, by decide +kernel⟩
theorem q_X12_count : CalS yX12_count cX12_count 2 (some .int) 1 := ⟨⟨kc_X12_count, ki_X12⟩, by decide +kernel⟩
theorem q_X12_ends : CalS yX12_ends cX12_ends 7 (some .int) 4 := ⟨⟨kc_X12_ends, ki_X12⟩, by decide +kernel⟩
theorem q_X12_fault : CalS yX12_fault cX12_fault 2 (some .int) 0 := ⟨⟨kc_X12_fault, ki_X12⟩, by decide +kernel⟩
theorem q_X12_fewest : CalS yX12_fewest cX12_fewest 5 (some .int) 2 := ⟨⟨kc_X12_fewest, ki_X12⟩, by decide +kernel⟩
theorem q_X12_forget : CalS yX12_forget cX12_forget 2 (some .int) 0 := ⟨⟨kc_X12_forget, ki_X12⟩, by decide +kernel⟩
theorem q_X12_frame : CalS yX12_frame cX12_frame 4 (some .int) 2 := ⟨⟨kc_X12_frame, ki_X12⟩, by decide +kernel⟩
theorem q_X12_fromDawn : CalS yX12_fromDawn cX12_fromDawn 2 none 0 := ⟨⟨kc_X12_fromDawn, ki_X12⟩, by decide +kernel⟩
theorem q_X12_goes : CalS yX12_goes cX12_goes 4 none 1 := ⟨⟨kc_X12_goes, ki_X12⟩, by decide +kernel⟩
theorem q_X12_hang : CalS yX12_hang cX12_hang 6 (some .int) 1 := ⟨⟨kc_X12_hang, ki_X12⟩, by decide +kernel⟩
theorem q_X12_has : CalS yX12_has cX12_has 2 (some .boolean) 2 := ⟨⟨kc_X12_has, ki_X12⟩, by decide +kernel⟩
theorem q_X12_hers : CalS yX12_hers cX12_hers 2 (some .int) 1 := ⟨⟨kc_X12_hers, ki_X12⟩, by decide +kernel⟩
theorem q_X12_in : CalS yX12_in cX12_in 3 (some .boolean) 3 := ⟨⟨kc_X12_in, ki_X12⟩, by decide +kernel⟩
theorem q_X12_isDay : CalS yX12_isDay cX12_isDay 1 (some .boolean) 1 := ⟨⟨kc_X12_isDay, ki_X12⟩, by decide +kernel⟩
theorem q_X12_isFigure : CalS yX12_isFigure cX12_isFigure 1 (some .boolean) 1 := ⟨⟨kc_X12_isFigure, ki_X12⟩, by decide +kernel⟩
theorem q_X12_isFrame : CalS yX12_isFrame cX12_isFrame 2 (some .boolean) 1 := ⟨⟨kc_X12_isFrame, ki_X12⟩, by decide +kernel⟩
theorem q_X12_isPerson : CalS yX12_isPerson cX12_isPerson 2 (some .boolean) 1 := ⟨⟨kc_X12_isPerson, ki_X12⟩, by decide +kernel⟩
theorem q_X12_isTold : CalS yX12_isTold cX12_isTold 4 (some .boolean) 3 := ⟨⟨kc_X12_isTold, ki_X12⟩, by decide +kernel⟩
theorem q_X12_keep : CalS yX12_keep cX12_keep 2 (some .int) 0 := ⟨⟨kc_X12_keep, ki_X12⟩, by decide +kernel⟩
theorem q_X12_lay : CalS yX12_lay cX12_lay 1 (some .int) 0 := ⟨⟨kc_X12_lay, ki_X12⟩, by decide +kernel⟩
theorem q_X12_lays : CalS yX12_lays cX12_lays 5 none 5 := ⟨⟨kc_X12_lays, ki_X12⟩, by decide +kernel⟩
theorem q_X12_leave : CalS yX12_leave cX12_leave 3 (some .int) 1 := ⟨⟨kc_X12_leave, ki_X12⟩, by decide +kernel⟩
theorem q_X12_letterAt : CalS yX12_letterAt cX12_letterAt 2 (some .int) 1 := ⟨⟨kc_X12_letterAt, ki_X12⟩, by decide +kernel⟩
theorem q_X12_look : CalS yX12_look cX12_look 6 (some .int) 2 := ⟨⟨kc_X12_look, ki_X12⟩, by decide +kernel⟩
theorem q_X12_madeBy : CalS yX12_madeBy cX12_madeBy 3 (some .int) 2 := ⟨⟨kc_X12_madeBy, ki_X12⟩, by decide +kernel⟩
theorem q_X12_madeOf : CalS yX12_madeOf cX12_madeOf 3 (some .int) 3 := ⟨⟨kc_X12_madeOf, ki_X12⟩, by decide +kernel⟩
theorem q_X12_morning : CalS yX12_morning cX12_morning 2 none 0 := ⟨⟨kc_X12_morning, ki_X12⟩, by decide +kernel⟩
theorem q_X12_most : CalS yX12_most cX12_most 4 (some .int) 1 := ⟨⟨kc_X12_most, ki_X12⟩, by decide +kernel⟩
theorem q_X12_night : CalS yX12_night cX12_night 8 (some .int) 2 := ⟨⟨kc_X12_night, ki_X12⟩, by decide +kernel⟩
theorem q_X12_nightOf : CalS yX12_nightOf cX12_nightOf 3 none 1 := ⟨⟨kc_X12_nightOf, ki_X12⟩, by decide +kernel⟩
theorem q_X12_orders : CalS yX12_orders cX12_orders 4 none 0 := ⟨⟨kc_X12_orders, ki_X12⟩, by decide +kernel⟩
theorem q_X12_patches : CalS yX12_patches cX12_patches 4 (some .int) 1 := ⟨⟨kc_X12_patches, ki_X12⟩, by decide +kernel⟩
theorem q_X12_person : CalS yX12_person cX12_person 3 (some .int) 2 := ⟨⟨kc_X12_person, ki_X12⟩, by decide +kernel⟩
theorem q_X12_put : CalS yX12_put cX12_put 5 none 4 := ⟨⟨kc_X12_put, ki_X12⟩, by decide +kernel⟩
theorem q_X12_readComingOf : CalS yX12_readComingOf cX12_readComingOf 1 (some .boolean) 0 := ⟨⟨kc_X12_readComingOf, ki_X12⟩, by decide +kernel⟩
theorem q_X12_readFrameOf : CalS yX12_readFrameOf cX12_readFrameOf 2 (some .boolean) 0 := ⟨⟨kc_X12_readFrameOf, ki_X12⟩, by decide +kernel⟩
theorem q_X12_readItem : CalS yX12_readItem cX12_readItem 2 (some .boolean) 0 := ⟨⟨kc_X12_readItem, ki_X12⟩, by decide +kernel⟩
theorem q_X12_readNumbers : CalS yX12_readNumbers cX12_readNumbers 3 (some .boolean) 1 := ⟨⟨kc_X12_readNumbers, ki_X12⟩, by decide +kernel⟩
theorem q_X12_readPatch : CalS yX12_readPatch cX12_readPatch 2 (some .boolean) 0 := ⟨⟨kc_X12_readPatch, ki_X12⟩, by decide +kernel⟩
theorem q_X12_readPersonOf : CalS yX12_readPersonOf cX12_readPersonOf 1 (some .boolean) 0 := ⟨⟨kc_X12_readPersonOf, ki_X12⟩, by decide +kernel⟩
theorem q_X12_readTurn : CalS yX12_readTurn cX12_readTurn 1 (some .boolean) 0 := ⟨⟨kc_X12_readTurn, ki_X12⟩, by decide +kernel⟩
theorem q_X12_readTwist : CalS yX12_readTwist cX12_readTwist 2 (some .boolean) 0 := ⟨⟨kc_X12_readTwist, ki_X12⟩, by decide +kernel⟩
theorem q_X12_remembers : CalS yX12_remembers cX12_remembers 2 none 0 := ⟨⟨kc_X12_remembers, ki_X12⟩, by decide +kernel⟩
theorem q_X12_rest : CalS yX12_rest cX12_rest 4 (some .int) 0 := ⟨⟨kc_X12_rest, ki_X12⟩, by decide +kernel⟩
theorem q_X12_safe : CalS yX12_safe cX12_safe 4 (some .int) 1 := ⟨⟨kc_X12_safe, ki_X12⟩, by decide +kernel⟩
theorem q_X12_seen : CalS yX12_seen cX12_seen 3 (some .int) 2 := ⟨⟨kc_X12_seen, ki_X12⟩, by decide +kernel⟩
theorem q_X12_sets : CalS yX12_sets cX12_sets 3 (some .int) 2 := ⟨⟨kc_X12_sets, ki_X12⟩, by decide +kernel⟩
theorem q_X12_size : CalS yX12_size cX12_size 1 (some .int) 1 := ⟨⟨kc_X12_size, ki_X12⟩, by decide +kernel⟩
theorem q_X12_sways : CalS yX12_sways cX12_sways 4 (some .int) 0 := ⟨⟨kc_X12_sways, ki_X12⟩, by decide +kernel⟩
theorem q_X12_tempt : CalS yX12_tempt cX12_tempt 3 (some .int) 2 := ⟨⟨kc_X12_tempt, ki_X12⟩, by decide +kernel⟩
theorem q_X12_tempted : CalS yX12_tempted cX12_tempted 3 (some .int) 1 := ⟨⟨kc_X12_tempted, ki_X12⟩, by decide +kernel⟩
theorem q_X12_told : CalS yX12_told cX12_told 3 (some .int) 2 := ⟨⟨kc_X12_told, ki_X12⟩, by decide +kernel⟩
theorem q_X12_tries : CalS yX12_tries cX12_tries 2 none 1 := ⟨⟨kc_X12_tries, ki_X12⟩, by decide +kernel⟩
theorem q_X12_turn : CalS yX12_turn cX12_turn 4 (some .int) 3 := ⟨⟨kc_X12_turn, ki_X12⟩, by decide +kernel⟩
theorem q_X12_turnsBy : CalS yX12_turnsBy cX12_turnsBy 3 none 2 := ⟨⟨kc_X12_turnsBy, ki_X12⟩, by decide +kernel⟩
theorem q_X12_twists : CalS yX12_twists cX12_twists 2 none 0 := ⟨⟨kc_X12_twists, ki_X12⟩, by decide +kernel⟩
theorem q_X12_undo : CalS yX12_undo cX12_undo 2 (some .int) 0 := ⟨⟨kc_X12_undo, ki_X12⟩, by decide +kernel⟩
theorem q_X12_who : CalS yX12_who cX12_who 5 (some .int) 2 := ⟨⟨kc_X12_who, ki_X12⟩, by decide +kernel⟩
theorem q_X12_wipe : CalS yX12_wipe cX12_wipe 2 (some .int) 0 := ⟨⟨kc_X12_wipe, ki_X12⟩, by decide +kernel⟩
theorem q_X12_wire : CalS yX12_wire cX12_wire 13 (some .int) 6 := ⟨⟨kc_X12_wire, ki_X12⟩, by decide +kernel⟩
theorem q_X12_within : CalS yX12_within cX12_within 1 (some .int) 1 := ⟨⟨kc_X12_within, ki_X12⟩, by decide +kernel⟩
theorem q_X12_write : CalS yX12_write cX12_write 2 (some .int) 1 := ⟨⟨kc_X12_write, ki_X12⟩, by decide +kernel⟩
theorem q_X1_daysWon : CalS yX1_daysWon cX1_daysWon 4 (some .int) 1 := ⟨⟨kc_X1_daysWon, ki_X1⟩, by decide +kernel⟩
theorem q_X1_firstOfRest : CalS yX1_firstOfRest cX1_firstOfRest 3 (some .int) 1 := ⟨⟨kc_X1_firstOfRest, ki_X1⟩, by decide +kernel⟩
theorem q_X1_isAsAhead : CalS yX1_isAsAhead cX1_isAsAhead 5 (some .boolean) 2 := ⟨⟨kc_X1_isAsAhead, ki_X1⟩, by decide +kernel⟩
theorem q_X1_play : CalS yX1_play cX1_play 7 none 2 := ⟨⟨kc_X1_play, ki_X1⟩, by decide +kernel⟩
theorem q_X1_swaying : CalS yX1_swaying cX1_swaying 4 (some .int) 1 := ⟨⟨kc_X1_swaying, ki_X1⟩, by decide +kernel⟩
theorem q_X1_swaysOne : CalS yX1_swaysOne cX1_swaysOne 3 (some .boolean) 1 := ⟨⟨kc_X1_swaysOne, ki_X1⟩, by decide +kernel⟩
theorem q_X2_draw : CalS yX2_draw cX2_draw 4 (some .int) 2 := ⟨⟨kc_X2_draw, ki_X2⟩, by decide +kernel⟩
theorem q_X2_play : CalS yX2_play cX2_play 5 (some .int) 2 := ⟨⟨kc_X2_play, ki_X2⟩, by decide +kernel⟩
theorem q_X2_turnOne : CalS yX2_turnOne cX2_turnOne 4 none 2 := ⟨⟨kc_X2_turnOne, ki_X2⟩, by decide +kernel⟩
theorem q_X3_farthestBorne : CalS yX3_farthestBorne cX3_farthestBorne 2 (some .int) 2 := ⟨⟨kc_X3_farthestBorne, ki_X3⟩, by decide +kernel⟩
theorem q_X3_settle : CalS yX3_settle cX3_settle 3 (some .int) 3 := ⟨⟨kc_X3_settle, ki_X3⟩, by decide +kernel⟩
theorem q_X4_empty : CalS yX4_empty cX4_empty 1 none 0 := ⟨⟨kc_X4_empty, ki_X4⟩, by decide +kernel⟩
theorem q_X4_farthestBorneIn : CalS yX4_farthestBorneIn cX4_farthestBorneIn 5 (some .int) 1 := ⟨⟨kc_X4_farthestBorneIn, ki_X4⟩, by decide +kernel⟩
theorem q_X4_firstTempting : CalS yX4_firstTempting cX4_firstTempting 6 (some .int) 3 := ⟨⟨kc_X4_firstTempting, ki_X4⟩, by decide +kernel⟩
theorem q_X4_letCome : CalS yX4_letCome cX4_letCome 7 (some .int) 2 := ⟨⟨kc_X4_letCome, ki_X4⟩, by decide +kernel⟩
theorem q_X4_setBy : CalS yX4_setBy cX4_setBy 3 (some .int) 2 := ⟨⟨kc_X4_setBy, ki_X4⟩, by decide +kernel⟩
theorem q_X4_take : CalS yX4_take cX4_take 6 (some .boolean) 2 := ⟨⟨kc_X4_take, ki_X4⟩, by decide +kernel⟩
theorem q_X4_takeComing : CalS yX4_takeComing cX4_takeComing 5 (some .boolean) 3 := ⟨⟨kc_X4_takeComing, ki_X4⟩, by decide +kernel⟩
theorem q_X4_takeFrame : CalS yX4_takeFrame cX4_takeFrame 3 (some .boolean) 2 := ⟨⟨kc_X4_takeFrame, ki_X4⟩, by decide +kernel⟩
theorem q_X4_takePatch : CalS yX4_takePatch cX4_takePatch 3 (some .boolean) 2 := ⟨⟨kc_X4_takePatch, ki_X4⟩, by decide +kernel⟩
theorem q_X4_takePerson : CalS yX4_takePerson cX4_takePerson 3 (some .boolean) 2 := ⟨⟨kc_X4_takePerson, ki_X4⟩, by decide +kernel⟩
theorem q_X4_takeTurn : CalS yX4_takeTurn cX4_takeTurn 4 (some .boolean) 3 := ⟨⟨kc_X4_takeTurn, ki_X4⟩, by decide +kernel⟩
theorem q_X4_takeWire : CalS yX4_takeWire cX4_takeWire 3 (some .boolean) 2 := ⟨⟨kc_X4_takeWire, ki_X4⟩, by decide +kernel⟩
theorem q_X4_twist : CalS yX4_twist cX4_twist 3 none 1 := ⟨⟨kc_X4_twist, ki_X4⟩, by decide +kernel⟩
theorem q_X5_addReached : CalS yX5_addReached cX5_addReached 4 none 2 := ⟨⟨kc_X5_addReached, ki_X5⟩, by decide +kernel⟩
theorem q_X5_anybodyByOne : CalS yX5_anybodyByOne cX5_anybodyByOne 6 (some .int) 2 := ⟨⟨kc_X5_anybodyByOne, ki_X5⟩, by decide +kernel⟩
theorem q_X5_areAlike : CalS yX5_areAlike cX5_areAlike 9 (some .boolean) 3 := ⟨⟨kc_X5_areAlike, ki_X5⟩, by decide +kernel⟩
theorem q_X5_findAlike : CalS yX5_findAlike cX5_findAlike 4 none 1 := ⟨⟨kc_X5_findAlike, ki_X5⟩, by decide +kernel⟩
theorem q_X5_isEntered : CalS yX5_isEntered cX5_isEntered 3 (some .boolean) 2 := ⟨⟨kc_X5_isEntered, ki_X5⟩, by decide +kernel⟩
theorem q_X5_isWon : CalS yX5_isWon cX5_isWon 7 (some .boolean) 5 := ⟨⟨kc_X5_isWon, ki_X5⟩, by decide +kernel⟩
theorem q_X5_isWonByBoth : CalS yX5_isWonByBoth cX5_isWonByBoth 8 (some .boolean) 5 := ⟨⟨kc_X5_isWonByBoth, ki_X5⟩, by decide +kernel⟩
theorem q_X5_isWonByReached : CalS yX5_isWonByReached cX5_isWonByReached 6 (some .boolean) 4 := ⟨⟨kc_X5_isWonByReached, ki_X5⟩, by decide +kernel⟩
theorem q_X5_leastTurn : CalS yX5_leastTurn cX5_leastTurn 6 (some .int) 3 := ⟨⟨kc_X5_leastTurn, ki_X5⟩, by decide +kernel⟩
theorem q_X5_oneOrTwo : CalS yX5_oneOrTwo cX5_oneOrTwo 6 (some .int) 3 := ⟨⟨kc_X5_oneOrTwo, ki_X5⟩, by decide +kernel⟩
theorem q_X5_reach : CalS yX5_reach cX5_reach 6 none 4 := ⟨⟨kc_X5_reach, ki_X5⟩, by decide +kernel⟩
theorem q_X5_reachAll : CalS yX5_reachAll cX5_reachAll 4 none 2 := ⟨⟨kc_X5_reachAll, ki_X5⟩, by decide +kernel⟩
theorem q_X5_wonWith : CalS yX5_wonWith cX5_wonWith 5 (some .int) 4 := ⟨⟨kc_X5_wonWith, ki_X5⟩, by decide +kernel⟩
theorem q_X6_figureAt : CalS yX6_figureAt cX6_figureAt 3 (some .int) 2 := ⟨⟨kc_X6_figureAt, ki_X6⟩, by decide +kernel⟩
theorem q_X6_numbersBehind : CalS yX6_numbersBehind cX6_numbersBehind 1 (some .int) 1 := ⟨⟨kc_X6_numbersBehind, ki_X6⟩, by decide +kernel⟩
theorem q_X6_readAll : CalS yX6_readAll cX6_readAll 5 (some .int) 2 := ⟨⟨kc_X6_readAll, ki_X6⟩, by decide +kernel⟩
theorem q_X6_readItem : CalS yX6_readItem cX6_readItem 5 (some .boolean) 1 := ⟨⟨kc_X6_readItem, ki_X6⟩, by decide +kernel⟩
theorem q_X6_readNumber : CalS yX6_readNumber cX6_readNumber 4 (some .int) 1 := ⟨⟨kc_X6_readNumber, ki_X6⟩, by decide +kernel⟩
theorem q_X7_put : CalS yX7_put cX7_put 4 none 1 := ⟨⟨kc_X7_put, ki_X7⟩, by decide +kernel⟩
theorem q_X7_takeLast : CalS yX7_takeLast cX7_takeLast 2 (some .boolean) 1 := ⟨⟨kc_X7_takeLast, ki_X7⟩, by decide +kernel⟩
theorem q_X8_add : CalS yX8_add cX8_add 3 (some .boolean) 2 := ⟨⟨kc_X8_add, ki_X8⟩, by decide +kernel⟩
theorem q_X8_bestLook : CalS yX8_bestLook cX8_bestLook 7 (some .int) 2 := ⟨⟨kc_X8_bestLook, ki_X8⟩, by decide +kernel⟩
theorem q_X8_empty : CalS yX8_empty cX8_empty 2 (some .int) 0 := ⟨⟨kc_X8_empty, ki_X8⟩, by decide +kernel⟩
theorem q_X8_fits : CalS yX8_fits cX8_fits 4 (some .boolean) 2 := ⟨⟨kc_X8_fits, ki_X8⟩, by decide +kernel⟩
theorem q_X8_fitting : CalS yX8_fitting cX8_fitting 4 (some .int) 1 := ⟨⟨kc_X8_fitting, ki_X8⟩, by decide +kernel⟩
theorem q_X8_mostAlike : CalS yX8_mostAlike cX8_mostAlike 7 (some .int) 3 := ⟨⟨kc_X8_mostAlike, ki_X8⟩, by decide +kernel⟩
theorem q_X9_add : CalS yX9_add cX9_add 2 (some .boolean) 1 := ⟨⟨kc_X9_add, ki_X9⟩, by decide +kernel⟩
theorem q_X9_empty : CalS yX9_empty cX9_empty 2 (some .int) 0 := ⟨⟨kc_X9_empty, ki_X9⟩, by decide +kernel⟩
theorem q_X9_letterAt : CalS yX9_letterAt cX9_letterAt 2 (some .int) 1 := ⟨⟨kc_X9_letterAt, ki_X9⟩, by decide +kernel⟩
