/-! MAKING, over the worlds -/
def strT : String := "f0,23;f0,20;f1,15;f1,26;t0,6;t3,4;p0,2;p1,1;p2,3;w0,8,0;w1,9,0;w1,10,1;w2,8,1;n1,1,24;n2,2,18;c2,16;"
def strB : List Int32 := strT.toList.map (fun c => Int32.ofNat c.toNat)
def sSio : String := "Ljava/util/function/BiFunction;"
/-- what lies below base: the text's constant, two static fields -/
def Ow (base : Nat) (aK aV : Nat → Nat) (v0 : Value) (U : State) (H : Heap) : Prop := va_Z "java/lang/String" "COMPACT_STRINGS" "Z" (.int 1) (fun q => base ≤ q) U H ∧ va_Z "jdk/internal/util/Preconditions" "SIOOBE_FORMATTER" sSio v0 (fun q => base ≤ q) U H ∧ vk_S 1 [100] [strB] aK aV (fun q => base ≤ q) U H
def Ex (base : Nat) (aK aV : Nat → Nat) (v0 : Value) (U : State) : Prop := va_AO RX10 U ∧ va_Nw (.arrayOver (.array .int)) U ∧ vk_R RX11 87 strT (aK 0) U ∧ (v0 = .null ∨ ∃ a, v0 = .ref a) ∧ Ow base aK aV v0 U U.heap
theorem aoa_moved {u U : State} (hvm : u.vm.Alike U.vm) (h : va_Nw (.arrayOver (.array .int)) u) : va_Nw (.arrayOver (.array .int)) U := by
  obtain ⟨comp, c, k, h1, h2, h3, h4, h5⟩ := arrayOverA_spec h
  obtain ⟨k', hk', he⟩ := hvm.2.2 _ _ h3
  have hi : (U.vm.classes.findIdx? fun (x : Class) => match x.kind with | .array component _ => component == comp | _ => false) = some c := by
    rw [hvm.findIdx?_eq _ (fun _ => rfl)]
    exact h2
  have hkind : k'.kind = .array comp (.array .int) := by rw [he]; exact h4
  have f1 : U.vm.findClass (FieldType.array .int).toString = some comp := by rw [hvm.findClass]; exact h1
  have f2 : U.vm.findClass ("[" ++ (FieldType.array .int).toString) = some c := by rw [hvm.findClass]; exact h5
  unfold va_Nw Cond.before Cond.holds
  simp only [Cond.value]
  rw [f1, Option.bind_some]
  refine (congrArg (fun o : Option Nat => (o.bind (fun c => (U.vm.classes[c]?).map fun (k : Class) => match k.kind with | .array _ ty => decide (ty = FieldType.array .int) && decide (U.vm.findClass ("[" ++ (FieldType.array .int).toString) = some c) | _ => false) == some true)) hi).trans ?_
  simp [hk', hkind, f2]
theorem Ow.go {base : Nat} {aK aV : Nat → Nat} {v0 : Value} {u U : State} {H H1 : Heap} (h : Ow base aK aV v0 u H) (hvm : u.vm.Alike U.vm) (hq : ∀ a : Nat, a < H.size → ¬ base ≤ a → H1[a]? = H[a]?) : Ow base aK aV v0 U H1 :=
  ⟨(h.1.moved hvm).kept hq, (h.2.1.moved hvm).kept hq, (h.2.2.moved hvm).kept hq⟩
theorem Ex.warm {base : Nat} {aK aV : Nat → Nat} {v0 : Value} {s U : State} {H : Heap} {locs : List Loc} (h : Ex base aK aV v0 s) (hS : va_S (fun q => base ≤ q) s.heap H locs) (hU : U.heap = H) (hW : s.WarmedH U.vm) : Ex base aK aV v0 U :=
  ⟨va_AO.moved hW.alike h.1, aoa_moved hW.alike h.2.1, h.2.2.1.warm hW, h.2.2.2.1, h.2.2.2.2.go hW.alike (by rw [hU]; exact hS.2.1)⟩
theorem Ex.calling {base : Nat} {aK aV : Nat → Nat} {v0 : Value} {U : State} {g : JFrame} {mk : MethodId} {a : Array Value} (h : Ex base aK aV v0 U) : Ex base aK aV v0 (U.calling g mk a) :=
  ⟨va_AO.moved (u := U) (U := U.calling g mk a) (Vm.Alike.refl U.vm) h.1, aoa_moved (u := U) (U := U.calling g mk a) (Vm.Alike.refl U.vm) h.2.1, vk_R.same (u := U) (U := U.calling g mk a) rfl h.2.2.1, h.2.2.2.1, Ow.go (u := U) (U := U.calling g mk a) h.2.2.2.2 (Vm.Alike.refl U.vm) (fun _ _ _ => rfl)⟩
/-- A CONTRACT of what is called while worlds grow (zz: it makes cells itself, so the heap ends where the world ends) -/
def CtE (zz : Bool) (l : Launch) (y : MethodName) (cc : ByteArray) (maxL : Nat) (ret : Option FieldType) (rm : Room) (D : va_G) (cI cT cII : ClassId) (base : Nat) (aK aV : Nat → Nat) (v0 : Value) (As : List Value) (w w' : Wd) (rv : Option Value) (mc ms : Nat) : Prop :=
  Met l y (.code y cc maxL ret :: gT) rm (va_Pc As (fun U => (Hd D cI cT cII base w U.heap ∧ (zz = true → U.heap.size = base + wN w)) ∧ Kx D cI cT cII U ∧ Ex base aK aV v0 U)) (Qp D cI cT cII base w' rv) mc ms (fun q => base ≤ q)
def GNd (own : String) (index ci : Nat) (C : String) (T : u_T) (N : Nat) (ty0 : Nat → FieldType) : Prop := vwCl[ci]? = some (C, T, N) ∧ ci < 12 ∧ (∀ w ∈ u_ws C T N, w ∈ gT) ∧ (∀ k, k < N → parseFieldDescriptor (T k).2.2.1 = some (ty0 k)) ∧ Cond.classLink own index C ∈ gT ∧ Cond.instantiable C N ∈ gT ∧ Cond.initialized C ∈ gT ∧ ∀ j, j < N → defaultValue (ty0 j) = vp_V ((fK ci).map dvb) j
/-- a final field -/
def GRd (own : String) (index ci j : Nat) (C ref : String) (T : u_T) (N : Nat) (b : Bool) (ty0 : Nat → FieldType) (ty : FieldType) : Prop := GFd own index ci j C ref T N b ∧ (∀ k, k < N → parseFieldDescriptor (T k).2.2.1 = some (ty0 k)) ∧ (∀ a, a < N → ∀ b, b < N → a ≠ b → (T a).2.1 ≠ (T b).2.1) ∧ (T j).2.2.2 = true ∧ (T j).1 = own ∧ parseFieldDescriptor (T j).2.2.1 = some ty
section GROW
variable {p : Program} {l : Launch} {e : Env} {R : Room} {s : State} {m : MethodId} {args : Array Value} {below : List Frame} {meth : Method} {c : Code} {H : Heap} {locs : List Loc} {cells slots : Nat} {Q : State → Prop}
variable {cc : ByteArray} {pc nL fr lo : Nat} {ls : Array Slot} {rest : List Value} {D : va_G} {cI cT cII : ClassId} {base : Nat} {w w' : Wd} {own : String} {aK aV : Nat → Nat} {v0 : Value}
theorem eE_cong {k : Nat} (hI : wI w' k = wI w k) (hR : wR w' k = wR w k) (hS : wS w' k = wS w k) : eE cI cT cII base w' k = eE cI cT cII base w k := by
  have e2 : ∀ bs, fL base w' k bs = fL base w k bs := fun bs => by
    unfold fL
    rw [hI, hR]
  unfold eE
  rw [hS, hI, hR, e2]
theorem Hd_ext {H' : Heap} (hH : Hd D cI cT cII base w H) (hz : H.size = base + wN w) (ho : ∀ q : Nat, q < H.size → H'[q]? = H[q]?) (he : ∀ k, k < wN w → eE cI cT cII base w' k = eE cI cT cII base w k) (hn : ∀ k, wN w ≤ k → k < wN w' → va_at D vwCl (base + k, eE cI cT cII base w' k) H') : Hd D cI cT cII base w' H' := by
  intro k q hk
  obtain ⟨h1, rfl⟩ := wsOf_at hk
  by_cases h2 : k < wN w
  · rw [he k h2]
    exact (hH k _ (wsOf_get h2)).kept (ho (base + k) (by omega))
  · exact hn k (by omega) h1
theorem m_sz {g : JFrame} (hN : base + wN w = s.heap.size + cells) (hb : base ≤ s.heap.size) (hH : Hd D cI cT cII base w H) (hS : va_S (fun q => base ≤ q) s.heap H locs) (k : H.size = base + wN w → W p l e R s m args below meth c H locs cells slots Q g) : W p l e R s m args below meth c H locs cells slots Q g := by
  intro T hT X
  refine k ?_ T hT X
  have h1 := X.heapSize
  rw [hT] at h1
  by_cases h0 : wN w = 0
  · have := hS.1
    omega
  · have h2 := (hH (wN w - 1) _ (wsOf_get (by omega))).lt
    have h3 : base + (wN w - 1) < H.size := h2
    omega
theorem S_ext {H' : Heap} (hS : va_S (fun q => base ≤ q) s.heap H locs) (hz : H.size ≤ H'.size) (ho : ∀ q : Nat, q < H.size → H'[q]? = H[q]?) : va_S (fun q => base ≤ q) s.heap H' locs :=
  ⟨Nat.le_trans hS.1 hz, fun x h1 h2 => (ho x (Nat.lt_of_lt_of_le h1 hS.1)).trans (hS.2.1 x h1 h2), hS.2.2⟩
theorem nw_I (c n : Nat) {k : Nat} (h : k < wN w) : wI (nw c n w) k = wI w k := by funext b; show (if wN w ≤ k then _ else _) = _; rw [if_neg (by omega)]
theorem nw_R (c n : Nat) {k : Nat} (h : k < wN w) : wR (nw c n w) k = wR w k := by funext b; show (if wN w ≤ k then _ else _) = _; rw [if_neg (by omega)]
theorem nw_S (c n : Nat) {k : Nat} (h : k < wN w) : wS (nw c n w) k = wS w k := if_pos h
theorem nw_I0 (c n b : Nat) : wI (nw c n w) (wN w) b = 0 := if_pos (Nat.le_refl _)
theorem nw_R0 (c n b : Nat) : wR (nw c n w) (wN w) b = none := if_pos (Nat.le_refl _)
theorem nw_S0 (c n : Nat) : wS (nw c n w) (wN w) = (c, n) := if_neg (Nat.lt_irrefl _)
theorem nw_old (c n : Nat) {k : Nat} (h : k < wN w) : eE cI cT cII base (nw c n w) k = eE cI cT cII base w k := eE_cong (nw_I c n h) (nw_R c n h) (nw_S c n h)
theorem fL_nw (c n : Nat) (bs : List Bool) : fL base (nw c n w) (wN w) bs = bs.map dvb := by
  apply List.ext_getElem?
  intro i
  simp only [fL, List.getElem?_mapIdx, List.getElem?_map, nw_I0, nw_R0, Option.map_none]
  cases bs[i]? <;> rfl
theorem m_new {C : String} {T : u_T} {N ci index : Nat} {ty0 : Nat → FieldType} (X : Cx p R s m args c cc nL own D cI cT cII fr lo) (hH : Hd D cI cT cII base w H) (hS : va_S (fun q => base ≤ q) s.heap H locs) (hN : base + wN w = s.heap.size + cells) (hb : base ≤ s.heap.size) (G : GNd own index ci C T N ty0) (hc : cells + 1 ≤ R.cells ∧ slots + N ≤ R.slots) (hdg : decode cc pc = .ok (.new index, 3))
    (k : ∀ H : Heap, Hd D cI cT cII base (nw ci 0 w) H → va_S (fun q => base ≤ q) s.heap H locs → W p l e R s m args below meth c H locs (cells + 1) (slots + N) Q (F0 m (pc + 3) ls (.ref (base + wN w) :: rest))) : W p l e R s m args below meth c H locs cells slots Q (F0 m pc ls rest) := by
  refine m_sz hN hb hH hS (fun hz => ?_)
  have hKn := X.2.2.2.2.2.1.1.1 ci _ G.1
  refine W.newcK X.1 X.2.1 X.2.2.2.1 (X.2.2.2.2.1 _ G.2.2.2.2.1) (X.2.2.2.2.1 _ G.2.2.2.2.2.1) (X.2.2.2.2.1 _ G.2.2.2.2.2.2.1) (g := F0 m pc ls rest) rfl hdg hc.1 hc.2 hKn.2.1 hz (fun H1 kC hkC e1 z1 o1 => ?_)
  refine k H1 (Hd_ext hH hz (fun q hq => o1 q (by omega)) (fun a ha => nw_old ci 0 ha) (fun a h1 h2 => ?_)) (S_ext hS (by omega) (fun q hq => o1 q (by omega)))
  have ha : a = wN w := by
    have : a < wN w + 1 := h2
    omega
  subst ha
  rw [eE_O (c := ci) (by rw [nw_S0]) G.2.1, fL_nw]
  exact ⟨_, G.1, (u_born ty0 X.2.2.2.2.1 G.2.2.1 hKn hkC e1 G.2.2.2.1).to G.2.2.2.2.2.2.2⟩
theorem m_newI {n : Int32} {K : Nat} (X : Cx p R s m args c cc nL own D cI cT cII fr lo) (hH : Hd D cI cT cII base w H) (hS : va_S (fun q => base ≤ q) s.heap H locs) (hN : base + wN w = s.heap.size + cells) (hb : base ≤ s.heap.size) (ka : Cond.arrayClass .int ∈ gT) (h0 : ¬ n < 0) (hK : n.toNatClampNeg = K) (hK2 : K ≤ 1000) (hc : cells + 1 ≤ R.cells ∧ slots + K ≤ R.slots) (hdg : decode cc pc = .ok (.newarray .int, 2))
    (k : ∀ H : Heap, Hd D cI cT cII base (nw 12 K w) H → va_S (fun q => base ≤ q) s.heap H locs → W p l e R s m args below meth c H locs (cells + 1) (slots + K) Q (F0 m (pc + 2) ls (.ref (base + wN w) :: rest))) : W p l e R s m args below meth c H locs cells slots Q (F0 m pc ls (.int n :: rest)) := by
  refine m_sz hN hb hH hS (fun hz => ?_)
  refine va_newaK (atype := .int) X.1 X.2.1 (X.2.2.2.2.1 _ ka) (g := F0 m pc ls (.int n :: rest)) rfl hdg rfl h0 hK (by show K * 4 ≤ _; omega) hc.1 hc.2 hz (fun H1 cA e1 z1 o1 hAr hNm => ?_)
  have hcA : cA = cI := Option.some.inj (hNm.symm.trans (X.2.2.2.2.2.1.1.2 0 _ rfl).2)
  subst hcA
  refine k H1 (Hd_ext hH hz (fun q hq => o1 q (by omega)) (fun a ha => nw_old 12 K ha) (fun a h1 h2 => ?_)) (S_ext hS (by omega) (fun q hq => o1 q (by omega)))
  have ha : a = wN w := by
    have : a < wN w + 1 := h2
    omega
  subst ha
  rw [eE_I (by rw [nw_S0]), nw_S0]
  show H1[base + wN w]? = some (vp_cell cA (K, .inl (wI (nw 12 K w) (wN w))))
  rw [e1, vp_cell_i]
  refine congrArg (fun f => some (arrV cA K f)) (funext fun j => ?_)
  rw [nw_I0]
  rfl
theorem m_newT {n : Int32} {K index : Nat} (X : Cx p R s m args c cc nL own D cI cT cII fr lo) (hE : Ex base aK aV v0 s) (hH : Hd D cI cT cII base w H) (hS : va_S (fun q => base ≤ q) s.heap H locs) (hN : base + wN w = s.heap.size + cells) (hb : base ≤ s.heap.size) (ka : Cond.classLink own index RX10 ∈ gT) (h0 : ¬ n < 0) (hK : n.toNatClampNeg = K) (hK2 : K ≤ 1000) (hc : cells + 1 ≤ R.cells ∧ slots + K ≤ R.slots) (hdg : decode cc pc = .ok (.anewarray index, 3))
    (k : ∀ H : Heap, Hd D cI cT cII base (nw 13 K w) H → va_S (fun q => base ≤ q) s.heap H locs → W p l e R s m args below meth c H locs (cells + 1) (slots + K) Q (F0 m (pc + 3) ls (.ref (base + wN w) :: rest))) : W p l e R s m args below meth c H locs cells slots Q (F0 m pc ls (.int n :: rest)) := by
  refine m_sz hN hb hH hS (fun hz => ?_)
  subst hK
  refine W.anew X.1 X.2.1 X.2.2.2.1 (X.2.2.2.2.1 _ ka) (va_AO.use hE.1) (g := F0 m pc ls (.int n :: rest)) rfl hdg rfl h0 (by omega) hc.1 hc.2 (fun cA kA comp f1 f2 f3 f4 => ?_)
  obtain ⟨kA', comp', -, -, -, g4⟩ := (X.2.2.2.2.2.1.1.2 1 _ rfl).2
  have hcA : cA = cT := Option.some.inj (f1.symm.trans g4)
  subst hcA
  generalize hH1 : H.push ({ cls := cA, slots := Array.replicate n.toNatClampNeg .null, vm := .none } : Cell) = H1
  have z1 : H1.size = H.size + 1 := by rw [← hH1, Array.size_push]
  have e1 : H1[H.size]? = some (arrV cA n.toNatClampNeg (fun _ => .null)) := by rw [← hH1, Array.getElem?_push_size, ← arrV_new]
  have o1 : ∀ q : Nat, q < H.size → H1[q]? = H[q]? := fun q hq => by rw [← hH1, Array.getElem?_push, if_neg (Nat.ne_of_lt hq)]
  rw [hz]
  refine k H1 (Hd_ext hH hz o1 (fun a ha => nw_old 13 _ ha) (fun a h1 h2 => ?_)) (S_ext hS (by omega) o1)
  have ha : a = wN w := by
    have : a < wN w + 1 := h2
    omega
  subst ha
  rw [eE_T (by rw [nw_S0]), nw_S0]
  show H1[base + wN w]? = some (vp_cell cA (n.toNatClampNeg, .inr (.inr (.inr (.inr (fun i => (wR (nw 13 n.toNatClampNeg w) (wN w) i).map (base + ·)))))))
  rw [← hz, e1, vp_cell_q]
  refine congrArg (fun f => some (arrV cA n.toNatClampNeg f)) (funext fun j => ?_)
  rw [nw_R0]
  rfl
theorem m_newII {n h : Int32} {N K index : Nat} (X : Cx p R s m args c cc nL own D cI cT cII fr lo) (hE : Ex base aK aV v0 s) (hH : Hd D cI cT cII base w H) (hS : va_S (fun q => base ≤ q) s.heap H locs) (hN : base + wN w = s.heap.size + cells) (hb : base ≤ s.heap.size) (ka : Cond.classLink own index "[[I" ∈ gT) (kb : Cond.arrayClass .int ∈ gT) (h0 : ¬ n < 0) (h1 : ¬ h < 0) (hN1 : n.toNatClampNeg = N) (hK1 : h.toNatClampNeg = K) (hN2 : N ≤ 1000) (hK2 : K ≤ 1000) (hc : cells + (1 + N) ≤ R.cells ∧ slots + (N + N * K) ≤ R.slots) (hdg : decode cc pc = .ok (.multianewarray index 2, 4))
    (k : ∀ H : Heap, Hd D cI cT cII base (nw2 N K w) H → va_S (fun q => base ≤ q) s.heap H locs → W p l e R s m args below meth c H locs (cells + 1 + N) (slots + N + N * K) Q (F0 m (pc + 4) ls (.ref (base + wN w) :: rest))) : W p l e R s m args below meth c H locs cells slots Q (F0 m pc ls (.int h :: .int n :: rest)) := by
  refine m_sz hN hb hH hS (fun hz => ?_)
  refine W.mna X.1 X.2.1 X.2.2.2.1 (X.2.2.2.2.1 _ ka) (show (Cond.arrayOver (.array .int)).before args s = true from hE.2.1) (X.2.2.2.2.1 _ kb) (cA := cII) (cC := cI) (X.2.2.2.2.2.1.1.2 2 _ rfl).2 (X.2.2.2.2.2.1.1.2 0 _ rfl).2 h0 h1 hN1 hK1 hN2 hK2 hc.1 hc.2 hdg (fun H1 e1 e2 z1 o1 => ?_)
  rw [hz] at e1 e2 z1
  rw [hz]
  refine k H1 (Hd_ext hH hz o1 (fun a ha => eE_cong ?_ ?_ ?_) (fun a g1 g2 => ?_)) (S_ext hS (by omega) o1)
  · funext b; show (if wN w ≤ a then _ else _) = _; rw [if_neg (by omega)]
  · funext b; show (if wN w ≤ a then _ else _) = _; rw [if_neg (by omega)]
  · exact if_pos ha
  · have g3 : a < wN w + 1 + N := g2
    by_cases ga : a = wN w
    · subst ga
      have hs : wS (nw2 N K w) (wN w) = (14, N) := by show (if _ then _ else if _ then _ else _) = _; rw [if_neg (Nat.lt_irrefl _), if_pos rfl]
      rw [eE_II (by rw [hs]), hs]
      show H1[base + wN w]? = some (vp_cell cII (N, .inr (.inr (.inr (.inr (fun i => (wR (nw2 N K w) (wN w) i).map (base + ·)))))))
      rw [e1, vp_cell_q]
      refine congrArg (fun f => some (arrV cII N f)) (funext fun j => ?_)
      have hr : wR (nw2 N K w) (wN w) j = if j < N then some (wN w + 1 + j) else none := by
        show (if wN w ≤ wN w then (if wN w = wN w ∧ j < N then some (wN w + 1 + j) else none) else _) = _
        rw [if_pos (Nat.le_refl _)]
        simp
      rw [hr]
      by_cases hj : j < N
      · rw [if_pos hj, if_pos hj]
        show va_rf (some (base + wN w + 1 + j)) = va_rf (some (base + (wN w + 1 + j)))
        rw [show base + wN w + 1 + j = base + (wN w + 1 + j) by omega]
      · rw [if_neg hj, if_neg hj]
        rfl
    · have hs : wS (nw2 N K w) a = (12, K) := by show (if _ then _ else if _ then _ else _) = _; rw [if_neg (by omega), if_neg ga]
      rw [eE_I (by rw [hs]), hs]
      show H1[base + a]? = some (vp_cell cI (K, .inl (wI (nw2 N K w) a)))
      have e3 := e2 (a - wN w - 1) (by omega)
      rw [show base + wN w + 1 + (a - wN w - 1) = base + a by omega] at e3
      rw [e3, vp_cell_i]
      refine congrArg (fun f => some (arrV cI K f)) (funext fun j => ?_)
      show Value.int 0 = Value.int (if wN w ≤ a then 0 else _)
      rw [if_pos g1]
theorem m_obj {q index : Nat} (X : Cx p R s m args c cc nL own D cI cT cII fr lo) (hz : ls.size = nL) (k1 : Cond.methodLink own index Lib.objectInit ∈ gT) (k2 : Cond.instanceMethod Lib.objectInit ∈ gT) (k3 : Cond.code Lib.objectInit ⟨#[0xb1]⟩ 1 none ∈ gT) (hfr : 1 ≤ fr) (hlo : (rest.map fun v => v.category).sum + 12 ≤ lo) (hdg : decode cc pc = .ok (.invokespecial index, 3))
    (k : W p l e R s m args below meth c H locs cells slots Q (F0 m (pc + 3) ls rest)) : W p l e R s m args below meth c H locs cells slots Q (F0 m pc ls (.ref (base + q) :: rest)) :=
  W.objInit X.1 X.2.1 X.2.2.2.1 (X.2.2.2.2.1 _ k1) (X.2.2.2.2.1 _ k2) (X.2.2.2.2.1 _ k3) (g := F0 m pc ls (.ref (base + q) :: rest)) rfl (hz.trans X.2.2.1.symm) rfl hdg (Nat.le_trans hfr X.2.2.2.2.2.2.1) (by show 2 * 0 + _ + 12 ≤ _; have := X.2.2.2.2.2.2.2; omega) k
theorem m_rR {C ref : String} {T : u_T} {N ci j q index z : Nat} {ty : FieldType} {ty0 : Nat → FieldType} (X : Cx p R s m args c cc nL own D cI cT cII fr lo) (hH : Hd D cI cT cII base w H) (hS : va_S (fun q => base ≤ q) s.heap H locs) (hv : pfR ci j q z w = some w') (G : GRd own index ci j C ref T N true ty0 ty) (hnm : meth.name = "<init>") (hn : narrow ty (.ref (base + z)) = .ref (base + z)) (hfit : fits ty (.ref (base + z)) = true) (hdg : decode cc pc = .ok (.putfield index, 3))
    (k : ∀ (H : Heap) (locs : List Loc), Hd D cI cT cII base w' H → va_S (fun q => base ≤ q) s.heap H locs → W p l e R s m args below meth c H locs cells slots Q (F0 m (pc + 3) ls rest)) : W p l e R s m args below meth c H locs cells slots Q (F0 m pc ls (.ref (base + z) :: .ref (base + q) :: rest)) := by
  obtain ⟨⟨h1, h2⟩, rfl⟩ := isn hv
  obtain ⟨⟨hc, h12, hb, hjN, hin, hl, hrf⟩, hty, hnn, hfin, hdecl, hd⟩ := G
  subst hrf
  refine va_putF X.1 X.2.1 X.2.2.2.2.1 hin ty0 hty hnn X.2.2.2.1 X.2.2.2.2.2.1.1 hH wsOf_D hS q ((wsOf_get h1).trans (by rw [eE_O h2 h12])) hc j hjN (X.2.2.2.2.1 _ hl) (fun _ h => h) hfin hnm hdecl hd hn hfit (by rw [fL_len]; exact (List.getElem?_eq_some_iff.mp hb).1) hdg (fun H1 locs1 hP _ hS1 => ?_)
  rw [fL_setR hb, wsOf_set (w' := (wI w, up2 (wR w) q j (some z), wS w, wN w)) h1 rfl (eE_O h2 h12) (fun a ha => eE_oR (k := q) (fun b => by simp [up2, ha]))] at hP
  exact k H1 locs1 hP hS1
theorem pfR_N {ci j q z : Nat} (h : pfR ci j q z w = some w') : wN w' = wN w := by
  obtain ⟨-, rfl⟩ := isn h
  rfl
theorem pfI_N {ci j q : Nat} {x : Int32} (h : pfI ci j q x w = some w') : wN w' = wN w := by
  obtain ⟨-, rfl⟩ := isn h
  rfl
theorem wrT_N {q z : Nat} {i : Int32} (h : wrT q i z w = some w') : wN w' = wN w := by
  obtain ⟨-, rfl⟩ := isn h
  rfl
theorem PcE_blind {zz : Bool} {As : List Value} : FrameBlind (va_Pc As (fun U => (Hd D cI cT cII base w U.heap ∧ (zz = true → U.heap.size = base + wN w)) ∧ Kx D cI cT cII U ∧ Ex base aK aV v0 U)) := fun _ _ _ _ q => ⟨q.1, q.2.1, q.2.2.1.calling, q.2.2.2.calling⟩
theorem m_enterE {zz : Bool} {y : MethodName} {maxL : Nat} {ret : Option FieldType} {fr lo mc ms : Nat} {As : List Value} {rv : Option Value} (hy : plainName y.cls = true) (ha : (lg_sl As).length ≤ maxL)
    (body : ∀ (p : Program) (e : Env) (s : State) (m : MethodId) (below : List Frame) (meth : Method) (c : Code) (ls : Array Slot), Cx p { frames := fr, cells := mc, slots := ms, locals := lo } s m As.toArray c cc maxL y.cls D cI cT cII fr lo → Ex base aK aV v0 s → (zz = true → s.heap.size = base + wN w) → meth.sig.returnType = ret → meth.locks = false → meth.name = y.name → Hd D cI cT cII base w s.heap → va_S (fun q => base ≤ q) s.heap s.heap [] → lv_has ls maxL (lv_args 0 As) →
      W p l e { frames := fr, cells := mc, slots := ms, locals := lo } s m As.toArray below meth c s.heap [] 0 0 (MQ below (Qp D cI cT cII base w' rv) As.toArray s mc ms (fun q => base ≤ q)) (F0 m 0 ls [])) :
    CtE zz l y cc maxL ret { frames := fr, cells := mc, slots := ms, locals := lo } D cI cT cII base aK aV v0 As w w' rv mc ms := by
  refine Met.ofW (cc := cc) (maxL := maxL) (ret := ret) hy rfl ?_
  intro p e s m args below meth c s₁ B hml hv
  obtain ⟨rfl, ⟨hH, hz⟩, hK, hE⟩ := hv
  have hts := atoms_spec (ws := .code y cc maxL ret :: gT) B.pre
  rw [lg_entry_eq]
  exact body p e s m below meth c _ ⟨B.exec, B.bytes, hml, findClass_of_methodNamed B.named, fun w hw => hts w (List.mem_cons_of_mem _ hw), hK, Nat.le_refl _, Nat.le_refl _⟩ hE hz B.returns B.notSynchronized (name_of_methodNamed B.named B.method).1 hH va_S.rf (lv_entry As ha)
/-- a constructor, named outright -/
theorem m_callI {y : MethodName} {bytes : ByteArray} {maxL n index fr' lo' q mc ms : Nat} {As : List Value} {st0 : List Value} (X : Cx p R s m args c cc nL own D cI cT cII fr lo) (hE : Ex base aK aV v0 s) (hH : Hd D cI cT cII base w H) (hS : va_S (fun q => base ≤ q) s.heap H locs) (hN : base + wN w = s.heap.size + cells) (hb : base ≤ s.heap.size) (hz : ls.size = nL) (hM : CtE true l y bytes maxL none { frames := fr', cells := mc, slots := ms, locals := lo' } D cI cT cII base aK aV v0 (.ref (base + q) :: As) w w' none mc ms) (C : CalS y bytes maxL none n) (hy : y.name = "<init>") (k1 : Cond.methodLink own index y ∈ gT) (k2 : Cond.instanceMethod y ∈ gT) (hn : As.length = n) (hst : st0 = As.reverse ++ .ref (base + q) :: rest) (hW : (rest.map fun v => v.category).sum ≤ 8) (hR : fr' + 1 ≤ fr ∧ 8 + (maxL + 11) + lo' ≤ lo) (hc : cells + mc ≤ R.cells ∧ slots + ms ≤ R.slots) (hdg : decode cc pc = .ok (.invokespecial index, 3))
    (kk : ∀ (H : Heap) (locs : List Loc), Hd D cI cT cII base w' H → va_S (fun q => base ≤ q) s.heap H locs → W p l e R s m args below meth c H locs (cells + mc) (slots + ms) Q (F0 m (pc + 3) ls rest)) : W p l e R s m args below meth c H locs cells slots Q (F0 m pc ls st0) := by
  refine m_sz hN hb hH hS (fun hzz => ?_)
  obtain ⟨hx, hbb, hml, hown, hts, hK, hf, hlo⟩ := X
  subst hst
  exact m_call (A := fun _ => True) (mc := mc) (ms := ms) (va_runI (n := n) ⟨hx, hbb, hml, hown, hts⟩ hM ⟨callB_of n hts (gT_good (mem_head C.1.1)) rfl rfl rfl (hts _ C.1.2) (hts _ k1) C.2 ⟨Nat.le_trans hR.1 hf, Nat.le_trans hR.2 hlo⟩, hy, hts _ k2⟩ ⟨PcE_blind, fun U hU hW => ⟨rfl, ⟨by rw [hU]; exact hH, fun _ => by rw [hU]; exact hzz⟩, hK.warm hW, hE.warm hS hU hW⟩⟩ rfl hn hz rfl (lv_room hW) hdg hc) hS kk
/-- a nest mate's constructor -/
theorem m_callIN {y : MethodName} {host : String} {bytes : ByteArray} {maxL n index fr' lo' q mc ms : Nat} {As : List Value} {st0 : List Value} (X : Cx p R s m args c cc nL own D cI cT cII fr lo) (hE : Ex base aK aV v0 s) (hH : Hd D cI cT cII base w H) (hS : va_S (fun q => base ≤ q) s.heap H locs) (hN : base + wN w = s.heap.size + cells) (hb : base ≤ s.heap.size) (hz : ls.size = nL) (hM : CtE true l y bytes maxL none { frames := fr', cells := mc, slots := ms, locals := lo' } D cI cT cII base aK aV v0 (.ref (base + q) :: As) w w' none mc ms) (C : CalS y bytes maxL none n) (hy : y.name = "<init>") (k1 : Cond.methodLinkNest own index y host ∈ nT) (k2 : Cond.instanceMethod y ∈ gT) (hn : As.length = n) (hst : st0 = As.reverse ++ .ref (base + q) :: rest) (hW : (rest.map fun v => v.category).sum ≤ 8) (hR : fr' + 1 ≤ fr ∧ 8 + (maxL + 11) + lo' ≤ lo) (hc : cells + mc ≤ R.cells ∧ slots + ms ≤ R.slots) (hdg : decode cc pc = .ok (.invokespecial index, 3))
    (kk : ∀ (H : Heap) (locs : List Loc), Hd D cI cT cII base w' H → va_S (fun q => base ≤ q) s.heap H locs → W p l e R s m args below meth c H locs (cells + mc) (slots + ms) Q (F0 m (pc + 3) ls rest)) : W p l e R s m args below meth c H locs cells slots Q (F0 m pc ls st0) := by
  refine m_sz hN hb hH hS (fun hzz => ?_)
  obtain ⟨hx, hbb, hml, hown, hts, hK, hf, hlo⟩ := X
  subst hst
  exact m_call (A := fun _ => True) (mc := mc) (ms := ms) (va_runIN (n := n) ⟨hx, hbb, hml, hown, hts⟩ hM ⟨va_cnB n hts (gT_good (mem_head C.1.1)) rfl rfl rfl (hK.2 _ k1) (hts _ C.1.2) C.2 ⟨Nat.le_trans hR.1 hf, Nat.le_trans hR.2 hlo⟩, hy, hts _ k2⟩ ⟨PcE_blind, fun U hU hW => ⟨rfl, ⟨by rw [hU]; exact hH, fun _ => by rw [hU]; exact hzz⟩, hK.warm hW, hE.warm hS hU hW⟩⟩ rfl hn hz rfl (lv_room hW) hdg hc) hS kk
/-- a method of the text's constant -/
theorem m_callT {y : MethodName} {bytes : ByteArray} {maxL n index fr' lo' : Nat} {ret : Option FieldType} {As : List Value} {rv : Option Value} {st0 : List Value} (X : Cx p R s m args c cc nL own D cI cT cII fr lo) (hE : Ex base aK aV v0 s) (hH : Hd D cI cT cII base w H) (hS : va_S (fun q => base ≤ q) s.heap H locs) (hz : ls.size = nL) (hyc : y.cls = "java/lang/String") (hM : CtE false l y bytes maxL ret { frames := fr', cells := 0, slots := 0, locals := lo' } D cI cT cII base aK aV v0 (.ref (aK 0) :: As) w w' rv 0 0) (C : CalS y bytes maxL ret n) (k1 : Cond.methodLink own index y ∈ gT) (k2 : Cond.instanceMethod y ∈ gT) (k3 : Cond.selects "java/lang/String" y y ∈ gT) (hn : As.length = n) (hst : st0 = As.reverse ++ .ref (aK 0) :: rest) (hW : (rest.map fun v => v.category).sum ≤ 8) (hR : fr' + 1 ≤ fr ∧ 8 + (maxL + 11) + lo' ≤ lo) (hc : cells ≤ R.cells ∧ slots ≤ R.slots) (hdg : decode cc pc = .ok (.invokevirtual index, 3))
    (kk : ∀ (H : Heap) (locs : List Loc), Hd D cI cT cII base w' H → va_S (fun q => base ≤ q) s.heap H locs → W p l e R s m args below meth c H locs cells slots Q (F0 m (pc + 3) ls (rv.toList ++ rest))) : W p l e R s m args below meth c H locs cells slots Q (F0 m pc ls st0) := by
  obtain ⟨hx, hbb, hml, hown, hts, hK, hf, hlo⟩ := X
  subst hst
  exact m_call (A := fun _ => True) (mc := 0) (ms := 0) (va_runV (n := n) (C := "java/lang/String") ⟨hx, hbb, hml, hown, hts⟩ hM ⟨callB_of n hts (gT_good (mem_head C.1.1)) rfl rfl rfl (hts _ C.1.2) (hts _ k1) C.2 ⟨Nat.le_trans hR.1 hf, Nat.le_trans hR.2 hlo⟩, hts _ k2, hts _ k3⟩ ⟨PcE_blind, vk_recv hE.2.2.2.2.2.2 (by decide) hS, fun U hU hW => ⟨rfl, ⟨by rw [hU]; exact hH, fun h => by cases h⟩, hK.warm hW, hE.warm hS hU hW⟩⟩ rfl hn hz rfl (lv_room hW) hdg hc) hS kk
/-- a static method of the JDK -/
theorem m_callZ {y : MethodName} {bytes : ByteArray} {maxL n index fr' lo' : Nat} {ret : Option FieldType} {As : List Value} {rv : Option Value} {st0 : List Value} (X : Cx p R s m args c cc nL own D cI cT cII fr lo) (hE : Ex base aK aV v0 s) (hH : Hd D cI cT cII base w H) (hS : va_S (fun q => base ≤ q) s.heap H locs) (hz : ls.size = nL) (hM : CtE false l y bytes maxL ret { frames := fr', cells := 0, slots := 0, locals := lo' } D cI cT cII base aK aV v0 As w w' rv 0 0) (C : CalS y bytes maxL ret n) (k1 : Cond.methodLink own index y ∈ gT) (k2 : Cond.static y ∈ gT) (hn : As.length = n) (hst : st0 = As.reverse ++ rest) (hW : (rest.map fun v => v.category).sum ≤ 8) (hR : fr' + 1 ≤ fr ∧ 8 + (maxL + 11) + lo' ≤ lo) (hc : cells ≤ R.cells ∧ slots ≤ R.slots) (hdg : decode cc pc = .ok (.invokestatic index, 3))
    (kk : ∀ (H : Heap) (locs : List Loc), Hd D cI cT cII base w' H → va_S (fun q => base ≤ q) s.heap H locs → W p l e R s m args below meth c H locs cells slots Q (F0 m (pc + 3) ls (rv.toList ++ rest))) : W p l e R s m args below meth c H locs cells slots Q (F0 m pc ls st0) := by
  obtain ⟨hx, hbb, hml, hown, hts, hK, hf, hlo⟩ := X
  subst hst
  exact m_call (A := fun _ => True) (mc := 0) (ms := 0) (va_runS (n := n) ⟨hx, hbb, hml, hown, hts⟩ hM ⟨callB_of n hts (gT_good (mem_head C.1.1)) rfl rfl rfl (hts _ C.1.2) (hts _ k1) C.2 ⟨Nat.le_trans hR.1 hf, Nat.le_trans hR.2 hlo⟩, hts _ k2⟩ ⟨PcE_blind, fun U hU hW => ⟨rfl, ⟨by rw [hU]; exact hH, fun h => by cases h⟩, hK.warm hW, hE.warm hS hU hW⟩⟩ rfl hn hz rfl (lv_room hW) hdg hc) hS kk
end GROW
