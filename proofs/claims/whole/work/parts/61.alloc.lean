/-! MAKING: worlds that grow. A new cell has the next address: base + wN w -/
def nw (c n : Nat) (w : Wd) : Wd := (fun a b => if wN w ≤ a then 0 else wI w a b, fun a b => if wN w ≤ a then none else wR w a b, fun a => if a < wN w then wS w a else (c, n), wN w + 1)
/-- int[n][k] -/
def nw2 (n k : Nat) (w : Wd) : Wd := (fun a b => if wN w ≤ a then 0 else wI w a b, fun a b => if wN w ≤ a then (if a = wN w ∧ b < n then some (wN w + 1 + b) else none) else wR w a b, fun a => if a < wN w then wS w a else if a = wN w then (14, n) else (12, k), wN w + 1 + n)
def dvb (b : Bool) : Value := if b then .null else .int 0
section MNA
def mnO (cA : ClassId) (N h i : Nat) : Cell := arrV cA N (fun j => va_rf (if j < i then some (h + 1 + j) else none))
def mnR (cC : ClassId) (K : Nat) : Cell := arrV cC K (fun _ => .int 0)
def mnS (T : State) (cA cC : ClassId) (N K : Nat) : Nat → State
  | 0 => T.pushCell (mnO cA N T.heap.size 0)
  | i + 1 => ((mnS T cA cC N K i).pushCell (mnR cC K)).setCell T.heap.size (mnO cA N T.heap.size (i + 1))
theorem mnO_0 (cA : ClassId) (N h : Nat) : mnO cA N h 0 = { cls := cA, slots := Array.replicate N .null, vm := .none } := by
  rw [arrV_new]
  refine congrArg (arrV cA N) (funext fun j => ?_)
  simp [va_rf]
theorem mnR_0 (cC : ClassId) (K : Nat) : mnR cC K = { cls := cC, slots := Array.replicate K (.int 0), vm := .none } := (arrV_new cC K (.int 0)).symm
theorem mnO_s (cA : ClassId) (N h i : Nat) : (mnO cA N h i).setSlot i (.ref (h + 1 + i)) = mnO cA N h (i + 1) := by
  unfold mnO
  rw [arrV_store]
  refine congrArg (arrV cA N) (funext fun j => ?_)
  by_cases g : j = i
  · subst g
    simp [updV, va_rf]
  · by_cases g2 : j < i
    · simp [updV, g, g2, Nat.lt_succ_of_lt g2]
    · simp [updV, g, g2, show ¬ j < i + 1 by omega]
theorem mnS_all (T : State) (cA cC : ClassId) (N K : Nat) : ∀ i, (mnS T cA cC N K i).heap.size = T.heap.size + 1 + i ∧ (mnS T cA cC N K i).heap[T.heap.size]? = some (mnO cA N T.heap.size i) ∧ (mnS T cA cC N K i).vm = T.vm ∧ (mnS T cA cC N K i).slotsUsed = T.slotsUsed + N + i * K ∧
    (∀ a : Nat, a < T.heap.size → (mnS T cA cC N K i).heap[a]? = T.heap[a]?) ∧ ∀ j, j < i → (mnS T cA cC N K i).heap[T.heap.size + 1 + j]? = some (mnR cC K)
  | 0 => ⟨by simp [mnS], by simp [mnS], rfl, by simp [mnS, mnO, arrV], fun a ha => State.heap_pushCell_of_lt _ _ ha, fun j hj => absurd hj (Nat.not_lt_zero _)⟩
  | i + 1 => by
    obtain ⟨a1, a2, a3, a4, a5, a6⟩ := mnS_all T cA cC N K i
    have hlt : T.heap.size < (mnS T cA cC N K i).heap.size := by omega
    have hb : ((mnS T cA cC N K i).pushCell (mnR cC K)).heap[T.heap.size]? = some (mnO cA N T.heap.size i) := by rw [State.heap_pushCell_of_lt (h := hlt)]; exact a2
    refine ⟨?_, State.heap_setCell_self hb, by simp [mnS, a3], ?_, fun a ha => ?_, fun j hj => ?_⟩
    · simp [mnS, State.setCell, a1]; omega
    · simp [mnS, a4, mnR, arrV, Nat.succ_mul]; omega
    · show (((mnS T cA cC N K i).pushCell (mnR cC K)).setCell T.heap.size _).heap[a]? = _
      rw [State.heap_setCell_other (Nat.ne_of_gt ha), State.heap_pushCell_of_lt (h := Nat.lt_trans ha hlt)]
      exact a5 a ha
    · show (((mnS T cA cC N K i).pushCell (mnR cC K)).setCell T.heap.size _).heap[T.heap.size + 1 + j]? = _
      rw [State.heap_setCell_other (show T.heap.size ≠ T.heap.size + 1 + j by omega)]
      by_cases g : j < i
      · have h9 : T.heap.size + 1 + j < (mnS T cA cC N K i).heap.size := by rw [a1]; omega
        rw [State.heap_pushCell_of_lt (h := h9)]
        exact a6 j g
      · rw [show T.heap.size + 1 + j = (mnS T cA cC N K i).heap.size by rw [a1]; omega]
        exact State.heap_pushCell_size _ _
theorem mnS_top (T : State) (f : JFrame) (cA cC : ClassId) (N K : Nat) : ∀ i, mnS (T.setTop f) cA cC N K i = (mnS T cA cC N K i).setTop f
  | 0 => rfl
  | i + 1 => by simp only [mnS, mnS_top T f cA cC N K i, State.heap_setTop, State.pushCell_setTop, State.setCell_setTop]
variable {p : Program} {l : Launch} {e : Env} {R : Room} {s : State} {m : MethodId} {args : Array Value} {below : List Frame} {meth : Method} {c : Code} {H : Heap} {locs : List Loc} {cells slots : Nat} {Q : State → Prop}
theorem mnS_stand {T : State} (X : Stand p l e R s m args below meth c T locs cells slots) (cA cC : ClassId) (N K : Nat) : ∀ i, Stand p l e R s m args below meth c (mnS T cA cC N K i) locs (cells + 1 + i) (slots + N + i * K)
  | 0 => by
    have h := X.pushed (mnO cA N T.heap.size 0)
    rw [show (mnO cA N T.heap.size 0).slots.size = N by simp [mnO, arrV]] at h
    simpa [mnS] using h
  | i + 1 => by
    have Xi := mnS_stand X cA cC N K i
    obtain ⟨a1, a2, -⟩ := mnS_all T cA cC N K i
    have hlt : T.heap.size < (mnS T cA cC N K i).heap.size := by omega
    have hb : ((mnS T cA cC N K i).pushCell (mnR cC K)).heap[T.heap.size]? = some (mnO cA N T.heap.size i) := by rw [State.heap_pushCell_of_lt (h := hlt)]; exact a2
    have h := (Xi.pushed (mnR cC K)).stored hb i (.ref (T.heap.size + 1 + i))
    rw [mnO_s, show (mnR cC K).slots.size = K by simp [mnR, arrV]] at h
    have h2 := Stand.forget h (fun y hy => by
      rw [List.mem_singleton.mp hy]
      exact X.heapGrown)
    rw [show slots + N + (i + 1) * K = slots + N + i * K + K by rw [Nat.succ_mul]; omega]
    exact h2
theorem mn_row {E : CtlPost} {d : Bool} {acts : List Action} {U : State} {cA cB : ClassId} {k : Class} {ty : FieldType} {len : Nat} {v : Value} (hk : U.vm.classes[cA]? = some k) (hkind : k.kind = .array cB ty) (h1 : ¬ len > e.platform.arrayLengthLimit) (h2 : ¬ len * componentBytes ty > e.platform.maxHeapBytes) (h3 : fits ty v = true) (h4 : v.isDefault = true) {Z : Addr → Pre}
    (h5 : U.heap.size < e.platform.maxCells) (h6 : U.slotsUsed + len ≤ e.platform.maxSlots) (hz : Z U.heap.size d acts (U.pushCell { cls := cA, slots := Array.replicate len v, vm := .none })) : wp (Jvm.newArray cA len v) Z E e d acts U := by
  have hall : ((Array.replicate len v).all (·.isDefault)) = true := by
    rw [Array.all_replicate]
    split <;> simp [h4]
  have hda : allocActs (Array.replicate len v) U.heap.size acts = acts := by
    unfold allocActs
    rw [if_pos hall]
  have hf : ∀ i x, (Array.replicate len v)[i]? = some x → U.fitsSlot cA .none i x = true := fun i x hx => by
    rw [Array.getElem?_replicate] at hx
    split at hx
    · cases hx
      simp [State.fitsSlot, State.slotType?, hk, hkind, h3]
    · cases hx
  simp only [Jvm.newArray, Jvm.arrayFits, wp_bind', W.ask, W.ite, h1, if_false, wp_pure', W.theClass, hk, hkind, h2, W.alloc, W.stop, Option.some.injEq, exists_eq_left', Array.size_replicate, hda]
  rw [if_neg (by omega)]
  exact ⟨h5, h6, hf, hz⟩
theorem mn_make {E : CtlPost} {d : Bool} {acts : List Action} {U : State} {cA cC cB : ClassId} {kA kC : Class} {n k : Int32} (hA : U.vm.classes[cA]? = some kA) (hA2 : kA.kind = .array cC (.array .int)) (hC : U.vm.classes[cC]? = some kC) (hC2 : kC.kind = .array cB .int) (hn : ¬ n < 0) (hk : ¬ k < 0)
    (h1 : ¬ n.toNatClampNeg > e.platform.arrayLengthLimit) (h2 : ¬ n.toNatClampNeg * componentBytes (.array .int) > e.platform.maxHeapBytes) (h3 : ¬ k.toNatClampNeg > e.platform.arrayLengthLimit) (h4 : ¬ k.toNatClampNeg * componentBytes .int > e.platform.maxHeapBytes)
    (h5 : U.heap.size + 1 + n.toNatClampNeg ≤ e.platform.maxCells) (h6 : U.slotsUsed + n.toNatClampNeg + n.toNatClampNeg * k.toNatClampNeg ≤ e.platform.maxSlots)
    {Z : Addr → Pre} (hz : ∀ d' acts', Z U.heap.size d' acts' (mnS U cA cC n.toNatClampNeg k.toNatClampNeg n.toNatClampNeg)) : wp (multianewarray.make cA [n, k]) Z E e d acts U := by
  have hfd : ([k].find? (· < 0)) = none := by simp [hk]
  generalize hNe : n.toNatClampNeg = N at *
  generalize hKe : k.toNatClampNeg = K at *
  rw [multianewarray.make]
  simp only [wp_bind', W.ite, hn, if_false, wp_pure', W.theClass, hA, hA2, Option.some.injEq, exists_eq_left', hNe]
  refine mn_row hA hA2 h1 h2 rfl rfl (by omega) (by omega) ?_
  rw [← mnO_0 cA N U.heap.size]
  simp only [hfd]
  rw [ite_self, wp_bind', Std.Legacy.Range.forIn_eq_forIn_range']
  rw [show ([:N] : Std.Legacy.Range).size = N by simp [Std.Legacy.Range.size]]
  show wp (forIn (List.range' 0 N 1) PUnit.unit _) _ E e d acts _
  refine wp_forIn_inv (fun r U' => ∃ i, i ≤ N ∧ r = List.range' i (N - i) ∧ U' = mnS U cA cC N K i) _ _ ⟨0, Nat.zero_le _, rfl, rfl⟩ ?_ ?_
  · rintro x r U' d' acts' Z' ⟨i, hi, hr, rfl⟩ hnx
    have hlt : i < N := Nat.lt_of_not_le fun z => by
      rw [Nat.sub_eq_zero_of_le z] at hr
      cases hr
    rw [show N - i = (N - (i + 1)) + 1 by omega, List.range'_succ] at hr
    obtain ⟨rfl, rfl⟩ := List.cons.inj hr
    obtain ⟨a1, a2, a3, a4, -⟩ := mnS_all U cA cC N K x
    have hmul : x * K + K ≤ N * K := by
      have := Nat.mul_le_mul_right K (show x + 1 ≤ N from hlt)
      rw [Nat.succ_mul] at this
      exact this
    simp only [wp_bind']
    rw [multianewarray.make]
    simp only [wp_bind', W.ite, hk, if_false, wp_pure', W.theClass, a3, hC, hC2, Option.some.injEq, exists_eq_left', hKe]
    refine mn_row (by rw [a3]; exact hC) hC2 h3 h4 rfl rfl (by rw [a1]; omega) (by rw [a4]; omega) ?_
    have hlt0 : U.heap.size < (mnS U cA cC N K x).heap.size := by rw [a1]; omega
    rw [show (defaultValue .int) = Value.int 0 from rfl, ← mnR_0 cC K]
    simp only [wp_bind', W.writeLoc, wp_pure']
    refine ⟨mnO cA N U.heap.size x, by rw [State.heap_pushCell_of_lt (h := hlt0)]; exact a2, by simp [mnO, arrV], by simp [mnO, arrV]; exact hlt, ?_, hnx _ _ _ ⟨x + 1, hlt, rfl, ?_⟩⟩
    · show State.fitsSlot _ cA .none _ _ = true
      simp [State.fitsSlot, State.slotType?, a3, hA, hA2]
      rfl
    · rw [a1, mnO_s]
      rfl
  · rintro U' d' acts' ⟨i, hi, hr, rfl⟩
    have hiN : i = N := Nat.le_antisymm hi (Nat.le_of_not_lt fun z => by
      rw [show N - i = (N - (i + 1)) + 1 by omega, List.range'_succ] at hr
      cases hr)
    subst hiN
    simp only [wp_pure']
    exact hz _ _
theorem W.mna {cc : ByteArray} (hexec : p.tables.exec = Jvm.exec) (hb : c.code = cc) {own : String} {index : Nat} (hown : s.vm.findClass own = some m.cls) (hcl : (Cond.classLink own index "[[I").before args s = true) (hov : (Cond.arrayOver (.array .int)).before args s = true) (har : (Cond.arrayClass .int).before args s = true)
    {cA cC : ClassId} (hfA : s.vm.findClass "[[I" = some cA) (hfC : s.vm.findClass "[I" = some cC) {pc : Nat} {ls : Array Slot} {n k : Int32} {rest : List Value} {N K : Nat} (hn : ¬ n < 0) (hk : ¬ k < 0) (hN : n.toNatClampNeg = N) (hK : k.toNatClampNeg = K) (hb1 : N ≤ 1000) (hb2 : K ≤ 1000) (hcells : cells + (1 + N) ≤ R.cells) (hslots : slots + (N + N * K) ≤ R.slots) (hdg : decode cc pc = .ok (.multianewarray index 2, 4))
    (kk : ∀ H' : Heap, H'[H.size]? = some (mnO cA N H.size N) → (∀ j, j < N → H'[H.size + 1 + j]? = some (mnR cC K)) → H'.size = H.size + 1 + N → (∀ q : Nat, q < H.size → H'[q]? = H[q]?) → W p l e R s m args below meth c H' locs (cells + 1 + N) (slots + N + N * K) Q (F0 m (pc + 4) ls (.ref H.size :: rest))) :
    W p l e R s m args below meth c H locs cells slots Q (F0 m pc ls (.int k :: .int n :: rest)) := by
  intro T hT X
  subst hT; subst hb; subst hN; subst hK
  have hpl : e.platform.magicAccessors = ({} : Platform).magicAccessors := by rw [X.admits.platform]
  obtain ⟨comp, cA', kA, q1, -, q2, q3, q4⟩ := arrayOverA_spec hov
  cases (show some cA' = some cA from q4.symm.trans hfA)
  cases (show some comp = some cC from q1.symm.trans hfC)
  obtain ⟨comp', kC, cB, r1, r2, r3⟩ := Cond.arrayClass_spec har
  cases (show some comp' = some cC from r1.symm.trans hfC)
  obtain ⟨c0, hf0, hcl0⟩ := Cond.classLink_spec hown hcl e.platform hpl
  cases hfA.symm.trans hf0
  obtain ⟨hg₁, hw₁, -⟩ := State.classEntry (e := e) X.warmed hcl0
  generalize T.vm.noted m.cls index (.cls cA) = vm₁ at hg₁ hw₁
  obtain ⟨kA₁, hkA₁, heA⟩ := hw₁.alike.2.2 _ _ q2
  obtain ⟨kC₁, hkC₁, heC⟩ := hw₁.alike.2.2 _ _ r2
  have X₁ := mnS_stand (X.noted hw₁) cA cC n.toNatClampNeg k.toNatClampNeg n.toNatClampNeg
  obtain ⟨hr1, hr2⟩ := X.roomAbove hcells hslots
  obtain ⟨a1, a2, -, -, a5, a6⟩ := mnS_all (T.setVm vm₁) cA cC n.toNatClampNeg k.toNatClampNeg n.toNatClampNeg
  obtain ⟨t', b1, b2⟩ := kk _ a2 a6 a1 a5 _ rfl X₁
  refine ⟨t', ?_, b2⟩
  jvm_step X.here [hexec, hdg]
  simp only [multianewarray.sem, wp_bind', W.resolveClassAt_links (vm' := vm₁) (State.method?_setTop (F0 m pc ls (.int k :: .int n :: rest)) X.here.top) hg₁]
  rw [W.popN, if_neg (by decide)]
  refine ⟨F0 m pc ls (.int k :: .int n :: rest), State.topJava?_setTop' (s := T.setVm vm₁) _ X.here.top, [.int n, .int k], rest, rfl, rfl, ?_⟩
  simp only [List.mapM_cons, List.mapM_nil, wp_bind', wp_pure']
  refine mn_make (kA := kA₁) (kC := kC₁) (cC := cC) (cB := cB) hkA₁ (by rw [heA]; exact q3) hkC₁ (by rw [heC]; exact r3) hn hk (by rw [Launch.admits_arrayLengthLimit X.admits]; omega) (by rw [Launch.admits_maxHeapBytes X.admits]; show ¬ n.toNatClampNeg * 4 > 536870912; omega) (by rw [Launch.admits_arrayLengthLimit X.admits]; omega) (by rw [Launch.admits_maxHeapBytes X.admits]; show ¬ k.toNatClampNeg * 4 > 536870912; omega) (by show T.heap.size + 1 + _ ≤ _; omega) (by show T.slotsUsed + _ + _ ≤ _; omega) (fun d' acts' => ?_)
  have eS : ((T.setTop (F0 m pc ls (.int k :: .int n :: rest))).setVm vm₁).setTop { F0 m pc ls (.int k :: .int n :: rest) with stack := rest } = (T.setVm vm₁).setTop { F0 m pc ls (.int k :: .int n :: rest) with stack := rest } := by
    show ((T.setVm vm₁).setTop _).setTop _ = _
    rw [State.setTop_setTop]
  rw [eS, mnS_top]
  simp only [wp_bind', W.mark, W.pushRef, State.topJava?_setTop' _ X₁.here.top, Option.some.injEq, exists_eq_left', State.setTop_setTop, State.heap_setTop]
  intro acts
  simp [jvm, X₁.here.top]
  exact b1
end MNA
