/-! THE ABSTRACT WORLD: places 0, 1, .. (the cell of place k lies at address base + k); wI: the ints of a place (fields by slot, elements by index), wR: its references (places), wS: its kind (0 to 11: an object of vwCl; 12 int[], 13 Turns[], 14 int[][]) and length, wN: how many places there are -/
abbrev Wd : Type := (Nat → Nat → Int32) × (Nat → Nat → Option Nat) × (Nat → Nat × Nat) × Nat
def wI (w : Wd) : Nat → Nat → Int32 := w.1
def wR (w : Wd) : Nat → Nat → Option Nat := w.2.1
def wS (w : Wd) : Nat → Nat × Nat := w.2.2.1
def wN (w : Wd) : Nat := w.2.2.2
def up2 {α : Type} (f : Nat → Nat → α) (p k : Nat) (v : α) : Nat → Nat → α := fun a b => if a = p ∧ b = k then v else f a b
def up1 {α : Type} (f : Nat → Nat → α) (p : Nat) (v : Nat → α) : Nat → Nat → α := fun a b => if a = p then v b else f a b
def gfI (c j p : Nat) (w : Wd) : Option Int32 := if p < wN w ∧ (wS w p).1 = c then some (wI w p j) else none
def gfR (c j p : Nat) (w : Wd) : Option Nat := if p < wN w ∧ (wS w p).1 = c then wR w p j else none
def pfI (c j p : Nat) (x : Int32) (w : Wd) : Option Wd := if p < wN w ∧ (wS w p).1 = c then some (up2 (wI w) p j x, wR w, wS w, wN w) else none
def pfR (c j p q : Nat) (w : Wd) : Option Wd := if p < wN w ∧ (wS w p).1 = c then some (wI w, up2 (wR w) p j (some q), wS w, wN w) else none
def rdI (p : Nat) (i : Int32) (w : Wd) : Option Int32 := if p < wN w ∧ (wS w p).1 = 12 ∧ ¬ (i < 0 ∨ (wS w p).2 ≤ i.toNatClampNeg) then some (wI w p i.toNatClampNeg) else none
def wrI (p : Nat) (i x : Int32) (w : Wd) : Option Wd := if p < wN w ∧ (wS w p).1 = 12 ∧ ¬ (i < 0 ∨ (wS w p).2 ≤ i.toNatClampNeg) then some (up2 (wI w) p i.toNatClampNeg x, wR w, wS w, wN w) else none
def rdR (c p : Nat) (i : Int32) (w : Wd) : Option Nat := if p < wN w ∧ (wS w p).1 = c ∧ ¬ (i < 0 ∨ (wS w p).2 ≤ i.toNatClampNeg) then wR w p i.toNatClampNeg else none
def wrT (p : Nat) (i : Int32) (q : Nat) (w : Wd) : Option Wd := if (p < wN w ∧ (wS w p).1 = 13 ∧ ¬ (i < 0 ∨ (wS w p).2 ≤ i.toNatClampNeg)) ∧ q < wN w ∧ (wS w q).1 = 9 then some (wI w, up2 (wR w) p i.toNatClampNeg (some q), wS w, wN w) else none
def lnA (c p : Nat) (w : Wd) : Option Int32 := if p < wN w ∧ (wS w p).1 = c then some (Int32.ofNat (wS w p).2) else none
def cpI (p : Nat) (sp : Int32) (q : Nat) (dp n : Int32) (w : Wd) : Option Wd := if (p < wN w ∧ (wS w p).1 = 12) ∧ (q < wN w ∧ (wS w q).1 = 12) ∧ ¬ sp < 0 ∧ ¬ dp < 0 ∧ ¬ n < 0 ∧ sp.toNatClampNeg + n.toNatClampNeg ≤ (wS w p).2 ∧ dp.toNatClampNeg + n.toNatClampNeg ≤ (wS w q).2 then some (up1 (wI w) q (va_cpy (wI w p) (wI w q) sp.toNatClampNeg dp.toNatClampNeg n.toNatClampNeg), wR w, wS w, wN w) else none
def dvI (x y : Int32) : Option Int32 := if y = 0 then none else some (x / y)
def rmI (x y : Int32) : Option Int32 := if y = 0 then none else some (x - x / y * y)
def bz (r : Int32) : Option Int32 := if r &&& 1 = r then some r else none
def FU : Nat := 1000000
/-- of the twelve classes: which fields are references -/
def fK : Nat → List Bool := fun c => match c with
  | 0 => [true, true]
  | 1 => [true, true, true, true, false]
  | 2 => [true, true]
  | 3 => [true, true, true, true, false, true, true, false, true, true, true, false, true]
  | 4 => [true, true, true, true, true]
  | 5 => [true, false]
  | 6 => [true, false]
  | 7 => [true, true, false, true]
  | 8 => [true, false]
  | 9 => [true, true, true, false]
  | 10 => [true, true, true, true, true, true, true, true, true, true, true, true]
  | 11 => [false, true, false, true, false, true, true, true, false, true, false, true, false, true, true, false, false, true, false, true, false, true, false, true, true, true, true, true, false, true, true, true]
  | _ => []
theorem bnd {α β : Type} {o : Option α} {f : α → Option β} {b : β} (h : o.bind f = some b) : ∃ a, o = some a ∧ f a = some b := by
  cases o with
  | none => cases h
  | some a => exact ⟨a, rfl, h⟩
theorem itt {α : Type} {c : Prop} [Decidable c] {a b x : α} (h : c) (e : (if c then a else b) = x) : a = x := by rw [if_pos h] at e; exact e
theorem itf {α : Type} {c : Prop} [Decidable c] {a b x : α} (h : ¬ c) (e : (if c then a else b) = x) : b = x := by rw [if_neg h] at e; exact e
theorem isn {c : Prop} [Decidable c] {α : Type} {a b : α} (e : (if c then some a else none) = some b) : c ∧ a = b := by
  by_cases h : c
  · rw [if_pos h] at e
    exact ⟨h, Option.some.inj e⟩
  · rw [if_neg h] at e
    cases e
theorem iso {c : Prop} [Decidable c] {α : Type} {a : Option α} {b : α} (e : (if c then a else none) = some b) : c ∧ a = some b := by
  by_cases h : c
  · rw [if_pos h] at e
    exact ⟨h, e⟩
  · rw [if_neg h] at e
    cases e
def fL (base : Nat) (w : Wd) (k : Nat) (bs : List Bool) : List Value := bs.mapIdx (fun j b => if b then va_rf ((wR w k j).map (base + ·)) else .int (wI w k j))
theorem fL_get {base : Nat} {w : Wd} {k j : Nat} {bs : List Bool} {b : Bool} (h : bs[j]? = some b) : (fL base w k bs)[j]? = some (if b then va_rf ((wR w k j).map (base + ·)) else .int (wI w k j)) := by
  simp [fL, h]
theorem fL_len {base : Nat} {w : Wd} {k : Nat} {bs : List Bool} : (fL base w k bs).length = bs.length := by simp [fL]
theorem fL_setI {base : Nat} {w : Wd} {k j : Nat} {bs : List Bool} {x : Int32} (h : bs[j]? = some false) : (fL base w k bs).set j (.int x) = fL base (up2 (wI w) k j x, wR w, wS w, wN w) k bs := by
  have hl : j < (fL base w k bs).length := by rw [fL_len]; exact (List.getElem?_eq_some_iff.mp h).1
  apply List.ext_getElem?
  intro i
  by_cases hi : i = j
  · subst hi
    rw [List.getElem?_set_self hl, fL_get h]
    simp [wI, up2]
  · rw [List.getElem?_set_ne (Ne.symm hi)]
    simp [fL, wI, wR, up2, hi]
theorem fL_setR {base : Nat} {w : Wd} {k j q : Nat} {bs : List Bool} (h : bs[j]? = some true) : (fL base w k bs).set j (.ref (base + q)) = fL base (wI w, up2 (wR w) k j (some q), wS w, wN w) k bs := by
  have hl : j < (fL base w k bs).length := by rw [fL_len]; exact (List.getElem?_eq_some_iff.mp h).1
  apply List.ext_getElem?
  intro i
  by_cases hi : i = j
  · subst hi
    rw [List.getElem?_set_self hl, fL_get h]
    simp [wR, up2, va_rf]
  · rw [List.getElem?_set_ne (Ne.symm hi)]
    simp [fL, wI, wR, up2, hi]
def eE (cI cT cII : ClassId) (base : Nat) (w : Wd) (k : Nat) : va_E :=
  if (wS w k).1 = 12 then .inl (cI, (wS w k).2, .inl (wI w k))
  else if (wS w k).1 = 13 then .inl (cT, (wS w k).2, .inr (.inr (.inr (.inr (fun i => (wR w k i).map (base + ·))))))
  else if (wS w k).1 = 14 then .inl (cII, (wS w k).2, .inr (.inr (.inr (.inr (fun i => (wR w k i).map (base + ·))))))
  else .inr ((wS w k).1, fL base w k (fK (wS w k).1))
def wsOf (cI cT cII : ClassId) (base : Nat) (w : Wd) : va_W := (List.range (wN w)).map (fun k => (base + k, eE cI cT cII base w k))
theorem wsOf_get {cI cT cII : ClassId} {base : Nat} {w : Wd} {k : Nat} (h : k < wN w) : (wsOf cI cT cII base w)[k]? = some (base + k, eE cI cT cII base w k) := by
  simp [wsOf, h]
theorem wsOf_at {cI cT cII : ClassId} {base : Nat} {w : Wd} {k : Nat} {q : Nat × va_E} (h : (wsOf cI cT cII base w)[k]? = some q) : k < wN w ∧ q = (base + k, eE cI cT cII base w k) := by
  by_cases hk : k < wN w
  · rw [wsOf_get hk] at h
    exact ⟨hk, (Option.some.inj h).symm⟩
  · rw [List.getElem?_eq_none (by simp [wsOf]; omega)] at h
    cases h
theorem wsOf_D {cI cT cII : ClassId} {base : Nat} {w : Wd} : va_D (fun q => base ≤ q) (wsOf cI cT cII base w) := by
  refine ⟨fun i j x y hi hj e => ?_, fun k q hk => ?_⟩
  · have h1 := (wsOf_at hi).2
    have h2 := (wsOf_at hj).2
    subst h1
    subst h2
    have e' : base + i = base + j := e
    omega
  · have h1 := (wsOf_at hk).2
    subst h1
    exact Nat.le_add_right base k
theorem wsOf_set {cI cT cII : ClassId} {base : Nat} {w w' : Wd} {k : Nat} {x : va_E} (hk : k < wN w) (hN : wN w' = wN w) (hx : eE cI cT cII base w' k = x) (ho : ∀ a, a ≠ k → eE cI cT cII base w' a = eE cI cT cII base w a) : (wsOf cI cT cII base w).set k (base + k, x) = wsOf cI cT cII base w' := by
  subst hx
  have hl : k < (wsOf cI cT cII base w).length := by simp [wsOf]; exact hk
  apply List.ext_getElem?
  intro i
  by_cases hi : i = k
  · subst hi
    rw [List.getElem?_set_self hl, wsOf_get (by rw [hN]; exact hk)]
  · rw [List.getElem?_set_ne (Ne.symm hi)]
    by_cases hN2 : i < wN w
    · rw [wsOf_get hN2, wsOf_get (by rw [hN]; exact hN2), ho i hi]
    · rw [List.getElem?_eq_none (by simp [wsOf]; omega), List.getElem?_eq_none (by simp [wsOf, hN]; omega)]
theorem eE_I {cI cT cII : ClassId} {base : Nat} {w : Wd} {k : Nat} (h : (wS w k).1 = 12) : eE cI cT cII base w k = .inl (cI, (wS w k).2, .inl (wI w k)) := by simp [eE, h]
theorem eE_T {cI cT cII : ClassId} {base : Nat} {w : Wd} {k : Nat} (h : (wS w k).1 = 13) : eE cI cT cII base w k = .inl (cT, (wS w k).2, .inr (.inr (.inr (.inr (fun i => (wR w k i).map (base + ·)))))) := by simp [eE, h]
theorem eE_II {cI cT cII : ClassId} {base : Nat} {w : Wd} {k : Nat} (h : (wS w k).1 = 14) : eE cI cT cII base w k = .inl (cII, (wS w k).2, .inr (.inr (.inr (.inr (fun i => (wR w k i).map (base + ·)))))) := by simp [eE, h]
theorem eE_O {cI cT cII : ClassId} {base : Nat} {w : Wd} {k c : Nat} (h : (wS w k).1 = c) (hc : c < 12) : eE cI cT cII base w k = .inr (c, fL base w k (fK c)) := by
  subst h
  simp [eE, show ¬ (wS w k).1 = 12 by omega, show ¬ (wS w k).1 = 13 by omega, show ¬ (wS w k).1 = 14 by omega]
theorem eE_upI {cI cT cII : ClassId} {base : Nat} {w : Wd} {k j : Nat} {x : Int32} (h : (wS w k).1 = 12) : eE cI cT cII base (up2 (wI w) k j x, wR w, wS w, wN w) k = .inl (cI, (wS w k).2, .inl (upd (wI w k) j x)) :=
  (eE_I (w := (up2 (wI w) k j x, wR w, wS w, wN w)) h).trans (congrArg (fun f => (Sum.inl (cI, (wS w k).2, Sum.inl f) : va_E)) (funext fun b => by simp [wI, up2, upd]))
theorem eE_up1 {cI cT cII : ClassId} {base : Nat} {w : Wd} {k : Nat} {f : Nat → Int32} (h : (wS w k).1 = 12) : eE cI cT cII base (up1 (wI w) k f, wR w, wS w, wN w) k = .inl (cI, (wS w k).2, .inl f) :=
  (eE_I (w := (up1 (wI w) k f, wR w, wS w, wN w)) h).trans (congrArg (fun f => (Sum.inl (cI, (wS w k).2, Sum.inl f) : va_E)) (funext fun b => by simp [wI, up1]))
theorem eE_upT {cI cT cII : ClassId} {base : Nat} {w : Wd} {k j z : Nat} (h : (wS w k).1 = 13) : eE cI cT cII base (wI w, up2 (wR w) k j (some z), wS w, wN w) k = .inl (cT, (wS w k).2, .inr (.inr (.inr (.inr (va_up (fun i => (wR w k i).map (base + ·)) j (some (base + z))))))) :=
  (eE_T (w := (wI w, up2 (wR w) k j (some z), wS w, wN w)) h).trans (congrArg (fun f => (Sum.inl (cT, (wS w k).2, Sum.inr (Sum.inr (Sum.inr (Sum.inr f)))) : va_E)) (funext fun b => by by_cases hb : b = j <;> simp [wR, up2, va_up, hb]))
/-- ints of one place changed: the other cells are as they were -/
theorem eE_oI {cI cT cII : ClassId} {base : Nat} {w : Wd} {k a : Nat} {g : Nat → Nat → Int32} (hg : ∀ b, g a b = wI w a b) : eE cI cT cII base (g, wR w, wS w, wN w) a = eE cI cT cII base w a := by
  have e1 : wI (g, wR w, wS w, wN w) a = wI w a := funext hg
  have e2 : ∀ bs, fL base (g, wR w, wS w, wN w) a bs = fL base w a bs := fun bs => by
    unfold fL
    rw [e1]
    rfl
  unfold eE
  rw [e1, e2]
  rfl
theorem eE_oR {cI cT cII : ClassId} {base : Nat} {w : Wd} {k a : Nat} {g : Nat → Nat → Option Nat} (hg : ∀ b, g a b = wR w a b) : eE cI cT cII base (wI w, g, wS w, wN w) a = eE cI cT cII base w a := by
  have e1 : wR (wI w, g, wS w, wN w) a = wR w a := funext hg
  have e2 : ∀ bs, fL base (wI w, g, wS w, wN w) a bs = fL base w a bs := fun bs => by
    unfold fL
    rw [e1]
    rfl
  unfold eE
  rw [e1, e2]
  rfl
/-! THE TABLES' WORDS: gT keeps over calls as it stands; the nest words nT go with the state -/
def isNestW : Cond → Bool
  | .fieldLinkNest .. => true
  | .methodLinkNest .. => true
  | _ => false
def gT : List Cond := lw_tbl.filter goodWord
def nT : List Cond := lw_tbl.filter isNestW
theorem gT_of {w : Cond} (h : w ∈ lw_tbl) (hg : goodWord w = true) : w ∈ gT := List.mem_filter.mpr ⟨h, hg⟩
theorem nT_of {w : Cond} (h : w ∈ lw_tbl) (hg : isNestW w = true) : w ∈ nT := List.mem_filter.mpr ⟨h, hg⟩
theorem gT_good {ws : List Cond} (h : ∀ w ∈ ws, w ∈ gT) : GoodIn gT ws := fun w hw => ⟨h w hw, good_of_word (List.mem_filter.mp (h w hw)).2⟩
abbrev tyL (cI cT cII : ClassId) : List (ClassId × FieldType) := [(cI, .int), (cT, .object RX10), (cII, .array .int)]
def Kx (D : va_G) (cI cT cII : ClassId) (U : State) : Prop := va_K D vwCl (tyL cI cT cII) U ∧ ∀ w ∈ nT, va_Nw w U
theorem Kx.warm {D : va_G} {cI cT cII : ClassId} {s U : State} (h : Kx D cI cT cII s) (hW : s.WarmedH U.vm) : Kx D cI cT cII U := by
  refine ⟨va_K.moved hW.alike h.1, fun w hw => ?_⟩
  have h1 := h.2 w hw
  have h2 := (List.mem_filter.mp hw).2
  cases w <;> first
    | exact va_Nw.warmF hW h1
    | exact va_Nw.warmM hW h1
    | (exact absurd h2 (by simp [isNestW]))
theorem Kx.calling {D : va_G} {cI cT cII : ClassId} {U : State} {g : JFrame} {mk : MethodId} {a : Array Value} (h : Kx D cI cT cII U) : Kx D cI cT cII (U.calling g mk a) := by
  refine ⟨va_K.moved (u := U) (U := U.calling g mk a) (Vm.Alike.refl U.vm) h.1, fun w hw => ?_⟩
  have h1 := h.2 w hw
  have h2 := (List.mem_filter.mp hw).2
  have h3 : w.onTables = true := by
    cases w <;> first
      | rfl
      | (exact absurd h2 (by simp [isNestW]))
  exact va_Nw.same h3 (u := U) (U := U.calling g mk a) rfl h1
abbrev Hd (D : va_G) (cI cT cII : ClassId) (base : Nat) (w : Wd) (H : Heap) : Prop := va_P D vwCl (wsOf cI cT cII base w) H
/-- a method's post: what it answers, the new world, nothing below base changed -/
def Qp (D : va_G) (cI cT cII : ClassId) (base : Nat) (w' : Wd) (rv : Option Value) : Array Value → State → Outcome → State → Prop := fun _ st oc t => oc = .returned rv ∧ Hd D cI cT cII base w' t.heap ∧ va_F (fun q => base ≤ q) st t
/-- A CONTRACT: at the world w, with these arguments, the method returns rv and the world is w' -/
def Ct (l : Launch) (y : MethodName) (cc : ByteArray) (maxL : Nat) (ret : Option FieldType) (rm : Room) (D : va_G) (cI cT cII : ClassId) (base : Nat) (As : List Value) (w w' : Wd) (rv : Option Value) (mc ms : Nat) : Prop :=
  Met l y (.code y cc maxL ret :: gT) rm (va_Pc As (fun U => Hd D cI cT cII base w U.heap ∧ Kx D cI cT cII U)) (Qp D cI cT cII base w' rv) mc ms (fun q => base ≤ q)
/-- what holds all through a method's body -/
def Cx (p : Program) (R : Room) (s : State) (m : MethodId) (args : Array Value) (c : Code) (cc : ByteArray) (nL : Nat) (own : String) (D : va_G) (cI cT cII : ClassId) (fr lo : Nat) : Prop :=
  p.tables.exec = Jvm.exec ∧ c.code = cc ∧ c.maxLocals = nL ∧ s.vm.findClass own = some m.cls ∧ (∀ w ∈ gT, w.before args s = true) ∧ Kx D cI cT cII s ∧ fr ≤ R.frames ∧ lo ≤ R.locals
section BASE
variable {p : Program} {l : Launch} {e : Env} {R : Room} {s : State} {m : MethodId} {args : Array Value} {below : List Frame} {meth : Method} {c : Code} {H : Heap} {locs : List Loc} {cells slots : Nat} {Q : State → Prop}
variable {cc : ByteArray} {pc nL fr lo : Nat} {ls : Array Slot} {rest : List Value} {D : va_G} {cI cT cII : ClassId} {base : Nat} {w w' : Wd} {H0 : Heap} {own : String}
theorem m_enter {y : MethodName} {maxL : Nat} {ret : Option FieldType} {fr lo mc ms : Nat} {As : List Value} {rv : Option Value} (hy : plainName y.cls = true) (ha : (lg_sl As).length ≤ maxL)
    (body : ∀ (p : Program) (e : Env) (s : State) (m : MethodId) (below : List Frame) (meth : Method) (c : Code) (ls : Array Slot), Cx p { frames := fr, cells := mc, slots := ms, locals := lo } s m As.toArray c cc maxL y.cls D cI cT cII fr lo → meth.sig.returnType = ret → meth.locks = false → meth.name = y.name → Hd D cI cT cII base w s.heap → va_S (fun q => base ≤ q) s.heap s.heap [] → lv_has ls maxL (lv_args 0 As) →
      W p l e { frames := fr, cells := mc, slots := ms, locals := lo } s m As.toArray below meth c s.heap [] 0 0 (MQ below (Qp D cI cT cII base w' rv) As.toArray s mc ms (fun q => base ≤ q)) (F0 m 0 ls [])) :
    Ct l y cc maxL ret { frames := fr, cells := mc, slots := ms, locals := lo } D cI cT cII base As w w' rv mc ms := by
  refine Met.ofW (cc := cc) (maxL := maxL) (ret := ret) hy rfl ?_
  intro p e s m args below meth c s₁ B hml hv
  obtain ⟨rfl, hH, hK⟩ := hv
  have hts := atoms_spec (ws := .code y cc maxL ret :: gT) B.pre
  rw [lg_entry_eq]
  exact body p e s m below meth c _ ⟨B.exec, B.bytes, hml, findClass_of_methodNamed B.named, fun w hw => hts w (List.mem_cons_of_mem _ hw), hK, Nat.le_refl _, Nat.le_refl _⟩ B.returns B.notSynchronized (name_of_methodNamed B.named B.method).1 hH va_S.rf (lv_entry As ha)
theorem m_iret {r : Int32} (X : Cx p R s m args c cc nL own D cI cT cII fr lo) (hr : meth.sig.returnType = some .int) (hlk : meth.locks = false) (hH : Hd D cI cT cII base w H) (hS : va_S (fun q => base ≤ q) s.heap H locs) (hdg : decode cc pc = .ok (.ireturn, 1)) :
    W p l e R s m args below meth c H locs cells slots (MQ below (Qp D cI cT cII base w (some (.int r))) args s cells slots (fun q => base ≤ q)) (F0 m pc ls [.int r]) :=
  W.iret X.1 X.2.1 hr (fun t ht _ => ⟨rfl, by rw [ht]; exact hH, hS.F ht⟩) hS.2.2 hdg hlk
theorem m_zret {r : Int32} (X : Cx p R s m args c cc nL own D cI cT cII fr lo) (hr : meth.sig.returnType = some .boolean) (hlk : meth.locks = false) (hz : bz r = some r) (hH : Hd D cI cT cII base w H) (hS : va_S (fun q => base ≤ q) s.heap H locs) (hdg : decode cc pc = .ok (.ireturn, 1)) :
    W p l e R s m args below meth c H locs cells slots (MQ below (Qp D cI cT cII base w (some (.int r))) args s cells slots (fun q => base ≤ q)) (F0 m pc ls [.int r]) :=
  W.zret X.1 X.2.1 hr (by show Value.int (r &&& 1) = Value.int r; rw [(isn hz).1]) (fun t ht _ => ⟨rfl, by rw [ht]; exact hH, hS.F ht⟩) hS.2.2 hdg hlk
theorem m_vret (X : Cx p R s m args c cc nL own D cI cT cII fr lo) (hr : meth.sig.returnType = none) (hlk : meth.locks = false) (hH : Hd D cI cT cII base w H) (hS : va_S (fun q => base ≤ q) s.heap H locs) (hdg : decode cc pc = .ok (.return_, 1)) :
    W p l e R s m args below meth c H locs cells slots (MQ below (Qp D cI cT cII base w none) args s cells slots (fun q => base ≤ q)) (F0 m pc ls []) :=
  W.vret X.1 X.2.1 hr (fun t ht _ => ⟨rfl, by rw [ht]; exact hH, hS.F ht⟩) hS.2.2 hdg hlk
theorem m_aret {q : Nat} {n : String} (X : Cx p R s m args c cc nL own D cI cT cII fr lo) (hr : meth.sig.returnType = some (.object n)) (hlk : meth.locks = false) (hH : Hd D cI cT cII base w H) (hS : va_S (fun q => base ≤ q) s.heap H locs) (hdg : decode cc pc = .ok (.areturn, 1)) :
    W p l e R s m args below meth c H locs cells slots (MQ below (Qp D cI cT cII base w (some (.ref (base + q)))) args s cells slots (fun q => base ≤ q)) (F0 m pc ls [.ref (base + q)]) :=
  W.aret X.1 X.2.1 hr (Or.inl ⟨n, rfl⟩) (Or.inr ⟨_, rfl⟩) (fun t ht _ => ⟨rfl, by rw [ht]; exact hH, hS.F ht⟩) hS.2.2 hdg hlk
/-! fields -/
theorem m_gfI {C ref : String} {T : u_T} {N ci j q index : Nat} {x : Int32} (X : Cx p R s m args c cc nL own D cI cT cII fr lo) (hH : Hd D cI cT cII base w H) (hv : gfI ci j q w = some x) (hc : vwCl[ci]? = some (C, T, N)) (h12 : ci < 12) (hb : (fK ci)[j]? = some false) (hjN : j < N) (hin : ∀ w ∈ u_ws C T N, w ∈ gT) (hl : Cond.fieldLink own index ref (T j).2.1 (T j).2.2.1 ∈ gT) (hrf : (T j).1 = ref) (hdg : decode cc pc = .ok (.getfield index, 3))
    (k : W p l e R s m args below meth c H locs cells slots Q (F0 m (pc + 3) ls (.int x :: rest))) : W p l e R s m args below meth c H locs cells slots Q (F0 m pc ls (.ref (base + q) :: rest)) := by
  obtain ⟨⟨h1, h2⟩, rfl⟩ := isn hv
  subst hrf
  exact va_get X.1 X.2.1 X.2.2.2.2.1 hin X.2.2.2.1 X.2.2.2.2.2.1.1 hH q ((wsOf_get h1).trans (by rw [eE_O h2 h12])) hc j hjN (X.2.2.2.2.1 _ hl) (fun _ h => h) (fL_get hb) hdg k
theorem m_gfR {C ref : String} {T : u_T} {N ci j q index : Nat} {x : Nat} (X : Cx p R s m args c cc nL own D cI cT cII fr lo) (hH : Hd D cI cT cII base w H) (hv : gfR ci j q w = some x) (hc : vwCl[ci]? = some (C, T, N)) (h12 : ci < 12) (hb : (fK ci)[j]? = some true) (hjN : j < N) (hin : ∀ w ∈ u_ws C T N, w ∈ gT) (hl : Cond.fieldLink own index ref (T j).2.1 (T j).2.2.1 ∈ gT) (hrf : (T j).1 = ref) (hdg : decode cc pc = .ok (.getfield index, 3))
    (k : W p l e R s m args below meth c H locs cells slots Q (F0 m (pc + 3) ls (.ref (base + x) :: rest))) : W p l e R s m args below meth c H locs cells slots Q (F0 m pc ls (.ref (base + q) :: rest)) := by
  obtain ⟨⟨h1, h2⟩, h3⟩ := iso hv
  subst hrf
  exact va_get X.1 X.2.1 X.2.2.2.2.1 hin X.2.2.2.1 X.2.2.2.2.2.1.1 hH q ((wsOf_get h1).trans (by rw [eE_O h2 h12])) hc j hjN (X.2.2.2.2.1 _ hl) (fun _ h => h) ((fL_get hb).trans (by rw [h3]; rfl)) hdg k
theorem m_gnI {C ref host : String} {T : u_T} {N ci j q index : Nat} {x : Int32} (X : Cx p R s m args c cc nL own D cI cT cII fr lo) (hH : Hd D cI cT cII base w H) (hv : gfI ci j q w = some x) (hc : vwCl[ci]? = some (C, T, N)) (h12 : ci < 12) (hb : (fK ci)[j]? = some false) (hjN : j < N) (hin : ∀ w ∈ u_ws C T N, w ∈ gT) (hl : Cond.fieldLinkNest own index ref (T j).2.1 (T j).2.2.1 host ∈ nT) (hrf : (T j).1 = ref) (hdg : decode cc pc = .ok (.getfield index, 3))
    (k : W p l e R s m args below meth c H locs cells slots Q (F0 m (pc + 3) ls (.int x :: rest))) : W p l e R s m args below meth c H locs cells slots Q (F0 m pc ls (.ref (base + q) :: rest)) := by
  obtain ⟨⟨h1, h2⟩, rfl⟩ := isn hv
  subst hrf
  exact va_getN X.1 X.2.1 X.2.2.2.2.1 hin X.2.2.2.1 X.2.2.2.2.2.1.1 hH q ((wsOf_get h1).trans (by rw [eE_O h2 h12])) hc j hjN (va_Nw.use rfl (X.2.2.2.2.2.1.2 _ hl)) (fun _ h => h) (fL_get hb) hdg k
theorem m_gnR {C ref host : String} {T : u_T} {N ci j q index : Nat} {x : Nat} (X : Cx p R s m args c cc nL own D cI cT cII fr lo) (hH : Hd D cI cT cII base w H) (hv : gfR ci j q w = some x) (hc : vwCl[ci]? = some (C, T, N)) (h12 : ci < 12) (hb : (fK ci)[j]? = some true) (hjN : j < N) (hin : ∀ w ∈ u_ws C T N, w ∈ gT) (hl : Cond.fieldLinkNest own index ref (T j).2.1 (T j).2.2.1 host ∈ nT) (hrf : (T j).1 = ref) (hdg : decode cc pc = .ok (.getfield index, 3))
    (k : W p l e R s m args below meth c H locs cells slots Q (F0 m (pc + 3) ls (.ref (base + x) :: rest))) : W p l e R s m args below meth c H locs cells slots Q (F0 m pc ls (.ref (base + q) :: rest)) := by
  obtain ⟨⟨h1, h2⟩, h3⟩ := iso hv
  subst hrf
  exact va_getN X.1 X.2.1 X.2.2.2.2.1 hin X.2.2.2.1 X.2.2.2.2.2.1.1 hH q ((wsOf_get h1).trans (by rw [eE_O h2 h12])) hc j hjN (va_Nw.use rfl (X.2.2.2.2.2.1.2 _ hl)) (fun _ h => h) ((fL_get hb).trans (by rw [h3]; rfl)) hdg k
theorem m_pfI {C ref : String} {T : u_T} {N ci j q index : Nat} {x : Int32} {ty : FieldType} (X : Cx p R s m args c cc nL own D cI cT cII fr lo) (hH : Hd D cI cT cII base w H) (hS : va_S (fun q => base ≤ q) H0 H locs) (hv : pfI ci j q x w = some w') (hc : vwCl[ci]? = some (C, T, N)) (h12 : ci < 12) (hb : (fK ci)[j]? = some false) (hjN : j < N) (hin : ∀ w ∈ u_ws C T N, w ∈ gT) (ty0 : Nat → FieldType) (hty : ∀ k, k < N → parseFieldDescriptor (T k).2.2.1 = some (ty0 k)) (hnm : ∀ a, a < N → ∀ b, b < N → a ≠ b → (T a).2.1 ≠ (T b).2.1) (hl : Cond.fieldLink own index ref (T j).2.1 (T j).2.2.1 ∈ gT) (hrf : (T j).1 = ref) (hfin : (T j).2.2.2 = false) (hd : parseFieldDescriptor (T j).2.2.1 = some ty) (hn : narrow ty (.int x) = .int x) (hfit : fits ty (.int x) = true) (hdg : decode cc pc = .ok (.putfield index, 3))
    (k : ∀ (H : Heap) (locs : List Loc), Hd D cI cT cII base w' H → va_S (fun q => base ≤ q) H0 H locs → W p l e R s m args below meth c H locs cells slots Q (F0 m (pc + 3) ls rest)) : W p l e R s m args below meth c H locs cells slots Q (F0 m pc ls (.int x :: .ref (base + q) :: rest)) := by
  obtain ⟨⟨h1, h2⟩, rfl⟩ := isn hv
  subst hrf
  refine va_put X.1 X.2.1 X.2.2.2.2.1 hin ty0 hty hnm X.2.2.2.1 X.2.2.2.2.2.1.1 hH wsOf_D hS q ((wsOf_get h1).trans (by rw [eE_O h2 h12])) hc j hjN (X.2.2.2.2.1 _ hl) (fun _ h => h) hfin hd hn hfit (by rw [fL_len]; exact (List.getElem?_eq_some_iff.mp hb).1) hdg (fun H1 locs1 hP _ hS1 => ?_)
  rw [fL_setI hb, wsOf_set (w' := (up2 (wI w) q j x, wR w, wS w, wN w)) h1 rfl (eE_O h2 h12) (fun a ha => eE_oI (k := q) (fun b => by simp [up2, ha]))] at hP
  exact k H1 locs1 hP hS1
theorem m_pfR {C ref : String} {T : u_T} {N ci j q index z : Nat} {ty : FieldType} (X : Cx p R s m args c cc nL own D cI cT cII fr lo) (hH : Hd D cI cT cII base w H) (hS : va_S (fun q => base ≤ q) H0 H locs) (hv : pfR ci j q z w = some w') (hc : vwCl[ci]? = some (C, T, N)) (h12 : ci < 12) (hb : (fK ci)[j]? = some true) (hjN : j < N) (hin : ∀ w ∈ u_ws C T N, w ∈ gT) (ty0 : Nat → FieldType) (hty : ∀ k, k < N → parseFieldDescriptor (T k).2.2.1 = some (ty0 k)) (hnm : ∀ a, a < N → ∀ b, b < N → a ≠ b → (T a).2.1 ≠ (T b).2.1) (hl : Cond.fieldLink own index ref (T j).2.1 (T j).2.2.1 ∈ gT) (hrf : (T j).1 = ref) (hfin : (T j).2.2.2 = false) (hd : parseFieldDescriptor (T j).2.2.1 = some ty) (hn : narrow ty (.ref (base + z)) = .ref (base + z)) (hfit : fits ty (.ref (base + z)) = true) (hdg : decode cc pc = .ok (.putfield index, 3))
    (k : ∀ (H : Heap) (locs : List Loc), Hd D cI cT cII base w' H → va_S (fun q => base ≤ q) H0 H locs → W p l e R s m args below meth c H locs cells slots Q (F0 m (pc + 3) ls rest)) : W p l e R s m args below meth c H locs cells slots Q (F0 m pc ls (.ref (base + z) :: .ref (base + q) :: rest)) := by
  obtain ⟨⟨h1, h2⟩, rfl⟩ := isn hv
  subst hrf
  refine va_put X.1 X.2.1 X.2.2.2.2.1 hin ty0 hty hnm X.2.2.2.1 X.2.2.2.2.2.1.1 hH wsOf_D hS q ((wsOf_get h1).trans (by rw [eE_O h2 h12])) hc j hjN (X.2.2.2.2.1 _ hl) (fun _ h => h) hfin hd hn hfit (by rw [fL_len]; exact (List.getElem?_eq_some_iff.mp hb).1) hdg (fun H1 locs1 hP _ hS1 => ?_)
  rw [fL_setR hb, wsOf_set (w' := (wI w, up2 (wR w) q j (some z), wS w, wN w)) h1 rfl (eE_O h2 h12) (fun a ha => eE_oR (k := q) (fun b => by simp [up2, ha]))] at hP
  exact k H1 locs1 hP hS1
theorem m_pnI {C ref host : String} {T : u_T} {N ci j q index : Nat} {x : Int32} {ty : FieldType} (X : Cx p R s m args c cc nL own D cI cT cII fr lo) (hH : Hd D cI cT cII base w H) (hS : va_S (fun q => base ≤ q) H0 H locs) (hv : pfI ci j q x w = some w') (hc : vwCl[ci]? = some (C, T, N)) (h12 : ci < 12) (hb : (fK ci)[j]? = some false) (hjN : j < N) (hin : ∀ w ∈ u_ws C T N, w ∈ gT) (ty0 : Nat → FieldType) (hty : ∀ k, k < N → parseFieldDescriptor (T k).2.2.1 = some (ty0 k)) (hnm : ∀ a, a < N → ∀ b, b < N → a ≠ b → (T a).2.1 ≠ (T b).2.1) (hl : Cond.fieldLinkNest own index ref (T j).2.1 (T j).2.2.1 host ∈ nT) (hrf : (T j).1 = ref) (hfin : (T j).2.2.2 = false) (hd : parseFieldDescriptor (T j).2.2.1 = some ty) (hn : narrow ty (.int x) = .int x) (hfit : fits ty (.int x) = true) (hdg : decode cc pc = .ok (.putfield index, 3))
    (k : ∀ (H : Heap) (locs : List Loc), Hd D cI cT cII base w' H → va_S (fun q => base ≤ q) H0 H locs → W p l e R s m args below meth c H locs cells slots Q (F0 m (pc + 3) ls rest)) : W p l e R s m args below meth c H locs cells slots Q (F0 m pc ls (.int x :: .ref (base + q) :: rest)) := by
  obtain ⟨⟨h1, h2⟩, rfl⟩ := isn hv
  subst hrf
  refine va_putN X.1 X.2.1 X.2.2.2.2.1 hin ty0 hty hnm X.2.2.2.1 X.2.2.2.2.2.1.1 hH wsOf_D hS q ((wsOf_get h1).trans (by rw [eE_O h2 h12])) hc j hjN (va_Nw.use rfl (X.2.2.2.2.2.1.2 _ hl)) (fun _ h => h) hfin hd hn hfit (by rw [fL_len]; exact (List.getElem?_eq_some_iff.mp hb).1) hdg (fun H1 locs1 hP _ hS1 => ?_)
  rw [fL_setI hb, wsOf_set (w' := (up2 (wI w) q j x, wR w, wS w, wN w)) h1 rfl (eE_O h2 h12) (fun a ha => eE_oI (k := q) (fun b => by simp [up2, ha]))] at hP
  exact k H1 locs1 hP hS1
/-! arrays -/
theorem m_rdI {q : Nat} {i x : Int32} (X : Cx p R s m args c cc nL own D cI cT cII fr lo) (hH : Hd D cI cT cII base w H) (hv : rdI q i w = some x) (hdg : decode cc pc = .ok (.iaload, 1))
    (k : W p l e R s m args below meth c H locs cells slots Q (F0 m (pc + 1) ls (.int x :: rest))) : W p l e R s m args below meth c H locs cells slots Q (F0 m pc ls (.int i :: .ref (base + q) :: rest)) := by
  obtain ⟨⟨h1, h2, h3⟩, rfl⟩ := isn hv
  exact va_iald X.1 X.2.1 X.2.2.2.2.2.1.1 hH q 0 ((wsOf_get h1).trans (by rw [eE_I h2])) rfl h3 hdg k
theorem m_wrI {q : Nat} {i x : Int32} (X : Cx p R s m args c cc nL own D cI cT cII fr lo) (hH : Hd D cI cT cII base w H) (hS : va_S (fun q => base ≤ q) H0 H locs) (hv : wrI q i x w = some w') (hdg : decode cc pc = .ok (.iastore, 1))
    (k : ∀ (H : Heap) (locs : List Loc), Hd D cI cT cII base w' H → va_S (fun q => base ≤ q) H0 H locs → W p l e R s m args below meth c H locs cells slots Q (F0 m (pc + 1) ls rest)) : W p l e R s m args below meth c H locs cells slots Q (F0 m pc ls (.int x :: .int i :: .ref (base + q) :: rest)) := by
  obtain ⟨⟨h1, h2, h3⟩, rfl⟩ := isn hv
  refine va_iast X.1 X.2.1 X.2.2.2.2.2.1.1 hH wsOf_D hS q 0 ((wsOf_get h1).trans (by rw [eE_I h2])) rfl h3 hdg (fun H1 locs1 hP _ hS1 => ?_)
  rw [wsOf_set (w' := (up2 (wI w) q i.toNatClampNeg x, wR w, wS w, wN w)) h1 rfl (eE_upI h2) (fun a ha => eE_oI (k := q) (fun b => by simp [up2, ha]))] at hP
  exact k H1 locs1 hP hS1
theorem m_rdT {q z : Nat} {i : Int32} (X : Cx p R s m args c cc nL own D cI cT cII fr lo) (hH : Hd D cI cT cII base w H) (hv : rdR 13 q i w = some z) (hdg : decode cc pc = .ok (.aaload, 1))
    (k : W p l e R s m args below meth c H locs cells slots Q (F0 m (pc + 1) ls (.ref (base + z) :: rest))) : W p l e R s m args below meth c H locs cells slots Q (F0 m pc ls (.int i :: .ref (base + q) :: rest)) := by
  obtain ⟨⟨h1, h2, h3⟩, h4⟩ := iso hv
  refine va_aldq X.1 X.2.1 X.2.2.2.2.2.1.1 hH q 1 ((wsOf_get h1).trans (by rw [eE_T h2])) rfl h3 hdg ?_
  rw [h4]
  exact k
theorem m_rdII {q z : Nat} {i : Int32} (X : Cx p R s m args c cc nL own D cI cT cII fr lo) (hH : Hd D cI cT cII base w H) (hv : rdR 14 q i w = some z) (hdg : decode cc pc = .ok (.aaload, 1))
    (k : W p l e R s m args below meth c H locs cells slots Q (F0 m (pc + 1) ls (.ref (base + z) :: rest))) : W p l e R s m args below meth c H locs cells slots Q (F0 m pc ls (.int i :: .ref (base + q) :: rest)) := by
  obtain ⟨⟨h1, h2, h3⟩, h4⟩ := iso hv
  have hlt : i.toNatClampNeg < (wS w q).2 := Nat.not_le.mp fun z => h3 (Or.inr z)
  have ha : (wsOf cI cT cII base w)[q]? = some (base + q, .inl (cII, (wS w q).2, .inr (.inr (.inr (.inr (fun i => (wR w q i).map (base + ·))))))) := (wsOf_get h1).trans (by rw [eE_II h2])
  refine W.aald (v := va_rf ((wR w q i.toNatClampNeg).map (base + ·))) (ty := .array .int) X.1 X.2.1 (hH q _ ha) ((X.2.2.2.2.2.1.1.2 2 _ rfl).1 (wS w q).2 (fun j => va_rf ((wR w q j).map (base + ·)))) rfl (fun q => by cases q) (by show ¬ (i < 0 ∨ (arrV _ _ _).slots.size ≤ _); rw [arrV_size]; exact h3) (by show (arrV _ _ _).slots[_]? = _; rw [arrV_read _ _ hlt]) rfl rfl hdg ?_
  rw [h4]
  exact k
theorem m_lnI {q : Nat} {x : Int32} (X : Cx p R s m args c cc nL own D cI cT cII fr lo) (hH : Hd D cI cT cII base w H) (hv : lnA 12 q w = some x) (hdg : decode cc pc = .ok (.arraylength, 1))
    (k : W p l e R s m args below meth c H locs cells slots Q (F0 m (pc + 1) ls (.int x :: rest))) : W p l e R s m args below meth c H locs cells slots Q (F0 m pc ls (.ref (base + q) :: rest)) := by
  obtain ⟨⟨h1, h2⟩, h3⟩ := isn hv
  exact va_alen X.1 X.2.1 X.2.2.2.2.2.1.1 hH q 0 ((wsOf_get h1).trans (by rw [eE_I h2])) rfl h3 hdg k
theorem m_lnT {q : Nat} {x : Int32} (X : Cx p R s m args c cc nL own D cI cT cII fr lo) (hH : Hd D cI cT cII base w H) (hv : lnA 13 q w = some x) (hdg : decode cc pc = .ok (.arraylength, 1))
    (k : W p l e R s m args below meth c H locs cells slots Q (F0 m (pc + 1) ls (.int x :: rest))) : W p l e R s m args below meth c H locs cells slots Q (F0 m pc ls (.ref (base + q) :: rest)) := by
  obtain ⟨⟨h1, h2⟩, h3⟩ := isn hv
  exact va_alen X.1 X.2.1 X.2.2.2.2.2.1.1 hH q 1 ((wsOf_get h1).trans (by rw [eE_T h2])) rfl h3 hdg k
theorem m_wrT {q z : Nat} {i : Int32} (X : Cx p R s m args c cc nL own D cI cT cII fr lo) (hH : Hd D cI cT cII base w H) (hS : va_S (fun q => base ≤ q) H0 H locs) (hv : wrT q i z w = some w') (hdg : decode cc pc = .ok (.aastore, 1))
    (k : ∀ (H : Heap) (locs : List Loc), Hd D cI cT cII base w' H → va_S (fun q => base ≤ q) H0 H locs → W p l e R s m args below meth c H locs cells slots Q (F0 m (pc + 1) ls rest)) : W p l e R s m args below meth c H locs cells slots Q (F0 m pc ls (.ref (base + z) :: .int i :: .ref (base + q) :: rest)) := by
  obtain ⟨⟨⟨h1, h2, h3⟩, h4, h5⟩, rfl⟩ := isn hv
  refine va_astq (r := (RX10, TX10, 4)) X.1 X.2.1 X.2.2.2.2.2.1.1 hH wsOf_D hS q 1 z 9 ((wsOf_get h1).trans (by rw [eE_T h2])) rfl ((wsOf_get h4).trans (by rw [eE_O h5 (by decide)])) rfl h3 hdg (fun H1 locs1 hP _ hS1 => ?_)
  rw [wsOf_set (w' := (wI w, up2 (wR w) q i.toNatClampNeg (some z), wS w, wN w)) h1 rfl (eE_upT h2) (fun a ha => eE_oR (k := q) (fun b => by simp [up2, ha]))] at hP
  exact k H1 locs1 hP hS1
theorem m_cpI {q z index : Nat} {sp dp n : Int32} (X : Cx p R s m args c cc nL own D cI cT cII fr lo) (hH : Hd D cI cT cII base w H) (hS : va_S (fun q => base ≤ q) H0 H locs) (hl : lv_wf ls ∧ ls.size = nL) (hv : cpI q sp z dp n w = some w') (k1 : Cond.methodLink own index arraycopyName ∈ gT) (k2 : Cond.native arraycopyName ∈ gT) (k3 : Cond.static arraycopyName ∈ gT) (k4 : Cond.initialized "java/lang/System" ∈ gT) (hfr : 1 ≤ fr) (hlo : (rest.map fun v => v.category).sum + 18 ≤ lo) (hdg : decode cc pc = .ok (.invokestatic index, 3))
    (k : ∀ (H : Heap) (locs : List Loc), Hd D cI cT cII base w' H → va_S (fun q => base ≤ q) H0 H locs → W p l e R s m args below meth c H locs cells slots Q (F0 m (pc + 3) ls rest)) : W p l e R s m args below meth c H locs cells slots Q (F0 m pc ls (.int n :: .int dp :: .ref (base + z) :: .int sp :: .ref (base + q) :: rest)) := by
  obtain ⟨⟨⟨h1, h2⟩, ⟨h3, h4⟩, h5, h6, h7, h8, h9⟩, rfl⟩ := isn hv
  refine va_copyi (ty := .int) X.1 X.2.1 (X.2.2.1.trans hl.2.symm) X.2.2.2.1 (X.2.2.2.2.1 _ k1) (X.2.2.2.2.1 _ k2) (X.2.2.2.2.1 _ k3) (X.2.2.2.2.1 _ k4) X.2.2.2.2.2.1.1 hH wsOf_D hS q z 0 0 ((wsOf_get h1).trans (by rw [eE_I h2])) ((wsOf_get h3).trans (by rw [eE_I h4])) rfl rfl rfl h5 h6 h7 h8 h9 (fun _ _ => rfl) (Nat.le_trans hfr X.2.2.2.2.2.2.1) (Nat.le_trans hlo X.2.2.2.2.2.2.2) hdg (fun H1 locs1 hP _ hS1 => ?_)
  rw [wsOf_set (w' := (up1 (wI w) z (va_cpy (wI w q) (wI w z) sp.toNatClampNeg dp.toNatClampNeg n.toNatClampNeg), wR w, wS w, wN w)) h3 rfl (eE_up1 h4) (fun a ha => eE_oI (k := z) (fun b => by simp [up1, ha]))] at hP
  exact k H1 locs1 hP hS1
theorem m_idiv {x y v : Int32} (X : Cx p R s m args c cc nL own D cI cT cII fr lo) (hv : dvI x y = some v) (hdg : decode cc pc = .ok (.idiv, 1))
    (k : W p l e R s m args below meth c H locs cells slots Q (F0 m (pc + 1) ls (.int v :: rest))) : W p l e R s m args below meth c H locs cells slots Q (F0 m pc ls (.int y :: .int x :: rest)) := by
  by_cases h : y = 0
  · rw [dvI, if_pos h] at hv
    cases hv
  · rw [dvI, if_neg h] at hv
    cases hv
    exact lv_idiv X.1 X.2.1 hdg h k
theorem m_irem {x y v : Int32} (X : Cx p R s m args c cc nL own D cI cT cII fr lo) (hv : rmI x y = some v) (hdg : decode cc pc = .ok (.irem, 1))
    (k : W p l e R s m args below meth c H locs cells slots Q (F0 m (pc + 1) ls (.int v :: rest))) : W p l e R s m args below meth c H locs cells slots Q (F0 m pc ls (.int y :: .int x :: rest)) := by
  by_cases h : y = 0
  · rw [rmI, if_pos h] at hv
    cases hv
  · rw [rmI, if_neg h] at hv
    cases hv
    exact lv_irem X.1 X.2.1 hdg h k
/-! calls -/
theorem m_call {A : Nat → Prop} {rv : Option Value} {st0 : List Value} {a : Array Value} {mc ms : Nat} (hr : va_Run p l e R s m args below meth c H locs cells slots mc ms (F0 m pc ls st0) rest (Qp D cI cT cII base w' rv a) (fun q => base ≤ q)) (hS : va_S (fun q => base ≤ q) H0 H locs)
    (kk : ∀ (H : Heap) (locs : List Loc), Hd D cI cT cII base w' H → va_S (fun q => base ≤ q) H0 H locs → W p l e R s m args below meth c H locs (cells + mc) (slots + ms) Q (F0 m (pc + 3) ls (rv.toList ++ rest))) : W p l e R s m args below meth c H locs cells slots Q (F0 m pc ls st0) := by
  intro T hT X
  obtain ⟨v, st₀, t, T', L, h0, X', hL, e1, e2, ⟨hv, hb, hz, hk⟩, st⟩ := hr T hT X
  cases hv
  rw [h0] at hz hk
  obtain ⟨t2, a1, b1⟩ := kk T'.heap (locs ++ L) (by rw [e1]; exact hb)
    ⟨Nat.le_trans hS.1 (by rw [e1]; exact hz), fun q h1 h2 => by rw [e1, hk q (Nat.lt_of_lt_of_le h1 hS.1) h2]; exact hS.2.1 q h1 h2, fun q hq => by
      rcases List.mem_append.mp hq with h | h
      · exact hS.2.2 q h
      · exact hL q h⟩ T' rfl X'
  exact ⟨t2, st t2 a1, b1⟩
theorem Pc_blind {As : List Value} : FrameBlind (va_Pc As (fun U => Hd D cI cT cII base w U.heap ∧ Kx D cI cT cII U)) := fun _ _ _ _ q => ⟨q.1, q.2.1, q.2.2.calling⟩
/-- what a call needs of the callee, whoever calls -/
def CalS (y : MethodName) (cc : ByteArray) (maxL : Nat) (ret : Option FieldType) (n : Nat) : Prop := (Cond.code y cc maxL ret ∈ gT ∧ Cond.initialized y.cls ∈ gT) ∧ (y.cls ≠ "java/lang/invoke/MethodHandle" ∧ y.cls ≠ "java/lang/invoke/VarHandle" ∧ (parseMethodDescriptor y.desc).map (fun d => d.parameters.length) = some n)
theorem mem_head {y : MethodName} {b : ByteArray} {maxL : Nat} {ret : Option FieldType} (h : Cond.code y b maxL ret ∈ gT) : ∀ z ∈ (Cond.code y b maxL ret :: gT), z ∈ gT := fun z hz => by
  rcases List.mem_cons.mp hz with h1 | h1
  · rw [h1]; exact h
  · exact h1
theorem m_callS {y : MethodName} {bytes : ByteArray} {maxL n index fr' lo' : Nat} {ret : Option FieldType} {As : List Value} {rv : Option Value} {st0 : List Value} (X : Cx p R s m args c cc nL own D cI cT cII fr lo) (hH : Hd D cI cT cII base w H) (hS : va_S (fun q => base ≤ q) H0 H locs) (hz : ls.size = nL) (hM : Ct l y bytes maxL ret { frames := fr', cells := 0, slots := 0, locals := lo' } D cI cT cII base As w w' rv 0 0) (C : CalS y bytes maxL ret n) (k1 : Cond.methodLink own index y ∈ gT) (k2 : Cond.static y ∈ gT) (hn : As.length = n) (hst : st0 = As.reverse ++ rest) (hW : (rest.map fun v => v.category).sum ≤ 8) (hR : fr' + 1 ≤ fr ∧ 8 + (maxL + 11) + lo' ≤ lo) (hc : cells ≤ R.cells ∧ slots ≤ R.slots) (hdg : decode cc pc = .ok (.invokestatic index, 3))
    (kk : ∀ (H : Heap) (locs : List Loc), Hd D cI cT cII base w' H → va_S (fun q => base ≤ q) H0 H locs → W p l e R s m args below meth c H locs cells slots Q (F0 m (pc + 3) ls (rv.toList ++ rest))) : W p l e R s m args below meth c H locs cells slots Q (F0 m pc ls st0) := by
  obtain ⟨hx, hb, hml, hown, hts, hK, hf, hlo⟩ := X
  subst hst
  exact m_call (A := fun _ => True) (mc := 0) (ms := 0) (va_runS (n := n) ⟨hx, hb, hml, hown, hts⟩ hM ⟨callB_of n hts (gT_good (mem_head C.1.1)) rfl rfl rfl (hts _ C.1.2) (hts _ k1) C.2 ⟨Nat.le_trans hR.1 hf, Nat.le_trans hR.2 hlo⟩, hts _ k2⟩ ⟨Pc_blind, fun U hU hW => ⟨rfl, by rw [hU]; exact hH, hK.warm hW⟩⟩ rfl hn hz rfl (lv_room hW) hdg hc) hS kk
theorem m_callSN {y : MethodName} {host : String} {bytes : ByteArray} {maxL n index fr' lo' : Nat} {ret : Option FieldType} {As : List Value} {rv : Option Value} {st0 : List Value} (X : Cx p R s m args c cc nL own D cI cT cII fr lo) (hH : Hd D cI cT cII base w H) (hS : va_S (fun q => base ≤ q) H0 H locs) (hz : ls.size = nL) (hM : Ct l y bytes maxL ret { frames := fr', cells := 0, slots := 0, locals := lo' } D cI cT cII base As w w' rv 0 0) (C : CalS y bytes maxL ret n) (k1 : Cond.methodLinkNest own index y host ∈ nT) (k2 : Cond.static y ∈ gT) (hn : As.length = n) (hst : st0 = As.reverse ++ rest) (hW : (rest.map fun v => v.category).sum ≤ 8) (hR : fr' + 1 ≤ fr ∧ 8 + (maxL + 11) + lo' ≤ lo) (hc : cells ≤ R.cells ∧ slots ≤ R.slots) (hdg : decode cc pc = .ok (.invokestatic index, 3))
    (kk : ∀ (H : Heap) (locs : List Loc), Hd D cI cT cII base w' H → va_S (fun q => base ≤ q) H0 H locs → W p l e R s m args below meth c H locs cells slots Q (F0 m (pc + 3) ls (rv.toList ++ rest))) : W p l e R s m args below meth c H locs cells slots Q (F0 m pc ls st0) := by
  obtain ⟨hx, hb, hml, hown, hts, hK, hf, hlo⟩ := X
  subst hst
  exact m_call (A := fun _ => True) (mc := 0) (ms := 0) (va_runSN (n := n) ⟨hx, hb, hml, hown, hts⟩ hM ⟨va_cnB n hts (gT_good (mem_head C.1.1)) rfl rfl rfl (hK.2 _ k1) (hts _ C.1.2) C.2 ⟨Nat.le_trans hR.1 hf, Nat.le_trans hR.2 hlo⟩, hts _ k2, trivial⟩ ⟨Pc_blind, fun U hU hW => ⟨rfl, by rw [hU]; exact hH, hK.warm hW⟩⟩ rfl hn hz rfl (lv_room hW) hdg hc) hS kk
theorem m_recv {ci q : Nat} {r : vw_C} (hK : Kx D cI cT cII s) (hH : Hd D cI cT cII base w H) (hc : vwCl[ci]? = some r) (h12 : ci < 12) (hq : q < wN w ∧ (wS w q).1 = ci) : ∃ cell : Cell, H[base + q]? = some cell ∧ cell.vm.isStatics = false ∧ s.vm.findClass r.1 = some cell.cls :=
  va_recv hK.1 hH hc ((wsOf_get hq.1).trans (by rw [eE_O hq.2 h12]))
/-- the receiver is an object of that class -/
def isO (ci q : Nat) (w : Wd) : Option Unit := if q < wN w ∧ (wS w q).1 = ci then some () else none
theorem m_callV {y : MethodName} {bytes : ByteArray} {maxL n index fr' lo' ci q : Nat} {T : u_T} {N : Nat} {ret : Option FieldType} {As : List Value} {rv : Option Value} {st0 : List Value} {u : Unit} (X : Cx p R s m args c cc nL own D cI cT cII fr lo) (hH : Hd D cI cT cII base w H) (hS : va_S (fun q => base ≤ q) H0 H locs) (hz : ls.size = nL) (ho : isO ci q w = some u) (hvc : vwCl[ci]? = some (y.cls, T, N)) (h12 : ci < 12) (hM : Ct l y bytes maxL ret { frames := fr', cells := 0, slots := 0, locals := lo' } D cI cT cII base (.ref (base + q) :: As) w w' rv 0 0) (C : CalS y bytes maxL ret n) (k1 : Cond.methodLink own index y ∈ gT) (k2 : Cond.instanceMethod y ∈ gT) (k3 : Cond.selects y.cls y y ∈ gT) (hn : As.length = n) (hst : st0 = As.reverse ++ .ref (base + q) :: rest) (hW : (rest.map fun v => v.category).sum ≤ 8) (hR : fr' + 1 ≤ fr ∧ 8 + (maxL + 11) + lo' ≤ lo) (hc : cells ≤ R.cells ∧ slots ≤ R.slots) (hdg : decode cc pc = .ok (.invokevirtual index, 3))
    (kk : ∀ (H : Heap) (locs : List Loc), Hd D cI cT cII base w' H → va_S (fun q => base ≤ q) H0 H locs → W p l e R s m args below meth c H locs cells slots Q (F0 m (pc + 3) ls (rv.toList ++ rest))) : W p l e R s m args below meth c H locs cells slots Q (F0 m pc ls st0) := by
  obtain ⟨hx, hb, hml, hown, hts, hK, hf, hlo⟩ := X
  subst hst
  exact m_call (A := fun _ => True) (mc := 0) (ms := 0) (va_runV (n := n) (C := y.cls) ⟨hx, hb, hml, hown, hts⟩ hM ⟨callB_of n hts (gT_good (mem_head C.1.1)) rfl rfl rfl (hts _ C.1.2) (hts _ k1) C.2 ⟨Nat.le_trans hR.1 hf, Nat.le_trans hR.2 hlo⟩, hts _ k2, hts _ k3⟩ ⟨Pc_blind, m_recv hK hH hvc h12 (isn ho).1, fun U hU hW => ⟨rfl, by rw [hU]; exact hH, hK.warm hW⟩⟩ rfl hn hz rfl (lv_room hW) hdg hc) hS kk
theorem m_callVN {y : MethodName} {host : String} {bytes : ByteArray} {maxL n index fr' lo' ci q : Nat} {T : u_T} {N : Nat} {ret : Option FieldType} {As : List Value} {rv : Option Value} {st0 : List Value} {u : Unit} (X : Cx p R s m args c cc nL own D cI cT cII fr lo) (hH : Hd D cI cT cII base w H) (hS : va_S (fun q => base ≤ q) H0 H locs) (hz : ls.size = nL) (ho : isO ci q w = some u) (hvc : vwCl[ci]? = some (y.cls, T, N)) (h12 : ci < 12) (hM : Ct l y bytes maxL ret { frames := fr', cells := 0, slots := 0, locals := lo' } D cI cT cII base (.ref (base + q) :: As) w w' rv 0 0) (C : CalS y bytes maxL ret n) (k1 : Cond.methodLinkNest own index y host ∈ nT) (k2 : Cond.instanceMethod y ∈ gT) (k3 : Cond.selects y.cls y y ∈ gT) (hn : As.length = n) (hst : st0 = As.reverse ++ .ref (base + q) :: rest) (hW : (rest.map fun v => v.category).sum ≤ 8) (hR : fr' + 1 ≤ fr ∧ 8 + (maxL + 11) + lo' ≤ lo) (hc : cells ≤ R.cells ∧ slots ≤ R.slots) (hdg : decode cc pc = .ok (.invokevirtual index, 3))
    (kk : ∀ (H : Heap) (locs : List Loc), Hd D cI cT cII base w' H → va_S (fun q => base ≤ q) H0 H locs → W p l e R s m args below meth c H locs cells slots Q (F0 m (pc + 3) ls (rv.toList ++ rest))) : W p l e R s m args below meth c H locs cells slots Q (F0 m pc ls st0) := by
  obtain ⟨hx, hb, hml, hown, hts, hK, hf, hlo⟩ := X
  subst hst
  exact m_call (A := fun _ => True) (mc := 0) (ms := 0) (va_runVN (n := n) (C := y.cls) ⟨hx, hb, hml, hown, hts⟩ hM ⟨va_cnB n hts (gT_good (mem_head C.1.1)) rfl rfl rfl (hK.2 _ k1) (hts _ C.1.2) C.2 ⟨Nat.le_trans hR.1 hf, Nat.le_trans hR.2 hlo⟩, hts _ k2, hts _ k3⟩ ⟨Pc_blind, m_recv hK hH hvc h12 (isn ho).1, fun U hU hW => ⟨rfl, by rw [hU]; exact hH, hK.warm hW⟩⟩ rfl hn hz rfl (lv_room hW) hdg hc) hS kk
end BASE
