/-! PURE PART: numbers and reads/writes of the abstract world -/
theorem up2_eq {α : Type} (f : Nat → Nat → α) (p k : Nat) (v : α) : up2 f p k v = up1 f p (fun j => if j = k then v else f p j) := by
  funext a b
  by_cases ha : a = p
  · subst ha
    by_cases hb : b = k <;> simp [up2, up1, hb]
  · simp [up2, up1, ha]
theorem up1_s {α : Type} (f : Nat → Nat → α) (p : Nat) (v : Nat → α) : up1 f p v p = v := by funext b; simp [up1]
theorem up1_n {α : Type} (f : Nat → Nat → α) {p q : Nat} (v : Nat → α) (h : q ≠ p) : up1 f p v q = f q := by funext b; simp [up1, h]
theorem up1_u {α : Type} (f : Nat → Nat → α) (p : Nat) (u v : Nat → α) : up1 (up1 f p u) p v = up1 f p v := by
  funext a b
  by_cases ha : a = p <;> simp [up1, ha]
section LIB
variable {I : Nat → Nat → Int32} {R : Nat → Nat → Option Nat} {S : Nat → Nat × Nat} {N : Nat}
theorem gI {c j p : Nat} (hp : p < N) (hs : (S p).1 = c) : gfI c j p (I, R, S, N) = some (I p j) := if_pos ⟨hp, hs⟩
theorem gR {c j p q : Nat} (hp : p < N) (hs : (S p).1 = c) (hr : R p j = some q) : gfR c j p (I, R, S, N) = some q := (if_pos ⟨hp, hs⟩).trans hr
theorem pI {c j p : Nat} {x : Int32} (hp : p < N) (hs : (S p).1 = c) : pfI c j p x (I, R, S, N) = some (up1 I p (upd (I p) j x), R, S, N) := by
  have h : pfI c j p x (I, R, S, N) = some (up2 I p j x, R, S, N) := if_pos ⟨hp, hs⟩
  rw [h, up2_eq]
  rfl
theorem pR {c j p q : Nat} (hp : p < N) (hs : (S p).1 = c) : pfR c j p q (I, R, S, N) = some (I, up2 R p j (some q), S, N) := if_pos ⟨hp, hs⟩
theorem oI {c p : Nat} (hp : p < N) (hs : (S p).1 = c) : isO c p (I, R, S, N) = some () := if_pos ⟨hp, hs⟩
theorem nIn {k n : Nat} (hk : k < n) (hn : n ≤ 1000000) : ¬ (nI k < 0 ∨ n ≤ (nI k).toNatClampNeg) := by
  rw [nI_clamp (by omega)]
  rintro (h | h)
  · exact nI_pos (by omega) h
  · omega
theorem rd {p k n : Nat} (hp : p < N) (hs : S p = (12, n)) (hk : k < n) (hn : n ≤ 1000000) : rdI p (nI k) (I, R, S, N) = some (I p k) := by
  have h : rdI p (nI k) (I, R, S, N) = some (I p (nI k).toNatClampNeg) := if_pos ⟨hp, by show (S p).1 = 12; rw [hs], by show ¬ (nI k < 0 ∨ (S p).2 ≤ _); rw [hs]; exact nIn hk hn⟩
  rw [h, nI_clamp (by omega)]
theorem wr {p k n : Nat} {x : Int32} (hp : p < N) (hs : S p = (12, n)) (hk : k < n) (hn : n ≤ 1000000) : wrI p (nI k) x (I, R, S, N) = some (up1 I p (upd (I p) k x), R, S, N) := by
  have h : wrI p (nI k) x (I, R, S, N) = some (up2 I p (nI k).toNatClampNeg x, R, S, N) := if_pos ⟨hp, by show (S p).1 = 12; rw [hs], by show ¬ (nI k < 0 ∨ (S p).2 ≤ _); rw [hs]; exact nIn hk hn⟩
  rw [h, nI_clamp (by omega), up2_eq]
  rfl
theorem rR {c p k n q : Nat} (hp : p < N) (hs : S p = (c, n)) (hk : k < n) (hn : n ≤ 1000000) (hr : R p k = some q) : rdR c p (nI k) (I, R, S, N) = some q := by
  have h : rdR c p (nI k) (I, R, S, N) = R p (nI k).toNatClampNeg := if_pos ⟨hp, by show (S p).1 = c; rw [hs], by show ¬ (nI k < 0 ∨ (S p).2 ≤ _); rw [hs]; exact nIn hk hn⟩
  rw [h, nI_clamp (by omega), hr]
theorem wT {p k n q : Nat} (hp : p < N) (hs : S p = (13, n)) (hk : k < n) (hn : n ≤ 1000000) (hq : q < N) (hqs : (S q).1 = 9) : wrT p (nI k) q (I, R, S, N) = some (I, up2 R p k (some q), S, N) := by
  have h : wrT p (nI k) q (I, R, S, N) = some (I, up2 R p (nI k).toNatClampNeg (some q), S, N) := if_pos ⟨⟨hp, by show (S p).1 = 13; rw [hs], by show ¬ (nI k < 0 ∨ (S p).2 ≤ _); rw [hs]; exact nIn hk hn⟩, hq, hqs⟩
  rw [h, nI_clamp (by omega)]
theorem lA {c p n : Nat} (hp : p < N) (hs : S p = (c, n)) : lnA c p (I, R, S, N) = some (nI n) := by
  have h : lnA c p (I, R, S, N) = some (Int32.ofNat (S p).2) := if_pos ⟨hp, by show (S p).1 = c; rw [hs]⟩
  rw [h, hs]
  rfl
theorem cp7 {p q : Nat} (hp : p < N) (hq : q < N) (hps : S p = (12, 7)) (hqs : S q = (12, 7)) : cpI p 0 q 0 7 (I, R, S, N) = some (up1 I q (fun k => if k < 7 then I p k else I q k), R, S, N) := by
  have e0 : (0 : Int32).toNatClampNeg = 0 := by decide
  have e7 : (7 : Int32).toNatClampNeg = 7 := by decide
  have h : cpI p 0 q 0 7 (I, R, S, N) = some (up1 I q (va_cpy (I p) (I q) (0 : Int32).toNatClampNeg (0 : Int32).toNatClampNeg (7 : Int32).toNatClampNeg), R, S, N) := if_pos ⟨⟨hp, by show (S p).1 = 12; rw [hps]⟩, ⟨hq, by show (S q).1 = 12; rw [hqs]⟩, by decide, by decide, by decide, by show _ ≤ (S p).2; rw [hps, e0, e7]; decide, by show _ ≤ (S q).2; rw [hqs, e0, e7]; decide⟩
  rw [h, e0, e7]
  congr 2
  congr 1
  funext k
  simp [va_cpy]
end LIB
theorem nI_i1 (a : Nat) : nI a + (1 : Int32) = nI (a + 1) := nI_1 a
/-- comparisons of small numbers -/
theorem nle {a b : Nat} (ha : a < 2 ^ 31) (hb : b < 2 ^ 31) : (nI a ≤ nI b) = (a ≤ b) := propext (nI_leI ha hb)
theorem nlt {a b : Nat} (ha : a < 2 ^ 31) (hb : b < 2 ^ 31) : (nI a < nI b) = (a < b) := propext (nI_ltI ha hb)
theorem neq {a b : Nat} (ha : a < 2 ^ 31) (hb : b < 2 ^ 31) : (nI a = nI b) = (a = b) := propext (nI_eq ha hb)
theorem z0 : (0 : Int32) = nI 0 := by decide
theorem z1 : (1 : Int32) = nI 1 := by decide
theorem z2 : (2 : Int32) = nI 2 := by decide
theorem z3 : (3 : Int32) = nI 3 := by decide
theorem z4 : (4 : Int32) = nI 4 := by decide
theorem z5 : (5 : Int32) = nI 5 := by decide
theorem z6 : (6 : Int32) = nI 6 := by decide
theorem z7 : (7 : Int32) = nI 7 := by decide
theorem z8 : (8 : Int32) = nI 8 := by decide
theorem z10 : (10 : Int32) = nI 10 := by decide
theorem z13 : (13 : Int32) = nI 13 := by decide
theorem z20 : (20 : Int32) = nI 20 := by decide
theorem z24 : (24 : Int32) = nI 24 := by decide
theorem z25 : (25 : Int32) = nI 25 := by decide
theorem z28 : (28 : Int32) = nI 28 := by decide
theorem z30 : (30 : Int32) = nI 30 := by decide
theorem z31 : (31 : Int32) = nI 31 := by decide
theorem z40 : (40 : Int32) = nI 40 := by decide
theorem z175 : (175 : Int32) = nI 175 := by decide
theorem z200 : (200 : Int32) = nI 200 := by decide
theorem gD {α : Type} {l : List α} {k : Nat} {d : α} (h : k < l.length) : l.getD k d = l[k] := by simp [List.getD_eq_getElem?_getD, h]
theorem gDapp {α : Type} {l : List α} {x d : α} {k : Nat} (h : k < l.length) : (l ++ [x]).getD k d = l.getD k d := by simp [List.getD_eq_getElem?_getD, List.getElem?_append_left h]
theorem gDlast {α : Type} {l : List α} {x d : α} : (l ++ [x]).getD l.length d = x := by simp [List.getD_eq_getElem?_getD]
theorem gDset {α : Type} {l : List α} {v d : α} {i k : Nat} (h : i < l.length) : (l.set i v).getD k d = if k = i then v else l.getD k d := by
  by_cases hk : k = i
  · subst hk
    simp [List.getD_eq_getElem?_getD, h]
  · simp [List.getD_eq_getElem?_getD, List.getElem?_set_ne (Ne.symm hk), hk]
/-- an array holds a list at its beginning -/
def arr (f : Nat → Int32) (l : List Int32) : Prop := ∀ k, k < l.length → f k = l.getD k 0
theorem arr.set {f : Nat → Int32} {l : List Int32} (h : arr f l) (i : Nat) (v : Int32) (hi : i < l.length) : arr (upd f i v) (l.set i v) := by
  intro k hk
  rw [List.length_set] at hk
  rw [gDset hi]
  by_cases e : k = i
  · simp [upd, e]
  · simp only [upd, if_neg e]
    exact h k hk
theorem lext {l l' : List Int32} (h : l.length = l'.length) (e : ∀ k, k < l.length → l.getD k 0 = l'.getD k 0) : l = l' := by
  apply List.ext_getElem h
  intro i h1 h2
  have := e i h1
  rw [gD h1, gD h2] at this
  exact this
theorem gDmap {n k : Nat} {g : Nat → Int32} (h : k < n) : ((List.range n).map g).getD k 0 = g k := by simp [List.getD_eq_getElem?_getD, h]
theorem dropc {α : Type} {l : List α} {i : Nat} (d : α) (h : i < l.length) : l.drop i = l.getD i d :: l.drop (i + 1) := by
  rw [gD h]
  exact List.drop_eq_getElem_cons h
/-! THE SPEC's words: frames (room, angle, wire, patch), persons (kind, bears), comings (person, hour, room), turns (night, frame, by) -/
abbrev F4 : Type := Int32 × Int32 × Int32 × Int32
abbrev P2 : Type := Int32 × Int32
abbrev C3 : Type := Nat × Int32 × Int32
abbrev T3 : Type := Int32 × Nat × Int32
def f4 : F4 := (0, 0, 0, 0)
def p2 : P2 := (0, 0)
def c3 : C3 := (0, 0, 0)
def t3 : T3 := (0, 0, 0)
def wth (v : Int32) : Int32 := if v < -40 then -40 else if 40 < v then 40 else v
def limO (kd b : Int32) : Int32 := if kd = 3 then 2 * b else b
def made (kd b v : Int32) : Int32 := if iabs v ≤ limO kd b then v else if kd = 0 then 0 else if kd = 1 then v / 2 else if kd = 2 then -(v / 2) else if v < 0 then -b else b
def twL (FR : List F4) (a : List Int32) : List Int32 := (List.range FR.length).map (fun k => wth (a.getD k 0 + (FR.getD k f4).2.2.1))
def tnL (k : Nat) (d : Int32) (a : List Int32) : List Int32 := a.set k (wth (a.getD k 0 + d))
def ntL (TL : List T3) (d : Int32) (a : List Int32) : List Int32 := TL.foldl (fun a t => if t.1 = d then tnL t.2.1 t.2.2 a else a) a
def fTL (FR : List F4) (lim room : Int32) (a : List Int32) (i n : Nat) : Option Nat := (List.range' i n).find? (fun k => decide ((FR.getD k f4).1 = room) && decide (¬ iabs (a.getD k 0) ≤ lim))
def cmL (FR : List F4) (PE : List P2) (st : List Int32 × List Int32) (c : C3) : List Int32 × List Int32 :=
  if st.2.getD c.1 0 = -4 then
    match fTL FR (limO (PE.getD c.1 p2).1 (PE.getD c.1 p2).2) c.2.2 st.1 0 FR.length with
    | none => st
    | some k => (st.1.set k (made (PE.getD c.1 p2).1 (PE.getD c.1 p2).2 (st.1.getD k 0)), st.2.set c.1 (nI k))
  else st
def none5 : List Int32 := [-4, -4, -4, -4, -4]
def mnL (FR : List F4) (PE : List P2) (SC : List C3) (a : List Int32) : List Int32 × List Int32 := SC.foldl (cmL FR PE) (a, none5)
def mask (s : List Int32) : Int32 := (List.range 5).foldl (fun m i => if s.getD i (-4) = -4 then m else m ||| ((1 : Int32) <<< (nI i &&& 31))) 0
/-- an object Turns at place t, its rows behind it -/
def isT (R : Nat → Nat → Option Nat) (S : Nat → Nat × Nat) (N t : Nat) : Prop := t + 3 < N ∧ (S t).1 = 9 ∧ S (t + 1) = (12, 8) ∧ S (t + 2) = (12, 8) ∧ S (t + 3) = (12, 8) ∧ R t 0 = some (t + 1) ∧ R t 1 = some (t + 2) ∧ R t 2 = some (t + 3)
/-- it holds the list -/
def TAt (I : Nat → Nat → Int32) (t : Nat) (l : List T3) : Prop := l.length ≤ 8 ∧ I t 3 = nI l.length ∧ ∀ k, k < l.length → I (t + 1) k = (l.getD k t3).1 ∧ I (t + 2) k = nI (l.getD k t3).2.1 ∧ I (t + 3) k = (l.getD k t3).2.2
theorem TAt.of {I J : Nat → Nat → Int32} {t : Nat} {l : List T3} (h : TAt I t l) (e : ∀ p, t ≤ p → p ≤ t + 3 → J p = I p) : TAt J t l := by
  obtain ⟨h1, h2, h3⟩ := h
  refine ⟨h1, by rw [e t (by omega) (by omega)]; exact h2, fun k hk => ?_⟩
  rw [e (t + 1) (by omega) (by omega), e (t + 2) (by omega) (by omega), e (t + 3) (by omega) (by omega)]
  exact h3 k hk
section TURNS
variable {R : Nat → Nat → Option Nat} {S : Nat → Nat × Nat} {N t : Nat}
theorem T_g (ht : isT R S N t) (I : Nat → Nat → Int32) (j : Nat) : gfI 9 j t (I, R, S, N) = some (I t j) := gI (by have := ht.1; omega) ht.2.1
theorem T_p (ht : isT R S N t) (I : Nat → Nat → Int32) (j : Nat) (x : Int32) : pfI 9 j t x (I, R, S, N) = some (up1 I t (upd (I t) j x), R, S, N) := pI (by have := ht.1; omega) ht.2.1
theorem T_o (ht : isT R S N t) (I : Nat → Nat → Int32) : isO 9 t (I, R, S, N) = some () := oI (by have := ht.1; omega) ht.2.1
theorem T_0 (ht : isT R S N t) (I : Nat → Nat → Int32) : gfR 9 0 t (I, R, S, N) = some (t + 1) := gR (by have := ht.1; omega) ht.2.1 ht.2.2.2.2.2.1
theorem T_1 (ht : isT R S N t) (I : Nat → Nat → Int32) : gfR 9 1 t (I, R, S, N) = some (t + 2) := gR (by have := ht.1; omega) ht.2.1 ht.2.2.2.2.2.2.1
theorem T_2 (ht : isT R S N t) (I : Nat → Nat → Int32) : gfR 9 2 t (I, R, S, N) = some (t + 3) := gR (by have := ht.1; omega) ht.2.1 ht.2.2.2.2.2.2.2
theorem T_r0 (ht : isT R S N t) (I : Nat → Nat → Int32) {k : Nat} (hk : k < 8) : rdI (t + 1) (nI k) (I, R, S, N) = some (I (t + 1) k) := rd (by have := ht.1; omega) ht.2.2.1 hk (by omega)
theorem T_r1 (ht : isT R S N t) (I : Nat → Nat → Int32) {k : Nat} (hk : k < 8) : rdI (t + 2) (nI k) (I, R, S, N) = some (I (t + 2) k) := rd (by have := ht.1; omega) ht.2.2.2.1 hk (by omega)
theorem T_r2 (ht : isT R S N t) (I : Nat → Nat → Int32) {k : Nat} (hk : k < 8) : rdI (t + 3) (nI k) (I, R, S, N) = some (I (t + 3) k) := rd (by have := ht.1; omega) ht.2.2.2.2.1 hk (by omega)
theorem T_w0 (ht : isT R S N t) (I : Nat → Nat → Int32) {k : Nat} (x : Int32) (hk : k < 8) : wrI (t + 1) (nI k) x (I, R, S, N) = some (up1 I (t + 1) (upd (I (t + 1)) k x), R, S, N) := wr (by have := ht.1; omega) ht.2.2.1 hk (by omega)
theorem T_w1 (ht : isT R S N t) (I : Nat → Nat → Int32) {k : Nat} (x : Int32) (hk : k < 8) : wrI (t + 2) (nI k) x (I, R, S, N) = some (up1 I (t + 2) (upd (I (t + 2)) k x), R, S, N) := wr (by have := ht.1; omega) ht.2.2.2.1 hk (by omega)
theorem T_w2 (ht : isT R S N t) (I : Nat → Nat → Int32) {k : Nat} (x : Int32) (hk : k < 8) : wrI (t + 3) (nI k) x (I, R, S, N) = some (up1 I (t + 3) (upd (I (t + 3)) k x), R, S, N) := wr (by have := ht.1; omega) ht.2.2.2.2.1 hk (by omega)
theorem T_add {I : Nat → Nat → Int32} {l : List T3} (ht : isT R S N t) (hl : TAt I t l) (hn : l.length < 8) (a : Int32) (b : Nat) (c : Int32) : ∃ J, fX10_add t a (nI b) c (I, R, S, N) = some ((), (J, R, S, N)) ∧ TAt J t (l ++ [(a, b, c)]) ∧ ∀ p, (p < t ∨ t + 3 < p) → J p = I p := by
  obtain ⟨l1, l2, l3⟩ := hl
  refine ⟨up1 (up1 (up1 (up1 I (t + 1) (upd (I (t + 1)) l.length a)) (t + 2) (upd (I (t + 2)) l.length (nI b))) (t + 3) (upd (I (t + 3)) l.length c)) t (upd (I t) 3 (nI (l.length + 1))), ?_, ?_, ?_⟩
  · simp (disch := omega) only [fX10_add, T_g ht, T_p ht, T_0 ht, T_1 ht, T_2 ht, T_w0 ht, T_w1 ht, T_w2 ht, Option.bind_some, l2, up1_n, up1_s, z8, nle, nlt, nI_i1]
    rw [if_neg (by omega)]
  · refine ⟨by simp; omega, by simp [up1_s, upd], fun k hk => ?_⟩
    simp (disch := omega) only [up1_n, up1_s]
    by_cases hk2 : k = l.length
    · subst hk2
      simp [upd]
    · have hk3 : k < l.length := by simp at hk; omega
      rw [gDapp hk3]
      simp only [upd, if_neg hk2]
      exact l3 k hk3
  · intro p hp
    simp (disch := omega) only [up1_n]
end TURNS
