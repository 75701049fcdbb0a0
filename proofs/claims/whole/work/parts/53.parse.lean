/-! THE TEXT: what it tells -/
abbrev HS : Type := List F4 × List P2 × List C3 × List T3
def fgO (c : Int32) : Option Nat := if c < 48 then none else if 57 < c then none else some (c - 48).toNatClampNeg
def figO (tx : List Int32) (k : Nat) : Option Nat := if k < tx.length then fgO (tx.getD k 0) else none
def rnm (tx : List Int32) (k : Nat) : Option (Nat × Nat) := match figO tx k with
  | none => none
  | some f => match figO tx (k + 1) with
    | none => some (f, k + 1)
    | some g => some (10 * f + g, k + 2)
def sgB (tx : List Int32) (k : Nat) (c : Int32) : Bool := decide (k < tx.length ∧ tx.getD k 0 = c)
def rds (tx : List Int32) : Nat → Nat → Option (List Nat × Nat)
  | 0, k => some ([], k)
  | m + 1, k => match rnm tx k with
    | none => none
    | some r => if sgB tx r.2 (if m = 0 then 59 else 44) = true then (rds tx m (r.2 + 1)).map (fun s => (r.1 :: s.1, s.2)) else none
def wnt (c : Int32) : Nat := if c = 99 then 2 else if c = 102 then 2 else if c = 110 then 3 else if c = 112 then 2 else if c = 116 then 2 else if c = 119 then 3 else 0
def stp (hs : HS) (c : Int32) (x y z : Nat) : Option HS :=
  if c = 99 then (if x < hs.1.length ∧ y < 41 then some (hs.1.set x ((hs.1.getD x f4).1, (hs.1.getD x f4).2.1, (hs.1.getD x f4).2.2.1, nI y - 20), hs.2) else none)
  else if c = 102 then (if hs.1.length < 7 ∧ x < 4 ∧ y < 41 then some (hs.1 ++ [(nI x, nI y - 20, 0, 0)], hs.2) else none)
  else if c = 110 then (if hs.2.2.2.length < 8 ∧ x < 31 ∧ y < hs.1.length ∧ z < 41 then some (hs.1, hs.2.1, hs.2.2.1, hs.2.2.2 ++ [(nI x, y, nI z - 20)]) else none)
  else if c = 112 then (if hs.2.1.length < 5 ∧ x < 4 ∧ y < 21 then some (hs.1, hs.2.1 ++ [(nI x, nI y)], hs.2.2) else none)
  else if c = 116 then (if x < hs.1.length ∧ y < 11 then some (hs.1.set x ((hs.1.getD x f4).1, (hs.1.getD x f4).2.1, nI y - 5, (hs.1.getD x f4).2.2.2), hs.2) else none)
  else if c = 119 then (if hs.2.2.1.length < 10 ∧ x < hs.2.1.length ∧ y < 24 ∧ z < 4 then some (hs.1, hs.2.1, hs.2.2.1 ++ [(x, nI y, nI z)], hs.2.2.2) else none)
  else none
/-- one item at a place: the house behind it, and the place behind it -/
def itm (tx : List Int32) (k : Nat) (hs : HS) : Option (HS × Nat) := if wnt (tx.getD k 0) = 0 then none else match rds tx (wnt (tx.getD k 0)) (k + 1) with
  | none => none
  | some r => (stp hs (tx.getD k 0) (r.1.getD 0 0) (r.1.getD 1 0) (r.1.getD 2 0)).map (fun s => (s, r.2))
def prs (tx : List Int32) : Nat → Nat → HS → Nat ⊕ HS
  | 0, _, hs => Sum.inr hs
  | n + 1, k, hs => if k < tx.length then (match itm tx k hs with
    | none => Sum.inl k
    | some r => prs tx n r.2 r.1) else Sum.inr hs
def prsA (tx : List Int32) : Nat ⊕ HS := prs tx (tx.length + 1) 0 ([], [], [], [])
def aFault (tx : List Int32) : Int32 := match prsA tx with
  | Sum.inl k => nI k
  | Sum.inr _ => -4
theorem rds_gt (tx : List Int32) : ∀ (m k : Nat) (r : List Nat × Nat), rds tx m k = some r → k + m ≤ r.2 := by
  intro m
  induction m with
  | zero => intro k r h; cases h; exact Nat.le_refl _
  | succ m ih =>
    intro k r h
    unfold rds at h
    cases hr : rnm tx k with
    | none => rw [hr] at h; cases h
    | some s =>
      rw [hr] at h
      simp only at h
      have hs : k < s.2 := by
        unfold rnm at hr
        cases h1 : figO tx k with
        | none => rw [h1] at hr; cases hr
        | some f =>
          rw [h1] at hr
          simp only at hr
          cases h2 : figO tx (k + 1) with
          | none => rw [h2] at hr; cases hr; show k < k + 1; omega
          | some g => rw [h2] at hr; cases hr; show k < k + 2; omega
      by_cases c : sgB tx s.2 (if m = 0 then 59 else 44) = true
      · rw [if_pos c] at h
        cases h3 : rds tx m (s.2 + 1) with
        | none => rw [h3] at h; cases h
        | some u =>
          rw [h3] at h
          have h4 := ih _ _ h3
          cases h
          show k + (m + 1) ≤ u.2
          omega
      · rw [if_neg c] at h
        cases h
theorem itm_gt {tx : List Int32} {k : Nat} {hs : HS} {r : HS × Nat} (h : itm tx k hs = some r) : k < r.2 := by
  unfold itm at h
  split at h
  · cases h
  · cases h1 : rds tx (wnt (tx.getD k 0)) (k + 1) with
    | none => rw [h1] at h; cases h
    | some u =>
      rw [h1] at h
      have h2 := rds_gt _ _ _ _ h1
      simp only at h
      cases h3 : stp hs (tx.getD k 0) (u.1.getD 0 0) (u.1.getD 1 0) (u.1.getD 2 0) with
      | none => rw [h3] at h; cases h
      | some s =>
        rw [h3] at h
        cases h
        show k < u.2
        omega
/-! comings by hours -/
def bkN (CO : List C3) (n : Nat) : List C3 := (List.range n).flatMap (fun h => CO.filter (fun c => decide (c.2.1 = nI h)))
def bkM (CO : List C3) (i n : Nat) : List C3 := (List.range' i n).flatMap (fun h => CO.filter (fun c => decide (c.2.1 = nI h)))
def bkt (CO : List C3) : List C3 := bkN CO 24
theorem bk_split (CO : List C3) (a b : Nat) : bkN CO (a + b) = bkN CO a ++ bkM CO a b := by
  unfold bkN bkM
  rw [List.range_eq_range', List.range_eq_range', ← List.range'_append_1, List.flatMap_append, Nat.zero_add]
theorem bkN_s (CO : List C3) (n : Nat) : bkN CO (n + 1) = bkN CO n ++ CO.filter (fun c => decide (c.2.1 = nI n)) := by
  unfold bkN
  rw [List.range_succ, List.flatMap_append]
  simp
theorem bkN_app {CO : List C3} {c : C3} {h0 : Nat} (hc : c.2.1 = nI h0) (h24 : h0 < 2 ^ 31) : ∀ n, n ≤ h0 → bkN (CO ++ [c]) n = bkN CO n := by
  intro n
  induction n with
  | zero => intro _; rfl
  | succ n ih =>
    intro hn
    rw [bkN_s, bkN_s, ih (by omega), List.filter_append]
    have : [c].filter (fun c => decide (c.2.1 = nI n)) = [] := by
      rw [List.filter_cons, hc, if_neg]
      · rfl
      · simp only [decide_eq_true_eq]
        exact fun z => by have := (nI_eq (by omega) (by omega)).mp z; omega
    rw [this, List.append_nil]
theorem bkM_app {CO : List C3} {c : C3} {h0 : Nat} (hc : c.2.1 = nI h0) : ∀ n i, h0 < i → i + n < 2 ^ 31 → bkM (CO ++ [c]) i n = bkM CO i n := by
  intro n
  induction n with
  | zero => intro i _ _; rfl
  | succ n ih =>
    intro i hi hb
    have e1 : ∀ CO : List C3, bkM CO i (n + 1) = CO.filter (fun c => decide (c.2.1 = nI i)) ++ bkM CO (i + 1) n := fun CO => by
      unfold bkM
      rw [List.range'_succ, List.flatMap_cons]
    rw [e1, e1, ih (i + 1) (by omega) (by omega), List.filter_append]
    have : [c].filter (fun c => decide (c.2.1 = nI i)) = [] := by
      rw [List.filter_cons, hc, if_neg]
      · rfl
      · simp only [decide_eq_true_eq]
        exact fun z => by have := (nI_eq (by omega) (by omega)).mp z; omega
    rw [this, List.append_nil]
/-- a coming more goes behind all that are not later -/
theorem bkt_app {CO : List C3} {c : C3} {h0 : Nat} (hc : c.2.1 = nI h0) (h24 : h0 < 24) : bkt (CO ++ [c]) = bkN CO (h0 + 1) ++ c :: bkM CO (h0 + 1) (23 - h0) ∧ bkt CO = bkN CO (h0 + 1) ++ bkM CO (h0 + 1) (23 - h0) := by
  have e : 24 = (h0 + 1) + (23 - h0) := by omega
  constructor
  · unfold bkt
    rw [e, bk_split, bkM_app hc _ _ (by omega) (by omega), bkN_s, bkN_app hc (by omega) _ (Nat.le_refl _), List.filter_append, bkN_s]
    have : [c].filter (fun c => decide (c.2.1 = nI h0)) = [c] := by
      rw [List.filter_cons, hc, if_pos (by simp)]
      rfl
    rw [this]
    simp [List.append_assoc]
  · unfold bkt
    rw [e, bk_split]
theorem bkN_le {CO : List C3} {n : Nat} (hn : n < 2 ^ 31) : ∀ c, c ∈ bkN CO n → c.2.1 < nI n := by
  intro c hc
  unfold bkN at hc
  rw [List.mem_flatMap] at hc
  obtain ⟨h, h1, h2⟩ := hc
  rw [List.mem_range] at h1
  rw [List.mem_filter, decide_eq_true_eq] at h2
  rw [h2.2]
  exact nI_lt h1 hn
theorem bkM_ge {CO : List C3} {i n : Nat} (hn : i + n < 2 ^ 31) : ∀ c, c ∈ bkM CO i n → nI i ≤ c.2.1 := by
  intro c hc
  unfold bkM at hc
  rw [List.mem_flatMap] at hc
  obtain ⟨h, h1, h2⟩ := hc
  rw [List.mem_range'_1] at h1
  rw [List.mem_filter, decide_eq_true_eq] at h2
  rw [h2.2]
  exact nI_le h1.1 (by omega)
/-- what every house that is told keeps -/
def okHS (hs : HS) : Prop := (hs.1.length ≤ 7 ∧ hs.2.1.length ≤ 5 ∧ hs.2.2.1.length ≤ 10 ∧ hs.2.2.2.length ≤ 8) ∧ okP hs.2.1 ∧ (∀ c, c ∈ hs.2.2.1 → c.1 < hs.2.1.length ∧ ∃ h, h < 24 ∧ c.2.1 = nI h) ∧ okT hs.1 hs.2.2.2 ∧ (∀ k, k < hs.1.length → ∃ j, j < 41 ∧ (hs.1.getD k f4).2.1 = nI j - 20)
theorem gDset4 {l : List F4} {v d : F4} {i k : Nat} (h : i < l.length) : (l.set i v).getD k d = if k = i then v else l.getD k d := by
  by_cases hk : k = i
  · subst hk
    simp [List.getD_eq_getElem?_getD, h]
  · simp [List.getD_eq_getElem?_getD, List.getElem?_set_ne (Ne.symm hk), hk]
theorem stp_ok {hs hs' : HS} {c : Int32} {x y z : Nat} (ok : okHS hs) (h : stp hs c x y z = some hs') : okHS hs' := by
  obtain ⟨⟨l1, l2, l3, l4⟩, o2, o3, o4, o5⟩ := ok
  unfold stp at h
  split at h
  · split at h
    · rename_i hx
      cases h
      refine ⟨⟨by simpa using l1, l2, l3, l4⟩, o2, o3, ?_, ?_⟩
      · intro k hk
        have := o4 k hk
        simpa using this
      · intro k hk
        have hk' : k < hs.1.length := by simpa using hk
        show ∃ j, j < 41 ∧ ((hs.1.set x _).getD k f4).2.1 = _
        rw [gDset4 hx.1]
        by_cases e : k = x
        · subst e; rw [if_pos rfl]; exact o5 k hk'
        · rw [if_neg e]; exact o5 k hk'
    · cases h
  · split at h
    · split at h
      · rename_i hx
        cases h
        refine ⟨⟨by simp; omega, l2, l3, l4⟩, o2, o3, ?_, ?_⟩
        · intro k hk
          refine Nat.lt_of_lt_of_le (o4 k hk) ?_
          show hs.1.length ≤ (hs.1 ++ [(nI x, nI y - 20, 0, 0)]).length
          simp
        · intro k hk
          rw [List.length_append, List.length_singleton] at hk
          show ∃ j, j < 41 ∧ ((hs.1 ++ [(nI x, nI y - 20, 0, 0)]).getD k f4).2.1 = nI j - 20
          by_cases e : k = hs.1.length
          · subst e; rw [gDlast]; exact ⟨y, hx.2.2, rfl⟩
          · rw [gDapp (by omega)]; exact o5 k (by omega)
      · cases h
    · split at h
      · split at h
        · rename_i hx
          cases h
          refine ⟨⟨l1, l2, l3, by simp; omega⟩, o2, o3, ?_, o5⟩
          intro k hk
          rw [List.length_append, List.length_singleton] at hk
          show ((hs.2.2.2 ++ [_]).getD k t3).2.1 < _
          by_cases e : k = hs.2.2.2.length
          · subst e; rw [gDlast]; exact hx.2.2.1
          · rw [gDapp (by omega)]; exact o4 k (by omega)
        · cases h
      · split at h
        · split at h
          · rename_i hx
            cases h
            refine ⟨⟨l1, by simp; omega, l3, l4⟩, ?_, ?_, o4, o5⟩
            · intro i hi
              rw [List.length_append, List.length_singleton] at hi
              show okK ((hs.2.1 ++ [_]).getD i p2).1 ∧ okB ((hs.2.1 ++ [_]).getD i p2).2
              by_cases e : i = hs.2.1.length
              · subst e; rw [gDlast]; exact ⟨⟨x, hx.2.1, rfl⟩, ⟨y, hx.2.2, rfl⟩⟩
              · rw [gDapp (by omega)]; exact o2 i (by omega)
            · intro c hc
              have := o3 c hc
              show c.1 < (hs.2.1 ++ [_]).length ∧ _
              rw [List.length_append]
              exact ⟨by omega, this.2⟩
          · cases h
        · split at h
          · split at h
            · rename_i hx
              cases h
              refine ⟨⟨by simpa using l1, l2, l3, l4⟩, o2, o3, ?_, ?_⟩
              · intro k hk
                have := o4 k hk
                simpa using this
              · intro k hk
                have hk' : k < hs.1.length := by simpa using hk
                show ∃ j, j < 41 ∧ ((hs.1.set x _).getD k f4).2.1 = _
                rw [gDset4 hx.1]
                by_cases e : k = x
                · subst e; rw [if_pos rfl]; exact o5 k hk'
                · rw [if_neg e]; exact o5 k hk'
            · cases h
          · split at h
            · split at h
              · rename_i hx
                cases h
                refine ⟨⟨l1, l2, by simp; omega, l4⟩, o2, ?_, o4, o5⟩
                intro c hc
                rw [List.mem_append] at hc
                rcases hc with hc | hc
                · exact o3 c hc
                · rw [List.mem_singleton] at hc
                  subst hc
                  exact ⟨hx.2.1, y, hx.2.2.1, rfl⟩
              · cases h
            · cases h
theorem itm_ok {tx : List Int32} {k : Nat} {hs : HS} {r : HS × Nat} (ok : okHS hs) (h : itm tx k hs = some r) : okHS r.1 := by
  unfold itm at h
  split at h
  · cases h
  · cases h1 : rds tx (wnt (tx.getD k 0)) (k + 1) with
    | none => rw [h1] at h; cases h
    | some u =>
      rw [h1] at h
      simp only at h
      cases h3 : stp hs (tx.getD k 0) (u.1.getD 0 0) (u.1.getD 1 0) (u.1.getD 2 0) with
      | none => rw [h3] at h; cases h
      | some s =>
        rw [h3] at h
        cases h
        exact stp_ok ok h3
theorem prs_ok (tx : List Int32) : ∀ (n k : Nat) (hs hs' : HS), okHS hs → prs tx n k hs = Sum.inr hs' → okHS hs' := by
  intro n
  induction n with
  | zero => intro k hs hs' ok h; cases h; exact ok
  | succ n ih =>
    intro k hs hs' ok h
    unfold prs at h
    split at h
    · cases hi : itm tx k hs with
      | none => rw [hi] at h; cases h
      | some r =>
        rw [hi] at h
        exact ih _ _ _ (itm_ok ok hi) h
    · cases h; exact ok
theorem okHS_0 : okHS ([], [], [], []) := ⟨⟨by simp, by simp, by simp, by simp⟩, fun i hi => by simp at hi, fun c hc => by simp at hc, fun k hk => by simp at hk, fun k hk => by simp at hk⟩
theorem prs_lt (tx : List Int32) : ∀ (n k : Nat) (hs : HS) (f : Nat), prs tx n k hs = Sum.inl f → f < tx.length := by
  intro n
  induction n with
  | zero => intro k hs f h; cases h
  | succ n ih =>
    intro k hs f h
    unfold prs at h
    split at h
    · cases hi : itm tx k hs with
      | none => rw [hi] at h; cases h; assumption
      | some r => rw [hi] at h; exact ih _ _ _ h
    · cases h
