theorem nI_sub1 {a : Nat} (h : 0 < a) : nI a - (1 : Int32) = nI (a - 1) := by rw [z1, pk_sub (by omega)]
theorem C_out0 {j n : Nat} (h : j < n) (hn : n < 2 ^ 31) (w : Wd) : fX11_outside (nI j) (nI n) w = some (0, w) := by
  unfold fX11_outside
  rw [if_neg (nI_pos (by omega)), if_pos (nI_lt h hn)]
theorem C_out1 {x : Int32} {n : Nat} (h : x < 0 ∨ nI n ≤ x) (w : Wd) : fX11_outside x (nI n) w = some (1, w) := by
  unfold fX11_outside
  rcases h with h | h
  · rw [if_pos h]
  · by_cases c : x < 0
    · rw [if_pos c]
    · rw [if_neg c, if_neg (Int32.not_lt.mpr h)]
theorem M_in1 {v a b : Int32} (h1 : ¬ v < a) (h2 : ¬ b < v) (w : Wd) : fX12_in v a b w = some (1, w) := by
  unfold fX12_in
  rw [if_neg h1, if_neg h2]
theorem M_in0 {v a b : Int32} (h : v < a ∨ b < v) (w : Wd) : fX12_in v a b w = some (0, w) := by
  unfold fX12_in
  rcases h with h | h
  · rw [if_pos h]
  · by_cases c : v < a
    · rw [if_pos c]
    · rw [if_neg c, if_pos h]
theorem bz1 : bz 1 = some 1 := by decide
theorem bz0 : bz 0 = some 0 := by decide
/-! THE TEXT -/
def TxAt (I : Nat → Nat → Int32) (t : Nat) (tx : List Int32) : Prop := tx.length ≤ 200 ∧ I t 1 = nI tx.length ∧ arr (I (t + 1)) tx
theorem TxAt.of {I J : Nat → Nat → Int32} {t : Nat} {tx : List Int32} (h : TxAt I t tx) (e : J t = I t) (e1 : J (t + 1) = I (t + 1)) : TxAt J t tx := by
  unfold TxAt
  rw [e, e1]
  exact h
theorem arr_app {f : Nat → Int32} {l : List Int32} (h : arr f l) (v : Int32) : arr (upd f l.length v) (l ++ [v]) := by
  intro k hk
  by_cases e : k = l.length
  · subst e
    rw [gDlast]
    simp [upd]
  · have hk2 : k < l.length := by simp at hk; omega
    rw [gDapp hk2]
    simp only [upd, if_neg e]
    exact h k hk2
section OBJ
variable {R : Nat → Nat → Option Nat} {S : Nat → Nat × Nat} {N t u : Nat}
theorem X_add (ht : isTx R S N t) {I : Nat → Nat → Int32} {tx : List Int32} (d : TxAt I t tx) (hl : tx.length < 200) (v : Int32) : ∃ J, fX9_add t v (I, R, S, N) = some (1, (J, R, S, N)) ∧ TxAt J t (tx ++ [v]) ∧ ∀ p, p ≠ t → p ≠ t + 1 → J p = I p := by
  obtain ⟨d1, d2, d3⟩ := d
  refine ⟨up1 (up1 I (t + 1) (upd (I (t + 1)) tx.length v)) t (upd (I t) 1 (nI (tx.length + 1))), ?_, ?_, fun p h1 h2 => by rw [up1_n _ _ h1, up1_n _ _ h2]⟩
  · simp (disch := omega) only [fX9_add, Tx_g ht, Tx_p ht, Tx_0 ht, Tx_w0 ht, Option.bind_some, d2, up1_n, z200, nlt, nI_i1]
    rw [if_pos (by omega)]
  · refine ⟨by simp; omega, by simp [up1_s, upd], ?_⟩
    rw [up1_n _ _ (by omega), up1_s]
    exact arr_app d3 v
theorem X_addF (ht : isTx R S N t) {I : Nat → Nat → Int32} {tx : List Int32} (d : TxAt I t tx) (hl : ¬ tx.length < 200) (v : Int32) : fX9_add t v (I, R, S, N) = some (0, (I, R, S, N)) := by
  obtain ⟨d1, d2, d3⟩ := d
  simp (disch := omega) only [fX9_add, Tx_g ht, Option.bind_some, d2, z200, nlt]
  rw [if_neg (by omega)]
theorem X_empty (ht : isTx R S N t) {I : Nat → Nat → Int32} {tx : List Int32} (d : TxAt I t tx) : ∃ J, fX9_empty t (I, R, S, N) = some (nI tx.length, (J, R, S, N)) ∧ TxAt J t [] ∧ ∀ p, p ≠ t → J p = I p := by
  obtain ⟨d1, d2, d3⟩ := d
  refine ⟨up1 I t (upd (I t) 1 0), ?_, ⟨by simp, by rw [up1_s]; simp [upd]; decide, fun k hk => by simp at hk⟩, fun p hp => up1_n _ _ hp⟩
  simp only [fX9_empty, Tx_g ht, Tx_p ht, Option.bind_some, d2]
theorem X_letterAt (ht : isTx R S N t) {I : Nat → Nat → Int32} {tx : List Int32} (d : TxAt I t tx) (k : Nat) (hk : k < 2 ^ 30) : fX9_letterAt t (nI k) (I, R, S, N) = some (if k < tx.length then tx.getD k 0 else -4, (I, R, S, N)) := by
  obtain ⟨d1, d2, d3⟩ := d
  by_cases c : k < tx.length
  · simp (disch := omega) only [fX9_letterAt, Tx_g ht, Tx_0 ht, Tx_r0 ht, Option.bind_some, d2, C_out0 c (show tx.length < 2 ^ 31 by omega), if_pos c, d3 k c, if_true]
  · simp (disch := omega) only [fX9_letterAt, Tx_g ht, Option.bind_some, d2, C_out1 (Or.inr (nI_le (show tx.length ≤ k by omega) (by omega))), if_neg c]
    rw [if_neg (by decide)]
/-! TURNS: copies, and one left out -/
theorem T_copyL (ht : isT R S N t) (hu : isT R S N u) (ho : t + 3 < u ∨ u + 3 < t) {l : List T3} (K : Wd → Option (Unit × Wd)) : ∀ (m i n : Nat) (J : Nat → Nat → Int32), i + m = l.length → m < n → TAt J u l → TAt J t (l.take i) →
    ∃ J', fX10_copy_7 t u K n (nI i) (J, R, S, N) = K (J', R, S, N) ∧ TAt J' t l ∧ ∀ p, (p < t ∨ t + 3 < p) → J' p = J p := by
  intro m
  induction m with
  | zero =>
    intro i n J hi hn du dt
    obtain ⟨n, rfl⟩ : ∃ n', n = n' + 1 := ⟨n - 1, by omega⟩
    have d1 := du.1
    rw [List.take_of_length_le (by omega)] at dt
    refine ⟨J, ?_, dt, fun _ _ => rfl⟩
    simp (disch := omega) only [fX10_copy_7, T_g hu, Option.bind_some, du.2.1, nle]
    rw [if_pos (by omega)]
  | succ m ih =>
    intro i n J hi hn du dt
    obtain ⟨n, rfl⟩ : ∃ n', n = n' + 1 := ⟨n - 1, by omega⟩
    have d1 := du.1
    have hk := du.2.2 i (by omega)
    obtain ⟨J1, g1, g2, g3⟩ := T_add ht dt (by rw [List.length_take]; omega) (l.getD i t3).1 (l.getD i t3).2.1 (l.getD i t3).2.2
    have e0 : l.take i ++ [((l.getD i t3).1, (l.getD i t3).2.1, (l.getD i t3).2.2)] = l.take (i + 1) := by
      rw [gD (show i < l.length by omega)]
      exact List.take_append_getElem (show i < l.length by omega)
    rw [e0] at g2
    obtain ⟨J', e1, e2, e3⟩ := ih (i + 1) n J1 (by omega) (by omega) (du.of (fun p h1 h2 => g3 p (by omega))) g2
    refine ⟨J', ?_, e2, fun p hp => by rw [e3 p hp, g3 p hp]⟩
    simp (disch := omega) only [fX10_copy_7, T_g hu, T_0 hu, T_1 hu, T_2 hu, T_r0 hu, T_r1 hu, T_r2 hu, T_o ht, Option.bind_some, du.2.1, nle, hk.1, hk.2.1, hk.2.2, g1, nI_i1, e1]
    rw [if_neg (by omega)]
theorem T_copy (ht : isT R S N t) (hu : isT R S N u) (ho : t + 3 < u ∨ u + 3 < t) {l : List T3} {J : Nat → Nat → Int32} (du : TAt J u l) : ∃ J', fX10_copy t u (J, R, S, N) = some ((), (J', R, S, N)) ∧ TAt J' t l ∧ ∀ p, (p < t ∨ t + 3 < p) → J' p = J p := by
  have d1 := du.1
  obtain ⟨J', e1, e2, e3⟩ := T_copyL ht hu ho (fun w => some ((), w)) l.length 0 FV (up1 J t (upd (J t) 3 0)) (by omega) (FV_lt (by omega)) (du.of (fun p h1 h2 => up1_n _ _ (by omega))) ⟨by simp, by rw [up1_s]; simp [upd]; decide, fun k hk => by simp at hk⟩
  refine ⟨J', ?_, e2, fun p hp => by rw [e3 p hp, up1_n _ _ (by omega)]⟩
  simp only [fX10_copy, T_p ht, Option.bind_some]
  rw [z0] at e1 ⊢
  exact e1
theorem T_remL (ht : isT R S N t) (K : Wd → Option (Unit × Wd)) {c : Nat} (hc : c ≤ 8) (h1c : 1 ≤ c) : ∀ (m i n : Nat) (J : Nat → Nat → Int32), i + m = c - 1 → m < n → J t 3 = nI c →
    ∃ J', fX10_remove_14 t K n (nI i) (J, R, S, N) = K (J', R, S, N) ∧ (∀ k, k < i → J' (t + 1) k = J (t + 1) k ∧ J' (t + 2) k = J (t + 2) k ∧ J' (t + 3) k = J (t + 3) k) ∧ (∀ k, i ≤ k → k < c - 1 → J' (t + 1) k = J (t + 1) (k + 1) ∧ J' (t + 2) k = J (t + 2) (k + 1) ∧ J' (t + 3) k = J (t + 3) (k + 1)) ∧ ∀ p, (p ≤ t ∨ t + 3 < p) → J' p = J p := by
  intro m
  induction m with
  | zero =>
    intro i n J hi hn dc
    obtain ⟨n, rfl⟩ : ∃ n', n = n' + 1 := ⟨n - 1, by omega⟩
    refine ⟨J, ?_, fun _ _ => ⟨rfl, rfl, rfl⟩, fun k h1 h2 => by omega, fun _ _ => rfl⟩
    simp (disch := omega) only [fX10_remove_14, T_g ht, Option.bind_some, dc, nI_sub1, nle]
    rw [if_pos (by omega)]
  | succ m ih =>
    intro i n J hi hn dc
    obtain ⟨n, rfl⟩ : ∃ n', n = n' + 1 := ⟨n - 1, by omega⟩
    obtain ⟨J1, hJ1⟩ : ∃ J1, J1 = up1 (up1 (up1 J (t + 1) (upd (J (t + 1)) i (J (t + 1) (i + 1)))) (t + 2) (upd (J (t + 2)) i (J (t + 2) (i + 1)))) (t + 3) (upd (J (t + 3)) i (J (t + 3) (i + 1))) := ⟨_, rfl⟩
    have r1 : J1 (t + 1) = upd (J (t + 1)) i (J (t + 1) (i + 1)) := by rw [hJ1, up1_n _ _ (by omega), up1_n _ _ (by omega), up1_s]
    have r2 : J1 (t + 2) = upd (J (t + 2)) i (J (t + 2) (i + 1)) := by rw [hJ1, up1_n _ _ (by omega), up1_s]
    have r3 : J1 (t + 3) = upd (J (t + 3)) i (J (t + 3) (i + 1)) := by rw [hJ1, up1_s]
    have f1 : ∀ p, (p ≤ t ∨ t + 3 < p) → J1 p = J p := fun p hp => by rw [hJ1, up1_n _ _ (by omega), up1_n _ _ (by omega), up1_n _ _ (by omega)]
    obtain ⟨J', e1, e2, e3, e4⟩ := ih (i + 1) n J1 (by omega) (by omega) (by rw [f1 t (by omega)]; exact dc)
    refine ⟨J', ?_, ?_, ?_, fun p hp => by rw [e4 p hp, f1 p hp]⟩
    · rw [← e1, hJ1]
      simp (disch := omega) only [fX10_remove_14, T_g ht, T_0 ht, T_1 ht, T_2 ht, T_r0 ht, T_r1 ht, T_r2 ht, T_w0 ht, T_w1 ht, T_w2 ht, Option.bind_some, dc, nI_sub1, nle, nI_i1, up1_n, up1_s]
      rw [if_neg (by omega)]
    · intro k hk
      have := e2 k (by omega)
      rw [this.1, this.2.1, this.2.2, r1, r2, r3]
      simp only [upd, if_neg (show ¬ k = i by omega), and_self]
    · intro k h1 h2
      by_cases e : k = i
      · subst e
        have := e2 k (by omega)
        rw [this.1, this.2.1, this.2.2, r1, r2, r3]
        simp only [upd, if_true, and_self]
      · have := e3 k (by omega) h2
        rw [this.1, this.2.1, this.2.2, r1, r2, r3]
        simp only [upd, if_neg (show ¬ k + 1 = i by omega), and_self]
theorem gDera {l : List T3} {i k : Nat} (hi : i < l.length) (hk : k < l.length - 1) : (l.eraseIdx i).getD k t3 = if k < i then l.getD k t3 else l.getD (k + 1) t3 := by
  simp only [List.getD_eq_getElem?_getD, List.getElem?_eraseIdx]
  split <;> rfl
theorem T_remove (ht : isT R S N t) {l : List T3} {J : Nat → Nat → Int32} (d : TAt J t l) {i : Nat} (hi : i < l.length) : ∃ J', fX10_remove t (nI i) (J, R, S, N) = some ((), (J', R, S, N)) ∧ TAt J' t (l.eraseIdx i) ∧ ∀ p, (p < t ∨ t + 3 < p) → J' p = J p := by
  have d1 := d.1
  have hle : (l.eraseIdx i).length = l.length - 1 := by rw [List.length_eraseIdx, if_pos hi]
  obtain ⟨J1, e1, e2, e3, e4⟩ := T_remL ht (fun w => (gfI 9 3 t w).bind fun x => (pfI 9 3 t (x - (1 : Int32)) w).bind fun w => some ((), w)) d.1 (by omega) (l.length - 1 - i) i FV J (by omega) (FV_lt (by omega)) d.2.1
  refine ⟨up1 J1 t (upd (J1 t) 3 (nI (l.length - 1))), ?_, ?_, fun p hp => by rw [up1_n _ _ (by omega), e4 p (by omega)]⟩
  · simp (disch := omega) only [fX10_remove, T_g ht, Option.bind_some, d.2.1, C_out0 hi (show l.length < 2 ^ 31 by omega), if_true]
    rw [e1]
    simp (disch := omega) only [T_g ht, T_p ht, Option.bind_some, e4 t (Or.inl (Nat.le_refl t)), d.2.1, nI_sub1]
  · refine ⟨by rw [hle]; omega, by rw [up1_s, hle]; simp [upd], fun k hk => ?_⟩
    rw [hle] at hk
    rw [up1_n _ _ (by omega), up1_n _ _ (by omega), up1_n _ _ (by omega), gDera hi hk]
    by_cases c : k < i
    · have := e2 k c
      rw [this.1, this.2.1, this.2.2, if_pos c]
      exact d.2.2 k (by omega)
    · have := e3 k (by omega) hk
      rw [this.1, this.2.1, this.2.2, if_neg c]
      exact d.2.2 (k + 1) (by omega)
end OBJ
