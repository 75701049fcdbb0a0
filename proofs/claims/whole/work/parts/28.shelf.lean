/-! SHELVES: n Turns behind the row at V + 1 -/
def isSh (R : Nat → Nat → Option Nat) (S : Nat → Nat × Nat) (N V n : Nat) : Prop := V + 1 + 4 * n < N ∧ (S V).1 = 6 ∧ S (V + 1) = (13, n) ∧ R V 0 = some (V + 1) ∧ (∀ j, j < n → ∃ c, c < n ∧ R (V + 1) j = some (V + 2 + 4 * c)) ∧ (∀ i j, i < n → j < n → R (V + 1) i = R (V + 1) j → i = j) ∧ (∀ c, c < n → isT R S N (V + 2 + 4 * c))
def ShAt (I : Nat → Nat → Int32) (R : Nat → Nat → Option Nat) (V : Nat) (l : List (List T3)) : Prop := I V 1 = nI l.length ∧ ∀ j, j < l.length → ∃ t, R (V + 1) j = some t ∧ TAt I t (l.getD j [])
theorem isT.ofR {R R' : Nat → Nat → Option Nat} {S : Nat → Nat × Nat} {N t : Nat} (h : isT R S N t) (e : R' t = R t) : isT R' S N t := by
  unfold isT
  rw [e]
  exact h
theorem ShAt.of {I J : Nat → Nat → Int32} {R : Nat → Nat → Option Nat} {S : Nat → Nat × Nat} {N V n : Nat} (hs : isSh R S N V n) {l : List (List T3)} (hl : l.length ≤ n) (h : ShAt I R V l) (e : ∀ p, V ≤ p → p ≤ V + 1 + 4 * n → J p = I p) : ShAt J R V l := by
  refine ⟨by rw [e V (by omega) (by omega)]; exact h.1, fun j hj => ?_⟩
  obtain ⟨t, h1, h2⟩ := h.2 j hj
  obtain ⟨c, h3, h4⟩ := hs.2.2.2.2.1 j (by omega)
  have ht : t = V + 2 + 4 * c := Option.some.inj (h1.symm.trans h4)
  exact ⟨t, h1, h2.of (fun p q1 q2 => e p (by omega) (by omega))⟩
theorem gDL {l : List (List T3)} {x : List T3} {k : Nat} (h : k < l.length) : (l ++ [x]).getD k [] = l.getD k [] := by simp [List.getD_eq_getElem?_getD, List.getElem?_append_left h]
theorem gDLl {l : List (List T3)} {x : List T3} : (l ++ [x]).getD l.length [] = x := by simp [List.getD_eq_getElem?_getD]
section SHELF
variable {R : Nat → Nat → Option Nat} {S : Nat → Nat × Nat} {N V n u : Nat}
theorem Sh_g (hs : isSh R S N V n) (I : Nat → Nat → Int32) (j : Nat) : gfI 6 j V (I, R, S, N) = some (I V j) := gI (by have := hs.1; omega) hs.2.1
theorem Sh_p (hs : isSh R S N V n) (I : Nat → Nat → Int32) (j : Nat) (x : Int32) : pfI 6 j V x (I, R, S, N) = some (up1 I V (upd (I V) j x), R, S, N) := pI (by have := hs.1; omega) hs.2.1
theorem Sh_o (hs : isSh R S N V n) (I : Nat → Nat → Int32) : isO 6 V (I, R, S, N) = some () := oI (by have := hs.1; omega) hs.2.1
theorem Sh_0 (hs : isSh R S N V n) (I : Nat → Nat → Int32) : gfR 6 0 V (I, R, S, N) = some (V + 1) := gR (by have := hs.1; omega) hs.2.1 hs.2.2.2.1
theorem Sh_l (hs : isSh R S N V n) (I : Nat → Nat → Int32) : lnA 13 (V + 1) (I, R, S, N) = some (nI n) := lA (by have := hs.1; omega) hs.2.2.1
theorem Sh_t (hs : isSh R S N V n) (hn : n ≤ 1000) (I : Nat → Nat → Int32) {j t : Nat} (hj : j < n) (h : R (V + 1) j = some t) : rdR 13 (V + 1) (nI j) (I, R, S, N) = some t := rR (by have := hs.1; omega) hs.2.2.1 hj (by omega) h
/-- put beside n' < n others -/
theorem V_put (hs : isSh R S N V n) (hn : n ≤ 8) (hu : isT R S N u) (ho : u + 3 < V ∨ V + 1 + 4 * n < u) {I : Nat → Nat → Int32} {l : List (List T3)} {l0 : List T3} (d : ShAt I R V l) (hl : l.length < n) (du : TAt I u l0) : ∃ J, fX7_put V u (I, R, S, N) = some ((), (J, R, S, N)) ∧ ShAt J R V (l ++ [l0]) ∧ ∀ p, (p < V ∨ V + 1 + 4 * n < p) → J p = I p := by
  have h1 := hs.1
  obtain ⟨c, hc, hR⟩ := hs.2.2.2.2.1 l.length hl
  have hT := hs.2.2.2.2.2.2 c hc
  obtain ⟨J1, g1, g2, g3⟩ := T_copy hT hu (by omega) du
  refine ⟨up1 J1 V (upd (J1 V) 1 (nI (l.length + 1))), ?_, ?_, fun p hp => by rw [up1_n _ _ (by omega), g3 p (by omega)]⟩
  · simp (disch := omega) only [fX7_put, Sh_g hs, Sh_0 hs, Sh_l hs, Option.bind_some, d.1, nlt, Sh_t hs (by omega) _ hl hR, T_o hT, g1, Sh_p hs, g3 V (Or.inl (show V < V + 2 + 4 * c by omega)), nI_i1]
    rw [if_pos hl]
  · refine ⟨by rw [up1_s]; simp [upd], fun j hj => ?_⟩
    by_cases e : j = l.length
    · subst e
      refine ⟨_, hR, ?_⟩
      rw [gDLl]
      exact g2.of (fun p q1 q2 => up1_n _ _ (by omega))
    · have hj2 : j < l.length := by simp at hj; omega
      obtain ⟨t, k1, k2⟩ := d.2 j hj2
      obtain ⟨c2, h3, h4⟩ := hs.2.2.2.2.1 j (by omega)
      have ht : t = V + 2 + 4 * c2 := Option.some.inj (k1.symm.trans h4)
      have hne : c2 ≠ c := fun z => e (hs.2.2.2.2.2.1 j l.length (by omega) hl (by rw [h4, hR, z]))
      refine ⟨t, k1, ?_⟩
      rw [gDL hj2]
      exact k2.of (fun p q1 q2 => by rw [up1_n _ _ (by omega), g3 p (by omega)])
theorem V_rotL (hs0 : (S V).1 = 6) (hs1 : S (V + 1) = (13, n)) (hN : V + 1 + 4 * n < N) (h1n : 1 ≤ n) (hn : n ≤ 8) (K : Wd → Option (Unit × Wd)) (p2 : Nat) (I : Nat → Nat → Int32) : ∀ (m i f : Nat) (R : Nat → Nat → Option Nat), i + m = n - 1 → m < f → R V 0 = some (V + 1) → (∀ j, j < n → ∃ t, R (V + 1) j = some t ∧ t < N ∧ (S t).1 = 9) →
    ∃ R', fX7_put_21 V u p2 K f (nI i) (I, R, S, N) = K (I, R', S, N) ∧ (∀ k, k < i → R' (V + 1) k = R (V + 1) k) ∧ (∀ k, i ≤ k → k < n - 1 → R' (V + 1) k = R (V + 1) (k + 1)) ∧ (∀ k, n - 1 ≤ k → R' (V + 1) k = R (V + 1) k) ∧ ∀ p, p ≠ V + 1 → R' p = R p := by
  intro m
  induction m with
  | zero =>
    intro i f R hi hf r0 rr
    obtain ⟨f, rfl⟩ : ∃ f', f = f' + 1 := ⟨f - 1, by omega⟩
    refine ⟨R, ?_, fun _ _ => rfl, fun k h1 h2 => by omega, fun _ _ => rfl, fun _ _ => rfl⟩
    have a1 : gfR 6 0 V (I, R, S, N) = some (V + 1) := gR (by omega) hs0 r0
    have a2 : lnA 13 (V + 1) (I, R, S, N) = some (nI n) := lA (by omega) hs1
    simp (disch := omega) only [fX7_put_21, a1, a2, Option.bind_some, nI_sub1, nle]
    rw [if_pos (by omega)]
  | succ m ih =>
    intro i f R hi hf r0 rr
    obtain ⟨f, rfl⟩ : ∃ f', f = f' + 1 := ⟨f - 1, by omega⟩
    have a1 : gfR 6 0 V (I, R, S, N) = some (V + 1) := gR (by omega) hs0 r0
    have a2 : lnA 13 (V + 1) (I, R, S, N) = some (nI n) := lA (by omega) hs1
    obtain ⟨t, rt, rt2, rt3⟩ := rr (i + 1) (by omega)
    have a3 : rdR 13 (V + 1) (nI (i + 1)) (I, R, S, N) = some t := rR (by omega) hs1 (by omega) (by omega) rt
    have a4 : wrT (V + 1) (nI i) t (I, R, S, N) = some (I, up2 R (V + 1) i (some t), S, N) := wT (by omega) hs1 (by omega) (by omega) rt2 rt3
    have b1 : ∀ p, p ≠ V + 1 → up2 R (V + 1) i (some t) p = R p := fun p hp => by funext b; simp [up2, hp]
    have b2 : ∀ k, k ≠ i → up2 R (V + 1) i (some t) (V + 1) k = R (V + 1) k := fun k hk => by simp [up2, hk]
    have b3 : up2 R (V + 1) i (some t) (V + 1) i = some t := by simp [up2]
    obtain ⟨R', e1, e2, e3, e4, e5⟩ := ih (i + 1) f (up2 R (V + 1) i (some t)) (by omega) (by omega) (by rw [b1 V (by omega)]; exact r0) (fun j hj => by
      by_cases e : j = i
      · subst e
        exact ⟨t, b3, rt2, rt3⟩
      · rw [b2 j e]
        exact rr j hj)
    refine ⟨R', ?_, ?_, ?_, ?_, fun p hp => by rw [e5 p hp, b1 p hp]⟩
    · simp (disch := omega) only [fX7_put_21, a1, a2, a3, a4, Option.bind_some, nI_sub1, nle, nI_i1, e1]
      rw [if_neg (by omega)]
    · intro k hk
      rw [e2 k (by omega), b2 k (by omega)]
    · intro k h1 h2
      by_cases e : k = i
      · subst e
        rw [e2 k (by omega), b3, rt]
      · rw [e3 k (by omega) h2, b2 (k + 1) (by omega)]
    · intro k hk
      rw [e4 k hk, b2 k (by omega)]
/-- put on a full one: the oldest makes room -/
theorem V_putF (hs : isSh R S N V n) (h1n : 1 ≤ n) (hn : n ≤ 8) (hu : isT R S N u) (ho : u + 3 < V ∨ V + 1 + 4 * n < u) {I : Nat → Nat → Int32} {l : List (List T3)} {l0 : List T3} (d : ShAt I R V l) (hl : l.length = n) (du : TAt I u l0) : ∃ J R', fX7_put V u (I, R, S, N) = some ((), (J, R', S, N)) ∧ isSh R' S N V n ∧ ShAt J R' V (l.drop 1 ++ [l0]) ∧ (∀ p, p ≠ V + 1 → R' p = R p) ∧ ∀ p, (p < V ∨ V + 1 + 4 * n < p) → J p = I p := by
  have h1 := hs.1
  obtain ⟨c, hc, hR⟩ := hs.2.2.2.2.1 0 (by omega)
  have hT := hs.2.2.2.2.2.2 c hc
  have rr : ∀ j, j < n → ∃ t, R (V + 1) j = some t ∧ t < N ∧ (S t).1 = 9 := fun j hj => by
    obtain ⟨c2, k1, k2⟩ := hs.2.2.2.2.1 j hj
    have := hs.2.2.2.2.2.2 c2 k1
    exact ⟨_, k2, by omega, this.2.1⟩
  obtain ⟨R1, e1, -, e3, e4, e5⟩ := V_rotL (u := u) hs.2.1 hs.2.2.1 hs.1 h1n hn (fun w_21 => (gfR 6 0 V w_21).bind fun r_22 => (gfR 6 0 V w_21).bind fun r_23 => (lnA 13 r_23 w_21).bind fun x_24 => (wrT r_22 (x_24 - (1 : Int32)) (V + 2 + 4 * c) w_21).bind fun w_25 => (gfR 6 0 V w_25).bind fun r_26 => (lnA 13 r_26 w_25).bind fun x_27 => (pfI 6 1 V (x_27 - (1 : Int32)) w_25).bind fun w_28 => (gfR 6 0 V w_28).bind fun r_29 => (gfI 6 1 V w_28).bind fun x_30 => (rdR 13 r_29 x_30 w_28).bind fun r_31 => (isO 9 r_31 w_28).bind fun u_32 => (fX10_copy r_31 u w_28).bind fun q_33 => (gfI 6 1 V q_33.2).bind fun x_34 => (pfI 6 1 V (x_34 + (1 : Int32)) q_33.2).bind fun w_35 => some ((), w_35)) (V + 2 + 4 * c) I (n - 1) 0 FV R (by omega) (FV_lt (by omega)) hs.2.2.2.1 rr
  obtain ⟨R2, hR2⟩ : ∃ R2, R2 = up2 R1 (V + 1) (n - 1) (some (V + 2 + 4 * c)) := ⟨_, rfl⟩
  have q1 : ∀ p, p ≠ V + 1 → R2 p = R p := fun p hp => by rw [hR2]; rw [← e5 p hp]; funext b; simp [up2, hp]
  have q2 : ∀ k, k < n - 1 → R2 (V + 1) k = R (V + 1) (k + 1) := fun k hk => by rw [hR2, ← e3 k (by omega) hk]; simp [up2, show ¬ k = n - 1 by omega]
  have q3 : R2 (V + 1) (n - 1) = R (V + 1) 0 := by rw [hR2, hR]; simp [up2]
  have hs2 : isSh R2 S N V n := by
    refine ⟨hs.1, hs.2.1, hs.2.2.1, by rw [q1 V (by omega)]; exact hs.2.2.2.1, fun j hj => ?_, fun i j hi hj hij => ?_, fun c2 hc2 => (hs.2.2.2.2.2.2 c2 hc2).ofR (q1 _ (by omega))⟩
    · by_cases e : j = n - 1
      · subst e
        rw [q3]
        exact ⟨c, hc, hR⟩
      · rw [q2 j (by omega)]
        exact hs.2.2.2.2.1 (j + 1) (by omega)
    · by_cases ei : i = n - 1 <;> by_cases ej : j = n - 1
      · omega
      · subst ei
        rw [q3, q2 j (by omega)] at hij
        have := hs.2.2.2.2.2.1 0 (j + 1) (by omega) (by omega) hij
        omega
      · subst ej
        rw [q3, q2 i (by omega)] at hij
        have := hs.2.2.2.2.2.1 (i + 1) 0 (by omega) (by omega) hij
        omega
      · rw [q2 i (by omega), q2 j (by omega)] at hij
        have := hs.2.2.2.2.2.1 (i + 1) (j + 1) (by omega) (by omega) hij
        omega
  have hu2 : isT R2 S N u := hu.ofR (q1 u (by omega))
  have hT2 := hs2.2.2.2.2.2.2 c hc
  obtain ⟨I2, hI2⟩ : ∃ I2, I2 = up1 I V (upd (I V) 1 (nI (n - 1))) := ⟨_, rfl⟩
  have fI2 : ∀ p, p ≠ V → I2 p = I p := fun p hp => by rw [hI2, up1_n _ _ hp]
  obtain ⟨J1, g1, g2, g3⟩ := T_copy hT2 hu2 (by omega) (du.of (J := I2) (fun p k1 k2 => fI2 p (by omega)))
  have hq4 : R2 (V + 1) (n - 1) = some (V + 2 + 4 * c) := q3.trans hR
  have hl2 : (l.drop 1).length = n - 1 := by rw [List.length_drop]; omega
  refine ⟨up1 J1 V (upd (J1 V) 1 (nI n)), R2, ?_, hs2, ?_, q1, fun p hp => by rw [up1_n _ _ (by omega), g3 p (by omega), fI2 p (by omega)]⟩
  · have c1 : rdR 13 (V + 1) 0 (I, R, S, N) = some (V + 2 + 4 * c) := by rw [z0]; exact Sh_t hs (by omega) I (by omega) hR
    simp (disch := omega) only [fX7_put, Sh_g hs, Sh_0 hs, Sh_l hs, Option.bind_some, d.1, nlt, c1, hl]
    rw [if_neg (by omega)]
    rw [z0, e1]
    have b1 : gfR 6 0 V (I, R1, S, N) = some (V + 1) := gR (by omega) hs.2.1 (by rw [e5 V (by omega)]; exact hs.2.2.2.1)
    have b2 : lnA 13 (V + 1) (I, R1, S, N) = some (nI n) := lA (by omega) hs.2.2.1
    have b3 : wrT (V + 1) (nI (n - 1)) (V + 2 + 4 * c) (I, R1, S, N) = some (I, R2, S, N) := by rw [hR2]; exact wT (by omega) hs.2.2.1 (by omega) (by omega) (by omega) hT.2.1
    have b4 : pfI 6 1 V (nI (n - 1)) (I, R2, S, N) = some (I2, R2, S, N) := by rw [hI2]; exact Sh_p hs2 I _ _
    have b5 : I2 V 1 = nI (n - 1) := by rw [hI2, up1_s]; simp [upd]
    simp (disch := omega) only [b1, b2, Option.bind_some, nI_sub1, b3, Sh_0 hs2, Sh_l hs2, b4, Sh_g hs2, b5, Sh_t hs2 (show n ≤ 1000 by omega) I2 (show n - 1 < n by omega) hq4, T_o hT2, g1, g3 V (Or.inl (show V < V + 2 + 4 * c by omega)), nI_i1]
    rw [Sh_p hs2, show n - 1 + 1 = n by omega, g3 V (Or.inl (show V < V + 2 + 4 * c by omega))]
    rfl
  · refine ⟨by rw [up1_s, List.length_append, hl2, List.length_singleton, show n - 1 + 1 = n by omega]; simp only [upd, if_true], fun j hj => ?_⟩
    by_cases e : j = n - 1
    · subst e
      refine ⟨_, hq4, ?_⟩
      rw [← hl2, gDLl]
      exact g2.of (fun p k1 k2 => up1_n _ _ (by omega))
    · have hj2 : j < n - 1 := by simp at hj; omega
      obtain ⟨t, k1, k2⟩ := d.2 (j + 1) (by omega)
      obtain ⟨c2, h3, h4⟩ := hs.2.2.2.2.1 (j + 1) (by omega)
      have ht : t = V + 2 + 4 * c2 := Option.some.inj (k1.symm.trans h4)
      have hne : c2 ≠ c := fun z => by
        have := hs.2.2.2.2.2.1 (j + 1) 0 (by omega) (by omega) (by rw [h4, hR, z])
        omega
      refine ⟨t, by rw [q2 j hj2]; exact k1, ?_⟩
      rw [gDL (by omega), show (l.drop 1).getD j [] = l.getD (j + 1) [] by simp [List.getD_eq_getElem?_getD, Nat.add_comm]]
      exact k2.of (fun p a1 a2 => by rw [up1_n _ _ (by omega), g3 p (by omega), fI2 p (by omega)])
/-- the last one back -/
theorem V_take0 (hs : isSh R S N V n) {I : Nat → Nat → Int32} (d : ShAt I R V []) : fX7_takeLast V u (I, R, S, N) = some (0, (I, R, S, N)) := by
  have h0 : I V 1 = 0 := d.1
  simp only [fX7_takeLast, Sh_g hs, Option.bind_some, h0, if_true]
theorem V_take (hs : isSh R S N V n) (hn : n ≤ 8) (hu : isT R S N u) (ho : u + 3 < V ∨ V + 1 + 4 * n < u) {I : Nat → Nat → Int32} {l : List (List T3)} {l0 : List T3} (d : ShAt I R V (l ++ [l0])) (hl : l.length < n) : ∃ J, fX7_takeLast V u (I, R, S, N) = some (1, (J, R, S, N)) ∧ ShAt J R V l ∧ TAt J u l0 ∧ ∀ p, p ≠ V → (p < u ∨ u + 3 < p) → J p = I p := by
  have h1 := hs.1
  obtain ⟨c, hc, hR⟩ := hs.2.2.2.2.1 l.length hl
  have hT := hs.2.2.2.2.2.2 c hc
  have dl : I V 1 = nI (l.length + 1) := by rw [d.1]; simp
  obtain ⟨t, k1, k2⟩ := d.2 l.length (by simp)
  have ht : t = V + 2 + 4 * c := Option.some.inj (k1.symm.trans hR)
  rw [gDLl] at k2
  subst ht
  obtain ⟨I2, hI2⟩ : ∃ I2, I2 = up1 I V (upd (I V) 1 (nI l.length)) := ⟨_, rfl⟩
  have fI2 : ∀ p, p ≠ V → I2 p = I p := fun p hp => by rw [hI2, up1_n _ _ hp]
  obtain ⟨J1, g1, g2, g3⟩ := T_copy hu hT (by omega) (k2.of (J := I2) (fun p a1 a2 => fI2 p (by omega)))
  refine ⟨J1, ?_, ?_, g2, fun p a1 a2 => by rw [g3 p a2, fI2 p a1]⟩
  · have b4 : pfI 6 1 V (nI l.length) (I, R, S, N) = some (I2, R, S, N) := by rw [hI2]; exact Sh_p hs I _ _
    have b5 : I2 V 1 = nI l.length := by rw [hI2, up1_s]; simp [upd]
    have b6 : ¬ nI (l.length + 1) = 0 := nI_ne0 (by omega) (by omega)
    simp (disch := omega) only [fX7_takeLast, Sh_g hs, Option.bind_some, dl, b6, if_false, nI_sub1, Nat.add_sub_cancel, b4, Sh_0 hs, b5, Sh_t hs (show n ≤ 1000 by omega) I2 hl hR, T_o hu, g1]
  · refine ⟨by rw [g3 V (by omega), hI2, up1_s]; simp [upd], fun j hj => ?_⟩
    obtain ⟨t, a1, a2⟩ := d.2 j (by simp; omega)
    obtain ⟨c2, h3, h4⟩ := hs.2.2.2.2.1 j (by omega)
    have ht : t = V + 2 + 4 * c2 := Option.some.inj (a1.symm.trans h4)
    rw [gDL hj] at a2
    exact ⟨t, a1, a2.of (fun p b1 b2 => by rw [g3 p (by omega), fI2 p (by omega)])⟩
end SHELF
