section MWIRE
variable {R : Nat → Nat → Option Nat} {S : Nat → Nat × Nat} {N q : Nat} {I : Nat → Nat → Int32} {tx : List Int32} {FR : List F4} {PE : List P2} {CO SC : List C3} {TL TT : List T3} {UL KL : List (List T3)} {SN : List P2}
theorem M_wyA (hm : isMo R S N q) (v1 v2 v3 v4 v5 v6 v7 : Int32) (x y : Nat) (K : Wd → Option (Int32 × Wd)) : ∀ (m k n : Nat) (J : Nat → Nat → Int32), k + m = 13 → m < n → (∀ j, j < k → J (q + 19) j = nI (wyN x y 0 (j + 1))) → ∃ J', fX12_wire_80 q v1 v2 v3 v4 v5 v6 v7 K n (nI k) (J, R, S, N) = K (J', R, S, N) ∧ (∀ j, j < 13 → J' (q + 19) j = nI (wyN x y 0 (j + 1))) ∧ ∀ p, p ≠ q + 19 → J' p = J p := by
  intro m
  induction m with
  | zero =>
    intro k n J hi hn hj
    obtain ⟨n, rfl⟩ : ∃ n', n = n' + 1 := ⟨n - 1, by omega⟩
    refine ⟨J, ?_, fun j a => hj j (by omega), fun _ _ => rfl⟩
    rw [fX12_wire_80, if_pos (show (13 : Int32) ≤ nI k by rw [z13]; exact nI_le (by omega) (by omega))]
  | succ m ih =>
    intro k n J hi hn hj
    obtain ⟨n, rfl⟩ : ∃ n', n = n' + 1 := ⟨n - 1, by omega⟩
    have h2 : ∀ j, j < k + 1 → up1 J (q + 19) (upd (J (q + 19)) k (nI (wyN x y 0 (k + 1)))) (q + 19) j = nI (wyN x y 0 (j + 1)) := by
      intro j h1
      rw [up1_s]
      by_cases e : j = k
      · subst e; simp [upd]
      · simp only [upd, if_neg e]; exact hj j (by omega)
    obtain ⟨J', e1, e2, e3⟩ := ih (k + 1) n (up1 J (q + 19) (upd (J (q + 19)) k (nI (wyN x y 0 (k + 1))))) (by omega) (by omega) h2
    refine ⟨J', ?_, e2, fun p hp => by rw [e3 p hp, up1_n _ _ hp]⟩
    rw [fX12_wire_80, if_neg (show ¬ (13 : Int32) ≤ nI k by rw [z13]; exact nI_ge (by omega) (by omega)), Mo_30 hm, bS, nI_i1]
    by_cases c : k = 6
    · rw [if_pos (show nI k = (6 : Int32) by rw [c]; decide)]
      rw [show nI (wyN x y 0 (k + 1)) = 1 by rw [c]; exact z1.symm] at e1
      rw [Mo_w30 hm J _ (show k < 13 by omega), bS]
      exact e1
    · rw [if_neg (fun z => c (by rw [z6] at z; exact (nI_eq (by omega) (by omega)).mp z))]
      rw [show nI (wyN x y 0 (k + 1)) = 0 by rw [wyN, if_neg (by omega)]; exact z0.symm] at e1
      rw [Mo_w30 hm J _ (show k < 13 by omega), bS]
      exact e1
theorem M_wyB (hm : isMo R S N q) {x y : Nat} (hxy : x + y ≤ 10) (i : Nat) (v1 v2 v3 v6 v7 v8 : Int32) (K : Wd → Option (Int32 × Wd)) : ∀ (m k n : Nat) (J : Nat → Nat → Int32), k + m = 13 → m < n → (∀ j, j < k → J (q + 19) j = nI (wyN x y (i + 1) (j + 1))) → (∀ j, k ≤ j → j < 13 → J (q + 19) j = nI (wyN x y i (j + 1))) → ∃ J', fX12_wire_134 q v1 v2 v3 (nI x) (nI y) v6 v7 v8 K n (nI (wyN x y i k)) (nI k) (J, R, S, N) = K (J', R, S, N) ∧ (∀ j, j < 13 → J' (q + 19) j = nI (wyN x y (i + 1) (j + 1))) ∧ ∀ p, p ≠ q + 19 → J' p = J p := by
  intro m
  induction m with
  | zero =>
    intro k n J hi hn hj hl
    obtain ⟨n, rfl⟩ : ∃ n', n = n' + 1 := ⟨n - 1, by omega⟩
    refine ⟨J, ?_, fun j a => hj j (by omega), fun _ _ => rfl⟩
    rw [fX12_wire_134, if_pos (show (13 : Int32) ≤ nI k by rw [z13]; exact nI_le (by omega) (by omega))]
  | succ m ih =>
    intro k n J hi hn hj hl
    obtain ⟨n, rfl⟩ : ∃ n', n = n' + 1 := ⟨n - 1, by omega⟩
    obtain ⟨e1, e2, e3⟩ : True ∧ True ∧ True := ⟨trivial, trivial, trivial⟩
    have h2 : ∀ j, j < k + 1 → up1 J (q + 19) (upd (J (q + 19)) k (nI (wyN x y (i + 1) (k + 1)))) (q + 19) j = nI (wyN x y (i + 1) (j + 1)) := by
      intro j h1
      rw [up1_s]
      by_cases e : j = k
      · subst e; simp [upd]
      · simp only [upd, if_neg e]; exact hj j (by omega)
    have h3 : ∀ j, k + 1 ≤ j → j < 13 → up1 J (q + 19) (upd (J (q + 19)) k (nI (wyN x y (i + 1) (k + 1)))) (q + 19) j = nI (wyN x y i (j + 1)) := by
      intro j h1 h4
      rw [up1_s]
      simp only [upd, if_neg (show ¬ j = k by omega)]; exact hl j (by omega) h4
    obtain ⟨J', e1, e2, e3⟩ := ih (k + 1) n (up1 J (q + 19) (upd (J (q + 19)) k (nI (wyN x y (i + 1) (k + 1))))) (by omega) (by omega) h2 h3
    refine ⟨J', ?_, e2, fun p hp => by rw [e3 p hp, up1_n _ _ hp]⟩
    have ew : wyN x y (i + 1) (k + 1) = wyN x y i k * x + wyN x y i (k + 1 + 1) * y + wyN x y i (k + 1) * (10 - x - y) := by
      show (if 1 ≤ k + 1 ∧ k + 1 ≤ 13 then _ else _) = _
      rw [if_pos (by omega)]
      rfl
    rw [fX12_wire_134, if_neg (show ¬ (13 : Int32) ≤ nI k by rw [z13]; exact nI_ge (by omega) (by omega)), Mo_30 hm, bS, bS, Mo_r30 hm J (show k < 13 by omega), bS, bS, hl k (by omega) (by omega), k10 hxy, nI_i1]
    by_cases c : k = 12
    · rw [if_pos (show (12 : Int32) ≤ nI k by rw [z12]; exact nI_le (by omega) (by omega))]
      have e0 : wyN x y i (k + 1 + 1) = 0 := by rw [c]; exact wyN_14 x y i
      rw [e0, Nat.zero_mul, Nat.add_zero (wyN x y i k * x)] at ew
      rw [Int32.add_zero, pk_mul, pk_mul, nI_add, ← ew, Mo_w30 hm J _ (show k < 13 by omega), bS]
      exact e1
    · rw [if_neg (show ¬ (12 : Int32) ≤ nI k by rw [z12]; exact nI_ge (by omega) (by omega))]
      rw [Mo_r30 hm J (show k + 1 < 13 by omega), bS, bS, Mo_r30 hm J (show k < 13 by omega), bS, bS, hl (k + 1) (by omega) (by omega), hl k (by omega) (by omega), pk_mul, pk_mul, pk_mul, nI_add, nI_add, ← ew, Mo_w30 hm J _ (show k < 13 by omega), bS]
      exact e1
theorem M_wyC (hm : isMo R S N q) {n x y : Nat} (hn7 : n < 7) (hxy : x + y ≤ 10) (v1 v2 v6 : Int32) (K : Int32 → Wd → Option (Int32 × Wd)) : ∀ (m i f : Nat) (J : Nat → Nat → Int32), i + m = n → m < f → (∀ j, j < 13 → J (q + 19) j = nI (wyN x y i (j + 1))) → ∃ J', fX12_wire_115 q v1 v2 (nI n) (nI x) (nI y) v6 K f (nI (10 ^ i)) (nI i) (J, R, S, N) = K (nI (10 ^ n)) (J', R, S, N) ∧ (∀ j, j < 13 → J' (q + 19) j = nI (wyN x y n (j + 1))) ∧ ∀ p, p ≠ q + 19 → J' p = J p := by
  intro m
  induction m with
  | zero =>
    intro i f J hi hf hj
    obtain ⟨f, rfl⟩ : ∃ n', f = n' + 1 := ⟨f - 1, by omega⟩
    have hin : i = n := by omega
    subst hin
    refine ⟨J, ?_, hj, fun _ _ => rfl⟩
    rw [fX12_wire_115, if_pos (nI_le (Nat.le_refl _) (by omega))]
  | succ m ih =>
    intro i f J hi hf hj
    obtain ⟨f, rfl⟩ : ∃ n', f = n' + 1 := ⟨f - 1, by omega⟩
    obtain ⟨J1, g1, g2, g3⟩ := M_wyB hm hxy i v1 v2 (nI n) v6 (nI (10 ^ i) * (10 : Int32)) (nI i) (fun (w_33 : Wd) => fX12_wire_115 q v1 v2 (nI n) (nI x) (nI y) v6 K f (nI (10 ^ i) * (10 : Int32)) (nI i + (1 : Int32)) w_33) 13 0 FV J (by omega) (FV_lt (by omega)) (fun j hj => by omega) (fun j _ h => hj j h)
    obtain ⟨J', e1, e2, e3⟩ := ih (i + 1) f J1 (by omega) (by omega) g2
    refine ⟨J', ?_, e2, fun p hp => by rw [e3 p hp, g3 p hp]⟩
    rw [fX12_wire_115, if_neg (nI_ge (by omega) (by omega))]
    rw [wyN_0, ← z0] at g1
    refine g1.trans ?_
    show fX12_wire_115 q v1 v2 (nI n) (nI x) (nI y) v6 K f (nI (10 ^ i) * (10 : Int32)) (nI i + (1 : Int32)) (J1, R, S, N) = _
    rw [nI_i1, z10, pk_mul, ← Nat.pow_succ]
    exact e1
theorem M_wyD (hm : isMo R S N q) {a l x y n : Nat} (hj : ∀ j, j < 13 → I (q + 19) j = nI (wyN x y n (j + 1))) (v6 v7 : Int32) (K : Int32 → Wd → Option (Int32 × Wd)) : ∀ (m k f : Nat), k + m = 13 → m < f → fX12_wire_224 q (nI a) (nI l) v6 v7 K f (nI (abW a l x y n k)) (nI k) (I, R, S, N) = K (nI (abW a l x y n 13)) (I, R, S, N) := by
  intro m
  induction m with
  | zero =>
    intro k f hi hf
    obtain ⟨f, rfl⟩ : ∃ n', f = n' + 1 := ⟨f - 1, by omega⟩
    have hk : k = 13 := by omega
    subst hk
    rw [fX12_wire_224, if_pos (by decide)]
  | succ m ih =>
    intro k f hi hf
    obtain ⟨f, rfl⟩ : ∃ n', f = n' + 1 := ⟨f - 1, by omega⟩
    have ih' := ih (k + 1) f (by omega) (by omega)
    rw [abW] at ih'
    rw [fX12_wire_224, if_neg (show ¬ (13 : Int32) ≤ nI k by rw [z13]; exact nI_ge (by omega) (by omega)), M_size, bS, asA, nI_i1, Int32.add_zero]
    by_cases c1 : nI l < iabs ((nI a - 20) + (nI k - 6))
    · rw [if_pos c1]
      rw [if_pos (show cW a l k = true from decide_eq_true c1), Nat.add_zero] at ih'
      exact ih'
    · rw [if_neg c1, Mo_30 hm, bS, Mo_r30 hm I (by omega), bS, hj _ (by omega), nI_add]
      rw [if_neg (show ¬ cW a l k = true from fun z => c1 (of_decide_eq_true z))] at ih'
      exact ih'
theorem sm0 : (if (none : Option Nat).isSome = true then (1 : Int32) else 0) = 0 := rfl
theorem sm1 (k : Nat) : (if (some k).isSome = true then (1 : Int32) else 0) = 1 := rfl
theorem MM_wire (hm : isMo R S N q) (d : MD I q tx FR PE CO SC TL UL KL SN) (v1 v2 v3 v4 v5 v6 : Int32) : ∃ J, fX12_wire q v1 v2 v3 v4 v5 v6 (I, R, S, N) = some (aWire v1 v2 v3 v4 v5 v6, (J, R, S, N)) ∧ MD J q tx FR PE CO SC TL UL KL SN ∧ ∀ p, (p < q ∨ q + 20 < p) → J p = I p := by
  have bad : ∀ z : Option (Int32 × Wd), z = some (-1, (I, R, S, N)) → aWire v1 v2 v3 v4 v5 v6 = -1 → ∃ J, z = some (aWire v1 v2 v3 v4 v5 v6, (J, R, S, N)) ∧ MD J q tx FR PE CO SC TL UL KL SN ∧ ∀ p, (p < q ∨ q + 20 < p) → J p = I p := fun z hz hb => ⟨I, by rw [hz, hb], d, fun _ _ => rfl⟩
  unfold fX12_wire
  rw [M_inK (show 40 + 1 < 2 ^ 30 by decide) z40, bS]
  rcases ixc v1 (n := 41) (by omega) with b1 | ⟨a, b1, rfl⟩
  · exact bad _ (by rw [ix_n b1, sm0, if_pos rfl]) (by unfold aWire; rw [ix_n b1])
  rw [ix_s b1 (by omega), sm1, if_neg i10, M_inK (show 20 + 1 < 2 ^ 30 by decide) z20, bS]
  rcases ixc v2 (n := 21) (by omega) with b2 | ⟨l, b2, rfl⟩
  · exact bad _ (by rw [ix_n b2, sm0, if_pos rfl]) (by unfold aWire; rw [ix_n b2]; split <;> first | rfl | contradiction)
  rw [ix_s b2 (by omega), sm1, if_neg i10, M_inK (show 6 + 1 < 2 ^ 30 by decide) z6, bS]
  rcases ixc v3 (n := 7) (by omega) with b3 | ⟨n, b3, rfl⟩
  · exact bad _ (by rw [ix_n b3, sm0, if_pos rfl]) (by unfold aWire; rw [ix_n b3]; split <;> first | rfl | contradiction)
  rw [ix_s b3 (by omega), sm1, if_neg i10, M_inK (show 10 + 1 < 2 ^ 30 by decide) z10, bS]
  rcases ixc v4 (n := 11) (by omega) with b4 | ⟨x, b4, rfl⟩
  · exact bad _ (by rw [ix_n b4, sm0, if_pos rfl]) (by unfold aWire; rw [ix_n b4]; split <;> first | rfl | contradiction)
  rw [ix_s b4 (by omega), sm1, if_neg i10, M_inK (show 10 + 1 < 2 ^ 30 by decide) z10, bS]
  rcases ixc v5 (n := 11) (by omega) with b5 | ⟨y, b5, rfl⟩
  · exact bad _ (by rw [ix_n b5, sm0, if_pos rfl]) (by unfold aWire; rw [ix_n b5]; split <;> first | rfl | contradiction)
  rw [ix_s b5 (by omega), sm1, if_neg i10, nI_add]
  by_cases cxy : x + y ≤ 10
  · rw [if_neg (show ¬ (10 : Int32) < nI (x + y) by rw [z10]; exact nI_nlt (by omega) (by omega)), M_inK (show 1 + 1 < 2 ^ 30 by decide) z1, bS]
    rcases ixc v6 (n := 2) (by omega) with b6 | ⟨p, b6, rfl⟩
    · exact bad _ (by rw [ix_n b6, sm0, if_pos rfl]) (by unfold aWire; rw [ix_n b6]; split <;> first | rfl | contradiction)
    rw [ix_s b6 (by omega), sm1, if_neg i10]
    have ab1 := abW_le (a := a) (l := l) cxy b3 13
    obtain ⟨t1, t2⟩ := p10 b3
    have gp : 0 < Nat.gcd (abW a l x y n 13) (10 ^ n) := Nat.gcd_pos_of_pos_right _ t2
    have gl : Nat.gcd (abW a l x y n 13) (10 ^ n) ≤ 10 ^ n := Nat.gcd_le_right _ t2
    obtain ⟨K4, hK4⟩ : ∃ K4 : Int32 → Int32 → Int32 → Wd → Option (Int32 × Wd), K4 = fun v7_35 v8_42 v9_46 w_45 => if nI p = 0 then (dvI v8_42 v9_46).bind fun x_49 => some (x_49, w_45) else (dvI v7_35 v9_46).bind fun x_48 => some (x_48, w_45) := ⟨_, rfl⟩
    obtain ⟨J1, g1, g2, g3⟩ := M_wyA hm (nI a) (nI l) (nI n) (nI x) (nI y) (nI p) 1 x y (fun w_19 => fX12_wire_115 q (nI a) (nI l) (nI n) (nI x) (nI y) (nI p) (fun v7_35 w_34 => fX12_wire_224 q (nI a) (nI l) (nI p) v7_35 (fun v8_42 w_41 => fX12_wire_278 (nI p) v7_35 v8_42 (K4 v7_35 v8_42) FV v8_42 v7_35 w_41) FV (0 : Int32) (0 : Int32) w_34) FV (1 : Int32) (0 : Int32) w_19) 13 0 FV I (by omega) (FV_lt (by omega)) (fun j hj => by omega)
    obtain ⟨J2, k1, k2, k3⟩ := M_wyC hm b3 cxy (nI a) (nI l) (nI p) (fun v7_35 w_34 => fX12_wire_224 q (nI a) (nI l) (nI p) v7_35 (fun v8_42 w_41 => fX12_wire_278 (nI p) v7_35 v8_42 (K4 v7_35 v8_42) FV v8_42 v7_35 w_41) FV (0 : Int32) (0 : Int32) w_34) n 0 FV J1 (by omega) (FV_lt (by omega)) g2
    have l1 := M_wyD hm (a := a) (l := l) k2 (nI p) (nI (10 ^ n)) (fun v8_42 w_41 => fX12_wire_278 (nI p) (nI (10 ^ n)) v8_42 (K4 (nI (10 ^ n)) v8_42) FV v8_42 (nI (10 ^ n)) w_41) 13 0 FV (by omega) (FV_lt (by omega))
    have l2 := M_gcd (nI p) (nI (10 ^ n)) (nI (abW a l x y n 13)) (K4 (nI (10 ^ n)) (nI (abW a l x y n 13))) (J2, R, S, N) 20 FV (abW a l x y n 13) (10 ^ n) (Nat.lt_of_le_of_lt t1 (by decide)) (FV_lt (by omega)) (by omega) (by omega)
    rw [show nI (abW a l x y n 0) = 0 from z0.symm, ← z0] at l1
    rw [show nI (10 ^ 0) = 1 from z1.symm, ← z0] at k1
    rw [← z0] at g1
    have ff : ∀ p, p ≠ q + 19 → J2 p = I p := fun p hp => by rw [k3 p hp, g3 p hp]
    refine ⟨J2, ?_, d.of (fun j _ => by rw [ff q (by omega)]) (fun p a b => ff p (by omega)), fun p hp => ff p (by omega)⟩
    subst hK4
    refine g1.trans (k1.trans (l1.trans (l2.trans ?_)))
    have hw0 : nI p = 0 ↔ p = 0 := by rw [z0]; exact nI_eq (by omega) (by omega)
    unfold aWire
    rw [ix_s b1 (by omega), ix_s b2 (by omega), ix_s b3 (by omega), ix_s b4 (by omega), ix_s b5 (by omega), ix_s b6 (by omega)]
    simp only [cxy, if_true]
    by_cases c6 : p = 0
    · rw [if_pos (hw0.mpr c6), dvIn (by omega) gp (by omega), bS, if_pos c6]
    · rw [if_neg (fun z => c6 (hw0.mp z)), dvIn (by omega) gp (by omega), bS, if_neg c6]
  · refine bad _ (by rw [if_pos (show (10 : Int32) < nI (x + y) by rw [z10]; exact nI_lt (by omega) (by omega))]) ?_
    unfold aWire
    rw [ix_s b1 (by omega), ix_s b2 (by omega), ix_s b3 (by omega), ix_s b4 (by omega), ix_s b5 (by omega)]
    cases ix v6 2 with
    | none => rfl
    | some p => exact if_neg cxy
end MWIRE
