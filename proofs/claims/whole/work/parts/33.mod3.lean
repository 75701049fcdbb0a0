section MOD3
variable {R : Nat → Nat → Option Nat} {S : Nat → Nat × Nat} {N q : Nat} {I : Nat → Nat → Int32} {tx : List Int32} {FR : List F4} {PE : List P2} {CO SC : List C3} {TL : List T3} {UL KL : List (List T3)} {SN : List P2}
theorem M_undL (hm : isMo R S N q) {a : Nat} (ha : a < 8) (K : Wd → Option (Int32 × Wd)) : ∀ (m i n : Nat) (J : Nat → Nat → Int32), i + m = 25 → m < n → J q 8 = nI a → ∃ J', fX12_undo_22 q K n (nI i) (J, R, S, N) = K (J', R, S, N) ∧ (∀ k, i ≤ k → k < 25 → J' (q + 5) k = J (q + 6) (25 * a + k)) ∧ (∀ k, k < i → J' (q + 5) k = J (q + 5) k) ∧ ∀ p, p ≠ q + 5 → J' p = J p := by
  intro m
  induction m with
  | zero =>
    intro i n J hi hn dq
    obtain ⟨n, rfl⟩ : ∃ n', n = n' + 1 := ⟨n - 1, by omega⟩
    refine ⟨J, ?_, fun k h1 h2 => by omega, fun _ _ => rfl, fun _ _ => rfl⟩
    simp (disch := omega) only [fX12_undo_22, z25, nle]
    rw [if_pos (by omega)]
  | succ m ih =>
    intro i n J hi hn dq
    obtain ⟨n, rfl⟩ : ∃ n', n = n' + 1 := ⟨n - 1, by omega⟩
    obtain ⟨J1, hJ1⟩ : ∃ J1, J1 = up1 J (q + 5) (upd (J (q + 5)) i (J (q + 6) (25 * a + i))) := ⟨_, rfl⟩
    have f1 : ∀ p, p ≠ q + 5 → J1 p = J p := fun p hp => by rw [hJ1, up1_n _ _ hp]
    obtain ⟨J', e1, e2, e3, e4⟩ := ih (i + 1) n J1 (by omega) (by omega) (by rw [f1 q (by omega)]; exact dq)
    have hw : wrI (q + 5) (nI i) (J (q + 6) (25 * a + i)) (J, R, S, N) = some (J1, R, S, N) := by rw [hJ1]; exact Mo_w7 hm J _ (by omega)
    refine ⟨J', ?_, ?_, ?_, fun p hp => by rw [e4 p hp, f1 p hp]⟩
    · rw [fX12_undo_22]
      simp (disch := omega) only [Mo_9 hm, Mo_7 hm, Mo_g hm, Mo_r9 hm, dq, ix25, nI_add, hw, Option.bind_some, nI_i1, e1]
      rw [z25, if_neg (by rw [nle (by omega) (by omega)]; omega)]
    · intro k h1 h2
      by_cases e : k = i
      · subst e
        rw [e3 _ (by omega), hJ1, up1_s]
        simp [upd]
      · rw [e2 k (by omega) h2, f1 _ (by omega)]
    · intro k hk
      rw [e3 k (by omega), hJ1, up1_s]
      simp only [upd, if_neg (show ¬ k = i by omega)]
theorem M_bakL (hm : isMo R S N q) {a : Nat} (ha : a < 2) (K : Wd → Option (Int32 × Wd)) : ∀ (m i n : Nat) (J : Nat → Nat → Int32), i + m = 25 → m < n → J q 10 = nI a → ∃ J', fX12_back_22 q K n (nI i) (J, R, S, N) = K (J', R, S, N) ∧ (∀ k, i ≤ k → k < 25 → J' (q + 5) k = J (q + 7) (25 * a + k)) ∧ (∀ k, k < i → J' (q + 5) k = J (q + 5) k) ∧ ∀ p, p ≠ q + 5 → J' p = J p := by
  intro m
  induction m with
  | zero =>
    intro i n J hi hn dq
    obtain ⟨n, rfl⟩ : ∃ n', n = n' + 1 := ⟨n - 1, by omega⟩
    refine ⟨J, ?_, fun k h1 h2 => by omega, fun _ _ => rfl, fun _ _ => rfl⟩
    simp (disch := omega) only [fX12_back_22, z25, nle]
    rw [if_pos (by omega)]
  | succ m ih =>
    intro i n J hi hn dq
    obtain ⟨n, rfl⟩ : ∃ n', n = n' + 1 := ⟨n - 1, by omega⟩
    obtain ⟨J1, hJ1⟩ : ∃ J1, J1 = up1 J (q + 5) (upd (J (q + 5)) i (J (q + 7) (25 * a + i))) := ⟨_, rfl⟩
    have f1 : ∀ p, p ≠ q + 5 → J1 p = J p := fun p hp => by rw [hJ1, up1_n _ _ hp]
    obtain ⟨J', e1, e2, e3, e4⟩ := ih (i + 1) n J1 (by omega) (by omega) (by rw [f1 q (by omega)]; exact dq)
    have hw : wrI (q + 5) (nI i) (J (q + 7) (25 * a + i)) (J, R, S, N) = some (J1, R, S, N) := by rw [hJ1]; exact Mo_w7 hm J _ (by omega)
    refine ⟨J', ?_, ?_, ?_, fun p hp => by rw [e4 p hp, f1 p hp]⟩
    · rw [fX12_back_22]
      simp (disch := omega) only [Mo_11 hm, Mo_7 hm, Mo_g hm, Mo_r11 hm, dq, ix25, nI_add, hw, Option.bind_some, nI_i1, e1]
      rw [z25, if_neg (by rw [nle (by omega) (by omega)]; omega)]
    · intro k h1 h2
      by_cases e : k = i
      · subst e
        rw [e3 _ (by omega), hJ1, up1_s]
        simp [upd]
      · rw [e2 k (by omega) h2, f1 _ (by omega)]
    · intro k hk
      rw [e3 k (by omega), hJ1, up1_s]
      simp only [upd, if_neg (show ¬ k = i by omega)]
theorem M_kepL (hm : isMo R S N q) {a : Nat} (ha : a < 2) (K : Wd → Option (Int32 × Wd)) : ∀ (m i n : Nat) (J : Nat → Nat → Int32), i + m = 25 → m < n → J q 10 = nI a → ∃ J', fX12_keep_13 q K n (nI i) (J, R, S, N) = K (J', R, S, N) ∧ (∀ k, i ≤ k → k < 25 → J' (q + 7) (25 * a + k) = J (q + 5) k) ∧ (∀ k, k < 25 * a + i → J' (q + 7) k = J (q + 7) k) ∧ ∀ p, p ≠ q + 7 → J' p = J p := by
  intro m
  induction m with
  | zero =>
    intro i n J hi hn dq
    obtain ⟨n, rfl⟩ : ∃ n', n = n' + 1 := ⟨n - 1, by omega⟩
    refine ⟨J, ?_, fun k h1 h2 => by omega, fun _ _ => rfl, fun _ _ => rfl⟩
    simp (disch := omega) only [fX12_keep_13, z25, nle]
    rw [if_pos (by omega)]
  | succ m ih =>
    intro i n J hi hn dq
    obtain ⟨n, rfl⟩ : ∃ n', n = n' + 1 := ⟨n - 1, by omega⟩
    obtain ⟨J1, hJ1⟩ : ∃ J1, J1 = up1 J (q + 7) (upd (J (q + 7)) (25 * a + i) (J (q + 5) i)) := ⟨_, rfl⟩
    have f1 : ∀ p, p ≠ q + 7 → J1 p = J p := fun p hp => by rw [hJ1, up1_n _ _ hp]
    obtain ⟨J', e1, e2, e3, e4⟩ := ih (i + 1) n J1 (by omega) (by omega) (by rw [f1 q (by omega)]; exact dq)
    have hw : wrI (q + 7) (nI (25 * a + i)) (J (q + 5) i) (J, R, S, N) = some (J1, R, S, N) := by rw [hJ1]; exact Mo_w11 hm J _ (by omega)
    refine ⟨J', ?_, ?_, ?_, fun p hp => by rw [e4 p hp, f1 p hp]⟩
    · rw [fX12_keep_13]
      simp (disch := omega) only [Mo_11 hm, Mo_7 hm, Mo_g hm, Mo_r7 hm, dq, ix25, nI_add, hw, Option.bind_some, nI_i1, e1]
      rw [z25, if_neg (by rw [nle (by omega) (by omega)]; omega)]
    · intro k h1 h2
      by_cases e : k = i
      · subst e
        rw [e3 _ (by omega), hJ1, up1_s]
        simp [upd]
      · rw [e2 k (by omega) h2, f1 _ (by omega)]
    · intro k hk
      rw [e3 k (by omega), hJ1, up1_s]
      simp only [upd, if_neg (show ¬ k = 25 * a + i by omega)]
theorem RwAt_init {f : Nat → Int32} {l : List (List T3)} {l0 : List T3} (h : RwAt f (l ++ [l0])) : RwAt f l ∧ StAt (fun k => f (25 * l.length + k)) l0 := by
  refine ⟨fun j hj => ?_, ?_⟩
  · have := h j (by simp; omega)
    rw [gDL hj] at this
    exact this
  · have := h l.length (by simp)
    rw [gDLl] at this
    exact this
theorem MM_undo (hm : isMo R S N q) (d : MD I q tx FR PE CO SC TL UL KL SN) : ∃ J, fX12_undo q (I, R, S, N) = some ((aUndo TL UL).1, (J, R, S, N)) ∧ MD J q tx FR PE CO SC (aUndo TL UL).2.1 (aUndo TL UL).2.2 KL SN ∧ ∀ p, (p < q ∨ q + 20 < p) → J p = I p := by
  obtain ⟨d1, d2, ⟨d3a, d3b, d3c⟩, d4, d5⟩ := id d
  unfold aUndo fX12_undo
  simp only [Mo_g hm, Option.bind_some, d3b]
  by_cases hn : UL = []
  · subst hn
    rw [if_pos rfl]
    exact ⟨I, rfl, d, fun _ _ => rfl⟩
  · rw [if_neg hn]
    obtain ⟨l, l0, rfl⟩ := snoc hn
    rw [List.length_append, List.length_singleton] at d3a d3b ⊢
    obtain ⟨r1, r2⟩ := RwAt_init d3c
    obtain ⟨J0, hJ0⟩ : ∃ J0, J0 = up1 I q (upd (I q) 8 (nI l.length)) := ⟨_, rfl⟩
    have f0 : ∀ p, p ≠ q → J0 p = I p := fun p hp => by rw [hJ0, up1_n _ _ hp]
    have q8 : J0 q 8 = nI l.length := by rw [hJ0, up1_s]; simp [upd]
    have fq0 : ∀ j, j ≠ 8 → J0 q j = I q j := fun j hj => by rw [hJ0, up1_s]; simp only [upd, if_neg hj]
    obtain ⟨J1, e1, e2, -, e4⟩ := M_undL (R := R) (S := S) hm (show l.length < 8 by omega) (fun w_11 => (gfI 11 8 q w_11).bind fun x_12 => some (x_12, w_11)) 25 0 FV J0 (by omega) (FV_lt (by omega)) q8
    have st1 : StAt (J1 (q + 5)) l0 := r2.of (fun k hk => by rw [e2 k (by omega) hk, f0 _ (by omega)])
    have fq : ∀ j, j ≠ 8 → J1 q j = I q j := fun j hj => by rw [e4 q (by omega), fq0 j hj]
    have fa : ∀ p, p ≠ q → p ≠ q + 5 → J1 p = I p := fun p a b => by rw [e4 p b, f0 p a]
    simp only [List.getLastD_concat, List.dropLast_concat]
    refine ⟨J1, ?_, ⟨d1.tl st1 (fq 0 (by omega)) (fq 2 (by omega)) (fq 4 (by omega)) (fun p a b => fa p (by omega) (by omega)), ?_, ⟨by omega, by rw [e4 q (by omega)]; exact q8, ?_⟩, ?_, ?_⟩, fun p hp => fa p (by omega) (by omega)⟩
    · have b6 : ¬ nI (l.length + 1) = 0 := nI_ne0 (by omega) (by omega)
      have hp : pfI 11 8 q (nI l.length) (I, R, S, N) = some (J0, R, S, N) := by rw [hJ0]; exact Mo_p hm I _ _
      simp (disch := omega) only [b6, if_false, nI_sub1, Nat.add_sub_cancel, hp, Option.bind_some]
      rw [z0, e1]
      simp only [Mo_g hm, Option.bind_some, e4 q (show q ≠ q + 5 by omega), q8]
    · rw [fq 15 (by omega), fa (q + 9) (by omega) (by omega)]; exact d2
    · rw [fa (q + 6) (by omega) (by omega)]; exact r1
    · rw [fq 10 (by omega), fa (q + 7) (by omega) (by omega)]; exact d4
    · rw [fq 12 (by omega), fa (q + 8) (by omega) (by omega)]; exact d5
theorem MM_keep (hm : isMo R S N q) (d : MD I q tx FR PE CO SC TL UL KL SN) : ∃ J, fX12_keep q (I, R, S, N) = some ((aKeep TL KL).1, (J, R, S, N)) ∧ MD J q tx FR PE CO SC TL UL (aKeep TL KL).2 SN ∧ ∀ p, (p < q ∨ q + 20 < p) → J p = I p := by
  obtain ⟨d1, d2, d3, ⟨d4a, d4b, d4c⟩, d5⟩ := id d
  unfold aKeep fX12_keep
  simp (disch := omega) only [Mo_g hm, Option.bind_some, d4b, z2, neq]
  by_cases c : KL.length < 2
  · rw [if_pos c, if_neg (by omega)]
    obtain ⟨J1, e1, e2, e3, e4⟩ := M_kepL (R := R) (S := S) hm c (fun w_9 => (gfI 11 10 q w_9).bind fun x_10 => (pfI 11 10 q (x_10 + (1 : Int32)) w_9).bind fun w_11 => (gfI 11 10 q w_11).bind fun x_12 => some (x_12, w_11)) 25 0 FV I (by omega) (FV_lt (by omega)) d4b
    obtain ⟨J2, hJ2⟩ : ∃ J2, J2 = up1 J1 q (upd (J1 q) 10 (nI (KL.length + 1))) := ⟨_, rfl⟩
    have f2 : ∀ p, p ≠ q → J2 p = J1 p := fun p hp => by rw [hJ2, up1_n _ _ hp]
    have fq : ∀ j, j ≠ 10 → J2 q j = I q j := fun j hj => by rw [hJ2, up1_s]; simp only [upd, if_neg hj]; rw [e4 q (by omega)]
    have q10 : J2 q 10 = nI (KL.length + 1) := by rw [hJ2, up1_s]; simp [upd]
    have fa : ∀ p, p ≠ q → p ≠ q + 7 → J2 p = I p := fun p a b => by rw [f2 p a, e4 p b]
    refine ⟨J2, ?_, ⟨d1.of (fq 0 (by omega)) (fq 2 (by omega)) (fq 4 (by omega)) (fun p a b => fa p (by omega) (by omega)), ?_, ?_, ⟨by simp; omega, by rw [q10]; simp, ?_⟩, ?_⟩, fun p hp => fa p (by omega) (by omega)⟩
    · rw [z0, e1]
      have hp : pfI 11 10 q (nI (KL.length + 1)) (J1, R, S, N) = some (J2, R, S, N) := by rw [hJ2]; exact Mo_p hm J1 _ _
      simp only [Mo_g hm, Option.bind_some, e4 q (show q ≠ q + 7 by omega), d4b, nI_i1, hp, q10]
    · rw [fq 15 (by omega), fa (q + 9) (by omega) (by omega)]; exact d2
    · rw [fq 8 (by omega), fa (q + 6) (by omega) (by omega)]; exact d3
    · rw [f2 _ (by omega)]
      refine RwAt_app (d4c.of (fun k hk => e3 k (by omega))) (d1.st.of (fun k hk => ?_))
      show J1 (q + 7) (25 * KL.length + k) = _
      rw [e2 k (by omega) hk]
    · rw [fq 12 (by omega), fa (q + 8) (by omega) (by omega)]; exact d5
  · rw [if_neg c, if_pos (by omega)]
    exact ⟨I, rfl, d, fun _ _ => rfl⟩
theorem MM_back (hm : isMo R S N q) (d : MD I q tx FR PE CO SC TL UL KL SN) : ∃ J, fX12_back q (I, R, S, N) = some ((aBack TL UL KL).1, (J, R, S, N)) ∧ MD J q tx FR PE CO SC (aBack TL UL KL).2.1 (aBack TL UL KL).2.2.1 (aBack TL UL KL).2.2.2 SN ∧ ∀ p, (p < q ∨ q + 20 < p) → J p = I p := by
  obtain ⟨d1, d2, d3, ⟨d4a, d4b, d4c⟩, d5⟩ := id d
  unfold aBack fX12_back
  simp only [Mo_g hm, Option.bind_some, d4b]
  by_cases hn : KL = []
  · subst hn
    rw [if_pos rfl]
    exact ⟨I, rfl, d, fun _ _ => rfl⟩
  · rw [if_neg hn]
    obtain ⟨l, l0, rfl⟩ := snoc hn
    rw [List.length_append, List.length_singleton] at d4a d4b ⊢
    obtain ⟨r1, r2⟩ := RwAt_init d4c
    obtain ⟨J0, hJ0⟩ : ∃ J0, J0 = up1 I q (upd (I q) 10 (nI l.length)) := ⟨_, rfl⟩
    have f0 : ∀ p, p ≠ q → J0 p = I p := fun p hp => by rw [hJ0, up1_n _ _ hp]
    have q10 : J0 q 10 = nI l.length := by rw [hJ0, up1_s]; simp [upd]
    have fq0 : ∀ j, j ≠ 10 → J0 q j = I q j := fun j hj => by rw [hJ0, up1_s]; simp only [upd, if_neg hj]
    obtain ⟨J1, e1, e2, -, e4⟩ := M_bakL (R := R) (S := S) hm (show l.length < 2 by omega) (fun w_11 => (pfI 11 8 q (0 : Int32) w_11).bind fun w_12 => (gfI 11 10 q w_12).bind fun x_13 => some (x_13, w_12)) 25 0 FV J0 (by omega) (FV_lt (by omega)) q10
    obtain ⟨J2, hJ2⟩ : ∃ J2, J2 = up1 J1 q (upd (J1 q) 8 0) := ⟨_, rfl⟩
    have f2 : ∀ p, p ≠ q → J2 p = J1 p := fun p hp => by rw [hJ2, up1_n _ _ hp]
    have st1 : StAt (J2 (q + 5)) l0 := r2.of (fun k hk => by rw [f2 _ (by omega), e2 k (by omega) hk, f0 _ (by omega)])
    have fq : ∀ j, j ≠ 8 → j ≠ 10 → J2 q j = I q j := fun j h1 h2 => by rw [hJ2, up1_s]; simp only [upd, if_neg h1]; rw [e4 q (by omega), fq0 j h2]
    have fq10 : J2 q 10 = nI l.length := by rw [hJ2, up1_s]; simp only [upd]; rw [if_neg (by omega), e4 q (by omega)]; exact q10
    have fa : ∀ p, p ≠ q → p ≠ q + 5 → J2 p = I p := fun p a b => by rw [f2 p a, e4 p b, f0 p a]
    simp only [List.getLastD_concat, List.dropLast_concat]
    refine ⟨J2, ?_, ⟨d1.tl st1 (fq 0 (by omega) (by omega)) (fq 2 (by omega) (by omega)) (fq 4 (by omega) (by omega)) (fun p a b => fa p (by omega) (by omega)), ?_, ⟨by simp, by rw [hJ2, up1_s]; simp [upd]; decide, fun j hj => by simp at hj⟩, ⟨by omega, fq10, ?_⟩, ?_⟩, fun p hp => fa p (by omega) (by omega)⟩
    · have b6 : ¬ nI (l.length + 1) = 0 := nI_ne0 (by omega) (by omega)
      have hp : pfI 11 10 q (nI l.length) (I, R, S, N) = some (J0, R, S, N) := by rw [hJ0]; exact Mo_p hm I _ _
      have hp2 : pfI 11 8 q 0 (J1, R, S, N) = some (J2, R, S, N) := by rw [hJ2]; exact Mo_p hm J1 _ _
      simp (disch := omega) only [b6, if_false, nI_sub1, Nat.add_sub_cancel, hp, Option.bind_some]
      rw [show (0 : Int32) = nI 0 from z0] at e1 hp2 ⊢
      rw [e1]
      simp only [hp2, Mo_g hm, Option.bind_some, fq10]
    · rw [fq 15 (by omega) (by omega), fa (q + 9) (by omega) (by omega)]; exact d2
    · rw [fa (q + 7) (by omega) (by omega)]; exact r1
    · rw [fq 12 (by omega) (by omega), fa (q + 8) (by omega) (by omega)]; exact d5
theorem MM_seen (hm : isMo R S N q) (d : MD I q tx FR PE CO SC TL UL KL SN) (a b : Int32) : ∃ J, fX12_seen q a b (I, R, S, N) = some ((aSeen SN a b).1, (J, R, S, N)) ∧ MD J q tx FR PE CO SC TL UL KL (aSeen SN a b).2 ∧ ∀ p, (p < q ∨ q + 20 < p) → J p = I p := by
  obtain ⟨d1, d2, d3, d4, ⟨d5a, d5b, d5c⟩⟩ := id d
  unfold aSeen fX12_seen
  simp only [M_inK (show 40 + 1 < 2 ^ 30 by decide) z40, Option.bind_some]
  rcases ixc a (n := 41) (by omega) with b1 | ⟨k, b1, rfl⟩
  · rw [ix_n b1]
    exact ⟨I, rfl, d, fun _ _ => rfl⟩
  · rw [ix_s b1 (by omega)]
    simp only [Option.isSome_some, if_true, i10, if_false]
    rcases ixc b (n := 41) (by omega) with b2 | ⟨j, b2, rfl⟩
    · rw [ix_n b2]
      exact ⟨I, rfl, d, fun _ _ => rfl⟩
    · rw [ix_s b2 (by omega)]
      simp (disch := omega) only [Option.isSome_some, if_true, i10, if_false, Mo_g hm, Option.bind_some, d5b, z8, neq]
      by_cases c : SN.length < 8
      · rw [if_pos c, if_neg (by omega)]
        obtain ⟨J1, hJ1⟩ : ∃ J1, J1 = up1 I (q + 8) (upd (upd (I (q + 8)) (2 * SN.length) (nI k - 20)) (2 * SN.length + 1) (nI j - 20)) := ⟨_, rfl⟩
        obtain ⟨J2, hJ2⟩ : ∃ J2, J2 = up1 J1 q (upd (J1 q) 12 (nI (SN.length + 1))) := ⟨_, rfl⟩
        have f1 : ∀ p, p ≠ q + 8 → J1 p = I p := fun p hp => by rw [hJ1, up1_n _ _ hp]
        have f2 : ∀ p, p ≠ q → J2 p = J1 p := fun p hp => by rw [hJ2, up1_n _ _ hp]
        have fq : ∀ j, j ≠ 12 → J2 q j = I q j := fun j hj => by rw [hJ2, up1_s]; simp only [upd, if_neg hj]; rw [f1 q (by omega)]
        have q12 : J2 q 12 = nI (SN.length + 1) := by rw [hJ2, up1_s]; simp [upd]
        have fa : ∀ p, p ≠ q → p ≠ q + 8 → J2 p = I p := fun p a b => by rw [f2 p a, f1 p b]
        refine ⟨J2, ?_, ⟨d1.of (fq 0 (by omega)) (fq 2 (by omega)) (fq 4 (by omega)) (fun p a b => fa p (by omega) (by omega)), ?_, ?_, ?_, ⟨by simp; omega, by rw [q12]; simp, fun i hi => ?_⟩⟩, fun p hp => fa p (by omega) (by omega)⟩
        · have hp : pfI 11 12 q (nI (SN.length + 1)) (J1, R, S, N) = some (J2, R, S, N) := by rw [hJ2]; exact Mo_p hm J1 _ _
          have q1 : J1 q 12 = nI SN.length := by rw [f1 q (by omega)]; exact d5b
          have e0 : up1 I (q + 8) (upd (upd (I (q + 8)) (2 * SN.length) (nI k - 20)) (2 * SN.length + 1) (nI j - 20)) = J1 := hJ1.symm
          simp (disch := omega) only [Mo_13 hm, ix2, nI_i1, Mo_w13 hm, Mo_g hm, Option.bind_some, up1_n, d5b, up1_u, up1_s, e0, q1, hp, q12]
        · rw [fq 15 (by omega), fa (q + 9) (by omega) (by omega)]; exact d2
        · rw [fq 8 (by omega), fa (q + 6) (by omega) (by omega)]; exact d3
        · rw [fq 10 (by omega), fa (q + 7) (by omega) (by omega)]; exact d4
        · rw [f2 _ (by omega), hJ1, up1_s]
          by_cases e : i = SN.length
          · subst e
            rw [gDlast]
            simp [upd]
          · have hi2 : i < SN.length := by simp at hi; omega
            rw [gDapp hi2]
            simp only [upd]
            rw [if_neg (by omega), if_neg (by omega), if_neg (by omega), if_neg (by omega)]
            exact d5c i hi2
      · rw [if_neg c, if_pos (by omega)]
        exact ⟨I, rfl, d, fun _ _ => rfl⟩
theorem MM_forget (hm : isMo R S N q) (d : MD I q tx FR PE CO SC TL UL KL SN) : ∃ J, fX12_forget q (I, R, S, N) = some (nI SN.length, (J, R, S, N)) ∧ MD J q tx FR PE CO SC TL UL KL [] ∧ ∀ p, (p < q ∨ q + 20 < p) → J p = I p := by
  obtain ⟨d1, d2, d3, d4, ⟨d5a, d5b, d5c⟩⟩ := id d
  obtain ⟨J2, hJ2⟩ : ∃ J2, J2 = up1 I q (upd (I q) 12 0) := ⟨_, rfl⟩
  have f2 : ∀ p, p ≠ q → J2 p = I p := fun p a => by rw [hJ2, up1_n _ _ a]
  have fq : ∀ j, j ≠ 12 → J2 q j = I q j := fun j hj => by rw [hJ2, up1_s]; simp only [upd, if_neg hj]
  refine ⟨J2, ?_, ⟨d1.of (fq 0 (by omega)) (fq 2 (by omega)) (fq 4 (by omega)) (fun p a b => f2 p (by omega)), ?_, ?_, ?_, ⟨by simp, by rw [hJ2, up1_s]; simp [upd]; decide, fun k hk => by simp at hk⟩⟩, fun p hp => f2 p (by omega)⟩
  · simp only [fX12_forget, Mo_g hm, Mo_p hm, Option.bind_some, d5b, ← hJ2]
  · rw [fq 15 (by omega), f2 _ (by omega)]; exact d2
  · rw [fq 8 (by omega), f2 _ (by omega)]; exact d3
  · rw [fq 10 (by omega), f2 _ (by omega)]; exact d4
end MOD3
