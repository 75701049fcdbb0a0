theorem ix25 (k : Nat) : (25 : Int32) * nI k = nI (25 * k) := by rw [z25, pk_mul]
theorem nI_i25 (a : Nat) : nI a + (25 : Int32) = nI (a + 25) := by rw [z25, nI_add]
section MOD2
variable {R : Nat → Nat → Option Nat} {S : Nat → Nat × Nat} {N q : Nat} {I : Nat → Nat → Int32} {tx : List Int32} {FR : List F4} {PE : List P2} {CO SC : List C3} {TL : List T3} {UL KL : List (List T3)} {SN : List P2}
theorem M_remA (hm : isMo R S N q) {a : Nat} (ha : a < 8) (K : Wd → Option (Unit × Wd)) : ∀ (m i n : Nat) (J : Nat → Nat → Int32), i + m = 25 → m < n → J q 8 = nI a → ∃ J', fX12_remembers_51 q K n (nI i) (J, R, S, N) = K (J', R, S, N) ∧ (∀ k, i ≤ k → k < 25 → J' (q + 6) (25 * a + k) = J (q + 5) k) ∧ (∀ k, k < 25 * a + i → J' (q + 6) k = J (q + 6) k) ∧ ∀ p, p ≠ q + 6 → J' p = J p := by
  intro m
  induction m with
  | zero =>
    intro i n J hi hn dq
    obtain ⟨n, rfl⟩ : ∃ n', n = n' + 1 := ⟨n - 1, by omega⟩
    refine ⟨J, ?_, fun k h1 h2 => by omega, fun _ _ => rfl, fun _ _ => rfl⟩
    simp (disch := omega) only [fX12_remembers_51, z25, nle]
    rw [if_pos (by omega)]
  | succ m ih =>
    intro i n J hi hn dq
    obtain ⟨n, rfl⟩ : ∃ n', n = n' + 1 := ⟨n - 1, by omega⟩
    obtain ⟨J1, hJ1⟩ : ∃ J1, J1 = up1 J (q + 6) (upd (J (q + 6)) (25 * a + i) (J (q + 5) i)) := ⟨_, rfl⟩
    have f1 : ∀ p, p ≠ q + 6 → J1 p = J p := fun p hp => by rw [hJ1, up1_n _ _ hp]
    obtain ⟨J', e1, e2, e3, e4⟩ := ih (i + 1) n J1 (by omega) (by omega) (by rw [f1 q (by omega)]; exact dq)
    have hw : wrI (q + 6) (nI (25 * a + i)) (J (q + 5) i) (J, R, S, N) = some (J1, R, S, N) := by rw [hJ1]; exact Mo_w9 hm J _ (by omega)
    refine ⟨J', ?_, ?_, ?_, fun p hp => by rw [e4 p hp, f1 p hp]⟩
    · rw [fX12_remembers_51]
      simp (disch := omega) only [Mo_9 hm, Mo_7 hm, Mo_g hm, Mo_r7 hm, dq, ix25, nI_add, hw, Option.bind_some, nI_i1, e1]
      rw [z25, if_neg (by rw [nle (by omega) (by omega)]; omega)]
    · intro k h1 h2
      by_cases e : k = i
      · subst e
        rw [e3 _ (by omega), hJ1, up1_s]
        simp [upd]
      · rw [e2 k (by omega) h2, f1 _ (by omega)]
    · intro k hk
      rw [e3 k (by omega), hJ1, up1_s]
      simp only [upd, if_neg (show ¬ k = 25 * a + i by omega)]
theorem M_remB (hm : isMo R S N q) (K : Wd → Option (Unit × Wd)) : ∀ (m i n : Nat) (J : Nat → Nat → Int32), i + m = 175 → m < n → ∃ J', fX12_remembers_11 q K n (nI i) (J, R, S, N) = K (J', R, S, N) ∧ (∀ k, i ≤ k → k < 175 → J' (q + 6) k = J (q + 6) (k + 25)) ∧ (∀ k, k < i → J' (q + 6) k = J (q + 6) k) ∧ ∀ p, p ≠ q + 6 → J' p = J p := by
  intro m
  induction m with
  | zero =>
    intro i n J hi hn
    obtain ⟨n, rfl⟩ : ∃ n', n = n' + 1 := ⟨n - 1, by omega⟩
    refine ⟨J, ?_, fun k h1 h2 => by omega, fun _ _ => rfl, fun _ _ => rfl⟩
    simp (disch := omega) only [fX12_remembers_11, z175, nle]
    rw [if_pos (by omega)]
  | succ m ih =>
    intro i n J hi hn
    obtain ⟨n, rfl⟩ : ∃ n', n = n' + 1 := ⟨n - 1, by omega⟩
    obtain ⟨J1, hJ1⟩ : ∃ J1, J1 = up1 J (q + 6) (upd (J (q + 6)) i (J (q + 6) (i + 25))) := ⟨_, rfl⟩
    have f1 : ∀ p, p ≠ q + 6 → J1 p = J p := fun p hp => by rw [hJ1, up1_n _ _ hp]
    obtain ⟨J', e1, e2, e3, e4⟩ := ih (i + 1) n J1 (by omega) (by omega)
    have hw : wrI (q + 6) (nI i) (J (q + 6) (i + 25)) (J, R, S, N) = some (J1, R, S, N) := by rw [hJ1]; exact Mo_w9 hm J _ (by omega)
    refine ⟨J', ?_, ?_, ?_, fun p hp => by rw [e4 p hp, f1 p hp]⟩
    · rw [fX12_remembers_11]
      simp (disch := omega) only [Mo_9 hm, Mo_r9 hm, nI_i25, hw, Option.bind_some, nI_i1, e1, z175, nle]
      rw [if_neg (by omega)]
    · intro k h1 h2
      by_cases e : k = i
      · subst e
        rw [e3 _ (by omega), hJ1, up1_s]
        simp [upd]
      · rw [e2 k (by omega) h2, hJ1, up1_s]
        simp only [upd, if_neg (show ¬ k + 25 = i by omega)]
    · intro k hk
      rw [e3 k (by omega), hJ1, up1_s]
      simp only [upd, if_neg (show ¬ k = i by omega)]
theorem RwAt_app {f : Nat → Int32} {l : List (List T3)} {l0 : List T3} (h : RwAt f l) (h0 : StAt (fun k => f (25 * l.length + k)) l0) : RwAt f (l ++ [l0]) := by
  intro j hj
  by_cases e : j = l.length
  · subst e
    rw [gDLl]
    exact h0
  · have hj2 : j < l.length := by simp at hj; omega
    rw [gDL hj2]
    exact h j hj2
theorem M_remember (hm : isMo R S N q) (d : MD I q tx FR PE CO SC TL UL KL SN) : ∃ J, fX12_remembers q (I, R, S, N) = some ((), (J, R, S, N)) ∧ MD J q tx FR PE CO SC TL (pushU UL TL) KL SN ∧ ∀ p, p ≠ q → p ≠ q + 6 → J p = I p := by
  obtain ⟨d1, d2, ⟨d3a, d3b, d3c⟩, d4, d5⟩ := id d
  have key : ∀ (l : List (List T3)) (J0 : Nat → Nat → Int32), l.length < 8 → J0 q 8 = nI l.length → RwAt (J0 (q + 6)) l → (∀ p, p ≠ q → p ≠ q + 6 → J0 p = I p) → (∀ j, j ≠ 8 → J0 q j = I q j) → ∃ J, fX12_remembers_51 q (fun w => (gfI 11 8 q w).bind fun x => (pfI 11 8 q (x + (1 : Int32)) w).bind fun w => some ((), w)) FV (nI 0) (J0, R, S, N) = some ((), (J, R, S, N)) ∧ MD J q tx FR PE CO SC TL (l ++ [TL]) KL SN ∧ ∀ p, p ≠ q → p ≠ q + 6 → J p = I p := by
    intro l J0 hl h8 hr f0 fq0
    obtain ⟨J1, e1, e2, e3, e4⟩ := M_remA (R := R) (S := S) hm hl (fun w => (gfI 11 8 q w).bind fun x => (pfI 11 8 q (x + (1 : Int32)) w).bind fun w => some ((), w)) 25 0 FV J0 (by omega) (FV_lt (by omega)) h8
    obtain ⟨J2, hJ2⟩ : ∃ J2, J2 = up1 J1 q (upd (J1 q) 8 (nI (l.length + 1))) := ⟨_, rfl⟩
    have f2 : ∀ p, p ≠ q → J2 p = J1 p := fun p hp => by rw [hJ2, up1_n _ _ hp]
    have fq : ∀ j, j ≠ 8 → J2 q j = I q j := fun j hj => by rw [hJ2, up1_s]; simp only [upd, if_neg hj]; rw [e4 q (by omega), fq0 j hj]
    have fa : ∀ p, p ≠ q → p ≠ q + 6 → J2 p = I p := fun p a b => by rw [f2 p a, e4 p b, f0 p a b]
    refine ⟨J2, ?_, ⟨d1.of (fq 0 (by omega)) (fq 2 (by omega)) (fq 4 (by omega)) (fun p a b => fa p (by omega) (by omega)), ?_, ⟨by simp; omega, by rw [hJ2, up1_s]; simp [upd], ?_⟩, ?_, ?_⟩, fa⟩
    · rw [e1]
      simp only [Mo_g hm, Mo_p hm, Option.bind_some, e4 q (show q ≠ q + 6 by omega), h8, nI_i1, hJ2]
    · rw [fq 15 (by omega), fa _ (by omega) (by omega)]; exact d2
    · rw [f2 _ (by omega)]
      refine RwAt_app (hr.of (fun k hk => e3 k (by omega))) (d1.st.of (fun k hk => ?_))
      show J1 (q + 6) (25 * l.length + k) = _
      rw [e2 k (by omega) hk, f0 _ (by omega) (by omega)]
    · rw [fq 10 (by omega), fa _ (by omega) (by omega)]; exact d4
    · rw [fq 12 (by omega), fa _ (by omega) (by omega)]; exact d5
  unfold pushU fX12_remembers
  simp (disch := omega) only [Mo_g hm, Option.bind_some, d3b, z8, neq]
  by_cases c : UL.length < 8
  · rw [if_neg (by omega), if_pos c, z0]
    exact key UL I c d3b d3c (fun _ _ _ => rfl) (fun _ _ => rfl)
  · rw [if_pos (by omega), if_neg c]
    have hl1 : (UL.drop 1).length = 7 := by rw [List.length_drop]; omega
    obtain ⟨J1, e1, e2, -, e4⟩ := M_remB (R := R) (S := S) hm (fun w_17 => (gfI 11 8 q w_17).bind fun x_18 => (pfI 11 8 q (x_18 - (1 : Int32)) w_17).bind fun w_19 => fX12_remembers_51 q (fun w => (gfI 11 8 q w).bind fun x => (pfI 11 8 q (x + (1 : Int32)) w).bind fun w => some ((), w)) FV (nI 0) w_19) 175 0 FV I (by omega) (FV_lt (by omega))
    obtain ⟨J2, hJ2⟩ : ∃ J2, J2 = up1 J1 q (upd (J1 q) 8 (nI 7)) := ⟨_, rfl⟩
    have f2 : ∀ p, p ≠ q → J2 p = J1 p := fun p hp => by rw [hJ2, up1_n _ _ hp]
    obtain ⟨J, g1, g2, g3⟩ := key (UL.drop 1) J2 (by omega) (by rw [hJ2, up1_s, hl1]; simp [upd]) (by
      intro j hj
      rw [hl1] at hj
      rw [show (UL.drop 1).getD j [] = UL.getD (j + 1) [] by simp [List.getD_eq_getElem?_getD, Nat.add_comm]]
      refine (d3c (j + 1) (by omega)).of (fun k hk => ?_)
      show J2 (q + 6) (25 * j + k) = I (q + 6) (25 * (j + 1) + k)
      rw [f2 _ (by omega), e2 _ (by omega) (by omega)]
      congr 1
      omega) (fun p a b => by rw [f2 p a, e4 p b]) (fun j hj => by rw [hJ2, up1_s]; simp only [upd, if_neg hj]; rw [e4 q (by omega)])
    refine ⟨J, ?_, g2, g3⟩
    rw [z0, e1]
    have h8 : UL.length = 8 := by omega
    simp (disch := omega) only [Mo_g hm, Mo_p hm, Option.bind_some, e4 q (show q ≠ q + 6 by omega), d3b, h8, nI_sub1, ← hJ2]
    rw [show (8 : Nat) - 1 = 7 from rfl, ← e4 q (by omega), ← hJ2]
    exact g1
theorem StAt_add {f g : Nat → Int32} {l : List T3} (h : StAt f l) (hl : l.length < 8) (a : Int32) (k : Nat) (c : Int32) (g0 : g 0 = nI (l.length + 1)) (g1 : g (1 + 3 * l.length) = a) (g2 : g (1 + 3 * l.length + 1) = nI k) (g3 : g (1 + 3 * l.length + 2) = c) (e : ∀ j, 0 < j → j < 1 + 3 * l.length → g j = f j) : StAt g (l ++ [(a, k, c)]) := by
  obtain ⟨h1, h2, h3⟩ := h
  refine ⟨by simp; omega, by rw [g0]; simp, fun j hj => ?_⟩
  by_cases e2 : j = l.length
  · subst e2
    rw [gDlast]
    exact ⟨g1, g2, g3⟩
  · have hj2 : j < l.length := by simp at hj; omega
    rw [gDapp hj2, e _ (by omega) (by omega), e _ (by omega) (by omega), e _ (by omega) (by omega)]
    exact h3 j hj2
theorem MM_turn (hm : isMo R S N q) (d : MD I q tx FR PE CO SC TL UL KL SN) (v1 v2 v3 : Int32) : ∃ J, fX12_turn q v1 v2 v3 (I, R, S, N) = some ((aTurn FR TL UL v1 v2 v3).1, (J, R, S, N)) ∧ MD J q tx FR PE CO SC (aTurn FR TL UL v1 v2 v3).2.1 (aTurn FR TL UL v1 v2 v3).2.2 KL SN ∧ ∀ p, (p < q ∨ q + 20 < p) → J p = I p := by
  have d1 := d.1
  have d0 := d1.1
  unfold aTurn fX12_turn
  rw [M_isDay]
  rcases ixc v1 (n := 31) (by omega) with b1 | ⟨n, b1, rfl⟩
  · rw [ix_n b1]
    exact ⟨I, rfl, d, fun _ _ => rfl⟩
  · rw [ix_s b1 (by omega)]
    simp only [Option.bind_some, Option.isSome_some, if_true, i10, if_false, Mo_o hm, M_isFrame hm d1]
    rcases ixc v2 (n := FR.length) (by omega) with b2 | ⟨k, b2, rfl⟩
    · rw [ix_n b2]
      exact ⟨I, rfl, d, fun _ _ => rfl⟩
    · rw [ix_s b2 (by omega)]
      simp only [Option.bind_some, Option.isSome_some, if_true, i10, if_false, M_inK (show 40 + 1 < 2 ^ 30 by decide) z40]
      rcases ixc v3 (n := 41) (by omega) with b3 | ⟨c, b3, rfl⟩
      · rw [ix_n b3]
        exact ⟨I, rfl, d, fun _ _ => rfl⟩
      · rw [ix_s b3 (by omega)]
        have hz : ∀ J : Nat → Nat → Int32, rdI (q + 5) 0 (J, R, S, N) = some (J (q + 5) 0) := fun J => by rw [z0]; exact Mo_r7 hm J (by omega)
        simp (disch := omega) only [Option.bind_some, Option.isSome_some, if_true, i10, if_false, Mo_7 hm, hz, d1.2.1.2.2.2, z8, neq]
        by_cases h8 : TL.length < 8
        · rw [if_neg (by omega), if_pos h8]
          obtain ⟨J, e1, e2, e3⟩ := M_remember (R := R) (S := S) hm d
          obtain ⟨g1, g2, g3, g4, g5⟩ := e2
          obtain ⟨J1, hJ1⟩ : ∃ J1, J1 = up1 J (q + 5) (upd (upd (upd (upd (J (q + 5)) (1 + 3 * TL.length) (nI n)) (1 + 3 * TL.length + 1) (nI k)) (1 + 3 * TL.length + 2) (nI c - 20)) 0 (nI (TL.length + 1))) := ⟨_, rfl⟩
          have f1 : ∀ p, p ≠ q + 5 → J1 p = J p := fun p hp => by rw [hJ1, up1_n _ _ hp]
          have st1 : StAt (J1 (q + 5)) (TL ++ [(nI n, k, nI c - 20)]) := by
            rw [hJ1, up1_s]
            refine StAt_add g1.st h8 (nI n) k (nI c - 20) ?_ ?_ ?_ ?_ (fun j j1 j2 => ?_) <;> simp only [upd]
            · simp
            · simp [show ¬ 1 + 3 * TL.length = 0 by omega]
            · simp [show ¬ 1 + 3 * TL.length + 1 = 0 by omega]
            · simp
            · rw [if_neg (by omega), if_neg (by omega), if_neg (by omega), if_neg (by omega)]
          refine ⟨J1, ?_, ⟨g1.tl st1 (by rw [f1 q (by omega)]) (by rw [f1 q (by omega)]) (by rw [f1 q (by omega)]) (fun p a b => f1 p (by omega)), ?_, ?_, ?_, ?_⟩, fun p hp => by rw [f1 p (by omega), e3 p (by omega) (by omega)]⟩
          · have hw0 : ∀ (J : Nat → Nat → Int32) (x : Int32), wrI (q + 5) 0 x (J, R, S, N) = some (up1 J (q + 5) (upd (J (q + 5)) 0 x), R, S, N) := fun J x => by rw [z0]; exact Mo_w7 hm J x (by omega)
            have r0 : J (q + 5) 0 = nI TL.length := g1.st.2.1
            simp (disch := omega) only [Mo_o hm, e1, Option.bind_some, Mo_7 hm, hz, r0, fX12_lays, ix3, nI_1i, nI_i1, nI_i2, Mo_w7 hm, up1_s, up1_u, hw0]
            have r1 : upd (upd (upd (J (q + 5)) (1 + 3 * TL.length) (nI n)) (1 + 3 * TL.length + 1) (nI k)) (1 + 3 * TL.length + 2) (nI c - 20) 0 = nI TL.length := by
              simp only [upd]
              rw [if_neg (by omega), if_neg (by omega), if_neg (by omega)]
              exact r0
            simp only [r1, nI_i1, pk_us, hJ1]
          · rw [f1 q (by omega), f1 (q + 9) (by omega)]; exact g2
          · rw [f1 q (by omega), f1 (q + 6) (by omega)]; exact g3
          · rw [f1 q (by omega), f1 (q + 7) (by omega)]; exact g4
          · rw [f1 q (by omega), f1 (q + 8) (by omega)]; exact g5
        · rw [if_pos (by omega), if_neg h8]
          exact ⟨I, rfl, d, fun _ _ => rfl⟩
theorem M_levL (hm : isMo R S N q) (K : Wd → Option (Int32 × Wd)) : ∀ (m i n : Nat) (J : Nat → Nat → Int32), i + m = 22 → m < n → ∃ J', fX12_leave_28 q K n (nI i) (J, R, S, N) = K (J', R, S, N) ∧ (∀ k, i ≤ k → k < 22 → J' (q + 5) k = J (q + 5) (k + 3)) ∧ (∀ k, k < i → J' (q + 5) k = J (q + 5) k) ∧ ∀ p, p ≠ q + 5 → J' p = J p := by
  intro m
  induction m with
  | zero =>
    intro i n J hi hn
    obtain ⟨n, rfl⟩ : ∃ n', n = n' + 1 := ⟨n - 1, by omega⟩
    refine ⟨J, ?_, fun k h1 h2 => by omega, fun _ _ => rfl, fun _ _ => rfl⟩
    simp (disch := omega) only [fX12_leave_28, z22, nle]
    rw [if_pos (by omega)]
  | succ m ih =>
    intro i n J hi hn
    obtain ⟨n, rfl⟩ : ∃ n', n = n' + 1 := ⟨n - 1, by omega⟩
    obtain ⟨J1, hJ1⟩ : ∃ J1, J1 = up1 J (q + 5) (upd (J (q + 5)) i (J (q + 5) (i + 3))) := ⟨_, rfl⟩
    have f1 : ∀ p, p ≠ q + 5 → J1 p = J p := fun p hp => by rw [hJ1, up1_n _ _ hp]
    obtain ⟨J', e1, e2, e3, e4⟩ := ih (i + 1) n J1 (by omega) (by omega)
    have hw : wrI (q + 5) (nI i) (J (q + 5) (i + 3)) (J, R, S, N) = some (J1, R, S, N) := by rw [hJ1]; exact Mo_w7 hm J _ (by omega)
    refine ⟨J', ?_, ?_, ?_, fun p hp => by rw [e4 p hp, f1 p hp]⟩
    · rw [fX12_leave_28]
      simp (disch := omega) only [Mo_7 hm, Mo_r7 hm, nI_i3, hw, Option.bind_some, nI_i1, e1, z22, nle]
      rw [if_neg (by omega)]
    · intro k h1 h2
      by_cases e : k = i
      · subst e
        rw [e3 _ (by omega), hJ1, up1_s]
        simp [upd]
      · rw [e2 k (by omega) h2, hJ1, up1_s]
        simp only [upd, if_neg (show ¬ k + 3 = i by omega)]
    · intro k hk
      rw [e3 k (by omega), hJ1, up1_s]
      simp only [upd, if_neg (show ¬ k = i by omega)]
theorem MM_leave (hm : isMo R S N q) (d : MD I q tx FR PE CO SC TL UL KL SN) (v : Int32) : ∃ J, fX12_leave q v (I, R, S, N) = some ((aLeave TL UL v).1, (J, R, S, N)) ∧ MD J q tx FR PE CO SC (aLeave TL UL v).2.1 (aLeave TL UL v).2.2 KL SN ∧ ∀ p, (p < q ∨ q + 20 < p) → J p = I p := by
  have d1 := d.1
  have d0 := d1.1
  have hz : ∀ J : Nat → Nat → Int32, rdI (q + 5) 0 (J, R, S, N) = some (J (q + 5) 0) := fun J => by rw [z0]; exact Mo_r7 hm J (by omega)
  unfold aLeave fX12_leave
  simp only [Mo_7 hm, hz, Option.bind_some, d1.2.1.2.2.2, M_inN (show TL.length < 2 ^ 30 by omega)]
  rcases ixc v (n := TL.length) (by omega) with b1 | ⟨k, b1, rfl⟩
  · rw [ix_n b1]
    exact ⟨I, rfl, d, fun _ _ => rfl⟩
  · rw [ix_s b1 (by omega)]
    obtain ⟨J, e1, e2, e3⟩ := M_remember (R := R) (S := S) hm d
    obtain ⟨g1, g2, g3, g4, g5⟩ := e2
    have st := g1.st
    obtain ⟨J1, k1, k2, k3, k4⟩ := M_levL (R := R) (S := S) hm (fun w_12 => (gfR 11 7 q w_12).bind fun r_13 => (rdI r_13 (0 : Int32) w_12).bind fun x_14 => (wrI r_13 (0 : Int32) (x_14 - (1 : Int32)) w_12).bind fun w_15 => (gfR 11 7 q w_15).bind fun r_16 => (rdI r_16 (0 : Int32) w_15).bind fun x_17 => some (x_17, w_15)) (22 - (1 + 3 * k)) (1 + 3 * k) FV J (by omega) (FV_lt (by omega))
    obtain ⟨J2, hJ2⟩ : ∃ J2, J2 = up1 J1 (q + 5) (upd (J1 (q + 5)) 0 (nI (TL.length - 1))) := ⟨_, rfl⟩
    have f1 : ∀ p, p ≠ q + 5 → J2 p = J p := fun p hp => by rw [hJ2, up1_n _ _ hp, k4 p hp]
    have hle : (TL.eraseIdx k).length = TL.length - 1 := by rw [List.length_eraseIdx, if_pos b1]
    have st1 : StAt (J2 (q + 5)) (TL.eraseIdx k) := by
      rw [hJ2, up1_s]
      refine ⟨by omega, by rw [hle]; simp [upd], fun j hj => ?_⟩
      rw [hle] at hj
      simp only [upd, if_neg (show ¬ 1 + 3 * j = 0 by omega), if_neg (show ¬ 1 + 3 * j + 1 = 0 by omega), if_neg (show ¬ 1 + 3 * j + 2 = 0 by omega)]
      rw [gDera b1 hj]
      by_cases c : j < k
      · rw [if_pos c, k3 _ (by omega), k3 _ (by omega), k3 _ (by omega)]
        exact st.2.2 j (by omega)
      · rw [if_neg c, k2 _ (by omega) (by omega), k2 _ (by omega) (by omega), k2 _ (by omega) (by omega)]
        exact st.2.2 (j + 1) (by omega)
    refine ⟨J2, ?_, ⟨g1.tl st1 (by rw [f1 q (by omega)]) (by rw [f1 q (by omega)]) (by rw [f1 q (by omega)]) (fun p a b => f1 p (by omega)), ?_, ?_, ?_, ?_⟩, fun p hp => by rw [f1 p (by omega), e3 p (by omega) (by omega)]⟩
    · have hw0 : ∀ (J : Nat → Nat → Int32) (x : Int32), wrI (q + 5) 0 x (J, R, S, N) = some (up1 J (q + 5) (upd (J (q + 5)) 0 x), R, S, N) := fun J x => by rw [z0]; exact Mo_w7 hm J x (by omega)
      have r0 : J1 (q + 5) 0 = nI TL.length := by rw [k3 0 (by omega)]; exact st.2.1
      simp only [Option.isSome_some, if_true, i10, if_false, Mo_o hm, e1, Option.bind_some, ix3, nI_1i]
      rw [k1]
      simp (disch := omega) only [Mo_7 hm, hz, Option.bind_some, r0, nI_sub1, hw0, up1_s, upd, if_true, hJ2]
    · rw [f1 q (by omega), f1 (q + 9) (by omega)]; exact g2
    · rw [f1 q (by omega), f1 (q + 6) (by omega)]; exact g3
    · rw [f1 q (by omega), f1 (q + 7) (by omega)]; exact g4
    · rw [f1 q (by omega), f1 (q + 8) (by omega)]; exact g5
end MOD2
