/-! THE REFERENCE's STATE -/
def StAt (f : Nat → Int32) (l : List T3) : Prop := l.length ≤ 8 ∧ f 0 = nI l.length ∧ ∀ k, k < l.length → f (1 + 3 * k) = (l.getD k t3).1 ∧ f (1 + 3 * k + 1) = nI (l.getD k t3).2.1 ∧ f (1 + 3 * k + 2) = (l.getD k t3).2.2
theorem StAt.of {f g : Nat → Int32} {l : List T3} (h : StAt f l) (e : ∀ k, k < 25 → g k = f k) : StAt g l := by
  obtain ⟨h1, h2, h3⟩ := h
  refine ⟨h1, by rw [e 0 (by omega)]; exact h2, fun k hk => ?_⟩
  rw [e (1 + 3 * k) (by omega), e (1 + 3 * k + 1) (by omega), e (1 + 3 * k + 2) (by omega)]
  exact h3 k hk
theorem MH.st {I : Nat → Nat → Int32} {q : Nat} {FR : List F4} {PE : List P2} {CO SC : List C3} {TL : List T3} (d : MH I q FR PE CO SC TL) : StAt (I (q + 5)) TL := ⟨d.1.2.2.2.1, d.2.1.2.2.2, d.2.2.2.2.2.2⟩
/-- other turns -/
theorem MH.tl {I J : Nat → Nat → Int32} {q : Nat} {FR : List F4} {PE : List P2} {CO SC : List C3} {TL TL' : List T3} (d : MH I q FR PE CO SC TL) (s : StAt (J (q + 5)) TL') (e0 : J q 0 = I q 0) (e2 : J q 2 = I q 2) (e4 : J q 4 = I q 4) (e : ∀ p, q + 1 ≤ p → p ≤ q + 4 → J p = I p) : MH J q FR PE CO SC TL' := by
  obtain ⟨d1, d2, d3, d4, d5, d6, d7⟩ := d
  refine ⟨⟨d1.1, d1.2.1, d1.2.2.1, s.1, d1.2.2.2.2⟩, ⟨by rw [e0]; exact d2.1, by rw [e2]; exact d2.2.1, by rw [e4]; exact d2.2.2.1, s.2.1⟩, ?_, ?_, ?_, ?_, s.2.2⟩
  · rw [e (q + 1) (by omega) (by omega)]; exact d3
  · rw [e (q + 2) (by omega) (by omega)]; exact d4
  · rw [e (q + 3) (by omega) (by omega)]; exact d5
  · rw [e (q + 4) (by omega) (by omega)]; exact d6
def RwAt (f : Nat → Int32) (l : List (List T3)) : Prop := ∀ j, j < l.length → StAt (fun k => f (25 * j + k)) (l.getD j [])
theorem RwAt.of {f g : Nat → Int32} {l : List (List T3)} (h : RwAt f l) (e : ∀ k, k < 25 * l.length → g k = f k) : RwAt g l := fun j hj => (h j hj).of (fun k hk => e (25 * j + k) (by omega))
def MD (I : Nat → Nat → Int32) (q : Nat) (tx : List Int32) (FR : List F4) (PE : List P2) (CO SC : List C3) (TL : List T3) (UL KL : List (List T3)) (SN : List P2) : Prop :=
  MH I q FR PE CO SC TL ∧ (tx.length ≤ 200 ∧ I q 15 = nI tx.length ∧ arr (I (q + 9)) tx) ∧ (UL.length ≤ 8 ∧ I q 8 = nI UL.length ∧ RwAt (I (q + 6)) UL) ∧ (KL.length ≤ 2 ∧ I q 10 = nI KL.length ∧ RwAt (I (q + 7)) KL) ∧ (SN.length ≤ 8 ∧ I q 12 = nI SN.length ∧ ∀ k, k < SN.length → I (q + 8) (2 * k) = (SN.getD k p2).1 ∧ I (q + 8) (2 * k + 1) = (SN.getD k p2).2)
/-- but the scratch rows nothing has changed -/
theorem MD.of {I J : Nat → Nat → Int32} {q : Nat} {tx : List Int32} {FR : List F4} {PE : List P2} {CO SC : List C3} {TL : List T3} {UL KL : List (List T3)} {SN : List P2} (d : MD I q tx FR PE CO SC TL UL KL SN) (e0 : ∀ j, (j = 0 ∨ j = 2 ∨ j = 4 ∨ j = 8 ∨ j = 10 ∨ j = 12 ∨ j = 15) → J q j = I q j) (e : ∀ p, q + 1 ≤ p → p ≤ q + 9 → J p = I p) : MD J q tx FR PE CO SC TL UL KL SN := by
  obtain ⟨d1, d2, d3, d4, d5⟩ := d
  refine ⟨d1.of (e0 0 (by omega)) (e0 2 (by omega)) (e0 4 (by omega)) (fun p a b => e p (by omega) (by omega)), ?_, ?_, ?_, ?_⟩
  · rw [e0 15 (by omega), e (q + 9) (by omega) (by omega)]; exact d2
  · rw [e0 8 (by omega), e (q + 6) (by omega) (by omega)]; exact d3
  · rw [e0 10 (by omega), e (q + 7) (by omega) (by omega)]; exact d4
  · rw [e0 12 (by omega), e (q + 8) (by omega) (by omega)]; exact d5
theorem MG.md {J J' : Nat → Nat → Int32} {q : Nat} {tx : List Int32} {FR : List F4} {PE : List P2} {CO SC : List C3} {TL : List T3} {UL KL : List (List T3)} {SN : List P2} (h : MG J J' q) (d : MD J q tx FR PE CO SC TL UL KL SN) : MD J' q tx FR PE CO SC TL UL KL SN := d.of (fun j hj => h.2 j (by omega)) (fun p a b => h.1 p (by omega) (by omega) (by omega) (by omega))
section MOD
variable {R : Nat → Nat → Option Nat} {S : Nat → Nat × Nat} {N q : Nat} {I : Nat → Nat → Int32} {tx : List Int32} {FR : List F4} {PE : List P2} {CO SC : List C3} {TL : List T3} {UL KL : List (List T3)} {SN : List P2}
theorem z126 : (126 : Int32) = nI 126 := by decide
theorem z22 : (22 : Int32) = nI 22 := by decide
theorem MM_write (hm : isMo R S N q) (d : MD I q tx FR PE CO SC TL UL KL SN) (v : Int32) : ∃ J, fX12_write q v (I, R, S, N) = some ((aWrite tx v).1, (J, R, S, N)) ∧ MD J q (aWrite tx v).2 FR PE CO SC TL UL KL SN ∧ ∀ p, p ≠ q → p ≠ q + 9 → J p = I p := by
  obtain ⟨d1, ⟨d2a, d2b, d2c⟩, d3, d4, d5⟩ := id d
  unfold aWrite fX12_write
  by_cases h1 : v < 32
  · rw [if_pos h1, M_in0 (Or.inl h1)]
    exact ⟨I, by simp only [Option.bind_some, if_true], d, fun _ _ _ => rfl⟩
  · rw [if_neg h1]
    by_cases h2 : v ≤ 126
    · rw [if_pos h2, M_in1 h1 (Int32.not_lt.mpr h2)]
      have h10 : ¬ (1 : Int32) = 0 := by decide
      simp (disch := omega) only [Option.bind_some, h10, if_false, Mo_g hm, d2b, z200, neq]
      by_cases h3 : tx.length < 200
      · rw [if_pos h3, if_neg (by omega)]
        obtain ⟨J1, hJ1⟩ : ∃ J1, J1 = up1 I (q + 9) (upd (I (q + 9)) tx.length v) := ⟨_, rfl⟩
        obtain ⟨J2, hJ2⟩ : ∃ J2, J2 = up1 J1 q (upd (J1 q) 15 (nI (tx.length + 1))) := ⟨_, rfl⟩
        have f1 : ∀ p, p ≠ q + 9 → J1 p = I p := fun p a => by rw [hJ1, up1_n _ _ a]
        have f2 : ∀ p, p ≠ q → J2 p = J1 p := fun p a => by rw [hJ2, up1_n _ _ a]
        have fq : ∀ j, j ≠ 15 → J2 q j = I q j := fun j hj => by rw [hJ2, up1_s]; simp only [upd, if_neg hj]; rw [f1 q (by omega)]
        have g1 : wrI (q + 9) (nI tx.length) v (I, R, S, N) = some (J1, R, S, N) := by rw [hJ1]; exact Mo_w14 hm I _ (by omega)
        have g2 : pfI 11 15 q (nI (tx.length + 1)) (J1, R, S, N) = some (J2, R, S, N) := by rw [hJ2]; exact Mo_p hm J1 _ _
        have g3 : J2 q 15 = nI (tx.length + 1) := by rw [hJ2, up1_s]; simp [upd]
        refine ⟨J2, ?_, ⟨d1.of (fq 0 (by omega)) (fq 2 (by omega)) (fq 4 (by omega)) (fun p a b => by rw [f2 p (by omega), f1 p (by omega)]), ⟨by simp; omega, by rw [g3]; simp, ?_⟩, ?_, ?_, ?_⟩, fun p a b => by rw [f2 p a, f1 p b]⟩
        · simp (disch := omega) only [Option.bind_some, Mo_14 hm, Mo_g hm, g1, f1 q (show q ≠ q + 9 by omega), d2b, nI_i1, g2, g3]
        · rw [f2 _ (by omega), hJ1, up1_s]
          exact arr_app d2c v
        · rw [fq 8 (by omega), f2 _ (by omega), f1 _ (by omega)]; exact d3
        · rw [fq 10 (by omega), f2 _ (by omega), f1 _ (by omega)]; exact d4
        · rw [fq 12 (by omega), f2 _ (by omega), f1 _ (by omega)]; exact d5
      · rw [if_neg h3, if_pos (by omega)]
        exact ⟨I, rfl, d, fun _ _ _ => rfl⟩
    · rw [if_neg h2, M_in0 (Or.inr (Int32.not_le.mp h2))]
      exact ⟨I, by simp only [Option.bind_some, if_true], d, fun _ _ _ => rfl⟩
theorem MM_wipe (hm : isMo R S N q) (d : MD I q tx FR PE CO SC TL UL KL SN) : ∃ J, fX12_wipe q (I, R, S, N) = some (nI tx.length, (J, R, S, N)) ∧ MD J q [] FR PE CO SC TL UL KL SN ∧ ∀ p, p ≠ q → J p = I p := by
  obtain ⟨d1, ⟨d2a, d2b, d2c⟩, d3, d4, d5⟩ := id d
  obtain ⟨J2, hJ2⟩ : ∃ J2, J2 = up1 I q (upd (I q) 15 0) := ⟨_, rfl⟩
  have f2 : ∀ p, p ≠ q → J2 p = I p := fun p a => by rw [hJ2, up1_n _ _ a]
  have fq : ∀ j, j ≠ 15 → J2 q j = I q j := fun j hj => by rw [hJ2, up1_s]; simp only [upd, if_neg hj]
  refine ⟨J2, ?_, ⟨d1.of (fq 0 (by omega)) (fq 2 (by omega)) (fq 4 (by omega)) (fun p a b => f2 p (by omega)), ⟨by simp, by rw [hJ2, up1_s]; simp [upd]; decide, fun k hk => by simp at hk⟩, ?_, ?_, ?_⟩, f2⟩
  · simp only [fX12_wipe, Mo_g hm, Mo_p hm, Option.bind_some, d2b, ← hJ2]
  · rw [fq 8 (by omega), f2 _ (by omega)]; exact d3
  · rw [fq 10 (by omega), f2 _ (by omega)]; exact d4
  · rw [fq 12 (by omega), f2 _ (by omega)]; exact d5
theorem MM_count (hm : isMo R S N q) (d : MD I q tx FR PE CO SC TL UL KL SN) (v : Int32) : fX12_count q v (I, R, S, N) = some (aCount FR PE SC TL UL KL SN tx v, (I, R, S, N)) := by
  obtain ⟨d1, ⟨d2a, d2b, d2c⟩, ⟨d3a, d3b, -⟩, ⟨d4a, d4b, -⟩, d5a, d5b, -⟩ := d
  have hz : rdI (q + 5) 0 (I, R, S, N) = some (I (q + 5) 0) := by rw [z0]; exact Mo_r7 hm I (by omega)
  simp only [fX12_count, aCount, Mo_g hm, Mo_7 hm, hz, Option.bind_some, d1.2.1.1, d1.2.1.2.1, d1.2.1.2.2.1, d1.2.1.2.2.2, d2b, d3b, d4b, d5b, d1.1.2.2.2.2]
  repeat (first | rfl | (split; rfl))
/-- 'in(v, 0, n - 1)' for a number of n -/
theorem M_inN {x : Int32} {n : Nat} (hn : n < 2 ^ 30) (w : Wd) : fX12_in x 0 (nI n - 1) w = some (if (ix x n).isSome then 1 else 0, w) := by
  rcases ixc x (n := n) (by omega) with b | ⟨j, b, rfl⟩
  · rw [ix_n b, M_in0]
    · rfl
    · rcases b with b | b
      · exact Or.inl b
      · by_cases c : x < 0
        · exact Or.inl c
        · right
          have e : (nI n - 1).toInt = (n : Int) - 1 := by
            rw [z1]
            exact pk_sub_toInt (by omega) (by omega)
          rw [ltT, e]
          rw [leT, nI_toInt (by omega)] at b
          omega
  · rw [ix_s b (by omega), M_in1]
    · rfl
    · exact nI_pos (by omega)
    · rw [z1, pk_sub (by omega)]
      exact nI_nlt (by omega) (by omega)
theorem M_inK {x : Int32} {n : Nat} (hn : n + 1 < 2 ^ 30) {m : Int32} (hm : m = nI n) (w : Wd) : fX12_in x 0 m w = some (if (ix x (n + 1)).isSome then 1 else 0, w) := by
  have e : nI n = nI (n + 1) - 1 := by rw [z1, pk_sub (by omega)]; rfl
  rw [hm, e]
  exact M_inN hn w
theorem M_isDay (x : Int32) (w : Wd) : fX12_isDay x w = some (if (ix x 31).isSome then 1 else 0, w) := by
  simp only [fX12_isDay, M_inK (show 30 + 1 < 2 ^ 30 by decide) z30, Option.bind_some]
  split <;> rfl
theorem M_isFrame (hm : isMo R S N q) (d : MH I q FR PE CO SC TL) (x : Int32) : fX12_isFrame q x (I, R, S, N) = some (if (ix x FR.length).isSome then 1 else 0, (I, R, S, N)) := by
  have d1 := d.1
  simp only [fX12_isFrame, Mo_g hm, Option.bind_some, d.2.1.1, M_inN (show FR.length < 2 ^ 30 by omega)]
  split <;> rfl
theorem M_isPerson (hm : isMo R S N q) (d : MH I q FR PE CO SC TL) (x : Int32) : fX12_isPerson q x (I, R, S, N) = some (if (ix x PE.length).isSome then 1 else 0, (I, R, S, N)) := by
  have d1 := d.1
  simp only [fX12_isPerson, Mo_g hm, Option.bind_some, d.2.1.2.1, M_inN (show PE.length < 2 ^ 30 by omega)]
  split <;> rfl
theorem i10 : ¬ (1 : Int32) = 0 := by decide
theorem MM_told (hm : isMo R S N q) (d : MD I q tx FR PE CO SC TL UL KL SN) (v w : Int32) : fX12_told q v w (I, R, S, N) = some (aTold TL v w, (I, R, S, N)) := by
  have d1 := d.1
  have d0 := d1.1
  have hz : rdI (q + 5) 0 (I, R, S, N) = some (I (q + 5) 0) := by rw [z0]; exact Mo_r7 hm I (by omega)
  unfold aTold fX12_told
  simp only [Mo_7 hm, hz, Option.bind_some, d1.2.1.2.2.2, M_inN (show TL.length < 2 ^ 30 by omega)]
  rcases ixc v (n := TL.length) (by omega) with b1 | ⟨k, b1, rfl⟩
  · rw [ix_n b1]
    rfl
  · rw [ix_s b1 (by omega)]
    have hk := d1.2.2.2.2.2.2 k b1
    simp only [Option.isSome_some, if_true, i10, if_false, M_inK (show 2 + 1 < 2 ^ 30 by decide) z2, Option.bind_some]
    rcases ixc w (n := 2 + 1) (by omega) with b2 | ⟨j, b2, rfl⟩
    · rw [ix_n b2]
      have n0 : ¬ w = 0 := fun e => by subst e; exact b2.elim (fun a => absurd a (by decide)) (fun a => absurd a (by decide))
      have n1 : ¬ w = 1 := fun e => by subst e; exact b2.elim (fun a => absurd a (by decide)) (fun a => absurd a (by decide))
      have n2 : ¬ w = 2 := fun e => by subst e; exact b2.elim (fun a => absurd a (by decide)) (fun a => absurd a (by decide))
      simp only [Option.isSome_none, n0, n1, n2, if_false]
      rfl
    · rw [ix_s b2 (by omega)]
      simp (disch := omega) only [Option.isSome_some, if_true, i10, if_false, Mo_7 hm, ix3, nI_1i, nI_add, Mo_r7 hm, Option.bind_some]
      rcases (show j = 0 ∨ j = 1 ∨ j = 2 by omega) with rfl | rfl | rfl
      · simp only [Nat.add_zero, hk.1]
        rw [if_neg (by decide), if_pos (by decide), Int32.add_zero]
      · simp only [hk.2.1]
        rw [if_neg (by decide), if_neg (by decide), if_pos (by decide), Int32.add_zero]
      · simp only [hk.2.2]
        rw [if_pos (by decide), if_neg (by decide), if_neg (by decide), if_pos (by decide)]
theorem MM_frame (hm : isMo R S N q) (d : MD I q tx FR PE CO SC TL UL KL SN) (v w : Int32) : fX12_frame q v w (I, R, S, N) = some (aFrame FR v w, (I, R, S, N)) := by
  have d1 := d.1
  have d0 := d1.1
  unfold aFrame fX12_frame
  simp only [Mo_o hm, Option.bind_some, M_isFrame hm d1]
  rcases ixc v (n := FR.length) (by omega) with b1 | ⟨k, b1, rfl⟩
  · rw [ix_n b1]
    rfl
  · rw [ix_s b1 (by omega)]
    have hk := d1.2.2.1 k b1
    simp only [Option.isSome_some, if_true, i10, if_false, M_inK (show 3 + 1 < 2 ^ 30 by decide) z3, Option.bind_some]
    rcases ixc w (n := 3 + 1) (by omega) with b2 | ⟨j, b2, rfl⟩
    · rw [ix_n b2]
      have n0 : ¬ w = 0 := fun e => by subst e; exact b2.elim (fun a => absurd a (by decide)) (fun a => absurd a (by decide))
      have n1 : ¬ w = 1 := fun e => by subst e; exact b2.elim (fun a => absurd a (by decide)) (fun a => absurd a (by decide))
      have n2 : ¬ w = 2 := fun e => by subst e; exact b2.elim (fun a => absurd a (by decide)) (fun a => absurd a (by decide))
      have n3 : ¬ w = 3 := fun e => by subst e; exact b2.elim (fun a => absurd a (by decide)) (fun a => absurd a (by decide))
      simp only [Option.isSome_none, n0, n1, n2, n3, if_false]
      rfl
    · rw [ix_s b2 (by omega)]
      simp (disch := omega) only [Option.isSome_some, if_true, i10, if_false, Mo_1 hm, ix4, nI_add, Mo_r1 hm, Option.bind_some]
      rcases (show j = 0 ∨ j = 1 ∨ j = 2 ∨ j = 3 by omega) with rfl | rfl | rfl | rfl
      · simp only [Nat.add_zero, hk.1]
        rw [if_pos (by decide), if_pos (by decide)]
      · simp only [hk.2.1]
        rw [if_neg (by decide), if_neg (by decide), if_neg (by decide), if_pos (by decide)]
      · simp only [hk.2.2.1]
        rw [if_neg (by decide), if_pos (by decide), if_neg (by decide), if_neg (by decide), if_pos (by decide)]
      · simp only [hk.2.2.2]
        rw [if_neg (by decide), if_neg (by decide), if_neg (by decide), if_neg (by decide), if_neg (by decide), if_pos (by decide)]
theorem MM_person (hm : isMo R S N q) (d : MD I q tx FR PE CO SC TL UL KL SN) (v w : Int32) : fX12_person q v w (I, R, S, N) = some (aPerson PE v w, (I, R, S, N)) := by
  have d1 := d.1
  have d0 := d1.1
  unfold aPerson fX12_person
  simp only [Mo_o hm, Option.bind_some, M_isPerson hm d1]
  rcases ixc v (n := PE.length) (by omega) with b1 | ⟨k, b1, rfl⟩
  · rw [ix_n b1]
    rfl
  · rw [ix_s b1 (by omega)]
    have hk := d1.2.2.2.1 k b1
    simp only [Option.isSome_some, if_true, i10, if_false, M_inK (show 1 + 1 < 2 ^ 30 by decide) z1, Option.bind_some]
    rcases ixc w (n := 1 + 1) (by omega) with b2 | ⟨j, b2, rfl⟩
    · rw [ix_n b2]
      rfl
    · rw [ix_s b2 (by omega)]
      simp (disch := omega) only [Option.isSome_some, if_true, i10, if_false, Mo_3 hm, ix2, nI_add, Mo_r3 hm, Option.bind_some]
      rcases (show j = 0 ∨ j = 1 by omega) with rfl | rfl
      · simp only [Nat.add_zero, hk.1]
        rfl
      · simp only [hk.2]
        rfl
end MOD
