theorem rm2 {t : Nat} (h : t < 2 ^ 31) : rmI (nI t) 2 = some (nI (t % 2)) := by rw [show (2 : Int32) = nI 2 from z2]; exact rmIn h (by omega) (by omega)
theorem dv2 {t : Nat} (h : t < 2 ^ 31) : dvI (nI t) 2 = some (nI (t / 2)) := by rw [show (2 : Int32) = nI 2 from z2]; exact dvIn h (by omega) (by omega)
section MTEMPT
variable {R : Nat → Nat → Option Nat} {S : Nat → Nat × Nat} {N q : Nat} {I : Nat → Nat → Int32} {tx : List Int32} {FR : List F4} {PE : List P2} {CO SC : List C3} {TL TT : List T3} {UL KL : List (List T3)} {SN : List P2} {a : List Int32}
theorem M_fdL (hm : isMo R S N q) (K : Wd → Option (Unit × Wd)) : ∀ (m i n : Nat) (J : Nat → Nat → Int32), i + m = 7 → m < n → ∃ J', fX12_fromDawn_2 q K n (nI i) (J, R, S, N) = K (J', R, S, N) ∧ (∀ k, i ≤ k → k < 7 → J' (q + 15) k = J (q + 16) k) ∧ (∀ k, k < i → J' (q + 15) k = J (q + 15) k) ∧ ∀ p, p ≠ q + 15 → J' p = J p := by
  intro m
  induction m with
  | zero =>
    intro i n J hi hn
    obtain ⟨n, rfl⟩ : ∃ n', n = n' + 1 := ⟨n - 1, by omega⟩
    refine ⟨J, ?_, fun k h1 h2 => by omega, fun _ _ => rfl, fun _ _ => rfl⟩
    simp (disch := omega) only [fX12_fromDawn_2, z7, nle]
    rw [if_pos (by omega)]
  | succ m ih =>
    intro i n J hi hn
    obtain ⟨n, rfl⟩ : ∃ n', n = n' + 1 := ⟨n - 1, by omega⟩
    obtain ⟨J', e1, e2, e3, e4⟩ := ih (i + 1) n (up1 J (q + 15) (upd (J (q + 15)) i (J (q + 16) i))) (by omega) (by omega)
    refine ⟨J', ?_, ?_, ?_, fun p hp => by rw [e4 p hp, up1_n _ _ hp]⟩
    · simp (disch := omega) only [fX12_fromDawn_2, z7, nle, Mo_25 hm, Mo_26 hm, Mo_r26 hm, Mo_w25 hm, nI_i1, bS, e1]
      rw [if_neg (by omega)]
    · intro k h1 h2
      by_cases e : k = i
      · subst e
        rw [e3 k (by omega), up1_s]
        simp [upd]
      · rw [e2 k (by omega) h2, up1_n _ _ (by omega)]
    · intro k hk
      rw [e3 k (by omega), up1_s]
      simp only [upd, if_neg (show ¬ k = i by omega)]
theorem M_fromDawn (hm : isMo R S N q) {J : Nat → Nat → Int32} (ha : arr (J (q + 16)) a) (hl : a.length ≤ 7) : ∃ J', fX12_fromDawn q (J, R, S, N) = some ((), (J', R, S, N)) ∧ arr (J' (q + 15)) a ∧ ∀ p, p ≠ q + 15 → J' p = J p := by
  obtain ⟨J', e1, e2, e3, e4⟩ := M_fdL (R := R) (S := S) hm (fun w => some ((), w)) 7 0 FV J (by omega) (FV_lt (by omega))
  refine ⟨J', by rw [fX12_fromDawn, z0]; exact e1, ?_, e4⟩
  intro k hk
  rw [e2 k (by omega) (by omega)]
  exact ha k hk
theorem M_byOf (hm : isMo R S N q) {J : Nat → Nat → Int32} (d : MH J q FR PE CO SC TL) (hF : 0 < FR.length) {t : Nat} (ht : t < 2 ^ 30) : fX12_byOf q (nI t) (J, R, S, N) = some (byI FR.length t, (J, R, S, N)) := by
  have d1 := d.1
  have ht2 : t < 2 ^ 31 := by omega
  rw [fX12_byOf, Mo_g hm, bS, d.2.1.1, ix2, dvIn ht2 (by omega) (by omega), bS, rm2 ht2, bS, nI_1i]
  unfold byI
  by_cases c : t % 2 = 0
  · rw [if_pos c, if_pos (by rw [c]; exact z0.symm)]
  · rw [if_neg c, if_neg (nI_ne0 (by omega) (by omega))]
theorem M_tries (hm : isMo R S N q) (ok : okS FR PE SC TL UL KL) {J : Nat → Nat → Int32} (d : MH J q FR PE CO SC TL) (ha : arr (J (q + 16)) a) (hl : a.length = FR.length) (hA : allA a) {t : Nat} (ht : t < 2 ^ 30) : ∃ J', fX12_tries q (nI t) (J, R, S, N) = some ((), (J', R, S, N)) ∧ J' q 28 = mask (mnL FR PE SC (ttL FR.length t a)).2 ∧ J' (q + 16) = J (q + 16) ∧ MG J J' q := by
  have okl := ok.1
  obtain ⟨J1, g1, a1, f1⟩ := M_fromDawn hm ha (by omega)
  have m1 : MG J J1 q := MG.o15 f1
  have hk : t / 2 % FR.length < FR.length := Nat.mod_lt _ okl.1
  obtain ⟨J2, g2, a2, f2⟩ := M_turnsBy (R := R) (S := S) hm (k := t / 2 % FR.length) (by rw [hl]; exact hk) (by omega) a1 (byI FR.length t)
  have m2 : MG J J2 q := m1.tr (MG.o15 f2)
  obtain ⟨J3, g3, s3, f3⟩ := M_morning hm ok.2.1 ok.2.2.1 (m2.mh d) a2 (by rw [tn_len]; exact hl) (allA_tn hA _ _)
  have ht2 : t < 2 ^ 31 := by omega
  have ht3 : t / 2 < 2 ^ 31 := by omega
  have x4 : J1 q 0 = nI FR.length := by rw [f1 q (by omega)]; exact d.2.1.1
  refine ⟨J3, ?_, s3.2.2, by rw [f3.1 (q + 16) (by omega) (by omega) (by omega), f2 _ (by omega), f1 _ (by omega)], m2.tr f3.mg⟩
  rw [fX12_tries, Mo_o hm, bS, g1, bS, dv2 ht2, bS, Mo_g hm, bS, x4, rmIn ht3 okl.1 (by omega), bS, Mo_o hm, bS, M_byOf hm (m1.mh d) okl.1 ht, bS, Mo_o hm, bS, g2, bS, Mo_o hm, bS, g3, bS]
theorem M_tpL (hm : isMo R S N q) (ok : okS FR PE SC TL UL KL) (hl : a.length = FR.length) (hA : allA a) {i : Nat} (hi : i < PE.length) (K1 : Int32 → Wd → Option (Int32 × Wd)) (K2 : Wd → Option (Int32 × Wd)) : ∀ (m t n : Nat) (J : Nat → Nat → Int32), t + m = 40 * FR.length → m < n → MH J q FR PE CO SC TL → arr (J (q + 16)) a →
    ∃ J', fX12_tempted_2 q (nI i) K1 K2 n (nI t) (J, R, S, N) = (fstB (temP FR PE SC a i) m t).elim (K2 (J', R, S, N)) (fun t => K1 (nI t) (J', R, S, N)) ∧ MG J J' q := by
  have okl := ok.1
  intro m
  induction m with
  | zero =>
    intro t n J hi hn d ha
    obtain ⟨n, rfl⟩ : ∃ n', n = n' + 1 := ⟨n - 1, by omega⟩
    refine ⟨J, ?_, MG.rf⟩
    rw [fX12_tempted_2, Mo_g hm, bS, d.2.1.1, z40, pk_mul, if_pos (nI_le (by omega) (by omega))]
    rfl
  | succ m ih =>
    intro t n J hti hn d ha
    obtain ⟨n, rfl⟩ : ∃ n', n = n' + 1 := ⟨n - 1, by omega⟩
    obtain ⟨J1, g1, s1, r1, m1⟩ := M_tries hm ok d ha hl hA (t := t) (by omega)
    rw [fX12_tempted_2, Mo_g hm, bS, d.2.1.1, z40, pk_mul, if_neg (nI_ge (by omega) (by omega)), Mo_o hm, bS, g1, bS, Mo_g hm, bS, s1, M_has _ (mn_len FR PE SC _).2 i (by omega), bS]
    show ∃ J', _ = (if temP FR PE SC a i t = true then some t else fstB (temP FR PE SC a i) m (t + 1)).elim _ _ ∧ _
    by_cases c : (mnL FR PE SC (ttL FR.length t a)).2.getD i 0 = -4
    · have p1 : ¬ temP FR PE SC a i t = true := by unfold temP; simp only [c, not_true_eq_false, decide_false]; decide
      obtain ⟨J', e1, e2⟩ := ih (t + 1) n J1 (by omega) (by omega) (m1.mh d) (by rw [r1]; exact ha)
      refine ⟨J', ?_, m1.tr e2⟩
      rw [if_neg p1, if_pos c, if_pos rfl, nI_i1]
      exact e1
    · have p1 : temP FR PE SC a i t = true := by unfold temP; simp only [c, not_false_eq_true, decide_true]
      refine ⟨J1, ?_, m1⟩
      rw [if_pos p1, if_neg c, if_neg i10]
      rfl
theorem fstB_lt (P : Nat → Bool) : ∀ (m t0 t : Nat), fstB P m t0 = some t → t0 ≤ t ∧ t < t0 + m := by
  intro m
  induction m with
  | zero => intro t0 t h; cases h
  | succ m ih2 =>
    intro t0 t h
    have h' : (if P t0 = true then some t0 else fstB P m (t0 + 1)) = some t := h
    split at h'
    · cases h'; omega
    · have := ih2 (t0 + 1) t h'; omega
theorem MM_tempt (hm : isMo R S N q) (d : MD I q tx FR PE CO SC TL UL KL SN) (ok : okS FR PE SC TL UL KL) (v1 v2 : Int32) : ∃ J, fX12_tempt q v1 v2 (I, R, S, N) = some (aTempt FR PE SC TL v1 v2, (J, R, S, N)) ∧ MD J q tx FR PE CO SC TL UL KL SN ∧ ∀ p, (p < q ∨ q + 20 < p) → J p = I p := by
  have d1 := d.1
  have d0 := d1.1
  have okl := ok.1
  unfold aTempt fX12_tempt
  rw [Mo_o hm, bS, M_isPerson hm d1, bS]
  rcases ixc v1 (n := PE.length) (by omega) with b1 | ⟨i, b1, rfl⟩
  · rw [ix_n b1]
    exact ⟨I, rfl, d, fun _ _ => rfl⟩
  · rw [ix_s b1 (by omega), sm1, if_neg i10, M_isDay, bS]
    rcases ixc v2 (n := 31) (by omega) with b2 | ⟨e, b2, rfl⟩
    · rw [ix_n b2]
      exact ⟨I, rfl, d, fun _ _ => rfl⟩
    · rw [ix_s b2 (by omega), sm1, if_neg i10]
      obtain ⟨J, e1, e2, e3⟩ := M_goes hm ok.2.1 ok.2.2.1 ok.2.2.2.1 b2 d1
      obtain ⟨J2, g1, g2⟩ := M_tpL hm ok (dw_len' FR PE SC TL e) (allA_dw FR PE SC TL e) b1 (fun (v2_9 : Int32) (w_8 : Wd) => (dvI v2_9 (2 : Int32)).bind fun x_10 => (gfI 11 0 q w_8).bind fun x_11 => (rmI x_10 x_11).bind fun x_12 => (isO 11 q w_8).bind fun u_13 => (fX12_byOf q v2_9 w_8).bind fun q_14 => some ((((100 : Int32) * x_12) + q_14.1) + (20 : Int32), q_14.2)) (fun (w_15 : Wd) => some ((-4 : Int32), w_15)) (40 * FR.length) 0 FV J (by omega) (FV_lt (by omega)) (e3.mh d1) e2.2.1
      have m2 := e3.tr g2
      refine ⟨J2, ?_, m2.md d, fun p hp => m2.1 p (by omega) (by omega) (by omega) (by omega)⟩
      rw [← z0] at g1
      have g3 := (show fX12_tempted q (nI i) (J, R, S, N) = _ from rfl).trans g1
      rw [Mo_o hm, bS, e1, bS, Mo_o hm, bS, g3]
      show _ = some ((fstB (temP FR PE SC (dwL FR PE SC TL e) i) (40 * FR.length) 0).elim (-4) (fun t => 100 * nI (t / 2 % FR.length) + byI FR.length t + 20), (J2, R, S, N))
      cases hf : fstB (temP FR PE SC (dwL FR PE SC TL e) i) (40 * FR.length) 0 with
      | none => rfl
      | some t =>
        have hb := fstB_lt _ _ _ _ hf
        have ht2 : t < 2 ^ 31 := by omega
        have ht3 : t / 2 < 2 ^ 31 := by omega
        have x4 : J2 q 0 = nI FR.length := (m2.mh d1).2.1.1
        show (((dvI (nI t) (2 : Int32)).bind fun x_10 => (gfI 11 0 q (J2, R, S, N)).bind fun x_11 => (rmI x_10 x_11).bind fun x_12 => (isO 11 q (J2, R, S, N)).bind fun u_13 => (fX12_byOf q (nI t) (J2, R, S, N)).bind fun q_14 => some ((((100 : Int32) * x_12) + q_14.1) + (20 : Int32), q_14.2))).bind (fun q_9 => some (q_9.1, q_9.2)) = some (100 * nI (t / 2 % FR.length) + byI FR.length t + 20, (J2, R, S, N))
        rw [dv2 ht2, bS, Mo_g hm, bS, x4, rmIn ht3 okl.1 (by omega), bS, Mo_o hm, bS, M_byOf hm (m2.mh d1) okl.1 (by omega), bS, bS]
end MTEMPT
