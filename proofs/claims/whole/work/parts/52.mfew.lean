section MFEW
variable {R : Nat → Nat → Option Nat} {S : Nat → Nat × Nat} {N q : Nat} {I : Nat → Nat → Int32} {tx : List Int32} {FR : List F4} {PE : List P2} {CO SC : List C3} {TL TT : List T3} {UL KL : List (List T3)} {SN : List P2} {a : List Int32}
theorem M_fwA (hm : isMo R S N q) (ok : okS FR PE SC TL UL KL) (hl : a.length = FR.length) (hA : allA a) (set : Int32) (K1 K0 : Wd → Option (Int32 × Wd)) : ∀ (m t n : Nat) (J : Nat → Nat → Int32), t + m = 40 * FR.length → m < n → MH J q FR PE CO SC TL → arr (J (q + 16)) a →
    ∃ (J' : Nat → Nat → Int32) (b : Bool), fX12_fewest_54 q set (nI (40 * FR.length)) K1 K0 n (nI t) (J, R, S, N) = (if b = true then K1 (J', R, S, N) else K0 (J', R, S, N)) ∧ (b = true ↔ ∃ t', t ≤ t' ∧ t' < 40 * FR.length ∧ Sup (mkA FR PE SC (ttL FR.length t' a)) set) ∧ J' (q + 16) = J (q + 16) ∧ MG J J' q := by
  have okl := ok.1
  intro m
  induction m with
  | zero =>
    intro t n J hi hn d ha
    obtain ⟨n, rfl⟩ : ∃ n', n = n' + 1 := ⟨n - 1, by omega⟩
    refine ⟨J, false, ?_, ⟨fun z => absurd z (by decide), fun ⟨j, h1, h2, _⟩ => by omega⟩, rfl, MG.rf⟩
    rw [fX12_fewest_54, if_pos (nI_le (by omega) (by omega)), if_neg (by decide)]
  | succ m ih =>
    intro t n J hti hn d ha
    obtain ⟨n, rfl⟩ : ∃ n', n = n' + 1 := ⟨n - 1, by omega⟩
    obtain ⟨J1, g1, s1, r1, m1⟩ := M_tries hm ok d ha hl hA (t := t) (by omega)
    rw [show mask (mnL FR PE SC (ttL FR.length t a)).2 = mkA FR PE SC (ttL FR.length t a) from rfl] at s1
    rw [fX12_fewest_54, if_neg (nI_ge (by omega) (by omega)), Mo_o hm, bS, g1, bS, Mo_g hm, bS, s1, nI_i1]
    by_cases c : Sup (mkA FR PE SC (ttL FR.length t a)) set
    · refine ⟨J1, true, ?_, ⟨fun _ => ⟨t, by omega, by omega, c⟩, fun _ => rfl⟩, r1, m1⟩
      rw [if_pos ((sup2 _ _).mpr c), if_pos rfl]
    · obtain ⟨J', b, e1, e2, e3, e4⟩ := ih (t + 1) n J1 (by omega) (by omega) (m1.mh d) (by rw [r1]; exact ha)
      refine ⟨J', b, ?_, e2.trans ⟨fun ⟨j, h1, h2⟩ => ⟨j, by omega, h2⟩, fun ⟨j, h1, h2, h3⟩ => ?_⟩, by rw [e3, r1], m1.tr e4⟩
      · rw [if_neg (fun z => c ((sup2 _ _).mp z))]
        exact e1
      · by_cases e : j = t
        · subst e; exact absurd h3 c
        · exact ⟨j, by omega, h2, h3⟩
theorem M_fwB (hm : isMo R S N q) (ok : okS FR PE SC TL UL KL) (hl : a.length = FR.length) (hA : allA a) (set : Int32) (K1 K0 : Wd → Option (Int32 × Wd)) {M : Nat} (hM : M = 40 * FR.length) : ∀ (m t n : Nat) (J : Nat → Nat → Int32), t + m = M * M → m < n → MH J q FR PE CO SC TL → arr (J (q + 16)) a →
    ∃ (J' : Nat → Nat → Int32) (b : Bool), fX12_fewest_88 q set (nI M) K1 K0 n (nI t) (J, R, S, N) = (if b = true then K1 (J', R, S, N) else K0 (J', R, S, N)) ∧ (b = true ↔ ∃ t', t ≤ t' ∧ t' < M * M ∧ Sup (mkA FR PE SC (ttL FR.length (t' % M) (ttL FR.length (t' / M) a))) set) ∧ MG J J' q := by
  have okl := ok.1
  have hMM : M * M ≤ 280 * 280 := Nat.mul_le_mul (by omega) (by omega)
  intro m
  induction m with
  | zero =>
    intro t n J hi hn d ha
    obtain ⟨n, rfl⟩ : ∃ n', n = n' + 1 := ⟨n - 1, by omega⟩
    refine ⟨J, false, ?_, ⟨fun z => absurd z (by decide), fun ⟨j, h1, h2, _⟩ => by omega⟩, MG.rf⟩
    rw [fX12_fewest_88, pk_mul, if_pos (nI_le (by omega) (by omega)), if_neg (by decide)]
  | succ m ih =>
    intro t n J hti hn d ha
    obtain ⟨n, rfl⟩ : ∃ n', n = n' + 1 := ⟨n - 1, by omega⟩
    obtain ⟨J1, g1, a1, f1⟩ := M_fromDawn hm ha (by omega)
    have m1 : MG J J1 q := MG.o15 f1
    have hdv : t / M < M := (Nat.div_lt_iff_lt_mul (by omega)).mpr (by omega)
    have hrm : t % M < M := Nat.mod_lt _ (by omega)
    obtain ⟨x, hx⟩ : ∃ x, x = t / M := ⟨_, rfl⟩
    obtain ⟨y, hy⟩ : ∃ y, y = t % M := ⟨_, rfl⟩
    have ht2 : t < 2 ^ 31 := by omega
    have v1 : dvI (nI t) (nI M) = some (nI x) := by rw [hx]; exact dvIn ht2 (by omega) (by omega)
    have v2 : rmI (nI t) (nI M) = some (nI y) := by rw [hy]; exact rmIn ht2 (by omega) (by omega)
    rw [← hx] at hdv
    rw [← hy] at hrm
    have kx : x / 2 % FR.length < FR.length := Nat.mod_lt _ okl.1
    have ky : y / 2 % FR.length < FR.length := Nat.mod_lt _ okl.1
    obtain ⟨J2, g2, a2, f2⟩ := M_turnsBy (R := R) (S := S) hm (k := x / 2 % FR.length) (by rw [hl]; exact kx) (by omega) a1 (byI FR.length x)
    have m2 : MG J J2 q := m1.tr (MG.o15 f2)
    obtain ⟨J3, g3, a3, f3⟩ := M_turnsBy (R := R) (S := S) hm (k := y / 2 % FR.length) (by rw [tn_len, hl]; exact ky) (by rw [tn_len]; omega) a2 (byI FR.length y)
    have m3 : MG J J3 q := m2.tr (MG.o15 f3)
    obtain ⟨J4, g4, s4, f4⟩ := M_morning hm ok.2.1 ok.2.2.1 (m3.mh d) a3 (by rw [tn_len, tn_len]; exact hl) (allA_tn (allA_tn hA _ _) _ _)
    have m4 : MG J J4 q := m3.tr f4.mg
    have x1 : J1 q 0 = nI FR.length := (m1.mh d).2.1.1
    have x2 : J2 q 0 = nI FR.length := (m2.mh d).2.1.1
    have s5 : J4 q 28 = mkA FR PE SC (ttL FR.length y (ttL FR.length x a)) := s4.2.2
    have rr : J4 (q + 16) = J (q + 16) := by rw [f4.1 (q + 16) (by omega) (by omega) (by omega), f3 _ (by omega), f2 _ (by omega), f1 _ (by omega)]
    have w1 := dv2 (show x < 2 ^ 31 by omega)
    have w2 := dv2 (show y < 2 ^ 31 by omega)
    have w3 : rmI (nI (x / 2)) (nI FR.length) = some (nI (x / 2 % FR.length)) := rmIn (by omega) okl.1 (by omega)
    have w4 : rmI (nI (y / 2)) (nI FR.length) = some (nI (y / 2 % FR.length)) := rmIn (by omega) okl.1 (by omega)
    have b1 := M_byOf hm (m1.mh d) okl.1 (show x < 2 ^ 30 by omega)
    have b2 := M_byOf hm (m2.mh d) okl.1 (show y < 2 ^ 30 by omega)
    rw [fX12_fewest_88, pk_mul, if_neg (nI_ge (by omega) (by omega))]
    simp only [Mo_o hm, bS, g1, v1, w1, Mo_g hm, x1, w3, b1, g2, v2, w2, x2, w4, b2, g3, g4, s5, nI_i1]
    by_cases c : Sup (mkA FR PE SC (ttL FR.length y (ttL FR.length x a))) set
    · refine ⟨J4, true, ?_, ⟨fun _ => ⟨t, by omega, by omega, by rw [← hx, ← hy]; exact c⟩, fun _ => rfl⟩, m4⟩
      rw [if_pos ((sup2 _ _).mpr c), if_pos rfl]
    · obtain ⟨J', b, e1, e2, e4⟩ := ih (t + 1) n J4 (by omega) (by omega) (m4.mh d) (by rw [rr]; exact ha)
      refine ⟨J', b, ?_, e2.trans ⟨fun ⟨j, h1, h2⟩ => ⟨j, by omega, h2⟩, fun ⟨j, h1, h2, h3⟩ => ?_⟩, m4.tr e4⟩
      · rw [if_neg (fun z => c ((sup2 _ _).mp z))]
        exact e1
      · by_cases e : j = t
        · subst e
          rw [← hx, ← hy] at h3
          exact absurd h3 c
        · exact ⟨j, by omega, h2, h3⟩
theorem MM_fewest (hm : isMo R S N q) (d : MD I q tx FR PE CO SC TL UL KL SN) (ok : okS FR PE SC TL UL KL) (v1 v2 : Int32) : ∃ J, fX12_fewest q v1 v2 (I, R, S, N) = some (aFew FR PE SC TL v1 v2, (J, R, S, N)) ∧ MD J q tx FR PE CO SC TL UL KL SN ∧ ∀ p, (p < q ∨ q + 20 < p) → J p = I p := by
  have d1 := d.1
  have d0 := d1.1
  have okl := ok.1
  obtain ⟨w1, w2, w3⟩ := p2sh PE.length (by omega)
  unfold aFew fX12_fewest
  rw [Mo_g hm, bS, d1.2.1.2.1, w1, M_inN (show 2 ^ PE.length < 2 ^ 30 by omega), bS]
  rcases ixc v1 (n := 2 ^ PE.length) (by omega) with b1 | ⟨s, b1, rfl⟩
  · rw [ix_n b1]
    exact ⟨I, rfl, d, fun _ _ => rfl⟩
  · rw [ix_s b1 (by omega), sm1, if_neg i10, M_isDay, bS]
    rcases ixc v2 (n := 31) (by omega) with b2 | ⟨e, b2, rfl⟩
    · rw [ix_n b2]
      exact ⟨I, rfl, d, fun _ _ => rfl⟩
    · rw [ix_s b2 (by omega), sm1, if_neg i10]
      obtain ⟨J, e1, e2, e3⟩ := M_goes hm ok.2.1 ok.2.2.1 ok.2.2.2.1 b2 d1
      have hl := dw_len' FR PE SC TL e
      have hA := allA_dw FR PE SC TL e
      have ha := e2.2.1
      have x0 : J q 0 = nI FR.length := (e3.mh d1).2.1.1
      rw [Mo_o hm, bS, e1, bS, Mo_g hm, bS, e2.2.2.2]
      show ∃ J', (if (nI s &&& (mkA FR PE SC (dwL FR PE SC TL e) ^^^ (-1))) = 0 then _ else _) = some (pif (Sup (mkA FR PE SC (dwL FR PE SC TL e)) (nI s)) 0 (pif (∃ t, t < 40 * FR.length ∧ Sup (mkA FR PE SC (ttL FR.length t (dwL FR PE SC TL e))) (nI s)) 1 (pif (∃ t u, t < 40 * FR.length ∧ u < 40 * FR.length ∧ Sup (mkA FR PE SC (ttL FR.length u (ttL FR.length t (dwL FR PE SC TL e)))) (nI s)) 2 (-4))), (J', R, S, N)) ∧ _
      generalize dwL FR PE SC TL e = a at ha hl hA
      by_cases c0 : Sup (mkA FR PE SC a) (nI s)
      · rw [if_pos ((sup2 _ _).mpr c0), pif_pos c0]
        exact ⟨J, rfl, e3.md d, fun p hp => e3.1 p (by omega) (by omega) (by omega) (by omega)⟩
      · rw [if_neg (fun z => c0 ((sup2 _ _).mp z)), pif_neg c0, Mo_g hm, bS, x0, z40, pk_mul]
        obtain ⟨J1, x1, k1, k2, k3, k4⟩ := M_fwA hm ok hl hA (nI s) (fun (w_16 : Wd) => some ((1 : Int32), w_16)) (fun (w_17 : Wd) => fX12_fewest_88 q (nI s) (nI (40 * FR.length)) (fun (w_43 : Wd) => some ((2 : Int32), w_43)) (fun (w_44 : Wd) => some ((-4 : Int32), w_44)) FV (0 : Int32) w_17) (40 * FR.length) 0 FV J (by omega) (FV_lt (by omega)) (e3.mh d1) ha
        have m1 := e3.tr k4
        rw [← z0] at k1
        rw [k1]
        by_cases c1 : x1 = true
        · obtain ⟨t, -, h2, h3⟩ := k2.mp c1
          rw [if_pos c1, pif_pos ⟨t, h2, h3⟩]
          exact ⟨J1, rfl, m1.md d, fun p hp => m1.1 p (by omega) (by omega) (by omega) (by omega)⟩
        · rw [if_neg c1, pif_neg (fun ⟨t, h2, h3⟩ => c1 (k2.mpr ⟨t, Nat.zero_le _, h2, h3⟩))]
          obtain ⟨M, hM⟩ : ∃ M, M = 40 * FR.length := ⟨_, rfl⟩
          rw [← hM]
          replace k2 : Hid _ := k2
          have hMM : M * M ≤ 280 * 280 := Nat.mul_le_mul (by omega) (by omega)
          obtain ⟨J2, x2, l1, l2, l3⟩ := M_fwB hm ok hl hA (nI s) (fun (w_43 : Wd) => some ((2 : Int32), w_43)) (fun (w_44 : Wd) => some ((-4 : Int32), w_44)) hM (M * M) 0 FV J1 (by omega) (FV_lt (by omega)) (m1.mh d1) (by rw [k3]; exact ha)
          have m2 := m1.tr l3
          rw [← z0] at l1
          rw [l1]
          have hM0 : 0 < M := by omega
          by_cases c2 : x2 = true
          · obtain ⟨t, -, h2, h3⟩ := l2.mp c2
            rw [if_pos c2, pif_pos ⟨t / M, t % M, (Nat.div_lt_iff_lt_mul hM0).mpr h2, Nat.mod_lt _ hM0, h3⟩]
            replace l2 : Hid _ := l2
            exact ⟨J2, rfl, m2.md d, fun p hp => m2.1 p (by omega) (by omega) (by omega) (by omega)⟩
          · rw [if_neg c2, pif_neg]
            · replace l2 : Hid _ := l2
              exact ⟨J2, rfl, m2.md d, fun p hp => m2.1 p (by omega) (by omega) (by omega) (by omega)⟩
            · rintro ⟨t, u, h1, h2, h3⟩
              refine c2 (l2.mpr ⟨M * t + u, Nat.zero_le _, ?_, ?_⟩)
              · have := Nat.mul_le_mul_left M (show t + 1 ≤ M by omega)
                rw [Nat.mul_succ] at this
                omega
              · rw [Nat.mul_add_mod, Nat.mod_eq_of_lt h2, Nat.mul_add_div hM0, Nat.div_eq_of_lt h2, Nat.add_zero]
                exact h3
end MFEW
