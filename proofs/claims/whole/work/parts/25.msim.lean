/-! THE REFERENCE's days -/
theorem ix4 (k : Nat) : (4 : Int32) * nI k = nI (4 * k) := by rw [z4, pk_mul]
theorem ix3 (k : Nat) : (3 : Int32) * nI k = nI (3 * k) := by rw [z3, pk_mul]
theorem ix2 (k : Nat) : (2 : Int32) * nI k = nI (2 * k) := by rw [z2, pk_mul]
theorem nI_i2 (a : Nat) : nI a + (2 : Int32) = nI (a + 2) := by rw [z2, nI_add]
theorem nI_i3 (a : Nat) : nI a + (3 : Int32) = nI (a + 3) := by rw [z3, nI_add]
theorem nI_1i (a : Nat) : (1 : Int32) + nI a = nI (1 + a) := by rw [z1, nI_add]
def okA (v : Int32) : Prop := ∃ k, k < 81 ∧ v = nI k - 40
def allA (a : List Int32) : Prop := ∀ k, k < a.length → okA (a.getD k 0)
theorem made_eq0 : ∀ kd, kd < 4 → ∀ b, b < 21 → ∀ k, k < 81 → ((made (nI kd) (nI b) (nI k - 40) = nI k - 40) ↔ iabs (nI k - 40) ≤ limO (nI kd) (nI b)) := by decide +kernel
theorem made_eq {kd b v : Int32} (hk : okK kd) (hb : okB b) (hv : okA v) : (made kd b v = v) ↔ iabs v ≤ limO kd b := by
  obtain ⟨k, h1, rfl⟩ := hk
  obtain ⟨j, h2, rfl⟩ := hb
  obtain ⟨i, h3, rfl⟩ := hv
  exact made_eq0 k h1 j h2 i h3
theorem made_okA0 : ∀ kd, kd < 4 → ∀ b, b < 21 → ∀ k, k < 81 → (40 + made (nI kd) (nI b) (nI k - 40)).toNatClampNeg < 81 ∧ made (nI kd) (nI b) (nI k - 40) = nI (40 + made (nI kd) (nI b) (nI k - 40)).toNatClampNeg - 40 := by decide +kernel
theorem made_okA {kd b v : Int32} (hk : okK kd) (hb : okB b) (hv : okA v) : okA (made kd b v) := by
  obtain ⟨k, h1, rfl⟩ := hk
  obtain ⟨j, h2, rfl⟩ := hb
  obtain ⟨i, h3, rfl⟩ := hv
  exact ⟨_, made_okA0 k h1 j h2 i h3⟩
theorem wth_okA (v : Int32) : okA (wth v) := by
  unfold wth
  by_cases h1 : v < -40
  · rw [if_pos h1]; exact ⟨0, by decide, by decide⟩
  · rw [if_neg h1]
    by_cases h2 : 40 < v
    · rw [if_pos h2]; exact ⟨80, by decide, by decide⟩
    · rw [if_neg h2]
      refine ⟨(v.toInt + 40).toNat, ?_, ?_⟩
      · simp only [ltT, i40, im40] at *
        omega
      · simp only [ltT, i40, im40] at h1 h2
        have e : nI (v.toInt + 40).toNat = v + 40 := by
          rw [eqT, nI_toInt (by omega), Int32.toInt_add, i40]
          rw [Int.bmod_eq_of_le (by omega) (by omega)]
          omega
        rw [e, Int32.add_sub_cancel]
theorem iabs_neg (v : Int32) : (if 0 ≤ v then v else -v) = iabs v := by
  unfold iabs
  rw [Int32.zero_sub]
theorem M_size (v : Int32) (w : Wd) : fX12_size v w = some (iabs v, w) := by
  unfold fX12_size
  rw [← iabs_neg]
  split <;> rfl
theorem M_within (v : Int32) (w : Wd) : fX12_within v w = some (wth v, w) := by
  unfold fX12_within wth
  by_cases h1 : v < -40
  · rw [if_neg (Int32.not_le.mpr h1), if_pos h1]
  · rw [if_pos (Int32.not_lt.mp h1), if_neg h1]
    by_cases h2 : 40 < v
    · rw [if_neg (Int32.not_le.mpr h2), if_pos h2]
    · rw [if_pos (Int32.not_lt.mp h2), if_neg h2]
theorem M_madeOf (kd b v : Int32) (w : Wd) : fX12_madeOf kd b v w = some (made kd b v, w) := by
  unfold fX12_madeOf made limO
  rw [M_size]
  simp only [Option.bind_some, dvI2]
  by_cases h3 : kd = 3
  · subst h3
    simp only [if_true]
    by_cases h : iabs v ≤ 2 * b
    · rw [if_pos h, if_neg (Int32.not_lt.mpr h)]
    · rw [if_neg h, if_pos (Int32.not_le.mp h)]
      by_cases c : v < 0
      · rw [if_pos c, if_neg (Int32.not_le.mpr c)]; rfl
      · rw [if_neg c, if_pos (Int32.not_lt.mp c)]; rfl
  · simp only [if_neg h3]
    by_cases h : iabs v ≤ b
    · rw [if_pos h, if_neg (Int32.not_lt.mpr h)]
    · rw [if_neg h, if_pos (Int32.not_le.mp h)]
      by_cases k0 : kd = 0
      · simp only [k0, if_true]
      · simp only [k0, if_false]
        by_cases k1 : kd = 1
        · simp only [k1, if_true]
        · simp only [k1, if_false]
          by_cases k2 : kd = 2
          · simp only [k2, if_true]
          · simp only [k2, if_false]
            by_cases c : v < 0
            · rw [if_pos c, if_neg (Int32.not_le.mpr c)]
            · rw [if_neg c, if_pos (Int32.not_lt.mp c)]
theorem mask_has (s : List Int32) (hs : s.length = 5) (i : Nat) (hi : i < 5) : ((mask s >>> (nI i &&& 31)) &&& 1) = if s.getD i 0 = -4 then 0 else 1 := by
  match s, hs with
  | [a, b, c, d, e], _ =>
    simp only [mask, List.range, List.range.loop, List.foldl, List.getD_cons_zero, List.getD_cons_succ]
    by_cases h1 : a = -4 <;> by_cases h2 : b = -4 <;> by_cases h3 : c = -4 <;> by_cases h4 : d = -4 <;> by_cases h5 : e = -4 <;>
      rcases (show i = 0 ∨ i = 1 ∨ i = 2 ∨ i = 3 ∨ i = 4 by omega) with rfl | rfl | rfl | rfl | rfl <;>
      simp only [h1, h2, h3, h4, h5, if_true, if_false, List.getD_cons_zero, List.getD_cons_succ] <;> decide
theorem M_has (s : List Int32) (hs : s.length = 5) (i : Nat) (hi : i < 5) (w : Wd) : fX12_has (mask s) (nI i) w = some (if s.getD i 0 = -4 then 0 else 1, w) := by
  unfold fX12_has
  rw [mask_has s hs i hi]
  by_cases c : s.getD i 0 = -4
  · simp only [c, if_true]; rfl
  · simp only [c, if_false, if_true]
/-- what the reference holds of a house -/
def MH (I : Nat → Nat → Int32) (q : Nat) (FR : List F4) (PE : List P2) (CO SC : List C3) (TL : List T3) : Prop :=
  (FR.length ≤ 7 ∧ PE.length ≤ 5 ∧ CO.length ≤ 10 ∧ TL.length ≤ 8 ∧ SC.length = CO.length) ∧ (I q 0 = nI FR.length ∧ I q 2 = nI PE.length ∧ I q 4 = nI CO.length ∧ I (q + 5) 0 = nI TL.length) ∧
  (∀ k, k < FR.length → I (q + 1) (4 * k) = (FR.getD k f4).1 ∧ I (q + 1) (4 * k + 1) = (FR.getD k f4).2.1 ∧ I (q + 1) (4 * k + 2) = (FR.getD k f4).2.2.1 ∧ I (q + 1) (4 * k + 3) = (FR.getD k f4).2.2.2) ∧
  (∀ i, i < PE.length → I (q + 2) (2 * i) = (PE.getD i p2).1 ∧ I (q + 2) (2 * i + 1) = (PE.getD i p2).2) ∧
  (∀ c, c < CO.length → I (q + 3) (3 * c) = nI (CO.getD c c3).1 ∧ I (q + 3) (3 * c + 1) = (CO.getD c c3).2.1 ∧ I (q + 3) (3 * c + 2) = (CO.getD c c3).2.2) ∧
  (∀ c, c < SC.length → ∃ o, o < CO.length ∧ I (q + 4) c = nI o ∧ CO.getD o c3 = SC.getD c c3) ∧
  (∀ k, k < TL.length → I (q + 5) (1 + 3 * k) = (TL.getD k t3).1 ∧ I (q + 5) (1 + 3 * k + 1) = nI (TL.getD k t3).2.1 ∧ I (q + 5) (1 + 3 * k + 2) = (TL.getD k t3).2.2)
theorem MH.of {I J : Nat → Nat → Int32} {q : Nat} {FR : List F4} {PE : List P2} {CO SC : List C3} {TL : List T3} (d : MH I q FR PE CO SC TL) (e0 : J q 0 = I q 0) (e2 : J q 2 = I q 2) (e4 : J q 4 = I q 4) (e : ∀ p, q + 1 ≤ p → p ≤ q + 5 → J p = I p) : MH J q FR PE CO SC TL := by
  unfold MH
  rw [e0, e2, e4, e (q + 1) (by omega) (by omega), e (q + 2) (by omega) (by omega), e (q + 3) (by omega) (by omega), e (q + 4) (by omega) (by omega), e (q + 5) (by omega) (by omega)]
  exact d
section MSIM
variable {R : Nat → Nat → Option Nat} {S : Nat → Nat × Nat} {N q : Nat} {FR : List F4} {PE : List P2} {CO SC : List C3} {TL : List T3}
theorem M_madeBy (hm : isMo R S N q) {I : Nat → Nat → Int32} (d : MH I q FR PE CO SC TL) {i : Nat} (hi : i < PE.length) (v : Int32) : fX12_madeBy q (nI i) v (I, R, S, N) = some (made (PE.getD i p2).1 (PE.getD i p2).2 v, (I, R, S, N)) := by
  have d1 := d.1
  have hp := d.2.2.2.1 i hi
  simp (disch := omega) only [fX12_madeBy, Mo_3 hm, ix2, nI_i1, Mo_r3 hm, Option.bind_some, hp.1, hp.2, M_madeOf]
theorem M_beginsL (hm : isMo R S N q) (K : Wd → Option (Unit × Wd)) : ∀ (m i n : Nat) (J : Nat → Nat → Int32), i + m = 7 → m < n → ∃ J', fX12_begins_2 q K n (nI i) (J, R, S, N) = K (J', R, S, N) ∧ (∀ k, i ≤ k → k < 7 → J' (q + 15) k = J (q + 1) (4 * k + 1)) ∧ (∀ k, k < i → J' (q + 15) k = J (q + 15) k) ∧ ∀ p, p ≠ q + 15 → J' p = J p := by
  intro m
  induction m with
  | zero =>
    intro i n J hi hn
    obtain ⟨n, rfl⟩ : ∃ n', n = n' + 1 := ⟨n - 1, by omega⟩
    refine ⟨J, ?_, fun k h1 h2 => by omega, fun _ _ => rfl, fun _ _ => rfl⟩
    simp (disch := omega) only [fX12_begins_2, z7, nle]
    rw [if_pos (by omega)]
  | succ m ih =>
    intro i n J hi hn
    obtain ⟨n, rfl⟩ : ∃ n', n = n' + 1 := ⟨n - 1, by omega⟩
    obtain ⟨J', e1, e2, e3, e4⟩ := ih (i + 1) n (up1 J (q + 15) (upd (J (q + 15)) i (J (q + 1) (4 * i + 1)))) (by omega) (by omega)
    refine ⟨J', ?_, ?_, ?_, fun p hp => by rw [e4 p hp, up1_n _ _ hp]⟩
    · simp (disch := omega) only [fX12_begins_2, z7, nle, Mo_25 hm, Mo_1 hm, ix4, nI_i1, Mo_r1 hm, Mo_w25 hm, Option.bind_some, e1]
      rw [if_neg (by omega)]
    · intro k h1 h2
      by_cases e : k = i
      · subst e
        rw [e3 k (by omega), up1_s]
        simp [upd]
      · rw [e2 k (by omega) h2, up1_n _ _ (by omega)]
    · intro k hk
      rw [e3 k (by omega), up1_s]
      simp only [upd, if_neg (show ¬ k = i by omega)]
theorem M_begins (hm : isMo R S N q) {J : Nat → Nat → Int32} (d : MH J q FR PE CO SC TL) : ∃ J', fX12_begins q (J, R, S, N) = some ((), (J', R, S, N)) ∧ arr (J' (q + 15)) (pvL FR PE SC TL 0) ∧ ∀ p, p ≠ q + 15 → J' p = J p := by
  obtain ⟨J', e1, e2, e3, e4⟩ := M_beginsL (R := R) (S := S) hm (fun w => some ((), w)) 7 0 FV J (by omega) (FV_lt (by omega))
  refine ⟨J', by rw [fX12_begins, z0]; exact e1, ?_, e4⟩
  intro k hk
  have hk2 : k < FR.length := by simpa [pvL] using hk
  have d1 := d.1
  rw [e2 k (by omega) (by omega), (d.2.2.1 k hk2).2.1, gD hk, gD hk2]
  simp [pvL]
theorem M_twL (hm : isMo R S N q) (K : Wd → Option (Unit × Wd)) : ∀ (m i n : Nat) (J : Nat → Nat → Int32) (a : List Int32), i + m = FR.length → m < n → MH J q FR PE CO SC TL → arr (J (q + 15)) a → a.length = FR.length →
    ∃ J', fX12_twists_2 q K n (nI i) (J, R, S, N) = K (J', R, S, N) ∧ arr (J' (q + 15)) (twF FR i a) ∧ ∀ p, p ≠ q + 15 → J' p = J p := by
  intro m
  induction m with
  | zero =>
    intro i n J a hi hn d ha hl
    obtain ⟨n, rfl⟩ : ∃ n', n = n' + 1 := ⟨n - 1, by omega⟩
    have d1 := d.1
    refine ⟨J, ?_, by rw [twF_e hl (by omega)]; exact ha, fun _ _ => rfl⟩
    simp (disch := omega) only [fX12_twists_2, Mo_g hm, Option.bind_some, d.2.1.1, nle]
    rw [if_pos (by omega)]
  | succ m ih =>
    intro i n J a hi hn d ha hl
    obtain ⟨n, rfl⟩ : ∃ n', n = n' + 1 := ⟨n - 1, by omega⟩
    have d1 := d.1
    have hk := d.2.2.1 i (by omega)
    obtain ⟨J', e1, e2, e3⟩ := ih (i + 1) n (up1 J (q + 15) (upd (J (q + 15)) i (wth (a.getD i 0 + (FR.getD i f4).2.2.1)))) (a.set i (wth (a.getD i 0 + (FR.getD i f4).2.2.1))) (by omega) (by omega) (d.of (by rw [up1_n _ _ (by omega)]) (by rw [up1_n _ _ (by omega)]) (by rw [up1_n _ _ (by omega)]) (fun p h1 h2 => up1_n _ _ (by omega))) (by rw [up1_s]; exact ha.set _ _ (by omega)) (by simp [hl])
    refine ⟨J', ?_, by rw [← twF_s hl (by omega)]; exact e2, fun p hp => by rw [e3 p hp, up1_n _ _ hp]⟩
    simp (disch := omega) only [fX12_twists_2, Mo_g hm, Mo_25 hm, Mo_r25 hm, Mo_w25 hm, Mo_1 hm, Mo_r1 hm, ix4, nI_i2, Option.bind_some, d.2.1.1, nle, hk.2.2.1, ha i (by omega), M_within, nI_i1, e1]
    rw [if_neg (by omega)]
theorem M_twists (hm : isMo R S N q) {J : Nat → Nat → Int32} {a : List Int32} (d : MH J q FR PE CO SC TL) (ha : arr (J (q + 15)) a) (hl : a.length = FR.length) : ∃ J', fX12_twists q (J, R, S, N) = some ((), (J', R, S, N)) ∧ arr (J' (q + 15)) (twL FR a) ∧ ∀ p, p ≠ q + 15 → J' p = J p := by
  have d1 := d.1
  obtain ⟨J', e1, e2, e3⟩ := M_twL hm (fun w => some ((), w)) FR.length 0 FV J a (by omega) (FV_lt (by omega)) d ha hl
  exact ⟨J', by rw [fX12_twists, z0]; exact e1, by rw [← twF_0]; exact e2, e3⟩
theorem M_turnsBy (hm : isMo R S N q) {J : Nat → Nat → Int32} {a : List Int32} {k : Nat} (hk : k < a.length) (hl : a.length ≤ 7) (ha : arr (J (q + 15)) a) (v : Int32) : ∃ J', fX12_turnsBy q (nI k) v (J, R, S, N) = some ((), (J', R, S, N)) ∧ arr (J' (q + 15)) (tnL k v a) ∧ ∀ p, p ≠ q + 15 → J' p = J p := by
  refine ⟨up1 J (q + 15) (upd (J (q + 15)) k (wth (a.getD k 0 + v))), ?_, by rw [up1_s]; exact ha.set _ _ hk, fun p hp => up1_n _ _ hp⟩
  simp (disch := omega) only [fX12_turnsBy, Mo_25 hm, Mo_r25 hm, Mo_w25 hm, M_within, Option.bind_some, ha k hk]
theorem M_ntL (hm : isMo R S N q) (v : Int32) (K : Wd → Option (Unit × Wd)) (okt : okT FR TL) : ∀ (m i n : Nat) (J : Nat → Nat → Int32) (a : List Int32), i + m = TL.length → m < n → MH J q FR PE CO SC TL → arr (J (q + 15)) a → a.length = FR.length →
    ∃ J', fX12_nightOf_6 q v K n (nI i) (J, R, S, N) = K (J', R, S, N) ∧ arr (J' (q + 15)) (ntL (TL.drop i) v a) ∧ ∀ p, p ≠ q + 15 → J' p = J p := by
  intro m
  induction m with
  | zero =>
    intro i n J a hi hn d ha hl
    obtain ⟨n, rfl⟩ : ∃ n', n = n' + 1 := ⟨n - 1, by omega⟩
    have d1 := d.1
    refine ⟨J, ?_, by rw [List.drop_eq_nil_of_le (by omega)]; exact ha, fun _ _ => rfl⟩
    have hz : rdI (q + 5) 0 (J, R, S, N) = some (J (q + 5) 0) := by rw [z0]; exact Mo_r7 hm J (by omega)
    simp (disch := omega) only [fX12_nightOf_6, Mo_7 hm, hz, Option.bind_some, d.2.1.2.2.2, nle]
    rw [if_pos (by omega)]
  | succ m ih =>
    intro i n J a hi hn d ha hl
    obtain ⟨n, rfl⟩ : ∃ n', n = n' + 1 := ⟨n - 1, by omega⟩
    have d1 := d.1
    have hk := d.2.2.2.2.2.2 i (by omega)
    have hz : rdI (q + 5) 0 (J, R, S, N) = some (J (q + 5) 0) := by rw [z0]; exact Mo_r7 hm J (by omega)
    have hb := okt i (by omega)
    rw [dropc t3 (show i < TL.length by omega), ntL, List.foldl_cons]
    by_cases c : (TL.getD i t3).1 = v
    · obtain ⟨J1, g1, g2, g3⟩ := M_turnsBy (R := R) (S := S) hm (k := (TL.getD i t3).2.1) (by omega) (by omega) ha (TL.getD i t3).2.2
      obtain ⟨J', e1, e2, e3⟩ := ih (i + 1) n J1 (tnL (TL.getD i t3).2.1 (TL.getD i t3).2.2 a) (by omega) (by omega) (d.of (by rw [g3 _ (by omega)]) (by rw [g3 _ (by omega)]) (by rw [g3 _ (by omega)]) (fun p h1 h2 => g3 _ (by omega))) g2 (by rw [tn_len]; exact hl)
      refine ⟨J', ?_, by rw [if_pos c]; exact e2, fun p hp => by rw [e3 p hp, g3 p hp]⟩
      simp (disch := omega) only [fX12_nightOf_6, Mo_7 hm, hz, Mo_r7 hm, Mo_o hm, ix3, nI_1i, nI_i1, nI_i2, Option.bind_some, d.2.1.2.2.2, nle, hk.1, hk.2.1, hk.2.2, c, g1, e1, if_true]
      rw [if_neg (by omega)]
    · obtain ⟨J', e1, e2, e3⟩ := ih (i + 1) n J a (by omega) (by omega) d ha hl
      refine ⟨J', ?_, by rw [if_neg c]; exact e2, e3⟩
      simp (disch := omega) only [fX12_nightOf_6, Mo_7 hm, hz, Mo_r7 hm, ix3, nI_1i, nI_i1, Option.bind_some, d.2.1.2.2.2, nle, hk.1, c, e1, if_false]
      rw [if_neg (by omega)]
theorem M_nightOf (hm : isMo R S N q) (okt : okT FR TL) (v : Int32) {J : Nat → Nat → Int32} {a : List Int32} (d : MH J q FR PE CO SC TL) (ha : arr (J (q + 15)) a) (hl : a.length = FR.length) : ∃ J', fX12_nightOf q v (J, R, S, N) = some ((), (J', R, S, N)) ∧ arr (J' (q + 15)) (ntL TL v (twL FR a)) ∧ ∀ p, p ≠ q + 15 → J' p = J p := by
  have d1 := d.1
  obtain ⟨J1, g1, g2, g3⟩ := M_twists hm d ha hl
  obtain ⟨J', e1, e2, e3⟩ := M_ntL hm v (fun w => some ((), w)) okt TL.length 0 FV J1 (twL FR a) (by omega) (FV_lt (by omega)) (d.of (by rw [g3 _ (by omega)]) (by rw [g3 _ (by omega)]) (by rw [g3 _ (by omega)]) (fun p h1 h2 => g3 _ (by omega))) g2 (tw_len a)
  refine ⟨J', ?_, e2, fun p hp => by rw [e3 p hp, g3 p hp]⟩
  simp only [fX12_nightOf, Mo_o hm, g1, Option.bind_some, z0]
  exact e1
end MSIM
