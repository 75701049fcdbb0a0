/-! fewest -/
noncomputable def pif (p : Prop) (x y : Int32) : Int32 := @ite _ p (Classical.propDecidable p) x y
theorem pif_pos {p : Prop} {x y : Int32} (h : p) : pif p x y = x := if_pos h
theorem pif_neg {p : Prop} {x y : Int32} (h : ¬ p) : pif p x y = y := if_neg h
noncomputable def aFew (FR : List F4) (PE : List P2) (SC : List C3) (TL : List T3) (v1 v2 : Int32) : Int32 := match ix v1 (2 ^ PE.length), ix v2 31 with
  | some _, some d =>
    pif (Sup (mkA FR PE SC (dwL FR PE SC TL d)) v1) 0
    (pif (∃ t, t < 40 * FR.length ∧ Sup (mkA FR PE SC (ttL FR.length t (dwL FR PE SC TL d))) v1) 1
    (pif (∃ t u, t < 40 * FR.length ∧ u < 40 * FR.length ∧ Sup (mkA FR PE SC (ttL FR.length u (ttL FR.length t (dwL FR PE SC TL d)))) v1) 2 (-4)))
  | _, _ => -1
section PURE2
variable {FR : List F4} {PE : List P2} {SC : List C3} {al : Nat → Nat} {a : List Int32}
theorem gen1 (ok : okP PE) (okc : okC PE SC) (g : GoodU PE al 41) (hA : allA a) (hl : a.length = FR.length) {k m : Nat} {Q : List Nat} (hQ : RQ FR SC al a m k Q) (P : List Int32 → Prop) : (∃ r, r ∈ Q ∧ P (mnL FR PE SC (a.set k (nI r))).2) ↔ ent FR SC k ∧ ∃ i, kvO (a.getD k 0) - m ≤ i ∧ i ≤ min 80 (kvO (a.getD k 0) + m) ∧ P (mnL FR PE SC (a.set k (nI i - 40))).2 := by
  constructor
  · rintro ⟨r, h1, h2⟩
    obtain ⟨he, i, i1, i2, rfl⟩ := (hQ r).mp h1
    rw [mn_reach ok okc g hA hl (show i < 81 by omega) _ rfl] at h2
    exact ⟨he, i, i1, i2, h2⟩
  · rintro ⟨he, i, i1, i2, h⟩
    refine ⟨al (dN i), (hQ _).mpr ⟨he, i, i1, i2, rfl⟩, ?_⟩
    rw [mn_reach ok okc g hA hl (show i < 81 by omega) _ rfl]
    exact h
theorem gen2 (ok : okP PE) (okc : okC PE SC) (g : GoodU PE al 41) (hA : allA a) (hl : a.length = FR.length) {j k m : Nat} (hjk : j ≠ k) {Q Q' : List Nat} (hQ : RQ FR SC al a m j Q) (hQ' : RQ FR SC al a m k Q') (P : List Int32 → Prop) : (∃ r r', r ∈ Q ∧ r' ∈ Q' ∧ P (mnL FR PE SC ((a.set j (nI r)).set k (nI r'))).2) ↔ ent FR SC j ∧ ent FR SC k ∧ ∃ i i', (kvO (a.getD j 0) - m ≤ i ∧ i ≤ min 80 (kvO (a.getD j 0) + m)) ∧ (kvO (a.getD k 0) - m ≤ i' ∧ i' ≤ min 80 (kvO (a.getD k 0) + m)) ∧ P (mnL FR PE SC ((a.set j (nI i - 40)).set k (nI i' - 40))).2 := by
  have key : ∀ i i', i < 81 → i' < 81 → (mnL FR PE SC ((a.set j (nI (al (dN i)))).set k (nI (al (dN i'))))).2 = (mnL FR PE SC ((a.set j (nI i - 40)).set k (nI i' - 40))).2 := by
    intro i i' hi hi'
    have hd := dN_le hi
    have g1 := (g (dN i) (by omega)).1
    have n2 := (abN_nI (al (dN i)) (by omega)).2
    rw [mn_reach ok okc g (allA_set hA j n2) (by rw [List.length_set]; exact hl) hi' _ rfl, List.set_comm _ _ hjk, List.set_comm _ _ hjk]
    exact mn_reach ok okc g (allA_set hA k ⟨i', hi', rfl⟩) (by rw [List.length_set]; exact hl) hi _ rfl
  constructor
  · rintro ⟨r, r', h1, h2, h3⟩
    obtain ⟨he, i, i1, i2, rfl⟩ := (hQ r).mp h1
    obtain ⟨he', i', i1', i2', rfl⟩ := (hQ' r').mp h2
    rw [key i i' (by omega) (by omega)] at h3
    exact ⟨he, he', i, i', ⟨i1, i2⟩, ⟨i1', i2'⟩, h3⟩
  · rintro ⟨he, he', i, i', ⟨i1, i2⟩, ⟨i1', i2'⟩, h3⟩
    refine ⟨al (dN i), al (dN i'), (hQ _).mpr ⟨he, i, i1, i2, rfl⟩, (hQ' _).mpr ⟨he', i', i1', i2', rfl⟩, ?_⟩
    rw [key i i' (by omega) (by omega)]
    exact h3
theorem few1 (ok : okP PE) (okc : okC PE SC) (g : GoodU PE al 41) (hA : allA a) (hl : a.length = FR.length) (h1 : 0 < FR.length) (h7 : FR.length ≤ 7) {Qs : Nat → List Nat} (hQ : ∀ k, k < FR.length → RQ FR SC al a 20 k (Qs k)) (P : List Int32 → Prop) (hn : ¬ P (mnL FR PE SC a).2) : (∃ k, k < FR.length ∧ ∃ r, r ∈ Qs k ∧ P (mnL FR PE SC (a.set k (nI r))).2) ↔ ∃ t, t < 40 * FR.length ∧ P (mnL FR PE SC (ttL FR.length t a)).2 := by
  constructor
  · rintro ⟨k, hk, z⟩
    obtain ⟨he, z | ⟨v, d1, z⟩⟩ := (one1 ok okc g hA hl hk (hQ k hk) P).mp z
    · exact absurd z hn
    · obtain ⟨t, t1, t2⟩ := tt_sur h1 h7 hk d1
      exact ⟨t, t1, by rw [t2]; exact z⟩
  · rintro ⟨t, ht, z⟩
    obtain ⟨t1, t2⟩ := tt_in h1 ht
    have z' : P (mnL FR PE SC (tnL (t / 2 % FR.length) (byI FR.length t) a)).2 := z
    by_cases he : ent FR SC (t / 2 % FR.length)
    · exact ⟨_, t1, (one1 ok okc g hA hl t1 (hQ _ t1) P).mpr ⟨he, Or.inr ⟨_, t2, z'⟩⟩⟩
    · have := mn_unent ok okc g hA hl t1 (wth_okA (a.getD (t / 2 % FR.length) 0 + byI FR.length t)) he
      unfold tnL at z'
      rw [this] at z'
      exact absurd z' hn
theorem few2 (ok : okP PE) (okc : okC PE SC) (g : GoodU PE al 41) (hA : allA a) (hl : a.length = FR.length) (h1 : 0 < FR.length) (h7 : FR.length ≤ 7) {Qs : Nat → List Nat} (hQ : ∀ k, k < FR.length → RQ FR SC al a 20 k (Qs k)) (P : List Int32 → Prop) (hn : ¬ P (mnL FR PE SC a).2) (hn1 : ¬ ∃ t, t < 40 * FR.length ∧ P (mnL FR PE SC (ttL FR.length t a)).2) :
    ((∃ j k, j < k ∧ k < FR.length ∧ ∃ r r', r ∈ Qs j ∧ r' ∈ Qs k ∧ P (mnL FR PE SC ((a.set j (nI r)).set k (nI r'))).2) ∨ (∃ k, k < FR.length ∧ ent FR SC k ∧ ∃ i, kvO (a.getD k 0) - 40 ≤ i ∧ i ≤ min 80 (kvO (a.getD k 0) + 40) ∧ P (mnL FR PE SC (a.set k (nI i - 40))).2)) ↔ ∃ t u, t < 40 * FR.length ∧ u < 40 * FR.length ∧ P (mnL FR PE SC (ttL FR.length u (ttL FR.length t a))).2 := by
  have hn1' : ∀ k v, k < FR.length → isD v → ¬ P (mnL FR PE SC (tnL k v a)).2 := fun k v hk hv z => by
    obtain ⟨t, t1, t2⟩ := tt_sur h1 h7 hk hv
    exact hn1 ⟨t, t1, by rw [t2]; exact z⟩
  have tgt : ∀ j k v u, j < FR.length → k < FR.length → isD v → isD u → P (mnL FR PE SC (tnL k u (tnL j v a))).2 → ∃ t u, t < 40 * FR.length ∧ u < 40 * FR.length ∧ P (mnL FR PE SC (ttL FR.length u (ttL FR.length t a))).2 := by
    intro j k v u hj hk hv hu z
    obtain ⟨t, t1, t2⟩ := tt_sur h1 h7 hj hv
    obtain ⟨s, s1, s2⟩ := tt_sur h1 h7 hk hu
    exact ⟨t, s, t1, s1, by rw [t2, s2]; exact z⟩
  constructor
  · rintro (⟨j, k, hjk, hk, z⟩ | ⟨k, hk, he, i, i1, i2, z⟩)
    · obtain ⟨he, he', i, i', ⟨i1, i2⟩, ⟨i3, i4⟩, z⟩ := (gen2 ok okc g hA hl (show j ≠ k by omega) (hQ j (by omega)) (hQ k hk) P).mp z
      obtain ⟨ej, vj⟩ := kvO_e (hA j (by omega))
      obtain ⟨ek, vk⟩ := kvO_e (hA k (by omega))
      by_cases c1 : i = kvO (a.getD j 0)
      · rw [c1, ← ej, set_same (by omega)] at z
        by_cases c2 : i' = kvO (a.getD k 0)
        · rw [c2, ← ek, set_same (by omega)] at z
          exact absurd z hn
        · obtain ⟨v, d1, d2⟩ := one_fr vk i3 i4 c2
          rw [← d2, ← ek] at z
          exact absurd z (hn1' k v hk d1)
      · obtain ⟨v, d1, d2⟩ := one_fr vj i1 i2 c1
        rw [← d2, ← ej] at z
        have e5 : (tnL j v a).getD k 0 = a.getD k 0 := by
          unfold tnL
          rw [gDset (by omega), if_neg (by omega)]
        by_cases c2 : i' = kvO (a.getD k 0)
        · rw [c2, ← ek] at z
          have z2 : P (mnL FR PE SC ((tnL j v a).set k (a.getD k 0))).2 := z
          rw [← e5, set_same (by rw [tn_len]; omega)] at z2
          exact absurd z2 (hn1' j v (by omega) d1)
        · obtain ⟨u, d3, d4⟩ := one_fr vk i3 i4 c2
          rw [← d4, ← ek] at z
          have z2 : P (mnL FR PE SC ((tnL j v a).set k (wth (a.getD k 0 + u)))).2 := z
          rw [← e5] at z2
          exact tgt j k v u (by omega) hk d1 d3 z2
    · obtain ⟨ek, vk⟩ := kvO_e (hA k (by omega))
      obtain ⟨v, u, d1, d2, d3⟩ := two_fr vk i1 i2
      refine tgt k k v u hk hk d1 d2 ?_
      unfold tnL
      rw [gDset (by omega), if_pos rfl, List.set_set]
      rw [← d3, ← ek] at z
      exact z
  · rintro ⟨t, s, ht, hs, z⟩
    obtain ⟨t1, t2⟩ := tt_in h1 ht
    obtain ⟨s1, s2⟩ := tt_in h1 hs
    have z' : P (mnL FR PE SC (tnL (s / 2 % FR.length) (byI FR.length s) (tnL (t / 2 % FR.length) (byI FR.length t) a))).2 := z
    generalize t / 2 % FR.length = j at t1 z'
    generalize s / 2 % FR.length = k at s1 z'
    generalize byI FR.length t = v at t2 z'
    generalize byI FR.length s = u at s2 z'
    obtain ⟨ej, vj⟩ := kvO_e (hA j (by omega))
    obtain ⟨ek, vk⟩ := kvO_e (hA k (by omega))
    by_cases c : j = k
    · subst c
      have z2 : P (mnL FR PE SC (a.set j (wth (wth (a.getD j 0 + v) + u)))).2 := by
        unfold tnL at z'
        rw [gDset (by omega), if_pos rfl, List.set_set] at z'
        exact z'
      by_cases he : ent FR SC j
      · obtain ⟨i, i1, i2, i3⟩ := two_to vj t2 s2
        rw [← ej] at i3
        rw [i3] at z2
        exact Or.inr ⟨j, t1, he, i, i1, i2, z2⟩
      · rw [mn_unent ok okc g hA hl t1 (wth_okA _) he] at z2
        exact absurd z2 hn
    · have z2 : P (mnL FR PE SC ((a.set j (wth (a.getD j 0 + v))).set k (wth (a.getD k 0 + u)))).2 := by
        unfold tnL at z'
        rw [gDset (by omega), if_neg (fun e => c e.symm)] at z'
        exact z'
      have z3 := z2
      rw [List.set_comm _ _ c] at z3
      by_cases he : ent FR SC j
      · by_cases he' : ent FR SC k
        · obtain ⟨i, i1, i2, i3⟩ := one_to vj t2
          obtain ⟨i', i1', i2', i3'⟩ := one_to vk s2
          rw [← ej] at i3
          rw [← ek] at i3'
          rw [i3, i3'] at z2 z3
          left
          by_cases cl : j < k
          · exact ⟨j, k, cl, s1, (gen2 ok okc g hA hl c (hQ j t1) (hQ k s1) P).mpr ⟨he, he', i, i', ⟨i1, i2⟩, ⟨i1', i2'⟩, z2⟩⟩
          · exact ⟨k, j, by omega, t1, (gen2 ok okc g hA hl (fun e => c e.symm) (hQ k s1) (hQ j t1) P).mpr ⟨he', he, i', i, ⟨i1', i2'⟩, ⟨i1, i2⟩, z3⟩⟩
        · rw [mn_unent ok okc g (allA_set hA j (wth_okA _)) (by rw [List.length_set]; exact hl) s1 (wth_okA _) he'] at z2
          exact absurd z2 (hn1' j v t1 t2)
      · rw [mn_unent ok okc g (allA_set hA k (wth_okA _)) (by rw [List.length_set]; exact hl) t1 (wth_okA _) he] at z3
        exact absurd z3 (hn1' k u s1 s2)
end PURE2
