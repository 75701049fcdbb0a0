/-! the reference's order of the comings, and its lay -/
def ordOK (J : Nat → Nat → Int32) (q : Nat) (CO L : List C3) : Prop := ∀ c, c < L.length → ∃ o, o < CO.length ∧ J (q + 4) c = nI o ∧ CO.getD o c3 = L.getD c c3
def pfx (CO : List C3) (h k : Nat) : List C3 := bkN CO h ++ (CO.take k).filter (fun c => decide (c.2.1 = nI h))
theorem pfx_0 (CO : List C3) (h : Nat) : pfx CO h 0 = bkN CO h := by unfold pfx; rw [List.take_zero, List.filter_nil, List.append_nil]
theorem pfx_n (CO : List C3) (h : Nat) : pfx CO h CO.length = bkN CO (h + 1) := by unfold pfx; rw [List.take_length, bkN_s]
theorem pfx_s {CO : List C3} {h k : Nat} (hk : k < CO.length) : pfx CO h (k + 1) = if (CO.getD k c3).2.1 = nI h then pfx CO h k ++ [CO.getD k c3] else pfx CO h k := by
  unfold pfx
  have e : CO.take (k + 1) = CO.take k ++ [CO.getD k c3] := by rw [gD hk, List.take_succ_eq_append_getElem hk]
  rw [e, List.filter_append]
  by_cases c : (CO.getD k c3).2.1 = nI h
  · rw [if_pos c, List.filter_cons, if_pos (by simpa using c), List.filter_nil, List.append_assoc]
  · rw [if_neg c, List.filter_cons, if_neg (by simpa using c), List.filter_nil, List.append_nil]
theorem pfx_le {CO : List C3} {h k : Nat} (hp : (bkt CO).Perm CO) (h24 : h < 24) (hk : k ≤ CO.length) : (pfx CO h k).length ≤ CO.length := by
  have e : bkt CO = bkN CO (h + 1) ++ bkM CO (h + 1) (23 - h) := by
    unfold bkt
    rw [show 24 = (h + 1) + (23 - h) by omega, bk_split]
  have e2 : (bkt CO).length = CO.length := hp.length_eq
  rw [e, List.length_append, bkN_s, List.length_append] at e2
  have e3 : CO.filter (fun c => decide (c.2.1 = nI h)) = (CO.take k).filter (fun c => decide (c.2.1 = nI h)) ++ (CO.drop k).filter (fun c => decide (c.2.1 = nI h)) := by rw [← List.filter_append, List.take_append_drop]
  rw [e3, List.length_append] at e2
  unfold pfx
  rw [List.length_append]
  omega
section MLAY
variable {R : Nat → Nat → Option Nat} {S : Nat → Nat × Nat} {N q : Nat} {tx : List Int32} {CO SC : List C3} {I : Nat → Nat → Int32} {FR : List F4} {PE : List P2} {TL : List T3} {UL KL : List (List T3)} {SN : List P2}
def coAt (J : Nat → Nat → Int32) (q : Nat) (CO : List C3) : Prop := CO.length ≤ 10 ∧ J q 4 = nI CO.length ∧ ∀ c, c < CO.length → J (q + 3) (3 * c + 1) = (CO.getD c c3).2.1
theorem M_orI (hm : isMo R S N q) (hp : (bkt CO).Perm CO) {h : Nat} (h24 : h < 24) (K : Int32 → Wd → Option (Unit × Wd)) : ∀ (m k f : Nat) (J : Nat → Nat → Int32), k + m = CO.length → m < f → coAt J q CO → ordOK J q CO (pfx CO h k) → ∃ J', fX12_orders_12 q (nI h) K f (nI (pfx CO h k).length) (nI k) (J, R, S, N) = K (nI (pfx CO h CO.length).length) (J', R, S, N) ∧ ordOK J' q CO (pfx CO h CO.length) ∧ ∀ p, p ≠ q + 4 → J' p = J p := by
  intro m
  induction m with
  | zero =>
    intro k f J hk hf d o
    obtain ⟨f, rfl⟩ : ∃ n', f = n' + 1 := ⟨f - 1, by omega⟩
    have ek : k = CO.length := by omega
    subst ek
    refine ⟨J, ?_, o, fun _ _ => rfl⟩
    have d0 := d.1
    rw [fX12_orders_12, Mo_g hm, bS, d.2.1, if_pos (nI_le (by omega) (by omega))]
  | succ m ih =>
    intro k f J hk hf d o
    obtain ⟨f, rfl⟩ : ∃ n', f = n' + 1 := ⟨f - 1, by omega⟩
    have d0 := d.1
    have hkl : k < CO.length := by omega
    have r1 : rdI (q + 3) (nI (3 * k + 1)) (J, R, S, N) = some ((CO.getD k c3).2.1) := by rw [← d.2.2 k hkl]; exact Mo_r5 hm J (by omega)
    rw [fX12_orders_12, Mo_g hm, bS, d.2.1, if_neg (nI_ge (by omega) (by omega)), Mo_5 hm, bS, ix3, nI_i1, r1, bS]
    have hle := pfx_le hp h24 (show k + 1 ≤ CO.length by omega)
    have hs := pfx_s (h := h) hkl
    by_cases c : (CO.getD k c3).2.1 = nI h
    · rw [if_pos c] at hs
      rw [hs, List.length_append, List.length_singleton] at hle
      obtain ⟨J1, hJ1⟩ : ∃ J1, J1 = up1 J (q + 4) (upd (J (q + 4)) (pfx CO h k).length (nI k)) := ⟨_, rfl⟩
      have w1 : wrI (q + 4) (nI (pfx CO h k).length) (nI k) (J, R, S, N) = some (J1, R, S, N) := by rw [hJ1]; exact Mo_w6 hm J _ (by omega)
      have f1 : ∀ p, p ≠ q + 4 → J1 p = J p := fun p a => by rw [hJ1, up1_n _ _ a]
      have y1 : J1 (q + 4) = upd (J (q + 4)) (pfx CO h k).length (nI k) := by rw [hJ1, up1_s]
      obtain ⟨J', e1, e2, e3⟩ := ih (k + 1) f J1 (by omega) (by omega) (by unfold coAt; rw [f1 q (by omega), f1 (q + 3) (by omega)]; exact d) (by
        intro j hj
        rw [hs] at hj ⊢
        rw [List.length_append, List.length_singleton] at hj
        rw [y1]
        by_cases e : j = (pfx CO h k).length
        · subst e
          rw [gDlast]
          exact ⟨k, hkl, by simp [upd], rfl⟩
        · rw [gDapp (by omega)]
          simp only [upd, if_neg e]
          exact o j (by omega))
      rw [hs, List.length_append, List.length_singleton] at e1
      refine ⟨J', ?_, e2, fun p a => by rw [e3 p a, f1 p a]⟩
      rw [if_pos c, Mo_6 hm, bS, w1, bS, nI_i1, nI_i1]
      exact e1
    · rw [if_neg c] at hs
      obtain ⟨J', e1, e2, e3⟩ := ih (k + 1) f J (by omega) (by omega) d (by rw [hs]; exact o)
      rw [hs] at e1
      refine ⟨J', ?_, e2, e3⟩
      rw [if_neg c, nI_i1]
      exact e1
theorem M_orO (hm : isMo R S N q) (hp : (bkt CO).Perm CO) (K : Wd → Option (Unit × Wd)) : ∀ (m h f : Nat) (J : Nat → Nat → Int32), h + m = 24 → m < f → coAt J q CO → ordOK J q CO (bkN CO h) → ∃ J', fX12_orders_4 q K f (nI (bkN CO h).length) (nI h) (J, R, S, N) = K (J', R, S, N) ∧ ordOK J' q CO (bkt CO) ∧ ∀ p, p ≠ q + 4 → J' p = J p := by
  intro m
  induction m with
  | zero =>
    intro h f J hh hf d o
    obtain ⟨f, rfl⟩ : ∃ n', f = n' + 1 := ⟨f - 1, by omega⟩
    have eh : h = 24 := by omega
    subst eh
    refine ⟨J, ?_, o, fun _ _ => rfl⟩
    rw [fX12_orders_4, if_pos (by rw [z24]; exact nI_le (by omega) (by omega))]
  | succ m ih =>
    intro h f J hh hf d o
    obtain ⟨f, rfl⟩ : ∃ n', f = n' + 1 := ⟨f - 1, by omega⟩
    have d0 := d.1
    obtain ⟨J1, e1, e2, e3⟩ := M_orI (R := R) (S := S) (N := N) hm hp (show h < 24 by omega) (fun (v1_10 : Int32) (w_9 : Wd) => fX12_orders_4 q K f v1_10 (nI h + (1 : Int32)) w_9) CO.length 0 FV J (by omega) (FV_lt (by omega)) d (by rw [pfx_0]; exact o)
    rw [pfx_0, pfx_n, ← z0] at e1
    rw [pfx_n] at e2
    obtain ⟨J', g1, g2, g3⟩ := ih (h + 1) f J1 (by omega) (by omega) (by unfold coAt; rw [e3 q (by omega), e3 (q + 3) (by omega)]; exact d) e2
    refine ⟨J', ?_, g2, fun p a => by rw [g3 p a, e3 p a]⟩
    rw [fX12_orders_4, if_neg (by rw [z24]; exact nI_ge (by omega) (by omega)), e1, nI_i1]
    exact g1
theorem M_orders (hm : isMo R S N q) (hp : (bkt CO).Perm CO) {J : Nat → Nat → Int32} (d : coAt J q CO) : ∃ J', fX12_orders q (J, R, S, N) = some ((), (J', R, S, N)) ∧ ordOK J' q CO (bkt CO) ∧ ∀ p, p ≠ q + 4 → J' p = J p := by
  have e0 : bkN CO 0 = [] := rfl
  obtain ⟨J', e1, e2, e3⟩ := M_orO (R := R) (S := S) (N := N) hm hp (fun (w_11 : Wd) => some ((), w_11)) 24 0 FV J (by omega) (FV_lt (by omega)) d (by rw [e0]; intro c hc; simp at hc)
  rw [e0] at e1
  exact ⟨J', e1, e2, e3⟩
theorem FT.md {J J' : Nat → Nat → Int32} (h : FT J J' q) (d : MD J q tx FR PE CO SC TL UL KL SN) : MD J' q tx FR PE CO SC TL UL KL SN := d.of (fun j hj => h.2 j (by omega) (by omega) (by omega) (by omega)) (fun p a b => h.1 p (by omega) (by omega))
theorem MM_fault (hm : isMo R S N q) (d : MD I q tx FR PE CO SC TL UL KL SN) : ∃ J, fX12_fault q (I, R, S, N) = some (aFault tx, (J, R, S, N)) ∧ MD J q tx FR PE CO SC TL UL KL SN ∧ ∀ p, (p < q ∨ q + 20 < p) → J p = I p := by
  obtain ⟨J, e1, e2, -⟩ := MM_faultF (R := R) (S := S) (N := N) hm (show MT I q tx from d.2.1)
  exact ⟨J, e1, e2.md d, fun p hp => e2.1 p (by omega) (by omega)⟩
theorem MM_lay (hm : isMo R S N q) (d : MD I q tx FR PE CO SC TL UL KL SN) : ∃ J, fX12_lay q (I, R, S, N) = some (aLay tx, (J, R, S, N)) ∧ ((aLayS tx = none ∧ MD J q tx FR PE CO SC TL UL KL SN) ∨ (∃ hs, aLayS tx = some hs ∧ MD J q tx hs.1 hs.2.1 hs.2.2.1 (bkt hs.2.2.1) hs.2.2.2 [] [] [])) ∧ ∀ p, (p < q ∨ q + 20 < p) → J p = I p := by
  obtain ⟨J, e1, e2, e3⟩ := MM_faultF (R := R) (S := S) (N := N) hm (show MT I q tx from d.2.1)
  have htx := d.2.1.1
  have fJ : ∀ p, (p < q ∨ q + 20 < p) → J p = I p := fun p hp => e2.1 p (by omega) (by omega)
  rw [fX12_lay, Mo_o hm, bS, e1, bS]
  cases hp : prsA tx with
  | inl k =>
    have hn : aLayS tx = none := by unfold aLayS; rw [hp]
    have hne : ¬ aFault tx = -4 := fun z => by
      obtain ⟨hs, z⟩ := (aFault_4 tx htx).mp z
      rw [hp] at z
      cases z
    refine ⟨J, ?_, Or.inl ⟨hn, e2.md d⟩, fJ⟩
    unfold aLay
    rw [hn]
    exact if_neg hne
  | inr hs =>
    have hf4 : aFault tx = -4 := (aFault_4 tx htx).mpr ⟨hs, hp⟩
    have dR := e3 hs hp
    have okh : okHS hs := prs_ok tx _ _ _ _ okHS_0 hp
    have okl := okh.1
    have hpm := okHS_p okh
    show ∃ J', (if aFault tx = -4 then _ else _) = _ ∧ _
    rw [if_pos hf4, Mo_g hm, bS, dR.1.1]
    by_cases c : hs.1.length = 0
    · have hn : aLayS tx = none := by unfold aLayS; rw [hp]; exact if_pos c
      refine ⟨J, ?_, Or.inl ⟨hn, e2.md d⟩, fJ⟩
      unfold aLay
      rw [hn]
      exact if_pos (by rw [c]; exact z0.symm)
    · have hn : aLayS tx = some hs := by unfold aLayS; rw [hp]; exact if_neg c
      rw [if_neg (nI_ne0 (by omega) (by omega)), bS]
      obtain ⟨J1, hJ1⟩ : ∃ J1, J1 = up1 J q (upd (J q) 0 (nI hs.1.length)) := ⟨_, rfl⟩
      obtain ⟨J2, hJ2⟩ : ∃ J2, J2 = up1 J1 q (upd (J1 q) 2 (nI hs.2.1.length)) := ⟨_, rfl⟩
      obtain ⟨J3, hJ3⟩ : ∃ J3, J3 = up1 J2 q (upd (J2 q) 4 (nI hs.2.2.1.length)) := ⟨_, rfl⟩
      have w1 : pfI 11 0 q (nI hs.1.length) (J, R, S, N) = some (J1, R, S, N) := by rw [hJ1]; exact Mo_p hm J _ _
      have w2 : pfI 11 2 q (nI hs.2.1.length) (J1, R, S, N) = some (J2, R, S, N) := by rw [hJ2]; exact Mo_p hm J1 _ _
      have w3 : pfI 11 4 q (nI hs.2.2.1.length) (J2, R, S, N) = some (J3, R, S, N) := by rw [hJ3]; exact Mo_p hm J2 _ _
      have x1 : J1 q 20 = nI hs.2.1.length := by rw [hJ1, up1_s]; simp only [upd, if_neg (show ¬ 20 = 0 by omega)]; exact dR.1.2.1
      have x2 : J2 q 22 = nI hs.2.2.1.length := by rw [hJ2, up1_s]; simp only [upd, if_neg (show ¬ 22 = 2 by omega)]; rw [hJ1, up1_s]; simp only [upd, if_neg (show ¬ 22 = 0 by omega)]; exact dR.1.2.2
      have y3 : J3 q = upd (upd (upd (J q) 0 (nI hs.1.length)) 2 (nI hs.2.1.length)) 4 (nI hs.2.2.1.length) := by rw [hJ3, up1_s, hJ2, up1_s, hJ1, up1_s]
      have f3 : ∀ p, p ≠ q → J3 p = J p := fun p a => by rw [hJ3, up1_n _ _ a, hJ2, up1_n _ _ a, hJ1, up1_n _ _ a]
      obtain ⟨J4, a1, a2, -, a4⟩ := M_put (R := R) (Mo_A1 hm) (Mo_A11 hm) (by omega) (by omega) (by omega) (show 0 + 28 ≤ 28 by omega) (show 28 ≤ 28 by omega) z0 z28 J3
      obtain ⟨J5, b1, b2, -, b4⟩ := M_put (R := R) (Mo_A2 hm) (Mo_A12 hm) (by omega) (by omega) (by omega) (show 0 + 10 ≤ 10 by omega) (show 10 ≤ 10 by omega) z0 z10 J4
      obtain ⟨J6, c1, c2, -, c4⟩ := M_put (R := R) (Mo_A3 hm) (Mo_A13 hm) (by omega) (by omega) (by omega) (show 0 + 30 ≤ 30 by omega) (show 30 ≤ 30 by omega) z0 z30 J5
      obtain ⟨J7, g1, g2, -, g4⟩ := M_put (R := R) (Mo_A5 hm) (Mo_A14 hm) (by omega) (by omega) (by omega) (show 0 + 25 ≤ 25 by omega) (show 25 ≤ 25 by omega) z0 z25 J6
      have f7 : ∀ p, p ≠ q + 1 → p ≠ q + 2 → p ≠ q + 3 → p ≠ q + 5 → J7 p = J3 p := fun p h1 h2 h3 h4 => by rw [g4 p h4, c4 p h3, b4 p h2, a4 p h1]
      have e7a : ∀ j, j < 28 → J7 (q + 1) j = J (q + 11) j := fun j hj => by rw [g4 _ (by omega), c4 _ (by omega), b4 _ (by omega)]; have := a2 j hj; rw [Nat.zero_add] at this; rw [this, f3 _ (by omega)]
      have e7b : ∀ j, j < 10 → J7 (q + 2) j = J (q + 12) j := fun j hj => by rw [g4 _ (by omega), c4 _ (by omega)]; have := b2 j hj; rw [Nat.zero_add] at this; rw [this, a4 _ (by omega), f3 _ (by omega)]
      have e7c : ∀ j, j < 30 → J7 (q + 3) j = J (q + 13) j := fun j hj => by rw [g4 _ (by omega)]; have := c2 j hj; rw [Nat.zero_add] at this; rw [this, b4 _ (by omega), a4 _ (by omega), f3 _ (by omega)]
      have e7d : ∀ j, j < 25 → J7 (q + 5) j = J (q + 14) j := fun j hj => by have := g2 j hj; rw [Nat.zero_add] at this; rw [this, c4 _ (by omega), b4 _ (by omega), a4 _ (by omega), f3 _ (by omega)]
      have x7 : J7 q = J3 q := f7 q (by omega) (by omega) (by omega) (by omega)
      obtain ⟨J8, o1, o2, o3⟩ := M_orders (R := R) (S := S) (N := N) (CO := hs.2.2.1) (J := J7) hm hpm ⟨by omega, by rw [x7, y3]; simp [upd], fun k hk => by rw [e7c _ (by omega)]; exact (dR.2.2.2.1 k hk).2.1⟩
      obtain ⟨J9, hJ9⟩ : ∃ J9, J9 = up1 J8 q (upd (J8 q) 8 0) := ⟨_, rfl⟩
      obtain ⟨J10, hJ10⟩ : ∃ J10, J10 = up1 J9 q (upd (J9 q) 10 0) := ⟨_, rfl⟩
      obtain ⟨J11, hJ11⟩ : ∃ J11, J11 = up1 J10 q (upd (J10 q) 12 0) := ⟨_, rfl⟩
      have w9 : pfI 11 8 q 0 (J8, R, S, N) = some (J9, R, S, N) := by rw [hJ9]; exact Mo_p hm J8 _ _
      have w10 : pfI 11 10 q 0 (J9, R, S, N) = some (J10, R, S, N) := by rw [hJ10]; exact Mo_p hm J9 _ _
      have w11 : pfI 11 12 q 0 (J10, R, S, N) = some (J11, R, S, N) := by rw [hJ11]; exact Mo_p hm J10 _ _
      have f11 : ∀ p, p ≠ q → J11 p = J8 p := fun p a => by rw [hJ11, up1_n _ _ a, hJ10, up1_n _ _ a, hJ9, up1_n _ _ a]
      have y11 : J11 q = upd (upd (upd (J3 q) 8 0) 10 0) 12 0 := by rw [hJ11, up1_s, hJ10, up1_s, hJ9, up1_s, o3 q (by omega), x7]
      have q0 : J11 q 0 = nI hs.1.length := by rw [y11, y3]; simp [upd]
      refine ⟨J11, ?_, Or.inr ⟨hs, hn, ⟨⟨okl.1, okl.2.1, okl.2.2.1, okl.2.2.2, okHS_l okh⟩, ⟨q0, by rw [y11, y3]; simp [upd], by rw [y11, y3]; simp [upd], ?_⟩, ?_, ?_, ?_, ?_, ?_⟩, ?_, ?_, ?_, ?_⟩, ?_⟩
      · unfold aLay
        rw [hn, w1, bS, Mo_g hm, bS, x1, w2, bS, Mo_g hm, bS, x2, w3, bS]
        simp only [Mo_1 hm, Mo_19 hm, Mo_3 hm, Mo_21 hm, Mo_5 hm, Mo_23 hm, Mo_7 hm, Mo_24 hm, Mo_o hm, Mo_g hm, bS, a1, b1, c1, g1, o1, w9, w10, w11, q0]
      · rw [f11 _ (by omega), o3 _ (by omega), e7d 0 (by omega)]; exact dR.2.2.2.2.2.1
      · intro k hk
        rw [f11 _ (by omega), o3 _ (by omega), e7a _ (by omega), e7a _ (by omega), e7a _ (by omega), e7a _ (by omega)]
        exact dR.2.1 k hk
      · intro k hk
        rw [f11 _ (by omega), o3 _ (by omega), e7b _ (by omega), e7b _ (by omega)]
        exact dR.2.2.1 k hk
      · intro k hk
        rw [f11 _ (by omega), o3 _ (by omega), e7c _ (by omega), e7c _ (by omega), e7c _ (by omega)]
        exact dR.2.2.2.1 k hk
      · intro k hk
        rw [f11 _ (by omega)]
        exact o2 k hk
      · intro k hk
        rw [f11 _ (by omega), o3 _ (by omega), e7d _ (by omega), e7d _ (by omega), e7d _ (by omega)]
        exact dR.2.2.2.2.2.2 k hk
      · have := d.2.1
        rw [f11 (q + 9) (by omega), o3 _ (by omega), f7 _ (by omega) (by omega) (by omega) (by omega), f3 _ (by omega), e2.1 _ (by omega) (by omega)]
        refine ⟨this.1, ?_, this.2.2⟩
        rw [y11, y3]
        simp only [upd, if_neg (show ¬ 15 = 0 by omega), if_neg (show ¬ 15 = 2 by omega), if_neg (show ¬ 15 = 4 by omega), if_neg (show ¬ 15 = 8 by omega), if_neg (show ¬ 15 = 10 by omega), if_neg (show ¬ 15 = 12 by omega)]
        rw [e2.2 15 (by omega) (by omega) (by omega) (by omega)]
        exact this.2.1
      · exact ⟨by simp, by rw [y11]; simp [upd]; decide, fun j hj => by simp at hj⟩
      · exact ⟨by simp, by rw [y11]; simp [upd]; decide, fun j hj => by simp at hj⟩
      · exact ⟨by simp, by rw [y11]; simp [upd]; decide, fun j hj => by simp at hj⟩
      · intro p hp
        rw [f11 p (by omega), o3 p (by omega), f7 p (by omega) (by omega) (by omega) (by omega), f3 p (by omega), fJ p hp]
end MLAY
