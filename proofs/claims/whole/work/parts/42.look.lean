theorem imax_n {a b : Nat} (ha : a < 2 ^ 31) (hb : b < 2 ^ 31) : imax (nI a) (nI b) = nI (max a b) := by
  unfold imax
  simp only [nlt ha hb]
  split
  · rw [Nat.max_eq_right (by omega)]
  · rw [Nat.max_eq_left (by omega)]
theorem dropA {α : Type} (p : α → Bool) (l : List α) (i : Nat) (d : α) (h : i < l.length) : (l.drop i).all p = (p (l.getD i d) && (l.drop (i + 1)).all p) := by
  rw [dropc d h, List.all_cons]
section LOOK
variable {R : Nat → Nat → Option Nat} {S : Nat → Nat × Nat} {N T G U V Kp Y L X W C h h2 q : Nat} {I : Nat → Nat → Int32} {tx : List Int32} {FR : List F4} {PE : List P2} {CO SC : List C3} {TL TT : List T3} {UL KL : List (List T3)} {SN : List P2}
/-- but for scratch rows nothing of the class has changed -/
theorem CD_scr {J : Nat → Nat → Int32} (cf : CF R S N T G U V Kp Y L X W C h h2) (cd : CD I R T U V Kp Y X h tx FR PE SC TL UL KL SN) (e : ∀ p, (p ≤ 2 ∨ (5 ≤ p ∧ p ≤ 150) ∨ (164 ≤ p ∧ p ≤ 166) ∨ (h ≤ p ∧ p ≤ h + 13)) → J p = I p) : CD J R T U V Kp Y X h tx FR PE SC TL UL KL SN := by
  obtain ⟨pl, cf1, -, -, hU, hV, hK, hY, -, -, -, -, hH, -⟩ := cf
  obtain ⟨c1, c2, ⟨c3a, c3⟩, ⟨c4a, c4⟩, ⟨TT, c5⟩, c6, c7⟩ := cd
  obtain ⟨p1, p2, p3, p4, p5, p6, p7, p8, p9, p10, p11⟩ := pl
  refine ⟨c1.of (e _ (by omega)) (e _ (by omega)), c2.of (fun p a b => e p (by omega)), ⟨c3a, c3.of hV c3a (fun p a b => e p (by omega))⟩, ⟨c4a, c4.of hK c4a (fun p a b => e p (by omega))⟩, ⟨TT, c5.of (fun p a b => e p (by omega))⟩, ?_, c7.of (fun p a b => e p (by omega))⟩
  rw [e Y (by omega)]
  rcases c6 with c6 | ⟨c6, c6d⟩
  · exact Or.inl c6
  · refine Or.inr ⟨c6, fun z hz => ?_⟩
    unfold DyAt
    rw [e (Y + 2 + z) (by omega), e (Y + 34 + z) (by omega), e (Y + 66 + z) (by omega), e (Y + 97) (by omega)]
    exact c6d z hz
theorem C_ftL (hX : isSi R S N X) (d : SiAt I X SN) {kd b : Nat} (hk : kd < 4) (hb : b < 21) (K0 K1 : Wd → Option (Int32 × Wd)) : ∀ (m i n : Nat), i + m = SN.length → m < n → fX8_fits_2 X (nI kd) (nI b) K0 K1 n (nI i) (I, R, S, N) = if (SN.drop i).all (fun s => decide (made (nI kd) (nI b) s.1 = s.2)) = true then K1 (I, R, S, N) else K0 (I, R, S, N) := by
  obtain ⟨d1, d2, d3⟩ := d
  intro m
  induction m with
  | zero =>
    intro i n hi hn
    obtain ⟨n, rfl⟩ : ∃ n', n = n' + 1 := ⟨n - 1, by omega⟩
    simp (disch := omega) only [fX8_fits_2, Si_g hX, bS, d2, nle]
    rw [if_pos (by omega), List.drop_eq_nil_of_le (by omega)]
    rfl
  | succ m ih =>
    intro i n hi hn
    obtain ⟨n, rfl⟩ : ∃ n', n = n' + 1 := ⟨n - 1, by omega⟩
    have hs := d3 i (by omega)
    rw [dropA _ SN i p2 (by omega)]
    simp (disch := omega) only [fX8_fits_2, Si_g hX, Si_0 hX, Si_r0 hX, Si_1 hX, Si_r1 hX, bS, d2, nle, hs.1, hs.2, S_settle ⟨kd, hk, rfl⟩ ⟨b, hb, rfl⟩, nI_i1]
    rw [if_neg (by omega)]
    by_cases c : made (nI kd) (nI b) (SN.getD i p2).1 = (SN.getD i p2).2
    · rw [if_pos c, ih (i + 1) n (by omega) (by omega)]
      simp only [c, decide_true, Bool.true_and]
    · rw [if_neg c]
      simp only [c, decide_false, Bool.false_and]
      rfl
theorem C_fits (hX : isSi R S N X) (d : SiAt I X SN) {kd b : Nat} (hk : kd < 4) (hb : b < 21) : fX8_fits X (nI kd) (nI b) (I, R, S, N) = some (if fitB kd SN b = true then 1 else 0, (I, R, S, N)) := by
  have d1 := d.1
  have e := C_ftL hX d hk hb (fun w => some ((0 : Int32), w)) (fun w => some ((1 : Int32), w)) SN.length 0 FV (by omega) (FV_lt (by omega))
  refine ((congrArg (fun y => fX8_fits_2 X (nI kd) (nI b) (fun w => some ((0 : Int32), w)) (fun w => some ((1 : Int32), w)) FV y (I, R, S, N)) z0).trans e).trans ?_
  show (if fitB kd SN b = true then _ else _) = _
  split <;> rfl
theorem C_fgL (hX : isSi R S N X) (d : SiAt I X SN) {kd : Nat} (hk : kd < 4) (K : Int32 → Wd → Option (Int32 × Wd)) : ∀ (m b n : Nat), b + m = 21 → m < n → fX8_fitting_4 X (nI kd) K n (btF (fitB kd SN) b) (nI b) (I, R, S, N) = K (btF (fitB kd SN) 21) (I, R, S, N) := by
  intro m
  induction m with
  | zero =>
    intro b n hi hn
    obtain ⟨n, rfl⟩ : ∃ n', n = n' + 1 := ⟨n - 1, by omega⟩
    have hb : b = 21 := by omega
    subst hb
    rw [fX8_fitting_4, if_pos (by decide)]
  | succ m ih =>
    intro b n hi hn
    obtain ⟨n, rfl⟩ : ∃ n', n = n' + 1 := ⟨n - 1, by omega⟩
    have ih' := ih (b + 1) n (by omega) (by omega)
    rw [fX8_fitting_4, if_neg (show ¬ (20 : Int32) < nI b by rw [z20]; exact nI_nlt (by omega) (by omega)), Si_o hX, bS, C_fits hX d hk (by omega), bS, nI_i1]
    unfold btF at ih'
    by_cases c : fitB kd SN b = true
    · rw [if_pos c] at ih'
      simp only [c, if_true, i10, if_false]
      exact ih'
    · rw [if_neg c] at ih'
      simp only [c, if_false, if_true]
      exact ih'
theorem C_fitting (hX : isSi R S N X) (d : SiAt I X SN) {kd : Nat} (hk : kd < 4) : fX8_fitting X (nI kd) (I, R, S, N) = some (btF (fitB kd SN) 21, (I, R, S, N)) :=
  (congrArg (fun y => fX8_fitting_4 X (nI kd) (fun v w => some (v, w)) FV (0 : Int32) y (I, R, S, N)) z0).trans (C_fgL hX d hk (fun v w => some (v, w)) 21 0 FV (by omega) (FV_lt (by omega)))
theorem C_bears (cf : CF R S N T G U V Kp Y L X W C h h2) (cd : CD I R T U V Kp Y X h tx FR PE SC TL UL KL SN) (v : Int32) : fX11_bears 0 v (I, R, S, N) = some (aBears SN v, (I, R, S, N)) := by
  obtain ⟨pl, cf1, hT, hG, hU, hV, hK, hY, hL, hX, hW, hC, hH, hH2⟩ := cf
  obtain ⟨c1, c2, c3, c4, c5, c6, c7⟩ := cd
  unfold aBears fX11_bears
  rw [show (4 : Int32) = nI 4 from z4]
  rcases ixc v (n := 4) (by omega) with b1 | ⟨kd, b1, rfl⟩
  · rw [ix_n b1, C_out1 b1]
    simp only [bS]
    rw [if_neg (by decide)]
  · rw [ix_s b1 (by omega), C_out0 b1 (by omega)]
    simp only [bS, if_true, f_7 cf1, Si_o hX, C_fitting hX c7 b1]
/-- the tally of those behind which a frame is at a place -/
theorem C_maL (hX : isSi R S N X) {kd a : Nat} (hk : kd < 4) (ha : a < 21) (f : Nat → Bool) (K : Int32 → Wd → Option (Int32 × Wd)) : ∀ (m b n : Nat) (J : Nat → Nat → Int32), b + m = 21 → m < n → (∀ j, j < 81 → J (X + 3) j = nI (cnF f (idF kd a) j b)) →
    ∃ J', fX8_mostAlike_14 X (nI kd) (btF f 21) (nI a) K n (nI (wcF f (idF kd a) b)) (nI b) (J, R, S, N) = K (nI (wcF f (idF kd a) 21)) (J', R, S, N) ∧ ∀ p, p ≠ X + 3 → J' p = J p := by
  intro m
  induction m with
  | zero =>
    intro b n J hi hn hj
    obtain ⟨n, rfl⟩ : ∃ n', n = n' + 1 := ⟨n - 1, by omega⟩
    have hb : b = 21 := by omega
    subst hb
    refine ⟨J, ?_, fun _ _ => rfl⟩
    rw [fX8_mostAlike_14, if_pos (by decide)]
  | succ m ih =>
    intro b n J hi hn hj
    obtain ⟨n, rfl⟩ : ∃ n', n = n' + 1 := ⟨n - 1, by omega⟩
    obtain ⟨i1, i2, i3⟩ := idF0 kd hk b (by omega) a ha
    have hw1 := wcF_le f (idF kd a) b
    have hc1 := cnF_le f (idF kd a) (idF kd a b) b
    rw [fX8_mostAlike_14, if_neg (show ¬ (20 : Int32) < nI b by rw [z20]; exact nI_nlt (by omega) (by omega)), btF_has f (show b < 21 by omega)]
    by_cases c : f b = true
    · obtain ⟨J1, hJ1⟩ : ∃ J1, J1 = up1 J (X + 3) (upd (J (X + 3)) (idF kd a b) (nI (cnF f (idF kd a) (idF kd a b) (b + 1)))) := ⟨_, rfl⟩
      have cs : ∀ j, cnF f (idF kd a) j (b + 1) = cnF f (idF kd a) j b + (if idF kd a b = j then 1 else 0) := fun j => by
        show cnF f (idF kd a) j b + (if f b = true ∧ idF kd a b = j then 1 else 0) = _
        simp only [c, true_and]
      have cs1 : cnF f (idF kd a) (idF kd a b) (b + 1) = cnF f (idF kd a) (idF kd a b) b + 1 := by rw [cs, if_pos rfl]
      have hj1 : ∀ j, j < 81 → J1 (X + 3) j = nI (cnF f (idF kd a) j (b + 1)) := by
        intro j hj2
        rw [hJ1, up1_s]
        by_cases e : j = idF kd a b
        · subst e
          simp only [upd, if_true]
        · simp only [upd, if_neg e]
          rw [hj j hj2, cs, if_neg (fun y => e y.symm)]
          rfl
      obtain ⟨J', e1, e2⟩ := ih (b + 1) n J1 (by omega) (by omega) hj1
      refine ⟨J', ?_, fun p hp => by rw [e2 p hp, hJ1, up1_n _ _ hp]⟩
      have g1 : wrI (X + 3) (nI (idF kd a b)) (nI (cnF f (idF kd a) (idF kd a b) (b + 1))) (J, R, S, N) = some (J1, R, S, N) := by rw [hJ1]; exact Si_w3 hX J _ i2
      have e3 : wcF f (idF kd a) (b + 1) = max (wcF f (idF kd a) b) (cnF f (idF kd a) (idF kd a b) (b + 1)) := if_pos c
      rw [e3] at e1
      rw [if_pos c, if_pos rfl, S_settle ⟨kd, hk, rfl⟩ ⟨b, by omega, rfl⟩, bS, S_kept, bS, i1, Si_3 hX, bS, Si_r3 hX J i2, bS, hj _ i2, nI_i1, ← cs1, g1, bS, Si_3 hX, bS, Si_r3 hX J1 i2, bS, hj1 _ i2, imax_n (by omega) (by omega), nI_i1]
      exact e1
    · have hj1 : ∀ j, j < 81 → J (X + 3) j = nI (cnF f (idF kd a) j (b + 1)) := by
        intro j hj2
        rw [hj j hj2]
        show _ = nI (cnF f (idF kd a) j b + (if f b = true ∧ idF kd a b = j then 1 else 0))
        rw [if_neg (fun h => c h.1)]
        rfl
      obtain ⟨J', e1, e2⟩ := ih (b + 1) n J (by omega) (by omega) hj1
      refine ⟨J', ?_, e2⟩
      have e3 : wcF f (idF kd a) (b + 1) = wcF f (idF kd a) b := if_neg c
      rw [e3] at e1
      rw [if_neg c, if_neg (by decide), nI_i1]
      exact e1
theorem C_mostAlike (hX : isSi R S N X) {kd a : Nat} (hk : kd < 4) (ha : a < 21) (J : Nat → Nat → Int32) : ∃ J', fX8_mostAlike X (nI kd) (btF (fitB kd SN) 21) (nI a) (J, R, S, N) = some (nI (mAl SN kd a), (J', R, S, N)) ∧ ∀ p, p ≠ X + 3 → J' p = J p := by
  have hN := hX.1
  have hA : isA S N (X + 3) 81 := ⟨by omega, hX.2.2.2.2.1⟩
  obtain ⟨J', e1, e2⟩ := C_maL hX hk ha (fitB kd SN) (fun v w => some (v, w)) 21 0 FV (up1 J (X + 3) (fun k => if k < 81 then 0 else J (X + 3) k)) (by omega) (FV_lt (by omega)) (fun j hj => by rw [up1_s]; simp only [if_pos hj]; exact z0)
  refine ⟨J', ?_, fun p hp => by rw [e2 p hp, up1_n _ _ hp]⟩
  rw [fX8_mostAlike, Si_3 hX, bS, S_fill hA (by omega), bS]
  exact (congrArg (fun y => fX8_mostAlike_14 X (nI kd) (btF (fitB kd SN) 21) (nI a) (fun v w => some (v, w)) FV y y _) z0).trans e1
theorem mAl_le (kd a : Nat) : mAl SN kd a ≤ 21 := wcF_le _ _ 21
theorem C_blL (hX : isSi R S N X) {kd : Nat} (hk : kd < 4) (K : Int32 → Wd → Option (Int32 × Wd)) : ∀ (m a b n : Nat) (J : Nat → Nat → Int32), a + m = 21 → m < n → ∃ J', fX8_bestLook_14 X (nI kd) (btF (fitB kd SN) 21) K n (nI b) (nI (mAl SN kd b)) (nI a) (J, R, S, N) = K (nI (bkF (mAl SN kd) b a m)) (J', R, S, N) ∧ ∀ p, p ≠ X + 3 → J' p = J p := by
  intro m
  induction m with
  | zero =>
    intro a b n J hi hn
    obtain ⟨n, rfl⟩ : ∃ n', n = n' + 1 := ⟨n - 1, by omega⟩
    have hb : a = 21 := by omega
    subst hb
    refine ⟨J, ?_, fun _ _ => rfl⟩
    rw [fX8_bestLook_14, if_pos (by decide)]
    rfl
  | succ m ih =>
    intro a b n J hi hn
    obtain ⟨n, rfl⟩ : ∃ n', n = n' + 1 := ⟨n - 1, by omega⟩
    obtain ⟨J1, g1, g2⟩ := C_mostAlike (SN := SN) hX hk (show a < 21 by omega) J
    have m1 := mAl_le (SN := SN) kd a
    have m2 := mAl_le (SN := SN) kd b
    rw [fX8_bestLook_14, if_neg (show ¬ (20 : Int32) < nI a by rw [z20]; exact nI_nlt (by omega) (by omega)), Si_o hX, bS, g1, bS, nI_i1]
    unfold bkF
    simp (disch := omega) only [nle]
    by_cases c : mAl SN kd b ≤ mAl SN kd a
    · obtain ⟨J', e1, e2⟩ := ih (a + 1) b n J1 (by omega) (by omega)
      refine ⟨J', ?_, fun p hp => by rw [e2 p hp, g2 p hp]⟩
      rw [if_pos c, if_pos c]
      exact e1
    · obtain ⟨J', e1, e2⟩ := ih (a + 1) a n J1 (by omega) (by omega)
      refine ⟨J', ?_, fun p hp => by rw [e2 p hp, g2 p hp]⟩
      rw [if_neg c, if_neg c]
      exact e1
theorem C_bestLook (hX : isSi R S N X) {kd : Nat} (hk : kd < 4) (J : Nat → Nat → Int32) : ∃ J', fX8_bestLook X (nI kd) (btF (fitB kd SN) 21) (J, R, S, N) = some (nI (bkF (mAl SN kd) 0 1 20), (J', R, S, N)) ∧ ∀ p, p ≠ X + 3 → J' p = J p := by
  obtain ⟨J1, g1, g2⟩ := C_mostAlike (SN := SN) hX hk (show 0 < 21 by omega) J
  obtain ⟨J', e1, e2⟩ := C_blL (SN := SN) hX hk (fun v w => some (v, w)) 20 1 0 FV J1 (by omega) (FV_lt (by omega))
  refine ⟨J', ?_, fun p hp => by rw [e2 p hp, g2 p hp]⟩
  rw [← z0] at g1
  rw [fX8_bestLook, Si_o hX, bS, g1, bS]
  rw [← z0, ← z1] at e1
  exact e1
theorem C_look (cf : CF R S N T G U V Kp Y L X W C h h2) (cd : CD I R T U V Kp Y X h tx FR PE SC TL UL KL SN) (v1 v2 : Int32) : ∃ J, fX11_look 0 v1 v2 (I, R, S, N) = some (aLook SN v1 v2, (J, R, S, N)) ∧ CD J R T U V Kp Y X h tx FR PE SC TL UL KL SN ∧ ∀ p, 201 < p → J p = I p := by
  have cf0 := cf
  obtain ⟨pl, cf1, hT, hG, hU, hV, hK, hY, hL, hX, hW, hC, hH, hH2⟩ := cf
  obtain ⟨c1, c2, c3, c4, c5, c6, c7⟩ := id cd
  obtain ⟨p1, p2, p3, p4, p5, p6, p7, p8, p9, p10, p11⟩ := pl
  unfold aLook fX11_look
  rw [show (4 : Int32) = nI 4 from z4]
  rcases ixc v1 (n := 4) (by omega) with b1 | ⟨kd, b1, rfl⟩
  · rw [ix_n b1, C_out1 b1]
    exact ⟨I, by simp only [bS]; rw [if_neg (by decide)], cd, fun _ _ => rfl⟩
  · rw [ix_s b1 (by omega), C_out0 b1 (by omega)]
    simp only [bS, if_true]
    rw [show (2 : Int32) = nI 2 from z2]
    rcases ixc v2 (n := 2) (by omega) with b2 | ⟨w, b2, rfl⟩
    · rw [ix_n b2, C_out1 b2]
      exact ⟨I, by simp only [bS]; rw [if_neg (by decide)], cd, fun _ _ => rfl⟩
    · rw [ix_s b2 (by omega), C_out0 b2 (by omega)]
      simp only [bS, if_true, f_7 cf1, Si_o hX, C_fitting hX c7 b1]
      by_cases e0 : btF (fitB kd SN) 21 = 0
      · rw [if_pos e0, if_pos e0]
        exact ⟨I, rfl, cd, fun _ _ => rfl⟩
      · rw [if_neg e0, if_neg e0]
        obtain ⟨J1, g1, g2⟩ := C_bestLook (SN := SN) hX b1 I
        have hw0 : nI w = 0 ↔ w = 0 := by rw [z0]; exact nI_eq (by omega) (by omega)
        rw [g1, bS]
        by_cases c : w = 0
        · rw [if_pos (hw0.mpr c), if_pos c]
          exact ⟨J1, rfl, CD_scr cf0 cd (fun p hp => g2 p (by omega)), fun p hp => g2 p (by omega)⟩
        · rw [if_neg (fun y => c (hw0.mp y)), if_neg c]
          obtain ⟨J2, k1, k2⟩ := C_mostAlike (SN := SN) hX b1 (bkF_lt (mAl SN kd) 20 0 1 (by omega) (by omega)) J1
          refine ⟨J2, ?_, CD_scr cf0 cd (fun p hp => by rw [k2 p (by omega), g2 p (by omega)]), fun p hp => by rw [k2 p (by omega), g2 p (by omega)]⟩
          simp only [f_7 cf1, bS, Si_o hX, k1]
theorem M_bbI (hm : isMo R S N q) (d : MD I q tx FR PE CO SC TL UL KL SN) {kd b : Nat} (v2 : Int32) (K : Int32 → Wd → Option (Int32 × Wd)) : ∀ (m i n : Nat) (z : Bool), i + m = SN.length → m < n → fX12_bearsBy_16 q (nI kd) v2 (nI b) K n (if z = true then 1 else 0) (nI i) (I, R, S, N) = K (if (z && (SN.drop i).all (fun s => decide (made (nI kd) (nI b) s.1 = s.2))) = true then 1 else 0) (I, R, S, N) := by
  obtain ⟨d1, d2, d3, d4, d5a, d5b, d5⟩ := d
  intro m
  induction m with
  | zero =>
    intro i n z hi hn
    obtain ⟨n, rfl⟩ : ∃ n', n = n' + 1 := ⟨n - 1, by omega⟩
    simp (disch := omega) only [fX12_bearsBy_16, Mo_g hm, bS, d5b, nle]
    rw [if_pos (by omega), List.drop_eq_nil_of_le (by omega)]
    simp only [List.all_nil, Bool.and_true]
  | succ m ih =>
    intro i n z hi hn
    obtain ⟨n, rfl⟩ : ∃ n', n = n' + 1 := ⟨n - 1, by omega⟩
    have hs := d5 i (by omega)
    rw [dropA _ SN i p2 (by omega)]
    cases z with
    | false =>
      have e := ih (i + 1) n false (by omega) (by omega)
      simp (disch := omega) only [fX12_bearsBy_16, Mo_g hm, bS, d5b, nle, nI_i1]
      rw [if_neg (by omega), if_pos (by decide)]
      simp only [Bool.false_and] at e ⊢
      exact e
    | true =>
      simp (disch := omega) only [fX12_bearsBy_16, Mo_g hm, Mo_13 hm, ix2, nI_i1, Mo_r13 hm, M_madeOf, bS, d5b, nle, hs.1, hs.2, nI_i1]
      rw [if_neg (by omega), if_neg (by decide)]
      by_cases c : made (nI kd) (nI b) (SN.getD i p2).1 = (SN.getD i p2).2
      · have e := ih (i + 1) n true (by omega) (by omega)
        simp only [Bool.true_and] at e
        rw [if_pos c]
        simp only [c, decide_true, Bool.true_and]
        exact e
      · have e := ih (i + 1) n false (by omega) (by omega)
        simp only [Bool.false_and] at e
        rw [if_neg c]
        simp only [c, decide_false, Bool.true_and, Bool.false_and]
        exact e
theorem M_bb (hm : isMo R S N q) (d : MD I q tx FR PE CO SC TL UL KL SN) {kd : Nat} (K : Int32 → Wd → Option (Int32 × Wd)) : ∀ (m b n : Nat), b + m = 21 → m < n → fX12_bearsBy_4 q (nI kd) K n (btF (fitB kd SN) b) (nI b) (I, R, S, N) = K (btF (fitB kd SN) 21) (I, R, S, N) := by
  have d5a := d.2.2.2.2.1
  intro m
  induction m with
  | zero =>
    intro b n hi hn
    obtain ⟨n, rfl⟩ : ∃ n', n = n' + 1 := ⟨n - 1, by omega⟩
    have hb : b = 21 := by omega
    subst hb
    rw [fX12_bearsBy_4, if_pos (by decide)]
  | succ m ih =>
    intro b n hi hn
    obtain ⟨n, rfl⟩ : ∃ n', n = n' + 1 := ⟨n - 1, by omega⟩
    have ih' := ih (b + 1) n (by omega) (by omega)
    rw [fX12_bearsBy_4, if_neg (show ¬ (20 : Int32) < nI b by rw [z20]; exact nI_nlt (by omega) (by omega))]
    have e := M_bbI hm d (kd := kd) (b := b) (btF (fitB kd SN) b) (fun (v4_12 : Int32) (w_11 : Wd) => if v4_12 = 0 then fX12_bearsBy_4 q (nI kd) K n (btF (fitB kd SN) b ||| (0 : Int32)) (nI b + (1 : Int32)) w_11 else fX12_bearsBy_4 q (nI kd) K n (btF (fitB kd SN) b ||| ((1 : Int32) <<< (nI b &&& 31))) (nI b + (1 : Int32)) w_11) SN.length 0 FV true (by omega) (FV_lt (by omega))
    rw [← z0] at e
    simp only [if_true] at e
    refine e.trans ?_
    simp only [Bool.true_and, List.drop_zero]
    show (if (if fitB kd SN b = true then (1 : Int32) else 0) = 0 then _ else _) = _
    unfold btF at ih'
    by_cases c : fitB kd SN b = true
    · rw [if_pos c] at ih'
      rw [if_pos c, if_neg (by decide), nI_i1]
      exact ih'
    · rw [if_neg c] at ih'
      rw [if_neg c, if_pos rfl, nI_i1, Int32.or_zero]
      exact ih'
theorem M_bearsBy (hm : isMo R S N q) (d : MD I q tx FR PE CO SC TL UL KL SN) (kd : Nat) : fX12_bearsBy q (nI kd) (I, R, S, N) = some (btF (fitB kd SN) 21, (I, R, S, N)) :=
  (congrArg (fun y => fX12_bearsBy_4 q (nI kd) (fun v w => some (v, w)) FV (0 : Int32) y (I, R, S, N)) z0).trans (M_bb hm d (fun v w => some (v, w)) 21 0 FV (by omega) (FV_lt (by omega)))
theorem MM_bears (hm : isMo R S N q) (d : MD I q tx FR PE CO SC TL UL KL SN) (v : Int32) : fX12_bears q v (I, R, S, N) = some (aBears SN v, (I, R, S, N)) := by
  unfold aBears fX12_bears
  simp only [M_inK (show 3 + 1 < 2 ^ 30 by decide) z3, bS]
  rcases ixc v (n := 4) (by omega) with b1 | ⟨kd, b1, rfl⟩
  · rw [ix_n b1]
    rfl
  · rw [ix_s b1 (by omega)]
    simp only [Option.isSome_some, if_true, i10, if_false, Mo_o hm, bS, M_bearsBy hm d]
theorem M_hasF (f : Nat → Bool) {c : Nat} (hc : c < 21) (w : Wd) : fX12_has (btF f 21) (nI c) w = some (if f c = true then 1 else 0, w) := by
  unfold fX12_has
  rw [btF_has f hc]
  by_cases e : f c = true
  · rw [if_pos e, if_pos rfl]
  · rw [if_neg e, if_neg (by decide)]
theorem M_alI {kd a b : Nat} (hk : kd < 4) (ha : a < 21) (hb : b < 21) (f : Nat → Bool) (v3 : Int32) (K : Int32 → Wd → Option (Int32 × Wd)) (w : Wd) : ∀ (m c n : Nat), c + m = 21 → m < n → fX12_alike_18 (btF f 21) (nI kd) (nI a) v3 (nI b) K n (nI (if f b = true then cnF f (idF kd a) (idF kd a b) c else 0)) (nI c) w = K (nI (if f b = true then cnF f (idF kd a) (idF kd a b) 21 else 0)) w := by
  intro m
  induction m with
  | zero =>
    intro c n hi hn
    obtain ⟨n, rfl⟩ : ∃ n', n = n' + 1 := ⟨n - 1, by omega⟩
    have hb : c = 21 := by omega
    subst hb
    rw [fX12_alike_18, if_pos (by decide)]
  | succ m ih =>
    intro c n hi hn
    obtain ⟨n, rfl⟩ : ∃ n', n = n' + 1 := ⟨n - 1, by omega⟩
    obtain ⟨-, i2, i3⟩ := idF0 kd hk b hb a ha
    obtain ⟨-, j2, j3⟩ := idF0 kd hk c (by omega) a ha
    have ih' := ih (c + 1) n (by omega) (by omega)
    have cs : cnF f (idF kd a) (idF kd a b) (c + 1) = cnF f (idF kd a) (idF kd a b) c + (if f c = true ∧ idF kd a c = idF kd a b then 1 else 0) := rfl
    rw [fX12_alike_18, if_neg (show ¬ (20 : Int32) < nI c by rw [z20]; exact nI_nlt (by omega) (by omega)), M_hasF f hb, bS]
    by_cases c1 : f b = true
    · simp only [c1, if_true, i10, if_false] at ih' ⊢
      rw [M_hasF f (by omega), bS]
      by_cases c2 : f c = true
      · simp only [c2, if_true, i10, if_false]
        rw [M_madeOf, bS, M_madeOf, bS, i3, j3]
        by_cases c3 : idF kd a c = idF kd a b
        · rw [if_pos ((id_inj i2 j2).mpr c3.symm), nI_i1, nI_i1]
          rw [cs, if_pos ⟨c2, c3⟩] at ih'
          exact ih'
        · rw [if_neg (fun y => c3 ((id_inj i2 j2).mp y).symm), nI_i1, Int32.add_zero]
          rw [cs, if_neg (fun y => c3 y.2), Nat.add_zero] at ih'
          exact ih'
      · simp only [c2, if_false, if_true]
        rw [nI_i1, Int32.add_zero]
        rw [cs, if_neg (fun y => c2 y.1), Nat.add_zero] at ih'
        exact ih'
    · simp only [c1, if_false, if_true] at ih' ⊢
      rw [nI_i1, Int32.add_zero]
      exact ih'
theorem M_al {kd a : Nat} (hk : kd < 4) (ha : a < 21) (f : Nat → Bool) (K : Int32 → Wd → Option (Int32 × Wd)) (w : Wd) : ∀ (m b n : Nat), b + m = 21 → m < n → fX12_alike_5 (btF f 21) (nI kd) (nI a) K n (nI (mxF (fun b => if f b = true then cnF f (idF kd a) (idF kd a b) 21 else 0) b)) (nI b) w = K (nI (mxF (fun b => if f b = true then cnF f (idF kd a) (idF kd a b) 21 else 0) 21)) w := by
  intro m
  induction m with
  | zero =>
    intro b n hi hn
    obtain ⟨n, rfl⟩ : ∃ n', n = n' + 1 := ⟨n - 1, by omega⟩
    have hb : b = 21 := by omega
    subst hb
    rw [fX12_alike_5, if_pos (by decide)]
  | succ m ih =>
    intro b n hi hn
    obtain ⟨n, rfl⟩ : ∃ n', n = n' + 1 := ⟨n - 1, by omega⟩
    have ih' := ih (b + 1) n (by omega) (by omega)
    obtain ⟨g, hg⟩ : ∃ g : Nat → Nat, g = fun b => if f b = true then cnF f (idF kd a) (idF kd a b) 21 else 0 := ⟨_, rfl⟩
    have hgl : ∀ b, g b ≤ 21 := fun b => by rw [hg]; show (if f b = true then cnF f (idF kd a) (idF kd a b) 21 else 0) ≤ 21; split; exact cnF_le _ _ _ _; omega
    have hml : ∀ n, mxF g n ≤ 21 := by
      intro n
      rcases (mxF_mx g n).2 with z | ⟨b, -, e⟩
      · omega
      · rw [← e]; exact hgl b
    rw [fX12_alike_5, if_neg (show ¬ (20 : Int32) < nI b by rw [z20]; exact nI_nlt (by omega) (by omega))]
    rw [← hg] at ih' ⊢
    have e := M_alI hk ha (show b < 21 by omega) f (nI (mxF g b)) (fun (v5_11 : Int32) (w_10 : Wd) => if v5_11 ≤ nI (mxF g b) then fX12_alike_5 (btF f 21) (nI kd) (nI a) K n (nI (mxF g b)) (nI b + (1 : Int32)) w_10 else fX12_alike_5 (btF f 21) (nI kd) (nI a) K n v5_11 (nI b + (1 : Int32)) w_10) w 21 0 FV (by omega) (FV_lt (by omega))
    have e0 : (if f b = true then cnF f (idF kd a) (idF kd a b) 0 else 0) = 0 := by split <;> rfl
    rw [e0, ← z0] at e
    refine e.trans ?_
    have eg : (if f b = true then cnF f (idF kd a) (idF kd a b) 21 else 0) = g b := by rw [hg]
    have h1 := hgl b
    have h2 := hml b
    rw [eg, nI_i1]
    simp (disch := omega) only [nle]
    have e5 : mxF g (b + 1) = if g b ≤ mxF g b then mxF g b else g b := rfl
    rw [e5] at ih'
    by_cases c : g b ≤ mxF g b
    · rw [if_pos c]
      rw [if_pos c] at ih'
      exact ih'
    · rw [if_neg c]
      rw [if_neg c] at ih'
      exact ih'
theorem M_alike {kd a : Nat} (hk : kd < 4) (ha : a < 21) (w : Wd) : fX12_alike (btF (fitB kd SN) 21) (nI kd) (nI a) w = some (nI (mAl SN kd a), w) := by
  have e := M_al hk ha (fitB kd SN) (fun v w => some (v, w)) w 21 0 FV (by omega) (FV_lt (by omega))
  rw [mx_wc] at e
  exact (congrArg (fun y => fX12_alike_5 (btF (fitB kd SN) 21) (nI kd) (nI a) (fun v w => some (v, w)) FV y y w) z0).trans e
theorem M_lkL {kd : Nat} (hk : kd < 4) (v2 : Int32) (K : Int32 → Wd → Option (Int32 × Wd)) (w : Wd) : ∀ (m a b n : Nat), a + m = 21 → m < n → b < a → fX12_look_39 (nI kd) v2 (btF (fitB kd SN) 21) K n (nI b) (nI a) w = K (nI (bkF (mAl SN kd) b a m)) w := by
  intro m
  induction m with
  | zero =>
    intro a b n hi hn hb
    obtain ⟨n, rfl⟩ : ∃ n', n = n' + 1 := ⟨n - 1, by omega⟩
    have hb : a = 21 := by omega
    subst hb
    rw [fX12_look_39, if_pos (by decide)]
    rfl
  | succ m ih =>
    intro a b n hi hn hb
    obtain ⟨n, rfl⟩ : ∃ n', n = n' + 1 := ⟨n - 1, by omega⟩
    have m1 := mAl_le (SN := SN) kd a
    have m2 := mAl_le (SN := SN) kd b
    rw [fX12_look_39, if_neg (show ¬ (20 : Int32) < nI a by rw [z20]; exact nI_nlt (by omega) (by omega)), M_alike hk (by omega), bS, M_alike hk (by omega), bS, nI_i1, ih (a + 1) b n (by omega) (by omega) (by omega), ih (a + 1) a n (by omega) (by omega) (by omega)]
    simp (disch := omega) only [nle]
    rw [bkF]
    split <;> rfl
theorem MM_look (hm : isMo R S N q) (d : MD I q tx FR PE CO SC TL UL KL SN) (v1 v2 : Int32) : fX12_look q v1 v2 (I, R, S, N) = some (aLook SN v1 v2, (I, R, S, N)) := by
  unfold aLook fX12_look
  simp only [M_inK (show 3 + 1 < 2 ^ 30 by decide) z3, bS]
  rcases ixc v1 (n := 4) (by omega) with b1 | ⟨kd, b1, rfl⟩
  · rw [ix_n b1]
    rfl
  · rw [ix_s b1 (by omega)]
    simp only [Option.isSome_some, if_true, i10, if_false, M_inK (show 1 + 1 < 2 ^ 30 by decide) z1, bS]
    rcases ixc v2 (n := 2) (by omega) with b2 | ⟨w, b2, rfl⟩
    · rw [ix_n b2]
      rfl
    · rw [ix_s b2 (by omega)]
      simp only [Option.isSome_some, if_true, i10, if_false, Mo_o hm, bS, M_bearsBy hm d]
      by_cases e0 : btF (fitB kd SN) 21 = 0
      · rw [if_pos e0, if_pos e0]
      · rw [if_neg e0, if_neg e0]
        have e := M_lkL (SN := SN) b1 (nI w) (fun (v4_13 : Int32) (w_12 : Wd) => if nI w = 0 then some (v4_13, w_12) else (fX12_alike (btF (fitB kd SN) 21) (nI kd) v4_13 w_12).bind fun q_15 => some (q_15.1, q_15.2)) (I, R, S, N) 20 1 0 FV (by omega) (FV_lt (by omega)) (by omega)
        rw [← z0, ← z1] at e
        refine e.trans ?_
        have hw0 : nI w = 0 ↔ w = 0 := by rw [z0]; exact nI_eq (by omega) (by omega)
        by_cases c : w = 0
        · rw [if_pos (hw0.mpr c), if_pos c]
        · rw [if_neg (fun y => c (hw0.mp y)), if_neg c, M_alike b1 (bkF_lt (mAl SN kd) 20 0 1 (by omega) (by omega)), bS]
end LOOK
