section CLS2
variable {R : Nat → Nat → Option Nat} {S : Nat → Nat × Nat} {N T G U V Kp Y L X W C h h2 : Nat} {I : Nat → Nat → Int32} {tx : List Int32} {FR : List F4} {PE : List P2} {SC : List C3} {TL : List T3} {UL KL : List (List T3)} {SN : List P2}
def aLeave (TL : List T3) (UL : List (List T3)) (v : Int32) : Int32 × List T3 × List (List T3) := match ix v TL.length with
  | some k => (nI (TL.length - 1), TL.eraseIdx k, pushU UL TL)
  | none => (-1, TL, UL)
theorem C_leave (cf : CF R S N T G U V Kp Y L X W C h h2) (cd : CD I R T U V Kp Y X h tx FR PE SC TL UL KL SN) (v : Int32) : ∃ J R', fX11_leave 0 v (I, R, S, N) = some ((aLeave TL UL v).1, (J, R', S, N)) ∧ CF R' S N T G U V Kp Y L X W C h h2 ∧ CD J R' T U V Kp Y X h tx FR PE SC (aLeave TL UL v).2.1 (aLeave TL UL v).2.2 KL SN ∧ (∀ p, 201 < p → J p = I p ∧ R' p = R p) := by
  have cf0 := cf
  obtain ⟨pl, cf1, hT, hG, hU, hV, hK, hY, hL, hX, hW, hC, hH, hH2⟩ := cf
  have c2 := cd.2.1
  have c2l := c2.1
  unfold aLeave fX11_leave
  simp only [f_2 cf1, T_g hU, Option.bind_some, c2.2.1]
  rcases ixc v (n := TL.length) (by omega) with b1 | ⟨k, b1, rfl⟩
  · rw [ix_n b1, C_out1 b1]
    exact ⟨I, R, by simp only [Option.bind_some]; rw [if_neg (by decide)], cf0, cd, fun _ _ => ⟨rfl, rfl⟩⟩
  · rw [ix_s b1 (by omega), C_out0 b1 (by omega)]
    obtain ⟨J, R', e1, cf', cd', e4, e5⟩ := C_push cf0 cd
    have cf1' := cf'.2.1
    have hU' := cf'.2.2.2.2.1
    have hY' := cf'.2.2.2.2.2.2.2.1
    obtain ⟨J1, g1, g2, g3⟩ := T_remove hU' cd'.2.1 b1
    obtain ⟨cd'', f''⟩ := CD_TL cf' cd' g2 g3 rfl
    obtain ⟨p1, p2, p3, p4, p5, p6, p7, p8, p9, p10, p11⟩ := pl
    refine ⟨_, R', ?_, cf', cd'', fun p hp => ⟨by rw [f'' p hp, e5 p (by omega)], e4 p (by omega)⟩⟩
    simp only [f_3 cf1, f_2 cf1, Sh_o hV, e1, Option.bind_some, f_2 cf1', T_o hU', g1, f_5 cf1', Dy_p hY', T_g hU', if_true]
    rw [up1_n _ _ (by omega), g2.2.1, List.length_eraseIdx, if_pos b1]
/-- the spec's lists from behind -/
theorem snoc {l : List (List T3)} (h : l ≠ []) : ∃ i x, l = i ++ [x] := ⟨l.dropLast, l.getLast h, (List.dropLast_concat_getLast h).symm⟩
def aUndo (TL : List T3) (UL : List (List T3)) : Int32 × List T3 × List (List T3) := if UL = [] then (-2, TL, UL) else (nI (UL.length - 1), UL.getLastD [], UL.dropLast)
theorem C_undo (cf : CF R S N T G U V Kp Y L X W C h h2) (cd : CD I R T U V Kp Y X h tx FR PE SC TL UL KL SN) : ∃ J, fX11_undo 0 (I, R, S, N) = some ((aUndo TL UL).1, (J, R, S, N)) ∧ CD J R T U V Kp Y X h tx FR PE SC (aUndo TL UL).2.1 (aUndo TL UL).2.2 KL SN ∧ (∀ p, 201 < p → J p = I p) := by
  have cf0 := cf
  obtain ⟨pl, cf1, hT, hG, hU, hV, hK, hY, hL, hX, hW, hC, hH, hH2⟩ := cf
  obtain ⟨c1, c2, ⟨c3a, c3⟩, ⟨c4a, c4⟩, ⟨TT, c5⟩, c6, c7⟩ := id cd
  have pl0 := pl
  obtain ⟨p1, p2, p3, p4, p5, p6, p7, p8, p9, p10, p11⟩ := pl
  unfold aUndo fX11_undo
  by_cases hn : UL = []
  · subst hn
    rw [if_pos rfl]
    refine ⟨I, ?_, cd, fun _ _ => rfl⟩
    simp only [f_3 cf1, f_2 cf1, Sh_o hV, V_take0 hV c3, Option.bind_some, if_true]
  · rw [if_neg hn]
    obtain ⟨l, l0, rfl⟩ := snoc hn
    rw [List.length_append, List.length_singleton] at c3a
    obtain ⟨J, e1, e2, e3, e4⟩ := V_take hV (by omega) hU (by omega) c3 (by omega)
    obtain ⟨J2, hJ2⟩ : ∃ J2, J2 = up1 J Y (upd (J Y) 4 1) := ⟨_, rfl⟩
    have f : ∀ p, p ≠ Y → J2 p = J p := fun p hp => by rw [hJ2, up1_n _ _ hp]
    have f2 : ∀ p, p ≠ Y → p ≠ V → (p < U ∨ U + 3 < p) → J2 p = I p := fun p a b c => by rw [f p a, e4 p b c]
    refine ⟨J2, ?_, ⟨c1.of (f2 _ (by omega) (by omega) (by omega)) (f2 _ (by omega) (by omega) (by omega)), ?_, ⟨?_, ?_⟩, ⟨c4a, c4.of hK c4a (fun p a b => f2 p (by omega) (by omega) (by omega))⟩, ⟨TT, c5.of (fun p a b => f2 p (by omega) (by omega) (by omega))⟩, Or.inl (by rw [hJ2, up1_s]; simp [upd]), c7.of (fun p a b => f2 p (by omega) (by omega) (by omega))⟩, fun p hp => f2 p (by omega) (by omega) (by omega)⟩
    · simp only [f_3 cf1, f_2 cf1, Sh_o hV, e1, Option.bind_some, f_5 cf1, Dy_p hY, Sh_g hV, ← hJ2]
      rw [if_neg (by decide), f V (by omega), e2.1]
      simp
    · simp only [List.getLastD_concat]
      exact e3.of (fun p a b => f p (by omega))
    · simp only [List.dropLast_concat]
      omega
    · simp only [List.dropLast_concat]
      exact e2.of hV (by omega) (fun p a b => f p (by omega))
def aKeep (TL : List T3) (KL : List (List T3)) : Int32 × List (List T3) := if KL.length < 2 then (nI (KL.length + 1), KL ++ [TL]) else (-3, KL)
theorem C_keep (cf : CF R S N T G U V Kp Y L X W C h h2) (cd : CD I R T U V Kp Y X h tx FR PE SC TL UL KL SN) : ∃ J, fX11_keep 0 (I, R, S, N) = some ((aKeep TL KL).1, (J, R, S, N)) ∧ CD J R T U V Kp Y X h tx FR PE SC TL UL (aKeep TL KL).2 SN ∧ (∀ p, 201 < p → J p = I p) := by
  have cf0 := cf
  obtain ⟨pl, cf1, hT, hG, hU, hV, hK, hY, hL, hX, hW, hC, hH, hH2⟩ := cf
  obtain ⟨c1, c2, ⟨c3a, c3⟩, ⟨c4a, c4⟩, ⟨TT, c5⟩, c6, c7⟩ := id cd
  obtain ⟨p1, p2, p3, p4, p5, p6, p7, p8, p9, p10, p11⟩ := pl
  unfold aKeep fX11_keep
  simp (disch := omega) only [f_4 cf1, Sh_g hK, Option.bind_some, c4.1, z2, nlt]
  by_cases c : KL.length < 2
  · rw [if_pos c, if_pos c]
    obtain ⟨J, e1, e2, e3⟩ := V_put hK (by omega) hU (by omega) c4 c c2
    refine ⟨J, ?_, ⟨c1.of (e3 _ (by omega)) (e3 _ (by omega)), c2.of (fun p a b => e3 p (by omega)), ⟨c3a, c3.of hV c3a (fun p a b => e3 p (by omega))⟩, ⟨by simp; omega, e2⟩, ⟨TT, c5.of (fun p a b => e3 p (by omega))⟩, ?_, c7.of (fun p a b => e3 p (by omega))⟩, fun p hp => e3 p (by omega)⟩
    · simp only [f_2 cf1, f_4 cf1, Sh_o hK, e1, Option.bind_some, Sh_g hK, e2.1]
      simp
    · rw [e3 Y (by omega)]
      rcases c6 with c6 | ⟨c6, c6d⟩
      · exact Or.inl c6
      · refine Or.inr ⟨c6, fun z hz => ?_⟩
        unfold DyAt
        rw [e3 (Y + 2 + z) (by omega), e3 (Y + 34 + z) (by omega), e3 (Y + 66 + z) (by omega), e3 (Y + 97) (by omega)]
        exact c6d z hz
  · rw [if_neg c, if_neg c]
    exact ⟨I, rfl, cd, fun _ _ => rfl⟩
def aBack (TL : List T3) (UL KL : List (List T3)) : Int32 × List T3 × List (List T3) × List (List T3) := if KL = [] then (-2, TL, UL, KL) else (nI (KL.length - 1), KL.getLastD [], [], KL.dropLast)
theorem C_back (cf : CF R S N T G U V Kp Y L X W C h h2) (cd : CD I R T U V Kp Y X h tx FR PE SC TL UL KL SN) : ∃ J, fX11_back 0 (I, R, S, N) = some ((aBack TL UL KL).1, (J, R, S, N)) ∧ CD J R T U V Kp Y X h tx FR PE SC (aBack TL UL KL).2.1 (aBack TL UL KL).2.2.1 (aBack TL UL KL).2.2.2 SN ∧ (∀ p, 201 < p → J p = I p) := by
  have cf0 := cf
  obtain ⟨pl, cf1, hT, hG, hU, hV, hK, hY, hL, hX, hW, hC, hH, hH2⟩ := cf
  obtain ⟨c1, c2, ⟨c3a, c3⟩, ⟨c4a, c4⟩, ⟨TT, c5⟩, c6, c7⟩ := id cd
  obtain ⟨p1, p2, p3, p4, p5, p6, p7, p8, p9, p10, p11⟩ := pl
  unfold aBack fX11_back
  by_cases hn : KL = []
  · subst hn
    rw [if_pos rfl]
    refine ⟨I, ?_, cd, fun _ _ => rfl⟩
    simp only [f_4 cf1, f_2 cf1, Sh_o hK, V_take0 hK c4, Option.bind_some, if_true]
  · rw [if_neg hn]
    obtain ⟨l, l0, rfl⟩ := snoc hn
    rw [List.length_append, List.length_singleton] at c4a
    obtain ⟨J, e1, e2, e3, e4⟩ := V_take hK (by omega) hU (by omega) c4 (by omega)
    obtain ⟨J1, hJ1⟩ : ∃ J1, J1 = up1 J V (upd (J V) 1 0) := ⟨_, rfl⟩
    obtain ⟨J2, hJ2⟩ : ∃ J2, J2 = up1 J1 Y (upd (J1 Y) 4 1) := ⟨_, rfl⟩
    have f : ∀ p, p ≠ Y → p ≠ V → J2 p = J p := fun p a b => by rw [hJ2, up1_n _ _ a, hJ1, up1_n _ _ b]
    have f2 : ∀ p, p ≠ Y → p ≠ V → p ≠ Kp → (p < U ∨ U + 3 < p) → J2 p = I p := fun p a b c d => by rw [f p a b, e4 p c d]
    refine ⟨J2, ?_, ⟨c1.of (f2 _ (by omega) (by omega) (by omega) (by omega)) (f2 _ (by omega) (by omega) (by omega) (by omega)), ?_, ⟨by simp, ?_, fun j hj => by simp at hj⟩, ⟨?_, ?_⟩, ⟨TT, c5.of (fun p a b => f2 p (by omega) (by omega) (by omega) (by omega))⟩, Or.inl (by rw [hJ2, up1_s]; simp [upd]), c7.of (fun p a b => f2 p (by omega) (by omega) (by omega) (by omega))⟩, fun p hp => f2 p (by omega) (by omega) (by omega) (by omega)⟩
    · simp only [f_4 cf1, f_3 cf1, f_2 cf1, Sh_o hK, e1, Option.bind_some, Sh_p hV, f_5 cf1, Dy_p hY, Sh_g hK, ← hJ1, ← hJ2]
      rw [if_neg (by decide), f Kp (by omega) (by omega), e2.1]
      simp
    · simp only [List.getLastD_concat]
      exact e3.of (fun p a b => f p (by omega) (by omega))
    · rw [hJ2, up1_n _ _ (by omega), hJ1, up1_s]
      simp [upd]
      decide
    · simp only [List.dropLast_concat]
      omega
    · simp only [List.dropLast_concat]
      exact e2.of hK (by omega) (fun p a b => f p (by omega) (by omega))
def aTold (TL : List T3) (v w : Int32) : Int32 := match ix v TL.length with
  | some k => if w = 0 then (TL.getD k t3).1 else if w = 1 then nI (TL.getD k t3).2.1 else if w = 2 then (TL.getD k t3).2.2 + 20 else -1
  | none => -1
theorem C_told (cf : CF R S N T G U V Kp Y L X W C h h2) (cd : CD I R T U V Kp Y X h tx FR PE SC TL UL KL SN) (v w : Int32) : fX11_told 0 v w (I, R, S, N) = some (aTold TL v w, (I, R, S, N)) := by
  obtain ⟨pl, cf1, hT, hG, hU, hV, hK, hY, hL, hX, hW, hC, hH, hH2⟩ := cf
  have c2 := cd.2.1
  have c2l := c2.1
  unfold aTold fX11_told
  simp only [f_2 cf1, T_g hU, Option.bind_some, c2.2.1]
  rcases ixc v (n := TL.length) (by omega) with b1 | ⟨k, b1, rfl⟩
  · rw [ix_n b1, C_out1 b1]
    simp only [Option.bind_some]
    rw [if_neg (by decide)]
  · rw [ix_s b1 (by omega), C_out0 b1 (by omega)]
    have hk := c2.2.2 k b1
    simp (disch := omega) only [Option.bind_some, if_true, f_2 cf1, T_0 hU, T_1 hU, T_2 hU, T_r0 hU, T_r1 hU, T_r2 hU, hk.1, hk.2.1, hk.2.2]
    repeat (first | rfl | (split; rfl))
def aFrame (FR : List F4) (v w : Int32) : Int32 := match ix v FR.length with
  | some k => if w = 0 then (FR.getD k f4).1 else if w = 1 then (FR.getD k f4).2.1 + 40 else if w = 2 then (FR.getD k f4).2.2.1 + 5 else if w = 3 then (FR.getD k f4).2.2.2 + 40 else -1
  | none => -1
theorem C_frame (cf : CF R S N T G U V Kp Y L X W C h h2) (cd : CD I R T U V Kp Y X h tx FR PE SC TL UL KL SN) (v w : Int32) : fX11_frame 0 v w (I, R, S, N) = some (aFrame FR v w, (I, R, S, N)) := by
  obtain ⟨pl, cf1, hT, hG, hU, hV, hK, hY, hL, hX, hW, hC, hH, hH2⟩ := cf
  obtain ⟨TT, c5⟩ := cd.2.2.2.2.1
  have d1 := c5.1
  unfold aFrame fX11_frame
  simp only [f_10 cf1, Ho_g hH, Option.bind_some, c5.2.1.1]
  rcases ixc v (n := FR.length) (by omega) with b1 | ⟨k, b1, rfl⟩
  · rw [ix_n b1, C_out1 b1]
    simp only [Option.bind_some]
    rw [if_neg (by decide)]
  · rw [ix_s b1 (by omega), C_out0 b1 (by omega)]
    have hk := c5.2.2.1 k b1
    simp (disch := omega) only [Option.bind_some, if_true, f_10 cf1, Ho_0 hH, Ho_1 hH, Ho_2 hH, Ho_3 hH, Ho_r0 hH, Ho_r1 hH, Ho_r2 hH, Ho_r3 hH, hk.1, hk.2.1, hk.2.2.1, hk.2.2.2]
    repeat (first | rfl | (split; rfl))
def aPerson (PE : List P2) (v w : Int32) : Int32 := match ix v PE.length, ix w 2 with
  | some k, some j => if j = 0 then (PE.getD k p2).1 else (PE.getD k p2).2
  | _, _ => -1
theorem C_person (cf : CF R S N T G U V Kp Y L X W C h h2) (cd : CD I R T U V Kp Y X h tx FR PE SC TL UL KL SN) (v w : Int32) : fX11_person 0 v w (I, R, S, N) = some (aPerson PE v w, (I, R, S, N)) := by
  obtain ⟨pl, cf1, hT, hG, hU, hV, hK, hY, hL, hX, hW, hC, hH, hH2⟩ := cf
  obtain ⟨TT, c5⟩ := cd.2.2.2.2.1
  have d1 := c5.1
  unfold aPerson fX11_person
  simp only [f_10 cf1, Ho_g hH, Option.bind_some, c5.2.1.2.1]
  rcases ixc v (n := PE.length) (by omega) with b1 | ⟨k, b1, rfl⟩
  · rw [ix_n b1, C_out1 b1]
    simp only [Option.bind_some]
    rw [if_neg (by decide)]
  · rw [ix_s b1 (by omega), C_out0 b1 (by omega), z2]
    simp only [Option.bind_some, if_true]
    rcases ixc w (n := 2) (by omega) with b2 | ⟨j, b2, rfl⟩
    · rw [ix_n b2, C_out1 b2]
      simp only [Option.bind_some]
      rw [if_neg (by decide)]
    · rw [ix_s b2 (by omega), C_out0 b2 (by omega)]
      have hk := c5.2.2.2.1 k b1
      simp (disch := omega) only [Option.bind_some, if_true, f_10 cf1, Ho_5 hH, Ho_6 hH, Ho_r5 hH, Ho_r6 hH, hk.1, hk.2, z0, neq]
      split <;> rfl
/-! what was seen -/
theorem Si_addA (hx : isSi R S N X) {J : Nat → Nat → Int32} (d : SiAt J X SN) (hl : SN.length < 8) (a b : Int32) : ∃ J', fX8_add X a b (J, R, S, N) = some (1, (J', R, S, N)) ∧ SiAt J' X (SN ++ [(a, b)]) ∧ ∀ p, (p < X ∨ X + 2 < p) → J' p = J p := by
  obtain ⟨d1, d2, d3⟩ := d
  refine ⟨up1 (up1 (up1 J (X + 1) (upd (J (X + 1)) SN.length a)) (X + 2) (upd (J (X + 2)) SN.length b)) X (upd (J X) 2 (nI (SN.length + 1))), ?_, ?_, fun p hp => by rw [up1_n _ _ (by omega), up1_n _ _ (by omega), up1_n _ _ (by omega)]⟩
  · simp (disch := omega) only [fX8_add, Si_g hx, Si_p hx, Si_0 hx, Si_1 hx, Si_w0 hx, Si_w1 hx, Option.bind_some, d2, up1_n, z8, nlt, nI_i1]
    rw [if_pos hl]
  · refine ⟨by simp; omega, by simp [up1_s, upd], fun k hk => ?_⟩
    simp (disch := omega) only [up1_n, up1_s]
    by_cases e : k = SN.length
    · subst e
      simp [upd, List.getD_eq_getElem?_getD]
    · have hk2 : k < SN.length := by simp at hk; omega
      rw [gDapp hk2]
      simp only [upd, if_neg e]
      exact d3 k hk2
theorem CD_SN {J : Nat → Nat → Int32} {SN' : List P2} (cf : CF R S N T G U V Kp Y L X W C h h2) (cd : CD I R T U V Kp Y X h tx FR PE SC TL UL KL SN) (d : SiAt J X SN') (e : ∀ p, (p < X ∨ X + 2 < p) → J p = I p) : CD J R T U V Kp Y X h tx FR PE SC TL UL KL SN' := by
  obtain ⟨pl, cf1, hT, hG, hU, hV, hK, hY, hL, hX, hW, hC, hH, hH2⟩ := cf
  obtain ⟨c1, c2, ⟨c3a, c3⟩, ⟨c4a, c4⟩, ⟨TT, c5⟩, c6, c7⟩ := cd
  obtain ⟨p1, p2, p3, p4, p5, p6, p7, p8, p9, p10, p11⟩ := pl
  refine ⟨c1.of (e _ (by omega)) (e _ (by omega)), c2.of (fun p a b => e p (by omega)), ⟨c3a, c3.of hV c3a (fun p a b => e p (by omega))⟩, ⟨c4a, c4.of hK c4a (fun p a b => e p (by omega))⟩, ⟨TT, c5.of (fun p a b => e p (by omega))⟩, ?_, d⟩
  rw [e Y (by omega)]
  rcases c6 with c6 | ⟨c6, c6d⟩
  · exact Or.inl c6
  · refine Or.inr ⟨c6, fun z hz => ?_⟩
    unfold DyAt
    rw [e (Y + 2 + z) (by omega), e (Y + 34 + z) (by omega), e (Y + 66 + z) (by omega), e (Y + 97) (by omega)]
    exact c6d z hz
def aSeen (SN : List P2) (a b : Int32) : Int32 × List P2 := match ix a 41, ix b 41 with
  | some _, some _ => if SN.length < 8 then (nI (SN.length + 1), SN ++ [(a - 20, b - 20)]) else (-3, SN)
  | _, _ => (-1, SN)
theorem C_seen (cf : CF R S N T G U V Kp Y L X W C h h2) (cd : CD I R T U V Kp Y X h tx FR PE SC TL UL KL SN) (a b : Int32) : ∃ J, fX11_seen 0 a b (I, R, S, N) = some ((aSeen SN a b).1, (J, R, S, N)) ∧ CD J R T U V Kp Y X h tx FR PE SC TL UL KL (aSeen SN a b).2 ∧ ∀ p, 201 < p → J p = I p := by
  have cf0 := cf
  obtain ⟨pl, cf1, hT, hG, hU, hV, hK, hY, hL, hX, hW, hC, hH, hH2⟩ := cf
  have c7 := cd.2.2.2.2.2.2
  have c7l := c7.1
  have hpx : X = 164 := pl.2.2.2.2.2.2.2.1
  unfold aSeen fX11_seen
  simp only [z41]
  rcases ixc a (n := 41) (by omega) with b1 | ⟨k, b1, rfl⟩
  · rw [ix_n b1, C_out1 b1]
    exact ⟨I, by simp only [Option.bind_some]; rw [if_neg (by decide)], cd, fun _ _ => rfl⟩
  · rw [ix_s b1 (by omega), C_out0 b1 (by omega)]
    simp only [Option.bind_some, if_true]
    rcases ixc b (n := 41) (by omega) with b2 | ⟨j, b2, rfl⟩
    · rw [ix_n b2, C_out1 b2]
      exact ⟨I, by simp only [Option.bind_some]; rw [if_neg (by decide)], cd, fun _ _ => rfl⟩
    · rw [ix_s b2 (by omega), C_out0 b2 (by omega)]
      simp only [Option.bind_some, if_true, f_7 cf1, Si_o hX]
      by_cases c : SN.length < 8
      · rw [if_pos c]
        obtain ⟨J, e1, e2, e3⟩ := Si_addA hX c7 c (nI k - 20) (nI j - 20)
        refine ⟨J, ?_, CD_SN cf0 cd e2 e3, fun p hp => e3 p (by omega)⟩
        simp only [e1, Option.bind_some, f_7 cf1, Si_g hX, e2.2.1]
        rw [if_neg (by decide)]
        simp
      · rw [if_neg c]
        refine ⟨I, ?_, cd, fun _ _ => rfl⟩
        simp (disch := omega) only [fX8_add, Si_g hX, Option.bind_some, c7.2.1, z8, nlt]
        rw [if_neg c]
        simp only [Option.bind_some, if_true]
theorem C_forget (cf : CF R S N T G U V Kp Y L X W C h h2) (cd : CD I R T U V Kp Y X h tx FR PE SC TL UL KL SN) : ∃ J, fX11_forget 0 (I, R, S, N) = some (nI SN.length, (J, R, S, N)) ∧ CD J R T U V Kp Y X h tx FR PE SC TL UL KL [] ∧ ∀ p, 201 < p → J p = I p := by
  have cf0 := cf
  obtain ⟨pl, cf1, hT, hG, hU, hV, hK, hY, hL, hX, hW, hC, hH, hH2⟩ := cf
  have c7 := cd.2.2.2.2.2.2
  have hpx : X = 164 := pl.2.2.2.2.2.2.2.1
  refine ⟨up1 I X (upd (I X) 2 0), ?_, CD_SN cf0 cd ⟨by simp, by rw [up1_s]; simp [upd]; decide, fun k hk => by simp at hk⟩ (fun p hp => up1_n _ _ (by omega)), fun p hp => up1_n _ _ (by omega)⟩
  simp only [fX11_forget, fX8_empty, f_7 cf1, Si_o hX, Si_g hX, Si_p hX, Option.bind_some, c7.2.1]
end CLS2
