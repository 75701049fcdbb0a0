/-! THE CLASS's STATE -/
def SiAt (I : Nat → Nat → Int32) (x : Nat) (sn : List P2) : Prop := sn.length ≤ 8 ∧ I x 2 = nI sn.length ∧ ∀ k, k < sn.length → I (x + 1) k = (sn.getD k p2).1 ∧ I (x + 2) k = (sn.getD k p2).2
theorem SiAt.of {I J : Nat → Nat → Int32} {x : Nat} {sn : List P2} (h : SiAt I x sn) (e : ∀ p, x ≤ p → p ≤ x + 2 → J p = I p) : SiAt J x sn := by
  unfold SiAt
  rw [e x (by omega) (by omega), e (x + 1) (by omega) (by omega), e (x + 2) (by omega) (by omega)]
  exact h
/-- where the objects are -/
def Pl (T G U V Kp Y L X W C h h2 : Nat) : Prop := T = 1 ∧ G = 3 ∧ U = 5 ∧ V = 9 ∧ Kp = 43 ∧ Y = 53 ∧ L = 151 ∧ X = 164 ∧ W = 168 ∧ C = 171 ∧ ((h = 174 ∧ h2 = 188) ∨ (h = 188 ∧ h2 = 174))
/-- wires by chance: two rows that change places -/
def isCh (R : Nat → Nat → Option Nat) (S : Nat → Nat × Nat) (N c : Nat) : Prop := c + 2 < N ∧ (S c).1 = 0 ∧ S (c + 1) = (12, 15) ∧ S (c + 2) = (12, 15) ∧ ((R c 0 = some (c + 1) ∧ R c 1 = some (c + 2)) ∨ (R c 0 = some (c + 2) ∧ R c 1 = some (c + 1)))
def isCf (R : Nat → Nat → Option Nat) (S : Nat → Nat × Nat) (N T G U V Kp Y L X W C h h2 : Nat) : Prop := 0 < N ∧ (S 0).1 = 10 ∧ R 0 0 = some T ∧ R 0 1 = some G ∧ R 0 2 = some U ∧ R 0 3 = some V ∧ R 0 4 = some Kp ∧ R 0 5 = some Y ∧ R 0 6 = some L ∧ R 0 7 = some X ∧ R 0 8 = some W ∧ R 0 9 = some C ∧ R 0 10 = some h ∧ R 0 11 = some h2
def CF (R : Nat → Nat → Option Nat) (S : Nat → Nat × Nat) (N T G U V Kp Y L X W C h h2 : Nat) : Prop := Pl T G U V Kp Y L X W C h h2 ∧ isCf R S N T G U V Kp Y L X W C h h2 ∧ isTx R S N T ∧ isRd R S N G ∧ isT R S N U ∧ isSh R S N V 8 ∧ isSh R S N Kp 2 ∧ isDy R S N Y ∧ isLu R S N L ∧ isSi R S N X ∧ isDr R S N W ∧ isCh R S N C ∧ isHo R S N h ∧ isHo R S N h2
/-- what is told so far, in the spec's words -/
def CD (I : Nat → Nat → Int32) (R : Nat → Nat → Option Nat) (T U V Kp Y X h : Nat) (tx : List Int32) (FR : List F4) (PE : List P2) (SC : List C3) (TL : List T3) (UL KL : List (List T3)) (SN : List P2) : Prop :=
  TxAt I T tx ∧ TAt I U TL ∧ (UL.length ≤ 8 ∧ ShAt I R V UL) ∧ (KL.length ≤ 2 ∧ ShAt I R Kp KL) ∧ (∃ TT, HAt I h FR PE SC TT) ∧ (I Y 4 = 1 ∨ (I Y 4 = 0 ∧ ∀ e, e < 31 → DyAt I Y FR PE SC TL e)) ∧ SiAt I X SN
/-- the spec's state is in order -/
def okS (FR : List F4) (PE : List P2) (SC : List C3) (TL : List T3) (UL KL : List (List T3)) : Prop := (0 < FR.length ∧ FR.length ≤ 7 ∧ PE.length ≤ 5 ∧ SC.length ≤ 10) ∧ okP PE ∧ okC PE SC ∧ okT FR TL ∧ (∀ j, j < UL.length → okT FR (UL.getD j [])) ∧ (∀ j, j < KL.length → okT FR (KL.getD j []))
section CLS
variable {R : Nat → Nat → Option Nat} {S : Nat → Nat × Nat} {N T G U V Kp Y L X W C h h2 : Nat} {I : Nat → Nat → Int32} {tx : List Int32} {FR : List F4} {PE : List P2} {SC : List C3} {TL : List T3} {UL KL : List (List T3)} {SN : List P2}
theorem f_o (cf : isCf R S N T G U V Kp Y L X W C h h2) (I : Nat → Nat → Int32) : isO 10 0 (I, R, S, N) = some () := oI cf.1 cf.2.1
theorem f_0 (cf : isCf R S N T G U V Kp Y L X W C h h2) (I : Nat → Nat → Int32) : gfR 10 0 0 (I, R, S, N) = some T := gR cf.1 cf.2.1 cf.2.2.1
theorem f_1 (cf : isCf R S N T G U V Kp Y L X W C h h2) (I : Nat → Nat → Int32) : gfR 10 1 0 (I, R, S, N) = some G := gR cf.1 cf.2.1 cf.2.2.2.1
theorem f_2 (cf : isCf R S N T G U V Kp Y L X W C h h2) (I : Nat → Nat → Int32) : gfR 10 2 0 (I, R, S, N) = some U := gR cf.1 cf.2.1 cf.2.2.2.2.1
theorem f_3 (cf : isCf R S N T G U V Kp Y L X W C h h2) (I : Nat → Nat → Int32) : gfR 10 3 0 (I, R, S, N) = some V := gR cf.1 cf.2.1 cf.2.2.2.2.2.1
theorem f_4 (cf : isCf R S N T G U V Kp Y L X W C h h2) (I : Nat → Nat → Int32) : gfR 10 4 0 (I, R, S, N) = some Kp := gR cf.1 cf.2.1 cf.2.2.2.2.2.2.1
theorem f_5 (cf : isCf R S N T G U V Kp Y L X W C h h2) (I : Nat → Nat → Int32) : gfR 10 5 0 (I, R, S, N) = some Y := gR cf.1 cf.2.1 cf.2.2.2.2.2.2.2.1
theorem f_6 (cf : isCf R S N T G U V Kp Y L X W C h h2) (I : Nat → Nat → Int32) : gfR 10 6 0 (I, R, S, N) = some L := gR cf.1 cf.2.1 cf.2.2.2.2.2.2.2.2.1
theorem f_7 (cf : isCf R S N T G U V Kp Y L X W C h h2) (I : Nat → Nat → Int32) : gfR 10 7 0 (I, R, S, N) = some X := gR cf.1 cf.2.1 cf.2.2.2.2.2.2.2.2.2.1
theorem f_8 (cf : isCf R S N T G U V Kp Y L X W C h h2) (I : Nat → Nat → Int32) : gfR 10 8 0 (I, R, S, N) = some W := gR cf.1 cf.2.1 cf.2.2.2.2.2.2.2.2.2.2.1
theorem f_9 (cf : isCf R S N T G U V Kp Y L X W C h h2) (I : Nat → Nat → Int32) : gfR 10 9 0 (I, R, S, N) = some C := gR cf.1 cf.2.1 cf.2.2.2.2.2.2.2.2.2.2.2.1
theorem f_10 (cf : isCf R S N T G U V Kp Y L X W C h h2) (I : Nat → Nat → Int32) : gfR 10 10 0 (I, R, S, N) = some h := gR cf.1 cf.2.1 cf.2.2.2.2.2.2.2.2.2.2.2.2.1
theorem f_11 (cf : isCf R S N T G U V Kp Y L X W C h h2) (I : Nat → Nat → Int32) : gfR 10 11 0 (I, R, S, N) = some h2 := gR cf.1 cf.2.1 cf.2.2.2.2.2.2.2.2.2.2.2.2.2
/-- the days are played when they are asked for -/
theorem C_days (cf : CF R S N T G U V Kp Y L X W C h h2) (cd : CD I R T U V Kp Y X h tx FR PE SC TL UL KL SN) (ok : okS FR PE SC TL UL KL) : ∃ J, fX11_daysNow 0 (I, R, S, N) = some (Y, (J, R, S, N)) ∧ CD J R T U V Kp Y X h tx FR PE SC TL UL KL SN ∧ (∀ e, e < 31 → DyAt J Y FR PE SC TL e) ∧ J Y 4 = 0 ∧ ∀ p, (p < Y ∨ Y + 97 < p) → J p = I p := by
  obtain ⟨pl, cf1, -, -, hU, hV, hK, hY, -, -, -, -, hH, -⟩ := cf
  obtain ⟨c1, c2, ⟨c3a, c3⟩, ⟨c4a, c4⟩, ⟨TT, c5⟩, c6, c7⟩ := cd
  obtain ⟨p1, p2, p3, p4, p5, p6, p7, p8, p9, p10, p11⟩ := pl
  rcases c6 with c6 | ⟨c6, c6d⟩
  · obtain ⟨J, e1, e2, e3, e4⟩ := S_play hY hH hU (by omega) (by omega) ok.2.1 ok.2.2.1 ok.2.2.2.1 c5 c2
    refine ⟨J, ?_, ⟨c1.of (e4 _ (by omega)) (e4 _ (by omega)), c2.of (fun p h1 h2 => e4 p (by omega)), ⟨c3a, c3.of hV c3a (fun p h1 h2 => e4 p (by omega))⟩, ⟨c4a, c4.of hK c4a (fun p h1 h2 => e4 p (by omega))⟩, ⟨TT, c5.of (fun p h1 h2 => e4 p (by omega))⟩, Or.inr ⟨e3, e2⟩, c7.of (fun p h1 h2 => e4 p (by omega))⟩, e2, e3, e4⟩
    simp only [fX11_daysNow, f_5 cf1, f_10 cf1, f_2 cf1, Dy_g hY, Dy_o hY, Option.bind_some, c6, e1]
    rw [if_neg (by decide)]
  · refine ⟨I, ?_, ⟨c1, c2, ⟨c3a, c3⟩, ⟨c4a, c4⟩, ⟨TT, c5⟩, Or.inr ⟨c6, c6d⟩, c7⟩, c6d, c6, fun _ _ => rfl⟩
    simp only [fX11_daysNow, f_5 cf1, Dy_g hY, Option.bind_some, c6, if_true]
/-! THE PUBLIC METHODS of the class. What they answer is told in the spec's words. -/
def aWrite (tx : List Int32) (v : Int32) : Int32 × List Int32 := if v < 32 then (-1, tx) else if v ≤ 126 then (if tx.length < 200 then (nI (tx.length + 1), tx ++ [v]) else (-3, tx)) else (-1, tx)
theorem CD_tx {J : Nat → Nat → Int32} {tx' : List Int32} (cf : CF R S N T G U V Kp Y L X W C h h2) (cd : CD I R T U V Kp Y X h tx FR PE SC TL UL KL SN) (d : TxAt J T tx') (e : ∀ p, p ≠ T → p ≠ T + 1 → J p = I p) : CD J R T U V Kp Y X h tx' FR PE SC TL UL KL SN := by
  obtain ⟨pl, cf1, -, -, hU, hV, hK, hY, -, -, -, -, hH, -⟩ := cf
  obtain ⟨c1, c2, ⟨c3a, c3⟩, ⟨c4a, c4⟩, ⟨TT, c5⟩, c6, c7⟩ := cd
  obtain ⟨p1, p2, p3, p4, p5, p6, p7, p8, p9, p10, p11⟩ := pl
  refine ⟨d, c2.of (fun p h1 h2 => e p (by omega) (by omega)), ⟨c3a, c3.of hV c3a (fun p h1 h2 => e p (by omega) (by omega))⟩, ⟨c4a, c4.of hK c4a (fun p h1 h2 => e p (by omega) (by omega))⟩, ⟨TT, c5.of (fun p h1 h2 => e p (by omega) (by omega))⟩, ?_, c7.of (fun p h1 h2 => e p (by omega) (by omega))⟩
  rw [e Y (by omega) (by omega)]
  rcases c6 with c6 | ⟨c6, c6d⟩
  · exact Or.inl c6
  · refine Or.inr ⟨c6, fun z hz => ?_⟩
    unfold DyAt
    rw [e (Y + 2 + z) (by omega) (by omega), e (Y + 34 + z) (by omega) (by omega), e (Y + 66 + z) (by omega) (by omega), e (Y + 97) (by omega) (by omega)]
    exact c6d z hz
theorem C_write (cf : CF R S N T G U V Kp Y L X W C h h2) (cd : CD I R T U V Kp Y X h tx FR PE SC TL UL KL SN) (v : Int32) : ∃ J, fX11_write 0 v (I, R, S, N) = some ((aWrite tx v).1, (J, R, S, N)) ∧ CD J R T U V Kp Y X h (aWrite tx v).2 FR PE SC TL UL KL SN ∧ ∀ p, 201 < p → J p = I p := by
  have cf1 := cf.2.1
  have hT := cf.2.2.1
  have pl := cf.1
  obtain ⟨p1, -⟩ := pl
  unfold aWrite fX11_write
  by_cases h1 : v < 32
  · rw [if_pos h1, if_pos h1]
    exact ⟨I, rfl, cd, fun _ _ => rfl⟩
  · rw [if_neg h1, if_neg h1]
    by_cases h2 : v ≤ 126
    · rw [if_pos h2, if_pos h2]
      by_cases h3 : tx.length < 200
      · rw [if_pos h3]
        obtain ⟨J, e1, e2, e3⟩ := X_add hT cd.1 h3 v
        refine ⟨J, ?_, CD_tx cf cd e2 e3, fun p hp => e3 p (by omega) (by omega)⟩
        simp only [f_0 cf1, Tx_o hT, e1, Option.bind_some, Tx_g hT, e2.2.1]
        rw [if_neg (by decide)]
        simp
      · rw [if_neg h3]
        refine ⟨I, ?_, cd, fun _ _ => rfl⟩
        simp only [f_0 cf1, Tx_o hT, X_addF hT cd.1 h3, Option.bind_some, if_true]
    · rw [if_neg h2, if_neg h2]
      exact ⟨I, rfl, cd, fun _ _ => rfl⟩
theorem C_wipe (cf : CF R S N T G U V Kp Y L X W C h h2) (cd : CD I R T U V Kp Y X h tx FR PE SC TL UL KL SN) : ∃ J, fX11_wipe 0 (I, R, S, N) = some (nI tx.length, (J, R, S, N)) ∧ CD J R T U V Kp Y X h [] FR PE SC TL UL KL SN ∧ ∀ p, 201 < p → J p = I p := by
  have cf1 := cf.2.1
  have hT := cf.2.2.1
  have pl := cf.1
  obtain ⟨p1, -⟩ := pl
  obtain ⟨J, e1, e2, e3⟩ := X_empty hT cd.1
  refine ⟨J, ?_, CD_tx cf cd e2 (fun p h1 _ => e3 p h1), fun p hp => e3 p (by omega)⟩
  simp only [fX11_wipe, f_0 cf1, Tx_o hT, e1, Option.bind_some]
def aCount (FR : List F4) (PE : List P2) (SC : List C3) (TL : List T3) (UL KL : List (List T3)) (SN : List P2) (tx : List Int32) (v : Int32) : Int32 := if v = 0 then nI FR.length else if v = 1 then nI PE.length else if v = 2 then nI SC.length else if v = 3 then nI TL.length else if v = 4 then nI SN.length else if v = 5 then nI UL.length else if v = 6 then nI KL.length else if v = 7 then nI tx.length else -1
theorem C_count (cf : CF R S N T G U V Kp Y L X W C h h2) (cd : CD I R T U V Kp Y X h tx FR PE SC TL UL KL SN) (v : Int32) : fX11_count 0 v (I, R, S, N) = some (aCount FR PE SC TL UL KL SN tx v, (I, R, S, N)) := by
  obtain ⟨pl, cf1, hT, -, hU, hV, hK, hY, -, hX, -, -, hH, -⟩ := cf
  obtain ⟨c1, c2, ⟨c3a, c3⟩, ⟨c4a, c4⟩, ⟨TT, c5⟩, c6, c7⟩ := cd
  simp only [fX11_count, aCount, f_10 cf1, f_2 cf1, f_7 cf1, f_3 cf1, f_4 cf1, f_0 cf1, Ho_g hH, T_g hU, Si_g hX, Sh_g hV, Sh_g hK, Tx_g hT, Option.bind_some, c1.2.1, c2.2.1, c3.1, c4.1, c5.2.1.1, c5.2.1.2.1, c5.2.1.2.2, c7.2.1]
  repeat (first | rfl | (split; rfl))
/-- a number that is one of n, or none -/
theorem ixc (x : Int32) {n : Nat} (hn : n < 2 ^ 31) : (x < 0 ∨ nI n ≤ x) ∨ ∃ j, j < n ∧ x = nI j := by
  rcases pk_ix x hn with a | a | a
  · exact Or.inl (Or.inl a)
  · exact Or.inl (Or.inr a)
  · exact Or.inr a
/-- an argument as one of n -/
def ix (x : Int32) (n : Nat) : Option Nat := if x < 0 ∨ nI n ≤ x then none else some x.toNatClampNeg
theorem ix_n {x : Int32} {n : Nat} (h : x < 0 ∨ nI n ≤ x) : ix x n = none := if_pos h
theorem ix_s {j n : Nat} (h : j < n) (hn : n < 2 ^ 31) : ix (nI j) n = some j := by
  unfold ix
  rw [if_neg (fun z => z.elim (fun a => nI_pos (by omega) a) (fun a => nI_ge h hn a)), nI_clamp (by omega)]
def pushU (UL : List (List T3)) (TL : List T3) : List (List T3) := (if UL.length < 8 then UL else UL.drop 1) ++ [TL]
theorem pushU_len {UL : List (List T3)} {TL : List T3} (h : UL.length ≤ 8) : (pushU UL TL).length ≤ 8 := by
  unfold pushU
  split <;> simp <;> omega
theorem isSh_ofR {R' : Nat → Nat → Option Nat} {n : Nat} (hs : isSh R S N V n) (e : ∀ k, V ≤ k → k ≤ V + 1 + 4 * n → R' k = R k) : isSh R' S N V n := by
  refine ⟨hs.1, hs.2.1, hs.2.2.1, ?_, ?_, ?_, fun c hc => (hs.2.2.2.2.2.2 c hc).ofR (e _ (by omega) (by omega))⟩
  · rw [e V (by omega) (by omega)]; exact hs.2.2.2.1
  · rw [e (V + 1) (by omega) (by omega)]; exact hs.2.2.2.2.1
  · rw [e (V + 1) (by omega) (by omega)]; exact hs.2.2.2.2.2.1
/-- the class's shape when only the row of the undo shelf has changed -/
theorem CF_V {R' : Nat → Nat → Option Nat} (cf : CF R S N T G U V Kp Y L X W C h h2) (e : ∀ k, k ≠ V + 1 → R' k = R k) (hs : isSh R' S N V 8) : CF R' S N T G U V Kp Y L X W C h h2 := by
  obtain ⟨pl, cf1, hT, hG, hU, hV, hK, hY, hL, hX, hW, hC, hH, hH2⟩ := cf
  have pl0 := pl
  obtain ⟨p1, p2, p3, p4, p5, p6, p7, p8, p9, p10, p11⟩ := pl
  refine ⟨pl0, ?_, isTx_ofR hT (fun k a b => e k (by omega)), isRd_ofR hG (fun k a b => e k (by omega)), hU.ofR (e _ (by omega)), hs, isSh_ofR hK (fun k a b => e k (by omega)), isDy_ofR hY (fun k a b => e k (by omega)), isLu_ofR hL (fun k a b => e k (by omega)), isSi_ofR hX (fun k a b => e k (by omega)), isDr_ofR hW (fun k a b => e k (by omega)), ?_, isHo_ofR hH (fun k a b => e k (by omega)), isHo_ofR hH2 (fun k a b => e k (by omega))⟩
  · unfold isCf at *
    rw [e 0 (by omega)]
    exact cf1
  · unfold isCh at *
    rw [e C (by omega)]
    exact hC
theorem ShAt_ofR {R' : Nat → Nat → Option Nat} {l : List (List T3)} (h : ShAt I R V l) (e : R' (V + 1) = R (V + 1)) : ShAt I R' V l := by
  unfold ShAt
  rw [e]
  exact h
/-- the turns as they are go onto the undo shelf -/
theorem C_push (cf : CF R S N T G U V Kp Y L X W C h h2) (cd : CD I R T U V Kp Y X h tx FR PE SC TL UL KL SN) : ∃ J R', fX7_put V U (I, R, S, N) = some ((), (J, R', S, N)) ∧ CF R' S N T G U V Kp Y L X W C h h2 ∧ CD J R' T U V Kp Y X h tx FR PE SC TL (pushU UL TL) KL SN ∧ (∀ p, p ≠ V + 1 → R' p = R p) ∧ ∀ p, (p < V ∨ V + 33 < p) → J p = I p := by
  have cf0 := cf
  obtain ⟨pl, cf1, hT, hG, hU, hV, hK, hY, hL, hX, hW, hC, hH, hH2⟩ := cf
  obtain ⟨c1, c2, ⟨c3a, c3⟩, ⟨c4a, c4⟩, ⟨TT, c5⟩, c6, c7⟩ := cd
  obtain ⟨p1, p2, p3, p4, p5, p6, p7, p8, p9, p10, p11⟩ := pl
  have key : ∃ J R', fX7_put V U (I, R, S, N) = some ((), (J, R', S, N)) ∧ isSh R' S N V 8 ∧ ShAt J R' V (pushU UL TL) ∧ (∀ p, p ≠ V + 1 → R' p = R p) ∧ ∀ p, (p < V ∨ V + 33 < p) → J p = I p := by
    by_cases c : UL.length < 8
    · obtain ⟨J, e1, e2, e3⟩ := V_put hV (by omega) hU (by omega) c3 c c2
      exact ⟨J, R, e1, hV, by unfold pushU; rw [if_pos c]; exact e2, fun _ _ => rfl, fun p hp => e3 p (by omega)⟩
    · obtain ⟨J, R', e1, e2, e3, e4, e5⟩ := V_putF hV (by omega) (by omega) hU (by omega) c3 (by omega) c2
      exact ⟨J, R', e1, e2, by unfold pushU; rw [if_neg c]; exact e3, e4, fun p hp => e5 p (by omega)⟩
  obtain ⟨J, R', e1, e2, e3, e4, e5⟩ := key
  refine ⟨J, R', e1, CF_V cf0 e4 e2, ⟨c1.of (e5 _ (by omega)) (e5 _ (by omega)), c2.of (fun p a b => e5 p (by omega)), ⟨pushU_len c3a, e3⟩, ⟨c4a, ShAt_ofR (c4.of hK c4a (fun p a b => e5 p (by omega))) (e4 _ (by omega))⟩, ⟨TT, c5.of (fun p a b => e5 p (by omega))⟩, ?_, c7.of (fun p a b => e5 p (by omega))⟩, e4, e5⟩
  rw [e5 Y (by omega)]
  rcases c6 with c6 | ⟨c6, c6d⟩
  · exact Or.inl c6
  · refine Or.inr ⟨c6, fun z hz => ?_⟩
    unfold DyAt
    rw [e5 (Y + 2 + z) (by omega), e5 (Y + 34 + z) (by omega), e5 (Y + 66 + z) (by omega), e5 (Y + 97) (by omega)]
    exact c6d z hz
/-- other turns: the days are stale -/
theorem CD_TL {J J2 : Nat → Nat → Int32} {TL' : List T3} (cf : CF R S N T G U V Kp Y L X W C h h2) (cd : CD I R T U V Kp Y X h tx FR PE SC TL UL KL SN) (d : TAt J U TL') (e : ∀ p, (p < U ∨ U + 3 < p) → J p = I p) (e2 : J2 = up1 J Y (upd (J Y) 4 1)) : CD J2 R T U V Kp Y X h tx FR PE SC TL' UL KL SN ∧ ∀ p, 201 < p → J2 p = I p := by
  obtain ⟨pl, cf1, hT, hG, hU, hV, hK, hY, hL, hX, hW, hC, hH, hH2⟩ := cf
  obtain ⟨c1, c2, ⟨c3a, c3⟩, ⟨c4a, c4⟩, ⟨TT, c5⟩, c6, c7⟩ := cd
  obtain ⟨p1, p2, p3, p4, p5, p6, p7, p8, p9, p10, p11⟩ := pl
  have f : ∀ p, p ≠ Y → J2 p = J p := fun p hp => by rw [e2, up1_n _ _ hp]
  have f2 : ∀ p, p ≠ Y → (p < U ∨ U + 3 < p) → J2 p = I p := fun p a b => by rw [f p a, e p b]
  refine ⟨⟨c1.of (f2 _ (by omega) (by omega)) (f2 _ (by omega) (by omega)), d.of (fun p a b => f p (by omega)), ⟨c3a, c3.of hV c3a (fun p a b => f2 p (by omega) (by omega))⟩, ⟨c4a, c4.of hK c4a (fun p a b => f2 p (by omega) (by omega))⟩, ⟨TT, c5.of (fun p a b => f2 p (by omega) (by omega))⟩, Or.inl (by rw [e2, up1_s]; simp [upd]), c7.of (fun p a b => f2 p (by omega) (by omega))⟩, fun p hp => f2 p (by omega) (by omega)⟩
def aTurn (FR : List F4) (TL : List T3) (UL : List (List T3)) (v1 v2 v3 : Int32) : Int32 × List T3 × List (List T3) := match ix v1 31, ix v2 FR.length, ix v3 41 with
  | some n, some k, some d => if TL.length < 8 then (nI (TL.length + 1), TL ++ [(nI n, k, nI d - 20)], pushU UL TL) else (-3, TL, UL)
  | _, _, _ => (-1, TL, UL)
theorem z41 : (41 : Int32) = nI 41 := by decide
theorem C_turn (cf : CF R S N T G U V Kp Y L X W C h h2) (cd : CD I R T U V Kp Y X h tx FR PE SC TL UL KL SN) (v1 v2 v3 : Int32) : ∃ J R', fX11_turn 0 v1 v2 v3 (I, R, S, N) = some ((aTurn FR TL UL v1 v2 v3).1, (J, R', S, N)) ∧ CF R' S N T G U V Kp Y L X W C h h2 ∧ CD J R' T U V Kp Y X h tx FR PE SC (aTurn FR TL UL v1 v2 v3).2.1 (aTurn FR TL UL v1 v2 v3).2.2 KL SN ∧ (∀ p, 201 < p → J p = I p ∧ R' p = R p) := by
  have cf0 := cf
  obtain ⟨pl, cf1, hT, hG, hU, hV, hK, hY, hL, hX, hW, hC, hH, hH2⟩ := cf
  obtain ⟨TT, c5⟩ := cd.2.2.2.2.1
  have d1 := c5.1
  have c2 := cd.2.1
  have c2l := c2.1
  unfold aTurn fX11_turn
  simp only [z31, z41]
  rcases ixc v1 (n := 31) (by omega) with b1 | ⟨n, b1, rfl⟩
  · rw [ix_n b1, C_out1 b1]
    exact ⟨I, R, by simp only [Option.bind_some]; rw [if_neg (by decide)], cf0, cd, fun _ _ => ⟨rfl, rfl⟩⟩
  · rw [ix_s b1 (by omega), C_out0 b1 (by omega)]
    simp only [Option.bind_some, if_true, f_10 cf1, Ho_g hH, c5.2.1.1]
    rcases ixc v2 (n := FR.length) (by omega) with b2 | ⟨k, b2, rfl⟩
    · rw [ix_n b2, C_out1 b2]
      exact ⟨I, R, by simp only [Option.bind_some]; rw [if_neg (by decide)], cf0, cd, fun _ _ => ⟨rfl, rfl⟩⟩
    · rw [ix_s b2 (by omega), C_out0 b2 (by omega)]
      simp only [Option.bind_some, if_true]
      rcases ixc v3 (n := 41) (by omega) with b3 | ⟨d, b3, rfl⟩
      · rw [ix_n b3, C_out1 b3]
        exact ⟨I, R, by simp only [Option.bind_some]; rw [if_neg (by decide)], cf0, cd, fun _ _ => ⟨rfl, rfl⟩⟩
      · rw [ix_s b3 (by omega), C_out0 b3 (by omega)]
        simp (disch := omega) only [Option.bind_some, if_true, f_2 cf1, T_g hU, c2.2.1, z8, nlt]
        by_cases c : TL.length < 8
        · rw [if_pos c, if_pos c]
          obtain ⟨J, R', e1, cf', cd', e4, e5⟩ := C_push cf0 cd
          have cf1' := cf'.2.1
          have hU' := cf'.2.2.2.2.1
          have hY' := cf'.2.2.2.2.2.2.2.1
          obtain ⟨J1, g1, g2, g3⟩ := T_add hU' cd'.2.1 c (nI n) k (nI d - 20)
          obtain ⟨cd'', f''⟩ := CD_TL cf' cd' g2 g3 rfl
          obtain ⟨p1, p2, p3, p4, p5, p6, p7, p8, p9, p10, p11⟩ := pl
          refine ⟨_, R', ?_, cf', cd'', fun p hp => ⟨by rw [f'' p hp, e5 p (by omega)], e4 p (by omega)⟩⟩
          simp only [f_3 cf1, f_2 cf1, Sh_o hV, e1, Option.bind_some, f_2 cf1', T_o hU', g1, f_5 cf1', Dy_p hY', T_g hU']
          rw [up1_n _ _ (by omega), g2.2.1]
          simp
        · rw [if_neg c, if_neg c]
          exact ⟨I, R, rfl, cf0, cd, fun _ _ => ⟨rfl, rfl⟩⟩
end CLS
