/-! THE DAYS of the spec: pvL d: angles ahead of day d; dwL d: behind its night; stL d: who set what -/
def pvL (FR : List F4) (PE : List P2) (SC : List C3) (TL : List T3) : Nat → List Int32
  | 0 => FR.map (fun f => f.2.1)
  | d + 1 => (mnL FR PE SC (ntL TL (nI d) (twL FR (pvL FR PE SC TL d)))).1
def dwL (FR : List F4) (PE : List P2) (SC : List C3) (TL : List T3) (d : Nat) : List Int32 := ntL TL (nI d) (twL FR (pvL FR PE SC TL d))
def stL (FR : List F4) (PE : List P2) (SC : List C3) (TL : List T3) (d : Nat) : List Int32 := (mnL FR PE SC (dwL FR PE SC TL d)).2
theorem fold_len (FR : List F4) (PE : List P2) : ∀ (SC : List C3) (st : List Int32 × List Int32), (SC.foldl (cmL FR PE) st).1.length = st.1.length ∧ (SC.foldl (cmL FR PE) st).2.length = st.2.length
  | [], st => ⟨rfl, rfl⟩
  | c :: SC, st => by
    rw [List.foldl_cons]
    have h1 := fold_len FR PE SC (cmL FR PE st c)
    have h2 := cm_len (FR := FR) (PE := PE) st c
    exact ⟨h1.1.trans h2.1, h1.2.trans h2.2⟩
theorem mn_len (FR : List F4) (PE : List P2) (SC : List C3) (a : List Int32) : (mnL FR PE SC a).1.length = a.length ∧ (mnL FR PE SC a).2.length = 5 := fold_len FR PE SC (a, none5)
theorem dw_len' (FR : List F4) (PE : List P2) (SC : List C3) (TL : List T3) (d : Nat) : (dwL FR PE SC TL d).length = FR.length := by
  rw [dwL, nt_len, tw_len]
theorem pv_len (FR : List F4) (PE : List P2) (SC : List C3) (TL : List T3) (d : Nat) : (pvL FR PE SC TL d).length = FR.length := by
  cases d with
  | zero => simp [pvL]
  | succ d =>
    show ((mnL FR PE SC (dwL FR PE SC TL d)).1).length = _
    rw [(mn_len FR PE SC _).1, dw_len']
theorem st_len (FR : List F4) (PE : List P2) (SC : List C3) (TL : List T3) (d : Nat) : (stL FR PE SC TL d).length = 5 := (mn_len FR PE SC _).2
theorem arr_cp {f g : Nat → Int32} {l : List Int32} (h : arr f l) (hl : l.length ≤ 7) : arr (fun k => if k < 7 then f k else g k) l := by
  intro k hk
  show (if k < 7 then f k else g k) = _
  rw [if_pos (by omega)]
  exact h k hk
/-- the rows of the class's Days hold day d -/
def DyAt (J : Nat → Nat → Int32) (y : Nat) (FR : List F4) (PE : List P2) (SC : List C3) (TL : List T3) (d : Nat) : Prop := arr (J (y + 2 + d)) (dwL FR PE SC TL d) ∧ arr (J (y + 34 + d)) (pvL FR PE SC TL (d + 1)) ∧ arr (J (y + 66 + d)) (stL FR PE SC TL d) ∧ J (y + 97) d = mask (stL FR PE SC TL d)
section DAYS
variable {R : Nat → Nat → Option Nat} {S : Nat → Nat × Nat} {N h y t : Nat} {FR : List F4} {PE : List P2} {SC : List C3} {TT : List T3} {TL : List T3}
theorem S_playL (hy : isDy R S N y) (hh : isHo R S N h) (ht : isT R S N t) (o1 : y + 97 < h ∨ h + 13 < y) (o2 : y + 97 < t ∨ t + 3 < y) (ok : okP PE) (okc : okC PE SC) (okt : okT FR TL) (K : Wd → Option (Unit × Wd)) :
    ∀ (m d n p3 : Nat) (J : Nat → Nat → Int32), d + m = 31 → m < n → HAt J h FR PE SC TT → TAt J t TL → arr (J p3) (pvL FR PE SC TL d) → isA S N p3 7 → (p3 < y ∨ y + 97 < p3 ∨ (0 < d ∧ p3 = y + 33 + d)) →
    ∃ J', fX1_play_8 y h t K n p3 (nI d) (J, R, S, N) = K (J', R, S, N) ∧ (∀ e, d ≤ e → e < 31 → DyAt J' y FR PE SC TL e) ∧ (∀ k, k < d → J' (y + 97) k = J (y + 97) k) ∧ (∀ p, p ≠ y + 97 → (∀ e, d ≤ e → e < 31 → p ≠ y + 2 + e ∧ p ≠ y + 34 + e ∧ p ≠ y + 66 + e) → J' p = J p) := by
  have hN := hy.1
  intro m
  induction m with
  | zero =>
    intro d n p3 J hd hn dH dT ha hp3 hpl
    obtain ⟨n, rfl⟩ : ∃ n', n = n' + 1 := ⟨n - 1, by omega⟩
    refine ⟨J, ?_, fun e h1 h2 => by omega, fun _ _ => rfl, fun _ _ _ => rfl⟩
    simp (disch := omega) only [fX1_play_8, z31, nle]
    rw [if_pos (by omega)]
  | succ m ih =>
    intro d n p3 J hd hn dH dT ha hp3 hpl
    obtain ⟨n, rfl⟩ : ∃ n', n = n' + 1 := ⟨n - 1, by omega⟩
    have d1 := dH.1
    have hd31 : d < 31 := by omega
    have A1 : isA S N (y + 2 + d) 7 := ⟨by omega, Dy_s0 hy hd31⟩
    have A2 : isA S N (y + 34 + d) 7 := ⟨by omega, Dy_s1 hy hd31⟩
    have A3 : isA S N (y + 66 + d) 5 := ⟨by omega, Dy_s2 hy hd31⟩
    have l0 := pv_len FR PE SC TL d
    -- the morning's row
    obtain ⟨J1, hJ1⟩ : ∃ J1, J1 = up1 J (y + 2 + d) (fun k => if k < 7 then J p3 k else J (y + 2 + d) k) := ⟨_, rfl⟩
    have a1 : arr (J1 (y + 2 + d)) (pvL FR PE SC TL d) := by rw [hJ1, up1_s]; exact arr_cp ha (by omega)
    have f1 : ∀ p, p ≠ y + 2 + d → J1 p = J p := fun p hp => by rw [hJ1, up1_n _ _ hp]
    obtain ⟨J2, g2, a2, f2⟩ := S_twist hh A1 (by omega) (dH.of (fun p h1 h2 => f1 p (by omega))) a1 l0
    obtain ⟨J3, g3, a3, f3⟩ := S_turnAll ht A1 (by omega) (nI d) (TL := TL) (dT.of (fun p h1 h2 => by rw [f2 p (by omega), f1 p (by omega)])) a2 (by rw [tw_len]; omega) (by rw [tw_len]; exact okt)
    obtain ⟨J4, hJ4⟩ : ∃ J4, J4 = up1 J3 (y + 34 + d) (fun k => if k < 7 then J3 (y + 2 + d) k else J3 (y + 34 + d) k) := ⟨_, rfl⟩
    have l3 := dw_len' FR PE SC TL d
    have a4 : arr (J4 (y + 34 + d)) (dwL FR PE SC TL d) := by rw [hJ4, up1_s]; exact arr_cp a3 (by show (dwL FR PE SC TL d).length ≤ 7; omega)
    have f4 : ∀ p, p ≠ y + 34 + d → J4 p = J3 p := fun p hp => by rw [hJ4, up1_n _ _ hp]
    have fH : ∀ p, h ≤ p → p ≤ h + 13 → J4 p = J p := fun p h1 h2 => by rw [f4 p (by omega), f3 p (by omega), f2 p (by omega), f1 p (by omega)]
    obtain ⟨J5, g5, a5, a5s, f5⟩ := S_letCome hh A2 A3 (by omega) (by omega) (by omega) ok okc (dH.of fH) a4 l3
    obtain ⟨J6, hJ6⟩ : ∃ J6, J6 = up1 J5 (y + 97) (upd (J5 (y + 97)) d (mask (stL FR PE SC TL d))) := ⟨_, rfl⟩
    have f6 : ∀ p, p ≠ y + 97 → J6 p = J5 p := fun p hp => by rw [hJ6, up1_n _ _ hp]
    have fall : ∀ p, p ≠ y + 97 → p ≠ y + 2 + d → p ≠ y + 34 + d → p ≠ y + 66 + d → J6 p = J p := fun p q1 q2 q3 q4 => by rw [f6 p q1, f5 p q3 q4, f4 p q3, f3 p q2, f2 p q2, f1 p q2]
    have a6 : arr (J6 (y + 34 + d)) (pvL FR PE SC TL (d + 1)) := by rw [f6 _ (by omega)]; exact a5
    obtain ⟨J', e1, e2, e3, e4⟩ := ih (d + 1) n (y + 34 + d) J6 (by omega) (by omega) (dH.of (fun p h1 h2 => fall p (by omega) (by omega) (by omega) (by omega))) (dT.of (fun p h1 h2 => fall p (by omega) (by omega) (by omega) (by omega))) a6 A2 (Or.inr (Or.inr ⟨by omega, by omega⟩))
    refine ⟨J', ?_, ?_, ?_, ?_⟩
    · have c1 : cpI p3 0 (y + 2 + d) 0 7 (J, R, S, N) = some (J1, R, S, N) := by rw [hJ1]; exact cp7 hp3.1 A1.1 hp3.2 A1.2
      have c2 : cpI (y + 2 + d) 0 (y + 34 + d) 0 7 (J3, R, S, N) = some (J4, R, S, N) := by rw [hJ4]; exact cp7 A1.1 A2.1 A1.2 A2.2
      have c3 : wrI (y + 97) (nI d) (mask (mnL FR PE SC (dwL FR PE SC TL d)).2) (J5, R, S, N) = some (J6, R, S, N) := by rw [hJ6]; exact Dy_w3 hy J5 _ hd31
      simp (disch := omega) only [fX1_play_8, Dy_0 hy, Dy_1 hy, Dy_2 hy, Dy_3 hy, Dy_t0 hy, Dy_t1 hy, Dy_t2 hy, Ho_o hh, T_o ht, Option.bind_some, c1, g2, g3, c2, g5, c3, nI_i1, e1, z31, nle]
      rw [if_neg (by omega)]
    · intro e h1 h2
      by_cases he : e = d
      · subst he
        refine ⟨?_, ?_, ?_, ?_⟩
        · rw [e4 (y + 2 + e) (by omega) (fun z q1 q2 => ⟨by omega, by omega, by omega⟩), f6 _ (by omega), f5 _ (by omega) (by omega), f4 _ (by omega)]
          exact a3
        · rw [e4 (y + 34 + e) (by omega) (fun z q1 q2 => ⟨by omega, by omega, by omega⟩)]
          exact a6
        · rw [e4 (y + 66 + e) (by omega) (fun z q1 q2 => ⟨by omega, by omega, by omega⟩), f6 _ (by omega)]
          exact a5s
        · rw [e3 e (by omega), hJ6, up1_s]
          simp [upd]
      · exact e2 e (by omega) h2
    · intro k hk
      rw [e3 k (by omega), hJ6, up1_s]
      simp only [upd, if_neg (show ¬ k = d by omega)]
      rw [f5 _ (by omega) (by omega), f4 _ (by omega), f3 _ (by omega), f2 _ (by omega), f1 _ (by omega)]
    · intro p q1 q2
      have q3 := q2 d (by omega) hd31
      rw [e4 p q1 (fun e h1 h2 => q2 e (by omega) h2), fall p q1 q3.1 q3.2.1 q3.2.2]
theorem S_play (hy : isDy R S N y) (hh : isHo R S N h) (ht : isT R S N t) (o1 : y + 97 < h ∨ h + 13 < y) (o2 : y + 97 < t ∨ t + 3 < y) (ok : okP PE) (okc : okC PE SC) (okt : okT FR TL) {J : Nat → Nat → Int32} (dH : HAt J h FR PE SC TT) (dT : TAt J t TL) :
    ∃ J', fX1_play y h t (J, R, S, N) = some ((), (J', R, S, N)) ∧ (∀ e, e < 31 → DyAt J' y FR PE SC TL e) ∧ J' y 4 = 0 ∧ (∀ p, (p < y ∨ y + 97 < p) → J' p = J p) := by
  have hN := hy.1
  have hNh := hh.1
  have a0 : arr (J (h + 2)) (pvL FR PE SC TL 0) := by
    intro k hk
    have hk2 : k < FR.length := by simpa [pvL] using hk
    rw [(dH.2.2.1 k hk2).2.1, gD hk, gD hk2]
    simp [pvL]
  obtain ⟨J1, e1, e2, e3, e4⟩ := S_playL hy hh ht o1 o2 ok okc okt (fun w => (pfI 1 4 y (0 : Int32) w).bind fun w => some ((), w)) 31 0 FV (h + 2) J (by omega) (FV_lt (by omega)) dH dT a0 ⟨by omega, hh.2.2.2.1.1⟩ (by omega)
  refine ⟨up1 J1 y (upd (J1 y) 4 0), ?_, ?_, ?_, ?_⟩
  · rw [fX1_play, Ho_1 hh]
    simp only [Option.bind_some]
    rw [show (0 : Int32) = nI 0 from z0] at e1 ⊢
    rw [e1, Dy_p hy]
    rfl
  · intro e he
    obtain ⟨b1, b2, b3, b4⟩ := e2 e (by omega) he
    refine ⟨?_, ?_, ?_, ?_⟩
    · rw [up1_n _ _ (by omega)]; exact b1
    · rw [up1_n _ _ (by omega)]; exact b2
    · rw [up1_n _ _ (by omega)]; exact b3
    · rw [up1_n _ _ (by omega)]; exact b4
  · rw [up1_s]; simp [upd]
  · intro p hp
    rw [up1_n _ _ (by omega), e4 p (by omega) (fun e _ _ => ⟨by omega, by omega, by omega⟩)]
end DAYS
