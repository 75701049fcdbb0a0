/-! THE START of the class, computed -/
def w0 : Wd := (fun _ _ => 0, fun _ _ => none, fun _ => (0, 0), 0)
noncomputable def wA : Wd := (fX11_init_A 0 (nw 10 0 w0)).getD w0
theorem wA_is : (fX11_init_A 0 (nw 10 0 w0)).isSome = true := by decide +kernel
theorem wA_eq : fX11_init_A 0 (nw 10 0 w0) = some wA := by
  have h := wA_is
  unfold wA
  cases g : fX11_init_A 0 (nw 10 0 w0) with
  | none => rw [g] at h; cases h
  | some x => rfl
theorem wA_N : wN wA = 202 := by decide +kernel
theorem Wd_eta (w : Wd) : w = (wI w, wR w, wS w, wN w) := rfl
theorem wA_t : wA = (wI wA, wR wA, wS wA, 202) := (Wd_eta wA).trans (congrArg (fun n => (wI wA, wR wA, wS wA, n)) wA_N)
theorem cA_cf : isCf (wR wA) (wS wA) 202 1 3 5 9 43 53 151 164 168 171 174 188 := by
  unfold isCf
  decide +kernel
theorem cA_tx : isTx (wR wA) (wS wA) 202 1 := by
  unfold isTx
  decide +kernel
theorem cA_rd : isRd (wR wA) (wS wA) 202 3 := by
  unfold isRd
  decide +kernel
theorem cA_t : isT (wR wA) (wS wA) 202 5 := by
  unfold isT
  decide +kernel
theorem cA_s8a : 9 + 1 + 4 * 8 < 202 ∧ (wS wA 9).1 = 6 ∧ wS wA 10 = (13, 8) ∧ wR wA 9 0 = some 10 := by decide +kernel
theorem cA_s8b : ∀ j, j < 8 → wR wA 10 j = some (11 + 4 * j) := by decide +kernel
theorem cA_s8c : ∀ c, c < 8 → 11 + 4 * c + 3 < 202 ∧ (wS wA (11 + 4 * c)).1 = 9 ∧ wS wA (11 + 4 * c + 1) = (12, 8) ∧ wS wA (11 + 4 * c + 2) = (12, 8) ∧ wS wA (11 + 4 * c + 3) = (12, 8) ∧ wR wA (11 + 4 * c) 0 = some (11 + 4 * c + 1) ∧ wR wA (11 + 4 * c) 1 = some (11 + 4 * c + 2) ∧ wR wA (11 + 4 * c) 2 = some (11 + 4 * c + 3) := by decide +kernel
theorem cA_s8 : isSh (wR wA) (wS wA) 202 9 8 := by
  obtain ⟨a1, a2, a3, a4⟩ := cA_s8a
  refine ⟨a1, a2, a3, a4, fun j hj => ⟨j, hj, cA_s8b j hj⟩, fun i j hi hj e => ?_, fun c hc => cA_s8c c hc⟩
  rw [cA_s8b i hi, cA_s8b j hj] at e
  have := Option.some.inj e
  omega
theorem cA_s2a : 43 + 1 + 4 * 2 < 202 ∧ (wS wA 43).1 = 6 ∧ wS wA 44 = (13, 2) ∧ wR wA 43 0 = some 44 := by decide +kernel
theorem cA_s2b : ∀ j, j < 2 → wR wA 44 j = some (45 + 4 * j) := by decide +kernel
theorem cA_s2c : ∀ c, c < 2 → 45 + 4 * c + 3 < 202 ∧ (wS wA (45 + 4 * c)).1 = 9 ∧ wS wA (45 + 4 * c + 1) = (12, 8) ∧ wS wA (45 + 4 * c + 2) = (12, 8) ∧ wS wA (45 + 4 * c + 3) = (12, 8) ∧ wR wA (45 + 4 * c) 0 = some (45 + 4 * c + 1) ∧ wR wA (45 + 4 * c) 1 = some (45 + 4 * c + 2) ∧ wR wA (45 + 4 * c) 2 = some (45 + 4 * c + 3) := by decide +kernel
theorem cA_s2 : isSh (wR wA) (wS wA) 202 43 2 := by
  obtain ⟨a1, a2, a3, a4⟩ := cA_s2a
  refine ⟨a1, a2, a3, a4, fun j hj => ⟨j, hj, cA_s2b j hj⟩, fun i j hi hj e => ?_, fun c hc => cA_s2c c hc⟩
  rw [cA_s2b i hi, cA_s2b j hj] at e
  have := Option.some.inj e
  omega
theorem cA_dy : isDy (wR wA) (wS wA) 202 53 := by
  unfold isDy
  decide +kernel
theorem cA_lu : isLu (wR wA) (wS wA) 202 151 := by
  unfold isLu
  decide +kernel
theorem cA_si : isSi (wR wA) (wS wA) 202 164 := by
  unfold isSi
  decide +kernel
theorem cA_dr : isDr (wR wA) (wS wA) 202 168 := by
  unfold isDr
  decide +kernel
theorem cA_ch : isCh (wR wA) (wS wA) 202 171 := by
  unfold isCh
  decide +kernel
theorem cA_h1 : isHo (wR wA) (wS wA) 202 174 := by
  unfold isHo isT
  decide +kernel
theorem cA_h2 : isHo (wR wA) (wS wA) 202 188 := by
  unfold isHo isT
  decide +kernel
theorem cA : CF (wR wA) (wS wA) 202 1 3 5 9 43 53 151 164 168 171 174 188 := ⟨⟨rfl, rfl, rfl, rfl, rfl, rfl, rfl, rfl, rfl, rfl, Or.inl ⟨rfl, rfl⟩⟩, cA_cf, cA_tx, cA_rd, cA_t, cA_s8, cA_s2, cA_dy, cA_lu, cA_si, cA_dr, cA_ch, cA_h1, cA_h2⟩
theorem cA_i : wI wA 1 1 = nI 0 ∧ wI wA 5 3 = nI 0 ∧ wI wA 9 1 = nI 0 ∧ wI wA 43 1 = nI 0 ∧ (wI wA 174 4 = nI 0 ∧ wI wA 174 7 = nI 0 ∧ wI wA 174 11 = nI 0) ∧ wI wA 184 3 = nI 0 ∧ wI wA 53 4 = 1 ∧ wI wA 164 2 = nI 0 := by decide +kernel
theorem nolt {P : Nat → Prop} : ∀ k, k < 0 → P k := fun k h => absurd h (Nat.not_lt_zero k)
theorem cA_d : CD (wI wA) (wR wA) 1 5 9 43 53 164 174 [] [] [] [] [] [] [] [] := by
  obtain ⟨a1, a2, a3, a4, a5, a6, a7, a8⟩ := cA_i
  exact ⟨⟨Nat.zero_le _, a1, nolt⟩, ⟨Nat.zero_le _, a2, nolt⟩, ⟨Nat.zero_le _, a3, nolt⟩, ⟨Nat.zero_le _, a4, nolt⟩, ⟨[], ⟨Nat.zero_le _, Nat.zero_le _, Nat.zero_le _⟩, a5, nolt, nolt, nolt, ⟨Nat.zero_le _, a6, nolt⟩⟩, Or.inl a7, Nat.zero_le _, a8, nolt⟩
theorem fA_split (p0 : Nat) (w : Wd) : fX11_init p0 w = (fX11_init_A p0 w).bind fun w => fX11_init_L p0 (fX11_init_B p0) FV (0 : Int32) w := by
  unfold fX11_init fX11_init_A
  simp only [Option.bind_assoc, Option.bind_some]
theorem strB_len : strB.length = 100 := by decide +kernel
section STA
variable {R : Nat → Nat → Option Nat} {S : Nat → Nat × Nat} {N T G U V Kp Y L X W C h h2 : Nat} {I : Nat → Nat → Int32} {FR : List F4} {PE : List P2} {SC : List C3} {TL : List T3} {UL KL : List (List T3)} {SN : List P2}
/-- the first house's text is written letter by letter -/
theorem A_loop (cf : CF R S N T G U V Kp Y L X W C h h2) (K : Wd → Option (Unit × Wd)) : ∀ (m i n : Nat) (I : Nat → Nat → Int32), i + m = 100 → m < n → CD I R T U V Kp Y X h (strB.take i) FR PE SC TL UL KL SN → ∃ J, fX11_init_L 0 K n (nI i) (I, R, S, N) = K (J, R, S, N) ∧ CD J R T U V Kp Y X h strB FR PE SC TL UL KL SN := by
  intro m
  induction m with
  | zero =>
    intro i n I hi hn cd
    obtain ⟨n, rfl⟩ : ∃ k, n = k + 1 := ⟨n - 1, by omega⟩
    obtain rfl : i = 100 := by omega
    refine ⟨I, ?_, ?_⟩
    · rw [fX11_init_L, if_pos (by decide)]
    · rw [List.take_of_length_le (by rw [strB_len]; exact Nat.le_refl _)] at cd
      exact cd
  | succ m ih =>
    intro i n I hi hn cd
    obtain ⟨n, rfl⟩ : ∃ k, n = k + 1 := ⟨n - 1, by omega⟩
    have hl : (strB.take i).length = i := by rw [List.length_take, strB_len]; omega
    obtain ⟨J, e1, e2, e3⟩ := X_add cf.2.2.1 cd.1 (by rw [hl]; omega) (chS i)
    have ht : strB.take i ++ [chS i] = strB.take (i + 1) := by
      have hb : i < strB.length := by rw [strB_len]; omega
      rw [List.take_succ, List.getElem?_eq_getElem hb]
      unfold chS
      rw [List.getD_eq_getElem?_getD, List.getElem?_eq_getElem hb]
      rfl
    rw [ht] at e2
    obtain ⟨J', g1, g2⟩ := ih (i + 1) n J (by omega) (by omega) (CD_tx cf cd e2 e3)
    refine ⟨J', ?_, g2⟩
    have hc : chF (nI i) = some (chS i) := by
      unfold chF
      rw [if_neg (fun z => ?_), nI_clamp (by omega)]
      rcases z with z | z
      · exact nI_pos (by omega) z
      · exact nI_ge (a := i) (b := 100) (by omega) (by omega) z
    rw [fX11_init_L, if_neg (show ¬ (100 : Int32) ≤ nI i from nI_ge (b := 100) (by omega) (by omega)), f_0 cf.2.1, Option.bind_some, hc, Option.bind_some, Tx_o cf.2.2.1, Option.bind_some, e1, Option.bind_some]
    rw [nI_1]
    exact g1
def hs0 : HS := ([(0, 3, 1, 0), (0, 0, 0, 0), (1, -5, 0, -4), (1, 6, -1, 0)], [(0, 2), (1, 1), (2, 3)], [(0, 8, 0), (1, 9, 0), (1, 10, 1), (2, 8, 1)], [(1, 1, 4), (2, 2, -2)])
theorem lay0a : (aLayS strB).map (fun h => h.1) = some hs0.1 ∧ (aLayS strB).map (fun h => h.2.1) = some hs0.2.1 := by decide +kernel
theorem lay0b : (aLayS strB).map (fun h => h.2.2.1) = some hs0.2.2.1 ∧ (aLayS strB).map (fun h => h.2.2.2) = some hs0.2.2.2 := by decide +kernel
theorem lay0 : aLayS strB = some hs0 := by
  obtain ⟨a1, a2⟩ := lay0a
  obtain ⟨a3, a4⟩ := lay0b
  cases g : aLayS strB with
  | none => rw [g] at a1; cases a1
  | some x =>
    rw [g] at a1 a2 a3 a4
    obtain ⟨x1, x2, x3, x4⟩ := x
    exact congrArg some (Prod.ext (Option.some.inj a1) (Prod.ext (Option.some.inj a2) (Prod.ext (Option.some.inj a3) (Option.some.inj a4))))
theorem lay1 : aLay strB = 4 := by decide +kernel
/-- it is read, and the object moves in -/
theorem A_end (cf : CF R S N T G U V Kp Y L X W C h h2) (cd : CD I R T U V Kp Y X h strB FR PE SC TL UL KL SN) : ∃ J R', fX11_init_B 0 (I, R, S, N) = some ((), (J, R', S, N)) ∧ CF R' S N T G U V Kp Y L X W C h2 h ∧ CD J R' T U V Kp Y X h2 [] hs0.1 hs0.2.1 (bkt hs0.2.2.1) hs0.2.2.2 [] [] [] := by
  obtain ⟨J, R', e1, e2, -⟩ := C_lay cf cd
  rw [lay1] at e1
  rcases e2 with ⟨e2, -⟩ | ⟨hs, e2, cf', cd'⟩
  · rw [lay0] at e2
    cases e2
  · rw [lay0] at e2
    cases e2
    unfold fX11_lay at e1
    obtain ⟨r1, a1, e1⟩ := bnd e1
    obtain ⟨r2, a2, e1⟩ := bnd e1
    obtain ⟨r3, a3, e1⟩ := bnd e1
    obtain ⟨u4, a4, e1⟩ := bnd e1
    obtain ⟨q5, a5, e1⟩ := bnd e1
    by_cases c5 : q5.1 = -4
    · rw [if_pos c5] at e1
      obtain ⟨r7, -, e1⟩ := bnd e1
      obtain ⟨x8, -, e1⟩ := bnd e1
      by_cases c8 : x8 = 0
      · rw [if_pos c8] at e1
        have := congrArg Prod.fst (Option.some.inj e1)
        exact absurd (show (-2 : Int32) = 4 from this) (by decide)
      · rw [if_neg c8] at e1
        obtain ⟨u10, a10, e1⟩ := bnd e1
        obtain ⟨q11, a11, e1⟩ := bnd e1
        obtain ⟨r12, -, e1⟩ := bnd e1
        obtain ⟨x13, -, e1⟩ := bnd e1
        have hq : q11.2 = (J, R', S, N) := congrArg Prod.snd (Option.some.inj e1)
        obtain ⟨J2, b1, b2, b3⟩ := X_empty cf'.2.2.1 cd'.1
        refine ⟨J2, R', ?_, cf', CD_tx cf' cd' b2 (fun p a _ => b3 p a)⟩
        unfold fX11_init_B
        rw [a1, Option.bind_some, a2, Option.bind_some, a3, Option.bind_some, a4, Option.bind_some, a5, Option.bind_some, a10, Option.bind_some, a11, Option.bind_some, hq, f_0 cf'.2.1, Option.bind_some, Tx_o cf'.2.2.1, Option.bind_some, b1, Option.bind_some]
    · rw [if_neg c5] at e1
      have := congrArg Prod.fst (Option.some.inj e1)
      exact absurd (show (-2 : Int32) = 4 from this) (by decide)
theorem cls_start : ∃ J R, fX11_init 0 (nw 10 0 w0) = some ((), (J, R, wS wA, 202)) ∧ CF R (wS wA) 202 1 3 5 9 43 53 151 164 168 171 188 174 ∧ CD J R 1 5 9 43 53 164 188 [] hs0.1 hs0.2.1 (bkt hs0.2.2.1) hs0.2.2.2 [] [] [] := by
  have key : fX11_init 0 (nw 10 0 w0) = fX11_init_L 0 (fX11_init_B 0) FV (0 : Int32) (wI wA, wR wA, wS wA, 202) := by
    rw [fA_split, wA_eq, Option.bind_some]
    exact congrArg (fX11_init_L 0 (fX11_init_B 0) FV 0) wA_t
  obtain ⟨J, e1, cd⟩ := A_loop cA (fX11_init_B 0) 100 0 FV (wI wA) (by omega) (FV_lt (by omega)) cA_d
  obtain ⟨J', R', e2, cf, cd'⟩ := A_end cA cd
  rw [nI_0] at e1
  exact ⟨J', R', key.trans (e1.trans e2), cf, cd'⟩
end STA
