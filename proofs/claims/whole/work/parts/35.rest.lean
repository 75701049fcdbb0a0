/-! lists alike from i on -/
def eqB (a b : List Int32) : Nat → Nat → Bool
  | _, 0 => true
  | i, m + 1 => decide (a.getD i 0 = b.getD i 0) && eqB a b (i + 1) m
theorem eqB_all {a b : List Int32} : ∀ (m i : Nat), eqB a b i m = true ↔ ∀ k, i ≤ k → k < i + m → a.getD k 0 = b.getD k 0 := by
  intro m
  induction m with
  | zero => intro i; simp [eqB]; intro k h1 h2; omega
  | succ m ih =>
    intro i
    simp only [eqB, Bool.and_eq_true, decide_eq_true_eq, ih]
    constructor
    · rintro ⟨h1, h2⟩ k hk1 hk2
      by_cases e : k = i
      · subst e; exact h1
      · exact h2 k (by omega) (by omega)
    · intro hh
      exact ⟨hh i (by omega) (by omega), fun k h1 h2 => hh k (by omega) (by omega)⟩
theorem eqB_iff {a b : List Int32} {n : Nat} (ha : a.length = n) (hb : b.length = n) : eqB a b 0 n = true ↔ a = b := by
  rw [eqB_all]
  constructor
  · intro hh
    exact lext (by omega) (fun k hk => hh k (by omega) (by omega))
  · rintro rfl k _ _
    rfl
def rsL (FR : List F4) (PE : List P2) (SC : List C3) (TL : List T3) : Nat → Nat
  | 0 => 0
  | d + 1 => if pvL FR PE SC TL (d + 1) = pvL FR PE SC TL d then rsL FR PE SC TL d else d + 1
theorem rsL_le (FR : List F4) (PE : List P2) (SC : List C3) (TL : List T3) : ∀ d, rsL FR PE SC TL d ≤ d
  | 0 => Nat.le_refl 0
  | d + 1 => by
    unfold rsL
    have := rsL_le FR PE SC TL d
    split <;> omega
def aRest (FR : List F4) (PE : List P2) (SC : List C3) (TL : List T3) : Int32 := if rsL FR PE SC TL 31 < 31 then nI (rsL FR PE SC TL 31) else -4
/-- of the reference only what it writes to while it counts has changed -/
def MX (J J' : Nat → Nat → Int32) (q : Nat) : Prop := (∀ p, p ≠ q → (p < q + 15 ∨ q + 20 < p) → J' p = J p) ∧ ∀ j, j ≠ 28 → J' q j = J q j
theorem MX.rf {J : Nat → Nat → Int32} {q : Nat} : MX J J q := ⟨fun _ _ _ => rfl, fun _ _ => rfl⟩
theorem MX.tr {J J1 J2 : Nat → Nat → Int32} {q : Nat} (h : MX J J1 q) (h2 : MX J1 J2 q) : MX J J2 q := ⟨fun p a b => (h2.1 p a b).trans (h.1 p a b), fun j hj => (h2.2 j hj).trans (h.2 j hj)⟩
theorem MX.mh {J J' : Nat → Nat → Int32} {q : Nat} {FR : List F4} {PE : List P2} {CO SC : List C3} {TL : List T3} (h : MX J J' q) (d : MH J q FR PE CO SC TL) : MH J' q FR PE CO SC TL := d.of (h.2 0 (by omega)) (h.2 2 (by omega)) (h.2 4 (by omega)) (fun p h1 h2 => h.1 p (by omega) (by omega))
theorem MX.md {J J' : Nat → Nat → Int32} {q : Nat} {tx : List Int32} {FR : List F4} {PE : List P2} {CO SC : List C3} {TL : List T3} {UL KL : List (List T3)} {SN : List P2} (h : MX J J' q) (d : MD J q tx FR PE CO SC TL UL KL SN) : MD J' q tx FR PE CO SC TL UL KL SN := d.of (fun j hj => h.2 j (by omega)) (fun p a b => h.1 p (by omega) (by omega))
theorem MG.mx {J J' : Nat → Nat → Int32} {q : Nat} (h : MG J J' q) : MX J J' q := ⟨fun p a b => h.1 p a (by omega) (by omega) (by omega), h.2⟩
theorem MF.mx {J J' : Nat → Nat → Int32} {q : Nat} (h : MF J J' q) : MX J J' q := h.mg.mx
theorem MX.one {J J' : Nat → Nat → Int32} {q r : Nat} (hr : q + 15 ≤ r ∧ r ≤ q + 20) (h : ∀ p, p ≠ r → J' p = J p) : MX J J' q := ⟨fun p _ b => h p (by omega), fun j _ => by rw [h q (by omega)]⟩
section REST
variable {R : Nat → Nat → Option Nat} {S : Nat → Nat × Nat} {N T G U V Kp Y L X W C h h2 q : Nat} {I : Nat → Nat → Int32} {tx : List Int32} {FR : List F4} {PE : List P2} {CO SC : List C3} {TL TT : List T3} {UL KL : List (List T3)} {SN : List P2}
theorem C_asL (hY : isDy R S N Y) (hH : isHo R S N h) {d p3 : Nat} (hd : d < 31) {a b : List Int32} (c5 : HAt I h FR PE SC TT) (ha : arr (I (Y + 34 + d)) a) (hb : arr (I p3) b) (hla : a.length = FR.length) (hlb : b.length = FR.length) (h3 : isA S N p3 7) (K1 K2 : Wd → Option (Int32 × Wd)) : ∀ (m i n : Nat), i + m = FR.length → m < n → fX1_isAsAhead_23 Y h (nI d) p3 K1 K2 n (nI i) (I, R, S, N) = if eqB a b i m = true then K2 (I, R, S, N) else K1 (I, R, S, N) := by
  have d0 := c5.1
  have hr3 : ∀ k, k < 7 → rdI p3 (nI k) (I, R, S, N) = some (I p3 k) := fun k hk => rd h3.1 h3.2 hk (by omega)
  intro m
  induction m with
  | zero =>
    intro i n hi hn
    obtain ⟨n, rfl⟩ : ∃ n', n = n' + 1 := ⟨n - 1, by omega⟩
    simp (disch := omega) only [fX1_isAsAhead_23, Ho_g hH, Option.bind_some, c5.2.1.1, nle, eqB, if_true]
    rw [if_pos (by omega)]
  | succ m ih =>
    intro i n hi hn
    obtain ⟨n, rfl⟩ : ∃ n', n = n' + 1 := ⟨n - 1, by omega⟩
    by_cases c : a.getD i 0 = b.getD i 0
    · simp (disch := omega) only [fX1_isAsAhead_23, Ho_g hH, Option.bind_some, c5.2.1.1, nle, Dy_1 hY, Dy_t1 hY, Dy_r1 hY, hr3, ha i (by omega), hb i (by omega), c, if_true, nI_i1, ih (i + 1) n (by omega) (by omega), eqB, decide_true, Bool.true_and]
      rw [if_neg (by omega)]
    · simp (disch := omega) only [fX1_isAsAhead_23, Ho_g hH, Option.bind_some, c5.2.1.1, nle, Dy_1 hY, Dy_t1 hY, Dy_r1 hY, hr3, ha i (by omega), hb i (by omega), c, if_false, eqB, decide_false, Bool.false_and]
      rw [if_neg (by omega), if_neg (by simp)]
theorem C_as (hY : isDy R S N Y) (hH : isHo R S N h) {d : Nat} (hd : d < 31) (c5 : HAt I h FR PE SC TT) (dy : ∀ e, e < 31 → DyAt I Y FR PE SC TL e) : fX1_isAsAhead Y h (nI d) (I, R, S, N) = some (if pvL FR PE SC TL (d + 1) = pvL FR PE SC TL d then 1 else 0, (I, R, S, N)) := by
  have hN := hY.1
  have hNh := hH.1
  have d0 := c5.1
  have key : ∀ p3, arr (I p3) (pvL FR PE SC TL d) → isA S N p3 7 → fX1_isAsAhead_23 Y h (nI d) p3 (fun w => some (0, w)) (fun w => some (1, w)) FV (nI 0) (I, R, S, N) = some (if pvL FR PE SC TL (d + 1) = pvL FR PE SC TL d then 1 else 0, (I, R, S, N)) := by
    intro p3 hb h3
    rw [C_asL hY hH hd c5 (dy d hd).2.1 hb (pv_len FR PE SC TL (d + 1)) (pv_len FR PE SC TL d) h3 _ _ FR.length 0 FV (by omega) (FV_lt (by omega))]
    by_cases e : pvL FR PE SC TL (d + 1) = pvL FR PE SC TL d
    · rw [if_pos ((eqB_iff (pv_len FR PE SC TL (d + 1)) (pv_len FR PE SC TL d)).mpr e), if_pos e]
    · rw [if_neg (fun z => e ((eqB_iff (pv_len FR PE SC TL (d + 1)) (pv_len FR PE SC TL d)).mp z)), if_neg e]
  unfold fX1_isAsAhead
  rw [z0]
  by_cases c : d = 0
  · subst c
    rw [if_pos (nI_le (Nat.le_refl 0) (by omega)), Ho_1 hH]
    simp only [Option.bind_some]
    refine key (h + 2) ?_ ⟨by omega, hH.2.2.2.1.1⟩
    intro k hk
    have hk2 : k < FR.length := by simpa [pvL] using hk
    rw [(c5.2.2.1 k hk2).2.1, gD hk, gD hk2]
    simp [pvL]
  · rw [if_neg (nI_ge (by omega) (by omega)), Dy_1 hY]
    simp (disch := omega) only [Option.bind_some, nI_sub1, Dy_t1 hY]
    have := (dy (d - 1) (by omega)).2.1
    rw [show d - 1 + 1 = d by omega] at this
    exact key (Y + 34 + (d - 1)) this ⟨by omega, Dy_s1 hY (by omega)⟩
theorem C_frL (hY : isDy R S N Y) (hH : isHo R S N h) (c5 : HAt I h FR PE SC TT) (dy : ∀ e, e < 31 → DyAt I Y FR PE SC TL e) (K : Int32 → Wd → Option (Int32 × Wd)) : ∀ (d n : Nat), d ≤ 31 → d < n → fX1_firstOfRest_3 Y h K n (nI d) (I, R, S, N) = K (nI (rsL FR PE SC TL d)) (I, R, S, N) := by
  intro d
  induction d with
  | zero =>
    intro n h1 hn
    obtain ⟨n, rfl⟩ : ∃ n', n = n' + 1 := ⟨n - 1, by omega⟩
    simp only [fX1_firstOfRest_3, rsL]
    rw [if_pos (by decide)]
  | succ d ih =>
    intro n h1 hn
    obtain ⟨n, rfl⟩ : ∃ n', n = n' + 1 := ⟨n - 1, by omega⟩
    have hp : ¬ nI (d + 1) ≤ 0 := nI_nle (by omega) (by omega)
    have hm1 : nI (d + 1) + (-1 : Int32) = nI d := pk_m1 d
    have hs1 : nI (d + 1) - (1 : Int32) = nI d := by rw [nI_sub1 (by omega)]; rfl
    simp only [fX1_firstOfRest_3, hp, if_false, Dy_o hY, Option.bind_some, hs1, C_as hY hH (show d < 31 by omega) c5 dy, hm1, ih n (by omega) (by omega), rsL]
    by_cases e : pvL FR PE SC TL (d + 1) = pvL FR PE SC TL d
    · rw [if_pos e, if_pos e, if_neg i10]
    · rw [if_neg e, if_neg e, if_pos rfl]
theorem C_rest (cf : CF R S N T G U V Kp Y L X W C h h2) (cd : CD I R T U V Kp Y X h tx FR PE SC TL UL KL SN) (ok : okS FR PE SC TL UL KL) : ∃ J, fX11_rest 0 (I, R, S, N) = some (aRest FR PE SC TL, (J, R, S, N)) ∧ CD J R T U V Kp Y X h tx FR PE SC TL UL KL SN ∧ ∀ p, 201 < p → J p = I p := by
  have cf0 := cf
  obtain ⟨pl, cf1, hT, hG, hU, hV, hK, hY, hL, hX, hW, hC, hH, hH2⟩ := cf
  have pY : Y = 53 := pl.2.2.2.2.2.1
  obtain ⟨J, e1, e2, e3, e4, e5⟩ := C_days cf0 cd ok
  obtain ⟨TT, c5⟩ := e2.2.2.2.2.1
  have hle := rsL_le FR PE SC TL 31
  refine ⟨J, ?_, e2, fun p hp => e5 p (by omega)⟩
  simp only [fX11_rest, fX1_firstOfRest, f_o cf1, e1, f_10 cf1, Dy_o hY, Option.bind_some, z31]
  rw [C_frL hY hH c5 e3 _ 31 FV (Nat.le_refl _) (FV_lt (by omega))]
  unfold aRest
  by_cases c : rsL FR PE SC TL 31 < 31
  · rw [if_pos c, if_neg (nI_ge c (by omega))]
    rfl
  · rw [if_neg c, if_pos (nI_le (by omega) (by omega))]
    rfl
theorem M_rsA (hm : isMo R S N q) (v1 v2 : Int32) (K : Wd → Option (Int32 × Wd)) : ∀ (m i n : Nat) (J : Nat → Nat → Int32), i + m = 7 → m < n → ∃ J', fX12_rest_16 q v1 v2 K n (nI i) (J, R, S, N) = K (J', R, S, N) ∧ (∀ k, i ≤ k → k < 7 → J' (q + 18) k = J (q + 15) k) ∧ (∀ k, k < i → J' (q + 18) k = J (q + 18) k) ∧ ∀ p, p ≠ q + 18 → J' p = J p := by
  intro m
  induction m with
  | zero =>
    intro i n J hi hn
    obtain ⟨n, rfl⟩ : ∃ n', n = n' + 1 := ⟨n - 1, by omega⟩
    refine ⟨J, ?_, fun k h1 h2 => by omega, fun _ _ => rfl, fun _ _ => rfl⟩
    simp (disch := omega) only [fX12_rest_16, z7, nle]
    rw [if_pos (by omega)]
  | succ m ih =>
    intro i n J hi hn
    obtain ⟨n, rfl⟩ : ∃ n', n = n' + 1 := ⟨n - 1, by omega⟩
    obtain ⟨J', e1, e2, e3, e4⟩ := ih (i + 1) n (up1 J (q + 18) (upd (J (q + 18)) i (J (q + 15) i))) (by omega) (by omega)
    refine ⟨J', ?_, ?_, ?_, fun p hp => by rw [e4 p hp, up1_n _ _ hp]⟩
    · simp (disch := omega) only [fX12_rest_16, z7, nle, Mo_25 hm, Mo_29 hm, Mo_r25 hm, Mo_w29 hm, nI_i1, Option.bind_some, e1]
      rw [if_neg (by omega)]
    · intro k h1 h2
      by_cases e : k = i
      · subst e
        rw [e3 k (by omega), up1_s]
        simp [upd]
      · rw [e2 k (by omega) h2, up1_n _ _ (by omega)]
    · intro k hk
      rw [e3 k (by omega), up1_s]
      simp only [upd, if_neg (show ¬ k = i by omega)]
theorem M_rsB (hm : isMo R S N q) (d : MH I q FR PE CO SC TL) {a b : List Int32} (ha : arr (I (q + 15)) a) (hb : arr (I (q + 18)) b) (hla : a.length = FR.length) (hlb : b.length = FR.length) (e : Nat) (K : Int32 → Wd → Option (Int32 × Wd)) : ∀ (m i n : Nat) (v1 : Int32), i + m = FR.length → m < n → fX12_rest_51 q (nI e) K n v1 (nI i) (I, R, S, N) = K (if eqB a b i m = true then v1 else nI (e + 1)) (I, R, S, N) := by
  have d0 := d.1
  intro m
  induction m with
  | zero =>
    intro i n v1 hi hn
    obtain ⟨n, rfl⟩ : ∃ n', n = n' + 1 := ⟨n - 1, by omega⟩
    simp (disch := omega) only [fX12_rest_51, Mo_g hm, Option.bind_some, d.2.1.1, nle, eqB, if_true]
    rw [if_pos (by omega)]
  | succ m ih =>
    intro i n v1 hi hn
    obtain ⟨n, rfl⟩ : ∃ n', n = n' + 1 := ⟨n - 1, by omega⟩
    by_cases c : a.getD i 0 = b.getD i 0
    · simp (disch := omega) only [fX12_rest_51, Mo_g hm, Option.bind_some, d.2.1.1, nle, Mo_25 hm, Mo_r25 hm, Mo_29 hm, Mo_r29 hm, ha i (by omega), hb i (by omega), c, if_true, nI_i1, ih (i + 1) n _ (by omega) (by omega), eqB, decide_true, Bool.true_and]
      rw [if_neg (by omega)]
    · simp (disch := omega) only [fX12_rest_51, Mo_g hm, Option.bind_some, d.2.1.1, nle, Mo_25 hm, Mo_r25 hm, Mo_29 hm, Mo_r29 hm, ha i (by omega), hb i (by omega), c, if_false, nI_i1, ih (i + 1) n _ (by omega) (by omega), eqB, decide_false, Bool.false_and, ite_self]
      rw [if_neg (by omega), if_neg (by simp)]
theorem M_rsC (hm : isMo R S N q) (ok : okS FR PE SC TL UL KL) (K : Int32 → Wd → Option (Int32 × Wd)) : ∀ (m d n : Nat) (J : Nat → Nat → Int32), d + m = 31 → m < n → MH J q FR PE CO SC TL → arr (J (q + 15)) (pvL FR PE SC TL d) → ∃ J', fX12_rest_8 q K n (nI (rsL FR PE SC TL d)) (nI d) (J, R, S, N) = K (nI (rsL FR PE SC TL 31)) (J', R, S, N) ∧ MX J J' q := by
  intro m
  induction m with
  | zero =>
    intro d n J hd hn dM ha
    obtain ⟨n, rfl⟩ : ∃ n', n = n' + 1 := ⟨n - 1, by omega⟩
    have hd31 : d = 31 := by omega
    subst hd31
    refine ⟨J, ?_, MX.rf⟩
    simp (disch := omega) only [fX12_rest_8, z30, nlt]
    rw [if_pos (by omega)]
  | succ m ih =>
    intro d n J hd hn dM ha
    obtain ⟨n, rfl⟩ : ∃ n', n = n' + 1 := ⟨n - 1, by omega⟩
    have d0 := dM.1
    have l0 := pv_len FR PE SC TL d
    have l1 := pv_len FR PE SC TL (d + 1)
    obtain ⟨J1, g1, b1, -, f1⟩ := M_rsA (R := R) (S := S) hm (nI (rsL FR PE SC TL d)) (nI d) (fun w_9 => (isO 11 q w_9).bind fun u_10 => (fX12_nightOf q (nI d) w_9).bind fun q_11 => (isO 11 q q_11.2).bind fun u_12 => (fX12_morning q q_11.2).bind fun q_13 => fX12_rest_51 q (nI d) (fun v1_22 w_21 => fX12_rest_8 q K n v1_22 (nI d + (1 : Int32)) w_21) FV (nI (rsL FR PE SC TL d)) (nI 0) q_13.2) 7 0 FV J (by omega) (FV_lt (by omega))
    have m1 : MX J J1 q := MX.one ⟨by omega, by omega⟩ f1
    obtain ⟨J2, g2, a2, f2⟩ := M_nightOf hm ok.2.2.2.1 (nI d) (m1.mh dM) (by rw [f1 _ (by omega)]; exact ha) l0
    have m2 : MX J1 J2 q := (MG.o15 f2).mx
    obtain ⟨J3, g3, s3, f3⟩ := M_morning hm ok.2.1 ok.2.2.1 ((m1.tr m2).mh dM) a2 (dw_len' FR PE SC TL d) (allA_dw FR PE SC TL d)
    have m3 : MX J J3 q := (m1.tr m2).tr f3.mx
    have hb : arr (J3 (q + 18)) (pvL FR PE SC TL d) := by
      intro k hk
      rw [f3.1 _ (by omega) (by omega) (by omega), f2 _ (by omega), b1 k (by omega) (by omega)]
      exact ha k hk
    have hr : (if eqB (pvL FR PE SC TL (d + 1)) (pvL FR PE SC TL d) 0 FR.length = true then nI (rsL FR PE SC TL d) else nI (d + 1)) = nI (rsL FR PE SC TL (d + 1)) := by
      show _ = nI (if pvL FR PE SC TL (d + 1) = pvL FR PE SC TL d then rsL FR PE SC TL d else d + 1)
      by_cases e : pvL FR PE SC TL (d + 1) = pvL FR PE SC TL d
      · rw [if_pos ((eqB_iff l1 l0).mpr e), if_pos e]
      · rw [if_neg (fun z => e ((eqB_iff l1 l0).mp z)), if_neg e]
    obtain ⟨J', e1, e2⟩ := ih (d + 1) n J3 (by omega) (by omega) (m3.mh dM) s3.1
    refine ⟨J', ?_, m3.tr e2⟩
    simp (disch := omega) only [fX12_rest_8, z30, nlt]
    rw [if_neg (by omega), z0, g1]
    simp only [Mo_o hm, g2, g3, Option.bind_some, nI_i1]
    have a15 : arr (J3 (q + 15)) (pvL FR PE SC TL (d + 1)) := s3.1
    rw [M_rsB hm (m3.mh dM) a15 hb l1 l0 d _ FR.length 0 FV _ (by omega) (FV_lt (by omega)), hr]
    exact e1
theorem MM_rest (hm : isMo R S N q) (d : MD I q tx FR PE CO SC TL UL KL SN) (ok : okS FR PE SC TL UL KL) : ∃ J, fX12_rest q (I, R, S, N) = some (aRest FR PE SC TL, (J, R, S, N)) ∧ MD J q tx FR PE CO SC TL UL KL SN ∧ ∀ p, (p < q ∨ q + 20 < p) → J p = I p := by
  have d1 := d.1
  obtain ⟨J1, g1, a1, f1⟩ := M_begins (TL := TL) hm d1
  have m1 : MX I J1 q := (MG.o15 f1).mx
  obtain ⟨J, e1, e2⟩ := M_rsC hm ok (fun v w => if v ≤ (30 : Int32) then some (v, w) else some ((-4 : Int32), w)) 31 0 FV J1 (by omega) (FV_lt (by omega)) (m1.mh d1) a1
  have m2 := m1.tr e2
  refine ⟨J, ?_, m2.md d, fun p hp => m2.1 p (by omega) (by omega)⟩
  have hle := rsL_le FR PE SC TL 31
  simp only [fX12_rest, Mo_o hm, Option.bind_some, g1]
  rw [show rsL FR PE SC TL 0 = 0 from rfl] at e1
  rw [z0, e1, aRest, z30]
  by_cases c : rsL FR PE SC TL 31 < 31
  · rw [if_pos (nI_le (by omega) (by omega)), if_pos c]
  · rw [if_neg (nI_ge (by omega) (by omega)), if_neg c]
end REST
