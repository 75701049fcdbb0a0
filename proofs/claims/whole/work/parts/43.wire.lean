/-! wires by chance -/
def wyN (x y : Nat) : Nat → Nat → Nat
  | 0, t => if t = 7 then 1 else 0
  | n + 1, t => if 1 ≤ t ∧ t ≤ 13 then wyN x y n (t - 1) * x + wyN x y n (t + 1) * y + wyN x y n t * (10 - x - y) else 0
theorem wyN_0 (x y n : Nat) : wyN x y n 0 = 0 := by cases n <;> simp [wyN]
theorem wyN_14 (x y n : Nat) : wyN x y n 14 = 0 := by cases n <;> simp [wyN]
theorem wyN_le {x y : Nat} (h : x + y ≤ 10) : ∀ n t, wyN x y n t ≤ 10 ^ n := by
  intro n
  induction n with
  | zero => intro t; unfold wyN; split <;> simp
  | succ n ih =>
    intro t
    unfold wyN
    split
    · have a1 := Nat.mul_le_mul_right x (ih (t - 1))
      have a2 := Nat.mul_le_mul_right y (ih (t + 1))
      have a3 := Nat.mul_le_mul_right (10 - x - y) (ih t)
      have a4 : 10 ^ n * x + 10 ^ n * y + 10 ^ n * (10 - x - y) = 10 ^ (n + 1) := by
        rw [← Nat.mul_add, ← Nat.mul_add, Nat.pow_succ, show x + y + (10 - x - y) = 10 by omega]
      omega
    · exact Nat.zero_le _
def cW (a l k : Nat) : Bool := decide (nI l < iabs ((nI a - 20) + (nI k - 6)))
def abW (a l x y n : Nat) : Nat → Nat
  | 0 => 0
  | k + 1 => abW a l x y n k + (if cW a l k = true then 0 else wyN x y n (k + 1))
theorem p10 {n : Nat} (h : n < 7) : 10 ^ n ≤ 1000000 ∧ 0 < 10 ^ n := ⟨Nat.le_trans (Nat.pow_le_pow_right (by omega) (show n ≤ 6 by omega)) (by decide), Nat.pow_pos (by omega)⟩
theorem abW_le {a l x y n : Nat} (h : x + y ≤ 10) (hn : n < 7) : ∀ k, abW a l x y n k ≤ 1000000 * k := by
  intro k
  induction k with
  | zero => exact Nat.le_refl _
  | succ k ih =>
    have h1 := wyN_le h n (k + 1)
    have h2 := (p10 hn).1
    unfold abW
    split <;> omega
def aWire (v1 v2 v3 v4 v5 v6 : Int32) : Int32 := match ix v1 41, ix v2 21, ix v3 7, ix v4 11, ix v5 11, ix v6 2 with
  | some a, some l, some n, some x, some y, some p => if x + y ≤ 10 then nI ((if p = 0 then abW a l x y n 13 else 10 ^ n) / Nat.gcd (abW a l x y n 13) (10 ^ n)) else -1
  | _, _, _, _, _, _ => -1
theorem euc {z r : Nat} (hr : 0 < r) : Nat.gcd z r = Nat.gcd r (z % r) := by rw [Nat.gcd_comm z r, Nat.gcd_rec r z, Nat.gcd_comm]
theorem half {z r k : Nat} (h0 : 0 < r) (h : r < 2 ^ (k + 1)) (h1 : 0 < z % r) : r % (z % r) < 2 ^ k := by
  have h2 : z % r < r := Nat.mod_lt _ h0
  have h3 := Nat.mod_lt r h1
  have h4 : r % (z % r) + z % r ≤ r := by
    have := Nat.div_add_mod r (z % r)
    have h5 : 1 ≤ r / (z % r) := (Nat.le_div_iff_mul_le h1).mpr (by omega)
    have h6 := Nat.mul_le_mul_left (z % r) h5
    omega
  rw [Nat.pow_succ] at h
  omega
theorem z14 : (14 : Int32) = nI 14 := by decide
theorem z100 : (100 : Int32) = nI 100 := by decide
theorem rmIz {n m : Nat} (h : n < 2 ^ 31) (hm : 0 < m) (hm2 : m < 2 ^ 31) : rmI (nI n) (nI m) = some (nI (n % m)) := rmIn h hm hm2
theorem C_gcd (K : Int32 → Wd → Option (Int32 × Wd)) (w : Wd) : ∀ (k s n z r : Nat), r < 2 ^ k → 2 * k < n → s + 2 * k < 100 → z < 2 ^ 31 → r < 2 ^ 31 → fX0_commonDivisor_7 K n (nI z) (nI r) (nI s) w = K (nI (Nat.gcd z r)) w := by
  intro k
  induction k with
  | zero =>
    intro s n z r hr hn hs hz hr2
    obtain ⟨n, rfl⟩ : ∃ n', n = n' + 1 := ⟨n - 1, by omega⟩
    have h0 : r = 0 := by omega
    subst h0
    rw [fX0_commonDivisor_7, if_neg (show ¬ (100 : Int32) ≤ nI s by rw [z100]; exact nI_ge (by omega) (by omega)), if_pos z0.symm, Nat.gcd_zero_right]
  | succ k ih =>
    intro s n z r hr hn hs hz hr2
    obtain ⟨n, rfl⟩ : ∃ n', n = n' + 1 := ⟨n - 1, by omega⟩
    by_cases c0 : r = 0
    · subst c0
      rw [fX0_commonDivisor_7, if_neg (show ¬ (100 : Int32) ≤ nI s by rw [z100]; exact nI_ge (by omega) (by omega)), if_pos z0.symm, Nat.gcd_zero_right]
    · have hm := Nat.mod_lt z (show 0 < r by omega)
      rw [fX0_commonDivisor_7, if_neg (show ¬ (100 : Int32) ≤ nI s by rw [z100]; exact nI_ge (by omega) (by omega)), if_neg (nI_ne0 (by omega) hr2), rmIz hz (by omega) hr2, bS, nI_i1, euc (show 0 < r by omega)]
      obtain ⟨n, rfl⟩ : ∃ n', n = n' + 1 := ⟨n - 1, by omega⟩
      by_cases c1 : z % r = 0
      · rw [c1, fX0_commonDivisor_7, if_neg (show ¬ (100 : Int32) ≤ nI (s + 1) by rw [z100]; exact nI_ge (by omega) (by omega)), if_pos z0.symm, Nat.gcd_zero_right]
      · have hm2 := Nat.mod_lt r (show 0 < z % r by omega)
        rw [fX0_commonDivisor_7, if_neg (show ¬ (100 : Int32) ≤ nI (s + 1) by rw [z100]; exact nI_ge (by omega) (by omega)), if_neg (nI_ne0 (by omega) (by omega)), rmIz hr2 (by omega) (by omega), bS, nI_i1, euc (show 0 < z % r by omega)]
        exact ih (s + 1 + 1) n (z % r) (r % (z % r)) (half (by omega) hr (by omega)) (by omega) (by omega) (by omega) (by omega)
theorem M_gcd (v6 v7 v8 : Int32) (K : Int32 → Wd → Option (Int32 × Wd)) (w : Wd) : ∀ (k n z r : Nat), r < 2 ^ k → 2 * k < n → z < 2 ^ 31 → r < 2 ^ 31 → fX12_wire_278 v6 v7 v8 K n (nI z) (nI r) w = K (nI (Nat.gcd z r)) w := by
  have q0 : nI 0 ≤ 0 := by decide
  intro k
  induction k with
  | zero =>
    intro n z r hr hn hz hr2
    obtain ⟨n, rfl⟩ : ∃ n', n = n' + 1 := ⟨n - 1, by omega⟩
    have h0 : r = 0 := by omega
    subst h0
    rw [fX12_wire_278, if_pos q0, Nat.gcd_zero_right]
  | succ k ih =>
    intro n z r hr hn hz hr2
    obtain ⟨n, rfl⟩ : ∃ n', n = n' + 1 := ⟨n - 1, by omega⟩
    by_cases c0 : r = 0
    · subst c0
      rw [fX12_wire_278, if_pos q0, Nat.gcd_zero_right]
    · have hm := Nat.mod_lt z (show 0 < r by omega)
      rw [fX12_wire_278, if_neg (nI_nle (by omega) hr2), rmIz hz (by omega) hr2, bS, euc (show 0 < r by omega)]
      obtain ⟨n, rfl⟩ : ∃ n', n = n' + 1 := ⟨n - 1, by omega⟩
      by_cases c1 : z % r = 0
      · rw [c1, fX12_wire_278, if_pos q0, Nat.gcd_zero_right]
      · have hm2 := Nat.mod_lt r (show 0 < z % r by omega)
        rw [fX12_wire_278, if_neg (nI_nle (by omega) (by omega)), rmIz hr2 (by omega) (by omega), bS, euc (show 0 < z % r by omega)]
        exact ih n (z % r) (r % (z % r)) (half (by omega) hr (by omega)) (by omega) (by omega) (by omega)
theorem k10 {x y : Nat} (h : x + y ≤ 10) : ((10 : Int32) - nI x) - nI y = nI (10 - x - y) := by rw [z10, pk_sub (by omega), pk_sub (by omega)]
/-- the two rows of Chance, as they lie now -/
def isCo (R : Nat → Nat → Option Nat) (S : Nat → Nat × Nat) (N c r0 r1 : Nat) : Prop := c + 2 < N ∧ (S c).1 = 0 ∧ S r0 = (12, 15) ∧ S r1 = (12, 15) ∧ R c 0 = some r0 ∧ R c 1 = some r1 ∧ ((r0 = c + 1 ∧ r1 = c + 2) ∨ (r0 = c + 2 ∧ r1 = c + 1))
section WIRE
variable {R : Nat → Nat → Option Nat} {S : Nat → Nat × Nat} {N T G U V Kp Y L X W C h h2 q c r0 r1 : Nat} {I : Nat → Nat → Int32} {tx : List Int32} {FR : List F4} {PE : List P2} {CO SC : List C3} {TL TT : List T3} {UL KL : List (List T3)} {SN : List P2}
theorem isCh_co (hc : isCh R S N c) : ∃ r0 r1, isCo R S N c r0 r1 := by
  obtain ⟨h1, h2, h3, h4, h5 | h5⟩ := hc
  · exact ⟨c + 1, c + 2, h1, h2, h3, h4, h5.1, h5.2, Or.inl ⟨rfl, rfl⟩⟩
  · exact ⟨c + 2, c + 1, h1, h2, h4, h3, h5.1, h5.2, Or.inr ⟨rfl, rfl⟩⟩
theorem isCo_ch (hc : isCo R S N c r0 r1) : isCh R S N c := by
  obtain ⟨h1, h2, h3, h4, h5, h6, ⟨h7, h8⟩ | ⟨h7, h8⟩⟩ := hc
  · subst h7 h8
    exact ⟨h1, h2, h3, h4, Or.inl ⟨h5, h6⟩⟩
  · subst h7 h8
    exact ⟨h1, h2, h4, h3, Or.inr ⟨h5, h6⟩⟩
theorem Co_lt (hc : isCo R S N c r0 r1) : r0 < N ∧ r1 < N ∧ r0 ≠ r1 ∧ c < N := by
  obtain ⟨h1, h2, h3, h4, h5, h6, h7⟩ := hc
  omega
theorem Co_0 (hc : isCo R S N c r0 r1) (I : Nat → Nat → Int32) : gfR 0 0 c (I, R, S, N) = some r0 := gR (Co_lt hc).2.2.2 hc.2.1 hc.2.2.2.2.1
theorem Co_1 (hc : isCo R S N c r0 r1) (I : Nat → Nat → Int32) : gfR 0 1 c (I, R, S, N) = some r1 := gR (Co_lt hc).2.2.2 hc.2.1 hc.2.2.2.2.2.1
theorem Co_o (hc : isCo R S N c r0 r1) (I : Nat → Nat → Int32) : isO 0 c (I, R, S, N) = some () := oI (Co_lt hc).2.2.2 hc.2.1
theorem Co_r0 (hc : isCo R S N c r0 r1) (I : Nat → Nat → Int32) {k : Nat} (hk : k < 15) : rdI r0 (nI k) (I, R, S, N) = some (I r0 k) := rd (Co_lt hc).1 hc.2.2.1 hk (by omega)
theorem Co_w0 (hc : isCo R S N c r0 r1) (I : Nat → Nat → Int32) {k : Nat} (x : Int32) (hk : k < 15) : wrI r0 (nI k) x (I, R, S, N) = some (up1 I r0 (upd (I r0) k x), R, S, N) := wr (Co_lt hc).1 hc.2.2.1 hk (by omega)
theorem Co_w1 (hc : isCo R S N c r0 r1) (I : Nat → Nat → Int32) {k : Nat} (x : Int32) (hk : k < 15) : wrI r1 (nI k) x (I, R, S, N) = some (up1 I r1 (upd (I r1) k x), R, S, N) := wr (Co_lt hc).2.1 hc.2.2.2.1 hk (by omega)
theorem C_twI (hc : isCo R S N c r0 r1) {x y : Nat} (hxy : x + y ≤ 10) (i : Nat) (v1 v4 : Int32) (K : Wd → Option (Unit × Wd)) : ∀ (m t n : Nat) (J : Nat → Nat → Int32), t + m = 14 → 1 ≤ t → m < n → (∀ k, k < 15 → J r0 k = nI (wyN x y i k)) →
    ∃ J', fX0_twist_36 c v1 (nI x) (nI y) v4 K n (nI t) (J, R, S, N) = K (J', R, S, N) ∧ (∀ k, t ≤ k → k < 14 → J' r1 k = nI (wyN x y (i + 1) k)) ∧ (∀ k, (k < t ∨ 14 ≤ k) → J' r1 k = J r1 k) ∧ ∀ p, p ≠ r1 → J' p = J p := by
  have hne := (Co_lt hc).2.2.1
  intro m
  induction m with
  | zero =>
    intro t n J hi h1 hn hj
    obtain ⟨n, rfl⟩ : ∃ n', n = n' + 1 := ⟨n - 1, by omega⟩
    refine ⟨J, ?_, fun k a b => by omega, fun _ _ => rfl, fun _ _ => rfl⟩
    rw [fX0_twist_36, if_pos (show (14 : Int32) ≤ nI t by rw [z14]; exact nI_le (by omega) (by omega))]
  | succ m ih =>
    intro t n J hi h1 hn hj
    obtain ⟨n, rfl⟩ : ∃ n', n = n' + 1 := ⟨n - 1, by omega⟩
    obtain ⟨J', e1, e2, e3, e4⟩ := ih (t + 1) n (up1 J r1 (upd (J r1) t (nI (wyN x y (i + 1) t)))) (by omega) (by omega) (by omega) (fun k hk => by rw [up1_n _ _ hne]; exact hj k hk)
    refine ⟨J', ?_, fun k a b => ?_, fun k a => ?_, fun p hp => by rw [e4 p hp, up1_n _ _ hp]⟩
    · have ew : wyN x y (i + 1) t = wyN x y i (t - 1) * x + wyN x y i (t + 1) * y + wyN x y i t * (10 - x - y) := by
        show (if 1 ≤ t ∧ t ≤ 13 then _ else _) = _
        rw [if_pos (by omega)]
      rw [fX0_twist_36, if_neg (show ¬ (14 : Int32) ≤ nI t by rw [z14]; exact nI_ge (by omega) (by omega)), Co_1 hc, bS, Co_0 hc, bS, nI_sub1 h1, Co_r0 hc J (show t - 1 < 15 by omega), bS, bS, nI_i1, Co_r0 hc J (show t + 1 < 15 by omega), bS, bS, Co_r0 hc J (show t < 15 by omega), bS, hj _ (by omega), hj _ (by omega), hj _ (by omega), k10 hxy, pk_mul, pk_mul, pk_mul, nI_add, nI_add, ← ew, Co_w1 hc J _ (show t < 15 by omega), bS]
      exact e1
    · by_cases e : k = t
      · subst e
        rw [e3 k (by omega), up1_s]
        simp [upd]
      · exact e2 k (by omega) b
    · rw [e3 k (by omega), up1_s]
      simp only [upd, if_neg (show ¬ k = t by omega)]
theorem C_twL {n x y : Nat} (hn7 : n < 7) (hxy : x + y ≤ 10) (K : Wd → Option (Unit × Wd)) : ∀ (m i f : Nat) (J : Nat → Nat → Int32) (R : Nat → Nat → Option Nat) (r0 r1 : Nat), i + m = n → m < f → isCo R S N c r0 r1 → (∀ k, k < 15 → J r0 k = nI (wyN x y i k)) → J r1 0 = 0 → J r1 14 = 0 →
    ∃ J' R' s0 s1, fX0_twist_27 c (nI n) (nI x) (nI y) K f (nI i) (J, R, S, N) = K (J', R', S, N) ∧ isCo R' S N c s0 s1 ∧ (∀ k, k < 15 → J' s0 k = nI (wyN x y n k)) ∧ (∀ p, p ≠ c + 1 → p ≠ c + 2 → J' p = J p) ∧ ∀ p, p ≠ c → R' p = R p := by
  intro m
  induction m with
  | zero =>
    intro i f J R r0 r1 hi hf hc hj h0 h14
    obtain ⟨f, rfl⟩ : ∃ n', f = n' + 1 := ⟨f - 1, by omega⟩
    have hin : i = n := by omega
    subst hin
    refine ⟨J, R, r0, r1, ?_, hc, hj, fun _ _ _ => rfl, fun _ _ => rfl⟩
    rw [fX0_twist_27, if_pos (nI_le (Nat.le_refl _) (by omega))]
  | succ m ih =>
    intro i f J R r0 r1 hi hf hc hj h0 h14
    obtain ⟨f, rfl⟩ : ∃ n', f = n' + 1 := ⟨f - 1, by omega⟩
    obtain ⟨l0, l1, hne, lc⟩ := Co_lt hc
    have hrr := hc.2.2.2.2.2.2
    obtain ⟨J1, g1, g2, g3, g4⟩ := C_twI hc hxy i (nI n) (nI i) (fun (w_17 : Wd) => (gfR 0 0 c w_17).bind fun r_18 => (gfR 0 1 c w_17).bind fun r_19 => (pfR 0 0 c r_19 w_17).bind fun w_20 => (pfR 0 1 c r_18 w_20).bind fun w_21 => fX0_twist_27 c (nI n) (nI x) (nI y) K f (nI i + (1 : Int32)) w_21) 13 1 FV J (by omega) (by omega) (FV_lt (by omega)) hj
    obtain ⟨R2, hR2⟩ : ∃ R2, R2 = up2 (up2 R c 0 (some r1)) c 1 (some r0) := ⟨_, rfl⟩
    have hc2 : isCo R2 S N c r1 r0 := by
      refine ⟨hc.1, hc.2.1, hc.2.2.2.1, hc.2.2.1, ?_, ?_, by omega⟩
      · rw [hR2]; simp [up2]
      · rw [hR2]; simp [up2]
    have hrow : ∀ k, k < 15 → J1 r1 k = nI (wyN x y (i + 1) k) := by
      intro k hk
      by_cases k1 : 1 ≤ k ∧ k < 14
      · exact g2 k k1.1 k1.2
      · rw [g3 k (by omega)]
        by_cases k2 : k = 0
        · subst k2; rw [h0, wyN_0]; exact z0
        · have k3 : k = 14 := by omega
          subst k3; rw [h14, wyN_14]; exact z0
    obtain ⟨J', R', s0, s1, e1, e2, e3, e4, e5⟩ := ih (i + 1) f J1 R2 r1 r0 (by omega) (by omega) hc2 hrow (by rw [g4 r0 hne, hj 0 (by omega), wyN_0]; exact z0.symm) (by rw [g4 r0 hne, hj 14 (by omega), wyN_14]; exact z0.symm)
    refine ⟨J', R', s0, s1, ?_, e2, e3, fun p a b => by rw [e4 p a b, g4 p (by omega)], fun p hp => ?_⟩
    · rw [fX0_twist_27, if_neg (nI_ge (by omega) (by omega))]
      rw [← z1] at g1
      refine g1.trans ?_
      show ((gfR 0 0 c (J1, R, S, N)).bind fun r_18 => (gfR 0 1 c (J1, R, S, N)).bind fun r_19 => (pfR 0 0 c r_19 (J1, R, S, N)).bind fun w_20 => (pfR 0 1 c r_18 w_20).bind fun w_21 => fX0_twist_27 c (nI n) (nI x) (nI y) K f (nI i + (1 : Int32)) w_21) = _
      rw [Co_0 hc, bS, Co_1 hc, bS, pR lc hc.2.1, bS, pR lc hc.2.1, bS, nI_i1, ← hR2]
      exact e1
    · rw [e5 p hp, hR2]
      funext j
      simp [up2, hp]
theorem C_chTwist {n x y : Nat} (hn7 : n < 7) (hxy : x + y ≤ 10) (hc : isCh R S N c) (J : Nat → Nat → Int32) : ∃ J' R' s0 s1, fX0_twist c (nI n) (nI x) (nI y) (J, R, S, N) = some ((), (J', R', S, N)) ∧ isCo R' S N c s0 s1 ∧ (∀ k, k < 15 → J' s0 k = nI (wyN x y n k)) ∧ (∀ p, p ≠ c + 1 → p ≠ c + 2 → J' p = J p) ∧ ∀ p, p ≠ c → R' p = R p := by
  obtain ⟨r0, r1, hco⟩ := isCh_co hc
  obtain ⟨l0, l1, hne, lc⟩ := Co_lt hco
  have hrr := hco.2.2.2.2.2.2
  have A0 : isA S N r0 15 := ⟨l0, hco.2.2.1⟩
  have A1 : isA S N r1 15 := ⟨l1, hco.2.2.2.1⟩
  obtain ⟨J1, hJ1⟩ : ∃ J1, J1 = up1 J r0 (fun k => if k < 15 then 0 else J r0 k) := ⟨_, rfl⟩
  obtain ⟨J2, hJ2⟩ : ∃ J2, J2 = up1 J1 r1 (fun k => if k < 15 then 0 else J1 r1 k) := ⟨_, rfl⟩
  obtain ⟨J3, hJ3⟩ : ∃ J3, J3 = up1 J2 r0 (upd (J2 r0) 7 1) := ⟨_, rfl⟩
  have f3 : ∀ p, p ≠ r0 → p ≠ r1 → J3 p = J p := fun p a b => by rw [hJ3, up1_n _ _ a, hJ2, up1_n _ _ b, hJ1, up1_n _ _ a]
  have hr : ∀ k, k < 15 → J3 r0 k = nI (wyN x y 0 k) := by
    intro k hk
    rw [hJ3, up1_s, wyN]
    by_cases e : k = 7
    · subst e; simp only [upd, if_true]; exact z1
    · simp only [upd, if_neg e]
      rw [hJ2, up1_n _ _ hne, hJ1, up1_s, if_pos hk]; exact z0
  have h1 : ∀ k, k < 15 → J3 r1 k = 0 := fun k hk => by
    rw [hJ3, up1_n _ _ (Ne.symm hne), hJ2, up1_s, if_pos hk]
  obtain ⟨J', R', s0, s1, e1, e2, e3, e4, e5⟩ := C_twL hn7 hxy (fun w => some ((), w)) n 0 FV J3 R r0 r1 (by omega) (FV_lt (by omega)) hco hr (h1 0 (by omega)) (h1 14 (by omega))
  refine ⟨J', R', s0, s1, ?_, e2, e3, fun p a b => by rw [e4 p a b, f3 p (by omega) (by omega)], e5⟩
  have w7 : wrI r0 (7 : Int32) 1 (J2, R, S, N) = some (J3, R, S, N) := by rw [hJ3, show (7 : Int32) = nI 7 from z7]; exact Co_w0 hco J2 1 (by omega)
  rw [fX0_twist, Co_0 hco, bS, S_fill A0 (by omega), bS, ← hJ1, Co_1 hco, bS, S_fill A1 (by omega), bS, ← hJ2, Co_0 hco, bS, w7, bS]
  rw [← z0] at e1
  exact e1
theorem of6 : ∀ k, k < 14 → nI k - 6 + 1 = nI (k + 1) - 6 ∧ ((6 : Int32) < nI k - 6 ↔ 13 ≤ k) ∧ (7 : Int32) + (nI k - 6) = nI (k + 1) := by decide +kernel
theorem C_wwL (hc : isCo R S N c r0 r1) {a l x y n : Nat} (hj : ∀ k, k < 15 → I r0 k = nI (wyN x y n k)) (K : Int32 → Wd → Option (Int32 × Wd)) : ∀ (m k f : Nat), k + m = 13 → m < f → fX0_waysWithin_6 c (nI a - 20) (nI l) K f (nI (abW a l x y n k)) (nI k - 6) (I, R, S, N) = K (nI (abW a l x y n 13)) (I, R, S, N) := by
  intro m
  induction m with
  | zero =>
    intro k f hi hf
    obtain ⟨f, rfl⟩ : ∃ n', f = n' + 1 := ⟨f - 1, by omega⟩
    have hk : k = 13 := by omega
    subst hk
    rw [fX0_waysWithin_6, if_pos (by decide)]
  | succ m ih =>
    intro k f hi hf
    obtain ⟨f, rfl⟩ : ∃ n', f = n' + 1 := ⟨f - 1, by omega⟩
    obtain ⟨o1, o2, o3⟩ := of6 k (by omega)
    have ih' := ih (k + 1) f (by omega) (by omega)
    rw [abW] at ih'
    rw [fX0_waysWithin_6, if_neg (fun z => by have := o2.mp z; omega), o1]
    by_cases c1 : nI l < iabs ((nI a - 20) + (nI k - 6))
    · rw [if_pos c1]
      rw [if_pos (show cW a l k = true from decide_eq_true c1), Nat.add_zero] at ih'
      exact ih'
    · rw [if_neg c1, Co_0 hc, bS, o3, Co_r0 hc I (by omega), bS, hj _ (by omega), nI_add]
      rw [if_neg (show ¬ cW a l k = true from fun z => c1 (of_decide_eq_true z))] at ih'
      exact ih'
theorem C_awL {n : Nat} (hn7 : n < 7) (K : Int32 → Wd → Option (Int32 × Wd)) (w : Wd) : ∀ (m i f : Nat), i + m = n → m < f → fX0_allWays_4 (nI n) K f (nI (10 ^ i)) (nI i) w = K (nI (10 ^ n)) w := by
  intro m
  induction m with
  | zero =>
    intro i f hi hf
    obtain ⟨f, rfl⟩ : ∃ n', f = n' + 1 := ⟨f - 1, by omega⟩
    have hk : i = n := by omega
    subst hk
    rw [fX0_allWays_4, if_pos (nI_le (Nat.le_refl _) (by omega))]
  | succ m ih =>
    intro i f hi hf
    obtain ⟨f, rfl⟩ : ∃ n', f = n' + 1 := ⟨f - 1, by omega⟩
    have ih' := ih (i + 1) f (by omega) (by omega)
    rw [fX0_allWays_4, if_neg (nI_ge (by omega) (by omega)), nI_i1, z10, pk_mul, ← Nat.pow_succ]
    exact ih'
/-- the class's shape when only Chance's rows have changed places -/
theorem CF_C {R' : Nat → Nat → Option Nat} (cf : CF R S N T G U V Kp Y L X W C h h2) (e : ∀ k, k ≠ C → R' k = R k) (hs : isCh R' S N C) : CF R' S N T G U V Kp Y L X W C h h2 := by
  obtain ⟨pl, cf1, hT, hG, hU, hV, hK, hY, hL, hX, hW, hC, hH, hH2⟩ := cf
  have pl0 := pl
  obtain ⟨p1, p2, p3, p4, p5, p6, p7, p8, p9, p10, p11⟩ := pl
  refine ⟨pl0, ?_, isTx_ofR hT (fun k a b => e k (by omega)), isRd_ofR hG (fun k a b => e k (by omega)), hU.ofR (e _ (by omega)), isSh_ofR hV (fun k a b => e k (by omega)), isSh_ofR hK (fun k a b => e k (by omega)), isDy_ofR hY (fun k a b => e k (by omega)), isLu_ofR hL (fun k a b => e k (by omega)), isSi_ofR hX (fun k a b => e k (by omega)), isDr_ofR hW (fun k a b => e k (by omega)), hs, isHo_ofR hH (fun k a b => e k (by omega)), isHo_ofR hH2 (fun k a b => e k (by omega))⟩
  unfold isCf at *
  rw [e 0 (by omega)]
  exact cf1
theorem CD_R {R' : Nat → Nat → Option Nat} (cd : CD I R T U V Kp Y X h tx FR PE SC TL UL KL SN) (e1 : R' (V + 1) = R (V + 1)) (e2 : R' (Kp + 1) = R (Kp + 1)) : CD I R' T U V Kp Y X h tx FR PE SC TL UL KL SN := by
  obtain ⟨c1, c2, ⟨c3a, c3⟩, ⟨c4a, c4⟩, c5, c6, c7⟩ := cd
  exact ⟨c1, c2, ⟨c3a, ShAt_ofR c3 e1⟩, ⟨c4a, ShAt_ofR c4 e2⟩, c5, c6, c7⟩
theorem z21 : (21 : Int32) = nI 21 := by decide
theorem z11 : (11 : Int32) = nI 11 := by decide
theorem z12 : (12 : Int32) = nI 12 := by decide
theorem dvIn {a b : Nat} (ha : a < 2 ^ 31) (hb : 0 < b) (hb2 : b < 2 ^ 31) : dvI (nI a) (nI b) = some (nI (a / b)) := by
  rw [dvI, if_neg (nI_ne0 hb hb2), pk_div ha hb hb2]
theorem C_wire (cf : CF R S N T G U V Kp Y L X W C h h2) (cd : CD I R T U V Kp Y X h tx FR PE SC TL UL KL SN) (v1 v2 v3 v4 v5 v6 : Int32) : ∃ J R', fX11_wire 0 v1 v2 v3 v4 v5 v6 (I, R, S, N) = some (aWire v1 v2 v3 v4 v5 v6, (J, R', S, N)) ∧ CF R' S N T G U V Kp Y L X W C h h2 ∧ CD J R' T U V Kp Y X h tx FR PE SC TL UL KL SN ∧ (∀ p, 201 < p → J p = I p ∧ R' p = R p) := by
  have cf0 := cf
  obtain ⟨pl, cf1, hT, hG, hU, hV, hK, hY, hL, hX, hW, hC, hH, hH2⟩ := cf
  obtain ⟨p1, p2, p3, p4, p5, p6, p7, p8, p9, p10', p11⟩ := pl
  have bad : ∀ z : Option (Int32 × Wd), z = some (-1, (I, R, S, N)) → aWire v1 v2 v3 v4 v5 v6 = -1 → ∃ J R', z = some (aWire v1 v2 v3 v4 v5 v6, (J, R', S, N)) ∧ CF R' S N T G U V Kp Y L X W C h h2 ∧ CD J R' T U V Kp Y X h tx FR PE SC TL UL KL SN ∧ (∀ p, 201 < p → J p = I p ∧ R' p = R p) := fun z hz hb => ⟨I, R, by rw [hz, hb], cf0, cd, fun _ _ => ⟨rfl, rfl⟩⟩
  have n1 : ¬ (1 : Int32) = 0 := i10
  unfold fX11_wire
  rw [z41]
  rcases ixc v1 (n := 41) (by omega) with b1 | ⟨a, b1, rfl⟩
  · exact bad _ (by rw [C_out1 b1, bS, if_neg n1]) (by unfold aWire; rw [ix_n b1])
  rw [C_out0 b1 (by omega), bS, if_pos rfl, z21]
  rcases ixc v2 (n := 21) (by omega) with b2 | ⟨l, b2, rfl⟩
  · exact bad _ (by rw [C_out1 b2, bS, if_neg n1]) (by unfold aWire; rw [ix_n b2]; split <;> first | rfl | contradiction)
  rw [C_out0 b2 (by omega), bS, if_pos rfl, z7]
  rcases ixc v3 (n := 7) (by omega) with b3 | ⟨n, b3, rfl⟩
  · exact bad _ (by rw [C_out1 b3, bS, if_neg n1]) (by unfold aWire; rw [ix_n b3]; split <;> first | rfl | contradiction)
  rw [C_out0 b3 (by omega), bS, if_pos rfl, z11]
  rcases ixc v4 (n := 11) (by omega) with b4 | ⟨x, b4, rfl⟩
  · exact bad _ (by rw [C_out1 b4, bS, if_neg n1]) (by unfold aWire; rw [ix_n b4]; split <;> first | rfl | contradiction)
  rw [C_out0 b4 (by omega), bS, if_pos rfl, pk_sub (by omega)]
  rcases ixc v5 (n := 11) (by omega) with b5 | ⟨y, b5, rfl⟩
  · refine bad _ ?_ (by unfold aWire; rw [ix_n b5]; split <;> first | rfl | contradiction)
    rw [C_out1 (b5.elim Or.inl (fun z => Or.inr (Int32.le_trans (nI_le (by omega) (by omega)) z))), bS, if_neg n1]
  by_cases cxy : x + y ≤ 10
  · rw [C_out0 (show y < 11 - x by omega) (by omega), bS, if_pos rfl, z2]
    rcases ixc v6 (n := 2) (by omega) with b6 | ⟨p, b6, rfl⟩
    · exact bad _ (by rw [C_out1 b6, bS, if_neg n1]) (by unfold aWire; rw [ix_n b6]; split <;> first | rfl | contradiction)
    rw [C_out0 b6 (by omega), bS, if_pos rfl]
    obtain ⟨J, R', s0, s1, e1, e2, e3, e4, e5⟩ := C_chTwist b3 cxy hC I
    have cfR := CF_C cf0 e5 (isCo_ch e2)
    have cfR1 := cfR.2.1
    refine ⟨J, R', ?_, cfR, CD_R (CD_scr cf0 cd (fun p hp => e4 p (by omega) (by omega))) (e5 _ (by omega)) (e5 _ (by omega)), fun p hp => ⟨e4 p (by omega) (by omega), e5 p (by omega)⟩⟩
    have ab1 := abW_le (a := a) (l := l) cxy b3 13
    obtain ⟨t1, t2⟩ := p10 b3
    have gp : 0 < Nat.gcd (abW a l x y n 13) (10 ^ n) := Nat.gcd_pos_of_pos_right _ t2
    have gl : Nat.gcd (abW a l x y n 13) (10 ^ n) ≤ 10 ^ n := Nat.gcd_le_right _ t2
    have w1 : fX0_waysWithin C (nI a - 20) (nI l) (J, R', S, N) = some (nI (abW a l x y n 13), (J, R', S, N)) := by
      have w0 := C_wwL e2 (a := a) (l := l) e3 (fun v w => some (v, w)) 13 0 FV (by omega) (FV_lt (by omega))
      rw [show nI (abW a l x y n 0) = 0 from z0.symm, show nI 0 - 6 = (-6 : Int32) by decide] at w0
      exact w0
    have w2 : fX0_allWays C (nI n) (J, R', S, N) = some (nI (10 ^ n), (J, R', S, N)) := by
      have w0 := C_awL b3 (fun v w => some (v, w)) (J, R', S, N) n 0 FV (by omega) (FV_lt (by omega))
      rw [show nI (10 ^ 0) = 1 from z1.symm, ← z0] at w0
      exact w0
    have w3 : fX0_commonDivisor (nI (abW a l x y n 13)) (nI (10 ^ n)) (J, R', S, N) = some (nI (Nat.gcd (abW a l x y n 13) (10 ^ n)), (J, R', S, N)) := by
      have w0 := C_gcd (fun v w => some (v, w)) (J, R', S, N) 20 0 FV (abW a l x y n 13) (10 ^ n) (Nat.lt_of_le_of_lt t1 (by decide)) (FV_lt (by omega)) (by omega) (by omega) (by omega)
      rw [← z0] at w0
      exact w0
    have hw0 : nI p = 0 ↔ p = 0 := by rw [z0]; exact nI_eq (by omega) (by omega)
    have co : isO 0 C (I, R, S, N) = some () := oI (by have := hC.1; omega) hC.2.1
    rw [f_9 cf1, bS, co, bS, e1, bS, f_9 cfR1, bS, Co_o e2, bS, w1, bS, f_9 cfR1, bS, Co_o e2, bS, w2, bS, w3, bS]
    unfold aWire
    rw [ix_s b1 (by omega), ix_s b2 (by omega), ix_s b3 (by omega), ix_s b4 (by omega), ix_s b5 (by omega), ix_s b6 (by omega)]
    simp only [cxy, if_true]
    by_cases c6 : p = 0
    · rw [if_pos (hw0.mpr c6), if_neg (nI_nle gp (by omega)), dvIn (by omega) gp (by omega), bS, if_pos c6]
    · rw [if_neg (fun z => c6 (hw0.mp z)), if_neg (nI_nle gp (by omega)), dvIn (by omega) gp (by omega), bS, if_neg c6]
  · refine bad _ (by rw [C_out1 (Or.inr (nI_le (by omega) (by omega))), bS, if_neg n1]) ?_
    unfold aWire
    rw [ix_s b1 (by omega), ix_s b2 (by omega), ix_s b3 (by omega), ix_s b4 (by omega), ix_s b5 (by omega)]
    cases ix v6 2 with
    | none => rfl
    | some p => exact if_neg cxy
end WIRE
