/-- kept out of sight -/
def Hid (P : Prop) : Prop := P
theorem Hid.o {P : Prop} (h : Hid P) : P := h
section FEW
variable {R : Nat → Nat → Option Nat} {S : Nat → Nat × Nat} {N T G U V Kp Y L X W C h h2 q row : Nat} {I : Nat → Nat → Int32} {tx : List Int32} {FR : List F4} {PE : List P2} {CO SC : List C3} {TL TT : List T3} {UL KL : List (List T3)} {SN : List P2} {a : List Int32} {al : Nat → Nat}
theorem bI {b : Bool} : (if b = true then (1 : Int32) else 0) = 0 ↔ ¬ b = true := by cases b <;> decide
theorem C_wrL (hL : isLu R S N L) (hH : isHo R S N h) (o1 : L + 12 < h) (o2 : row < L) (ok : okS FR PE SC TL UL KL) (hr : isA S N row 7) (hl : a.length = FR.length) {k : Nat} (hk : k < FR.length) {Q : List Nat} (set : Int32) (K1 K0 : Wd → Option (Int32 × Wd)) : ∀ (u i n : Nat) (J : Nat → Nat → Int32), i + u = Q.length → u < n → HAt J h FR PE SC TT → arr (J row) a → RcAt J L k Q →
    ∃ (J' : Nat → Nat → Int32) (b : Bool), fX5_isWonByReached_3 L h row (nI k) set K1 K0 n (nI i) (J, R, S, N) = (if b = true then K1 (J', R, S, N) else K0 (J', R, S, N)) ∧ (b = true ↔ ∃ r, r ∈ Q.drop i ∧ Sup (mkA FR PE SC (a.set k (nI r))) set) ∧ ∀ p, p ≠ L + 1 → p ≠ L + 2 → J' p = J p := by
  have okl := ok.1
  intro u
  induction u with
  | zero =>
    intro i n J hi hn dH ha hQ
    obtain ⟨n, rfl⟩ : ∃ n', n = n' + 1 := ⟨n - 1, by omega⟩
    have hle := hQ.le
    refine ⟨J, false, ?_, ⟨fun z => absurd z (by decide), fun ⟨r, h1, _⟩ => by rw [List.drop_eq_nil_of_le (by omega)] at h1; simp at h1⟩, fun _ _ _ => rfl⟩
    rw [fX5_isWonByReached_3, Lu_4 hL, bS, Lu_r4 hL J (show k < 7 by omega), bS, hQ.1, if_pos (nI_le (by omega) (by omega)), if_neg (by decide)]
  | succ u ih =>
    intro i n J hi hn dH ha hQ
    obtain ⟨n, rfl⟩ : ∃ n', n = n' + 1 := ⟨n - 1, by omega⟩
    have hle := hQ.le
    obtain ⟨J1, g1, f1⟩ := C_wonWith hL hH o1 ok dH hr ha hl hk (nI (Q.getD i 0))
    rw [show mask (mnL FR PE SC (a.set k (nI (Q.getD i 0)))).2 = mkA FR PE SC (a.set k (nI (Q.getD i 0))) from rfl] at g1
    rw [fX5_isWonByReached_3, Lu_4 hL, bS, Lu_r4 hL J (show k < 7 by omega), bS, hQ.1, if_neg (nI_ge (by omega) (by omega)), Lu_3 hL, bS, Lu_t3 hL J (show k < 7 by omega), bS, Lu_r3 hL J (show k < 7 by omega) (show i < 41 by omega), bS, hQ.2.1 i (by omega), Lu_o hL, bS, g1, bS, nI_i1, dropc 0 (show i < Q.length by omega)]
    by_cases c : Sup (mkA FR PE SC (a.set k (nI (Q.getD i 0)))) set
    · refine ⟨J1, true, ?_, ⟨fun _ => ⟨_, by simp, c⟩, fun _ => rfl⟩, f1⟩
      rw [if_pos ((sup1 _ _).mpr c), if_pos rfl]
    · obtain ⟨J', b, e1, e2, e3⟩ := ih (i + 1) n J1 (by omega) (by omega) (dH.of (fun p h1 h2 => f1 p (by omega) (by omega))) (by rw [f1 row (by omega) (by omega)]; exact ha) (hQ.of (by rw [f1 _ (by omega) (by omega)]) (f1 _ (by omega) (by omega)))
      refine ⟨J', b, ?_, e2.trans ⟨fun ⟨r, h1, h2⟩ => ⟨r, by simp [h1], h2⟩, fun ⟨r, h1, h2⟩ => ?_⟩, fun p h1 h2 => by rw [e3 p h1 h2, f1 p h1 h2]⟩
      · rw [if_neg (fun z => c ((sup1 _ _).mp z))]
        exact e1
      · rw [List.mem_cons] at h1
        rcases h1 with h1 | h1
        · subst h1; exact absurd h2 c
        · exact ⟨r, h1, h2⟩
theorem C_wonBy (hL : isLu R S N L) (hH : isHo R S N h) (o1 : L + 12 < h) (o2 : row < L) (ok : okS FR PE SC TL UL KL) (hr : isA S N row 7) (hl : a.length = FR.length) {k : Nat} (hk : k < FR.length) {Q : List Nat} (set : Int32) {J : Nat → Nat → Int32} (dH : HAt J h FR PE SC TT) (ha : arr (J row) a) (hQ : RcAt J L k Q) :
    ∃ (J' : Nat → Nat → Int32) (b : Bool), fX5_isWonByReached L h row (nI k) set (J, R, S, N) = some (if b = true then 1 else 0, (J', R, S, N)) ∧ (b = true ↔ ∃ r, r ∈ Q ∧ Sup (mkA FR PE SC (a.set k (nI r))) set) ∧ ∀ p, p ≠ L + 1 → p ≠ L + 2 → J' p = J p := by
  have hle := hQ.le
  obtain ⟨J', b, e1, e2, e3⟩ := C_wrL hL hH o1 o2 ok hr hl hk set (fun w => some ((1 : Int32), w)) (fun w => some ((0 : Int32), w)) Q.length 0 FV J (by omega) (FV_lt (by omega)) dH ha hQ
  rw [← z0] at e1
  rw [List.drop_zero] at e2
  refine ⟨J', b, (show fX5_isWonByReached L h row (nI k) set (J, R, S, N) = _ from rfl).trans (e1.trans ?_), e2, e3⟩
  cases b <;> rfl
/-- one turn: all frames -/
theorem C_oneL (hL : isLu R S N L) (hH : isHo R S N h) (o1 : L + 12 < h) (o2 : row < L) (ok : okS FR PE SC TL UL KL) (hr : isA S N row 7) (hl : a.length = FR.length) {Qs : Nat → List Nat} (set : Int32) (K1 K0 : Wd → Option (Int32 × Wd)) : ∀ (u k n : Nat) (J : Nat → Nat → Int32), k + u = FR.length → u < n → HAt J h FR PE SC TT → arr (J row) a → (∀ j, j < FR.length → RcAt J L j (Qs j)) →
    ∃ (J' : Nat → Nat → Int32) (b : Bool), fX5_oneOrTwo_14 L h row set K1 K0 n (nI k) (J, R, S, N) = (if b = true then K1 (J', R, S, N) else K0 (J', R, S, N)) ∧ (b = true ↔ ∃ j, k ≤ j ∧ j < FR.length ∧ ∃ r, r ∈ Qs j ∧ Sup (mkA FR PE SC (a.set j (nI r))) set) ∧ ∀ p, p ≠ L + 1 → p ≠ L + 2 → J' p = J p := by
  have okl := ok.1
  intro u
  induction u with
  | zero =>
    intro k n J hi hn dH ha hQ
    obtain ⟨n, rfl⟩ : ∃ n', n = n' + 1 := ⟨n - 1, by omega⟩
    refine ⟨J, false, ?_, ⟨fun z => absurd z (by decide), fun ⟨j, h1, h2, _⟩ => by omega⟩, fun _ _ _ => rfl⟩
    rw [fX5_oneOrTwo_14, Ho_g hH, bS, dH.2.1.1, if_pos (nI_le (by omega) (by omega)), if_neg (by decide)]
  | succ u ih =>
    intro k n J hi hn dH ha hQ
    obtain ⟨n, rfl⟩ : ∃ n', n = n' + 1 := ⟨n - 1, by omega⟩
    obtain ⟨J1, b1, g1, g2, f1⟩ := C_wonBy hL hH o1 o2 ok hr hl (show k < FR.length by omega) set dH ha (hQ k (by omega))
    rw [fX5_oneOrTwo_14, Ho_g hH, bS, dH.2.1.1, if_neg (nI_ge (by omega) (by omega)), Lu_o hL, bS, g1, bS, nI_i1]
    by_cases c : b1 = true
    · refine ⟨J1, true, ?_, ⟨fun _ => ⟨k, by omega, by omega, g2.mp c⟩, fun _ => rfl⟩, f1⟩
      rw [if_neg (fun z => (bI.mp z) c), if_pos rfl]
    · obtain ⟨J', b, e1, e2, e3⟩ := ih (k + 1) n J1 (by omega) (by omega) (dH.of (fun p h1 h2 => f1 p (by omega) (by omega))) (by rw [f1 row (by omega) (by omega)]; exact ha) (fun j hj => (hQ j hj).of (by rw [f1 _ (by omega) (by omega)]) (f1 _ (by omega) (by omega)))
      refine ⟨J', b, ?_, e2.trans ⟨fun ⟨j, h1, h2, h3⟩ => ⟨j, by omega, h2, h3⟩, fun ⟨j, h1, h2, h3⟩ => ?_⟩, fun p h1 h2 => by rw [e3 p h1 h2, f1 p h1 h2]⟩
      · rw [if_pos (bI.mpr c)]
        exact e1
      · by_cases e : j = k
        · subst e; exact absurd (g2.mpr h3) c
        · exact ⟨j, by omega, h2, h3⟩
/-- two frames -/
theorem C_btI (hL : isLu R S N L) (hH : isHo R S N h) (o1 : L + 12 < h) (o2 : row < L) (ok : okS FR PE SC TL UL KL) (hr : isA S N row 7) (hl : a.length = FR.length) {j k : Nat} (hj : j < FR.length) (hk : k < FR.length) {Q Q' : List Nat} {m : Nat} (hm : m < Q.length) (set : Int32) (K1 K0 : Wd → Option (Int32 × Wd)) : ∀ (u i n : Nat) (J : Nat → Nat → Int32), i + u = Q'.length → u < n → HAt J h FR PE SC TT → arr (J row) a → RcAt J L j Q → RcAt J L k Q' →
    ∃ (J' : Nat → Nat → Int32) (b : Bool), fX5_isWonByBoth_17 L h row (nI j) (nI k) set (nI m) K1 K0 n (nI i) (J, R, S, N) = (if b = true then K1 (J', R, S, N) else K0 (J', R, S, N)) ∧ (b = true ↔ ∃ r', r' ∈ Q'.drop i ∧ Sup (mkA FR PE SC ((a.set j (nI (Q.getD m 0))).set k (nI r'))) set) ∧ ∀ p, p ≠ L + 1 → p ≠ L + 2 → J' p = J p := by
  have okl := ok.1
  have hN := hL.1
  have A1 : isA S N (L + 1) 7 := ⟨by omega, hL.2.2.1.1⟩
  have A2 : isA S N (L + 2) 5 := ⟨by omega, hL.2.2.2.1.1⟩
  intro u
  induction u with
  | zero =>
    intro i n J hi hn dH ha hQ hQ'
    obtain ⟨n, rfl⟩ : ∃ n', n = n' + 1 := ⟨n - 1, by omega⟩
    have hle := hQ'.le
    refine ⟨J, false, ?_, ⟨fun z => absurd z (by decide), fun ⟨r, h1, _⟩ => by rw [List.drop_eq_nil_of_le (by omega)] at h1; simp at h1⟩, fun _ _ _ => rfl⟩
    rw [fX5_isWonByBoth_17, Lu_4 hL, bS, Lu_r4 hL J (show k < 7 by omega), bS, hQ'.1, if_pos (nI_le (by omega) (by omega)), if_neg (by decide)]
  | succ u ih =>
    intro i n J hi hn dH ha hQ hQ'
    obtain ⟨n, rfl⟩ : ∃ n', n = n' + 1 := ⟨n - 1, by omega⟩
    have hle := hQ'.le
    have hle2 := hQ.le
    obtain ⟨J1, hJ1⟩ : ∃ J1, J1 = up1 J (L + 1) (fun k => if k < 7 then J row k else J (L + 1) k) := ⟨_, rfl⟩
    have c1 : cpI row 0 (L + 1) 0 7 (J, R, S, N) = some (J1, R, S, N) := by rw [hJ1]; exact cp7 hr.1 A1.1 hr.2 A1.2
    have a1 : arr (J1 (L + 1)) a := by rw [hJ1, up1_s]; exact arr_cp ha (by omega)
    have f1 : ∀ p, p ≠ L + 1 → J1 p = J p := fun p hp => by rw [hJ1, up1_n _ _ hp]
    obtain ⟨J2, hJ2⟩ : ∃ J2, J2 = up1 J1 (L + 1) (upd (J1 (L + 1)) j (nI (Q.getD m 0))) := ⟨_, rfl⟩
    have c2 : wrI (L + 1) (nI j) (nI (Q.getD m 0)) (J1, R, S, N) = some (J2, R, S, N) := by rw [hJ2]; exact Lu_w0 hL J1 _ (by omega)
    have a2 : arr (J2 (L + 1)) (a.set j (nI (Q.getD m 0))) := by rw [hJ2, up1_s]; exact a1.set _ _ (by omega)
    have f2 : ∀ p, p ≠ L + 1 → J2 p = J p := fun p hp => by rw [hJ2, up1_n _ _ hp, f1 p hp]
    obtain ⟨J3, hJ3⟩ : ∃ J3, J3 = up1 J2 (L + 1) (upd (J2 (L + 1)) k (nI (Q'.getD i 0))) := ⟨_, rfl⟩
    have c3 : wrI (L + 1) (nI k) (nI (Q'.getD i 0)) (J2, R, S, N) = some (J3, R, S, N) := by rw [hJ3]; exact Lu_w0 hL J2 _ (by omega)
    have a3 : arr (J3 (L + 1)) ((a.set j (nI (Q.getD m 0))).set k (nI (Q'.getD i 0))) := by rw [hJ3, up1_s]; exact a2.set _ _ (by rw [List.length_set]; omega)
    have f3 : ∀ p, p ≠ L + 1 → J3 p = J p := fun p hp => by rw [hJ3, up1_n _ _ hp, f2 p hp]
    obtain ⟨J4, g4, a4, s4, f4⟩ := S_letCome hH A1 A2 (by omega) (by omega) (by omega) ok.2.1 ok.2.2.1 (dH.of (fun p h1 h2 => f3 p (by omega))) a3 (by rw [List.length_set, List.length_set]; exact hl)
    have ff : ∀ p, p ≠ L + 1 → p ≠ L + 2 → J4 p = J p := fun p h1 h2 => by rw [f4 p h1 h2, f3 p h1]
    rw [show mask (mnL FR PE SC ((a.set j (nI (Q.getD m 0))).set k (nI (Q'.getD i 0)))).2 = mkA FR PE SC ((a.set j (nI (Q.getD m 0))).set k (nI (Q'.getD i 0))) from rfl] at g4
    have x1 : J1 (L + 5 + j) m = nI (Q.getD m 0) := by rw [f1 _ (by omega)]; exact hQ.2.1 m hm
    have x2 : J2 (L + 5 + k) i = nI (Q'.getD i 0) := by rw [f2 _ (by omega)]; exact hQ'.2.1 i (by omega)
    have r1 := Lu_r3 hL J1 (show j < 7 by omega) (show m < 41 by omega)
    have r2 := Lu_r3 hL J2 (show k < 7 by omega) (show i < 41 by omega)
    rw [fX5_isWonByBoth_17, Lu_4 hL, bS, Lu_r4 hL J (show k < 7 by omega), bS, hQ'.1, if_neg (nI_ge (by omega) (by omega)), dropc 0 (show i < Q'.length by omega)]
    simp only [Lu_0 hL, Lu_1 hL, Lu_3 hL, bS, c1, Lu_t3 hL J1 (show j < 7 by omega), r1, x1, c2, Lu_t3 hL J2 (show k < 7 by omega), r2, x2, c3, Ho_o hH, g4, nI_i1]
    by_cases c : Sup (mkA FR PE SC ((a.set j (nI (Q.getD m 0))).set k (nI (Q'.getD i 0)))) set
    · refine ⟨J4, true, ?_, ⟨fun _ => ⟨_, by simp, c⟩, fun _ => rfl⟩, ff⟩
      rw [if_pos ((sup1 _ _).mpr c), if_pos rfl]
    · obtain ⟨J', b, e1, e2, e3⟩ := ih (i + 1) n J4 (by omega) (by omega) (dH.of (fun p h1 h2 => ff p (by omega) (by omega))) (by rw [ff row (by omega) (by omega)]; exact ha) (hQ.of (by rw [ff _ (by omega) (by omega)]) (ff _ (by omega) (by omega))) (hQ'.of (by rw [ff _ (by omega) (by omega)]) (ff _ (by omega) (by omega)))
      refine ⟨J', b, ?_, e2.trans ⟨fun ⟨r, h1, h2⟩ => ⟨r, by simp [h1], h2⟩, fun ⟨r, h1, h2⟩ => ?_⟩, fun p h1 h2 => by rw [e3 p h1 h2, ff p h1 h2]⟩
      · rw [if_neg (fun z => c ((sup1 _ _).mp z))]
        exact e1
      · rw [List.mem_cons] at h1
        rcases h1 with h1 | h1
        · subst h1; exact absurd h2 c
        · exact ⟨r, h1, h2⟩
theorem C_btM (hL : isLu R S N L) (hH : isHo R S N h) (o1 : L + 12 < h) (o2 : row < L) (ok : okS FR PE SC TL UL KL) (hr : isA S N row 7) (hl : a.length = FR.length) {j k : Nat} (hj : j < FR.length) (hk : k < FR.length) {Q Q' : List Nat} (set : Int32) (K1 K0 : Wd → Option (Int32 × Wd)) : ∀ (u m n : Nat) (J : Nat → Nat → Int32), m + u = Q.length → u < n → HAt J h FR PE SC TT → arr (J row) a → RcAt J L j Q → RcAt J L k Q' →
    ∃ (J' : Nat → Nat → Int32) (b : Bool), fX5_isWonByBoth_3 L h row (nI j) (nI k) set K1 K0 n (nI m) (J, R, S, N) = (if b = true then K1 (J', R, S, N) else K0 (J', R, S, N)) ∧ (b = true ↔ ∃ r r', r ∈ Q.drop m ∧ r' ∈ Q' ∧ Sup (mkA FR PE SC ((a.set j (nI r)).set k (nI r'))) set) ∧ ∀ p, p ≠ L + 1 → p ≠ L + 2 → J' p = J p := by
  have okl := ok.1
  intro u
  induction u with
  | zero =>
    intro m n J hi hn dH ha hQ hQ'
    obtain ⟨n, rfl⟩ : ∃ n', n = n' + 1 := ⟨n - 1, by omega⟩
    have hle := hQ.le
    refine ⟨J, false, ?_, ⟨fun z => absurd z (by decide), fun ⟨r, r', h1, _⟩ => by rw [List.drop_eq_nil_of_le (by omega)] at h1; simp at h1⟩, fun _ _ _ => rfl⟩
    rw [fX5_isWonByBoth_3, Lu_4 hL, bS, Lu_r4 hL J (show j < 7 by omega), bS, hQ.1, if_pos (nI_le (by omega) (by omega)), if_neg (by decide)]
  | succ u ih =>
    intro m n J hi hn dH ha hQ hQ'
    obtain ⟨n, rfl⟩ : ∃ n', n = n' + 1 := ⟨n - 1, by omega⟩
    have hle := hQ'.le
    have hle2 := hQ.le
    obtain ⟨J1, b1, g1, g2, f1⟩ := C_btI hL hH o1 o2 ok hr hl hj hk (show m < Q.length by omega) set (fun (w_24 : Wd) => K1 w_24) (fun (w_25 : Wd) => fX5_isWonByBoth_3 L h row (nI j) (nI k) set K1 K0 n (nI m + (1 : Int32)) w_25) Q'.length 0 FV J (by omega) (FV_lt (by omega)) dH ha hQ hQ'
    rw [List.drop_zero] at g2
    rw [← z0] at g1
    rw [fX5_isWonByBoth_3, Lu_4 hL, bS, Lu_r4 hL J (show j < 7 by omega), bS, hQ.1, if_neg (nI_ge (by omega) (by omega)), dropc 0 (show m < Q.length by omega), g1]
    by_cases c : b1 = true
    · refine ⟨J1, true, ?_, ⟨fun _ => ?_, fun _ => rfl⟩, f1⟩
      · rw [if_pos c, if_pos rfl]
      · obtain ⟨r', h1, h2⟩ := g2.mp c
        exact ⟨_, r', by simp, h1, h2⟩
    · obtain ⟨J', b, e1, e2, e3⟩ := ih (m + 1) n J1 (by omega) (by omega) (dH.of (fun p h1 h2 => f1 p (by omega) (by omega))) (by rw [f1 row (by omega) (by omega)]; exact ha) (hQ.of (by rw [f1 _ (by omega) (by omega)]) (f1 _ (by omega) (by omega))) (hQ'.of (by rw [f1 _ (by omega) (by omega)]) (f1 _ (by omega) (by omega)))
      refine ⟨J', b, ?_, e2.trans ⟨fun ⟨r, r', h1, h2⟩ => ⟨r, r', by simp [h1], h2⟩, fun ⟨r, r', h1, h2, h3⟩ => ?_⟩, fun p h1 h2 => by rw [e3 p h1 h2, f1 p h1 h2]⟩
      · rw [if_neg c, nI_i1]
        exact e1
      · rw [List.mem_cons] at h1
        rcases h1 with h1 | h1
        · subst h1; exact absurd (g2.mpr ⟨r', h2, h3⟩) c
        · exact ⟨r, r', h1, h2, h3⟩
theorem C_both (hL : isLu R S N L) (hH : isHo R S N h) (o1 : L + 12 < h) (o2 : row < L) (ok : okS FR PE SC TL UL KL) (hr : isA S N row 7) (hl : a.length = FR.length) {j k : Nat} (hj : j < FR.length) (hk : k < FR.length) {Q Q' : List Nat} (set : Int32) {J : Nat → Nat → Int32} (dH : HAt J h FR PE SC TT) (ha : arr (J row) a) (hQ : RcAt J L j Q) (hQ' : RcAt J L k Q') :
    ∃ (J' : Nat → Nat → Int32) (b : Bool), fX5_isWonByBoth L h row (nI j) (nI k) set (J, R, S, N) = some (if b = true then 1 else 0, (J', R, S, N)) ∧ (b = true ↔ ∃ r r', r ∈ Q ∧ r' ∈ Q' ∧ Sup (mkA FR PE SC ((a.set j (nI r)).set k (nI r'))) set) ∧ ∀ p, p ≠ L + 1 → p ≠ L + 2 → J' p = J p := by
  have hle := hQ.le
  obtain ⟨J', b, e1, e2, e3⟩ := C_btM hL hH o1 o2 ok hr hl hj hk set (fun w => some ((1 : Int32), w)) (fun w => some ((0 : Int32), w)) Q.length 0 FV J (by omega) (FV_lt (by omega)) dH ha hQ hQ'
  rw [← z0] at e1
  rw [List.drop_zero] at e2
  refine ⟨J', b, (show fX5_isWonByBoth L h row (nI j) (nI k) set (J, R, S, N) = _ from rfl).trans (e1.trans ?_), e2, e3⟩
  cases b <;> rfl
theorem C_twoI (hL : isLu R S N L) (hH : isHo R S N h) (o1 : L + 12 < h) (o2 : row < L) (ok : okS FR PE SC TL UL KL) (hr : isA S N row 7) (hl : a.length = FR.length) {j : Nat} (hj : j < FR.length) {Qs : Nat → List Nat} (set : Int32) (K1 K0 : Wd → Option (Int32 × Wd)) : ∀ (u k n : Nat) (J : Nat → Nat → Int32), k + u = FR.length → u < n → HAt J h FR PE SC TT → arr (J row) a → (∀ j, j < FR.length → RcAt J L j (Qs j)) →
    ∃ (J' : Nat → Nat → Int32) (b : Bool), fX5_oneOrTwo_61 L h row set (nI j) K1 K0 n (nI k) (J, R, S, N) = (if b = true then K1 (J', R, S, N) else K0 (J', R, S, N)) ∧ (b = true ↔ ∃ k', k ≤ k' ∧ k' < FR.length ∧ ∃ r r', r ∈ Qs j ∧ r' ∈ Qs k' ∧ Sup (mkA FR PE SC ((a.set j (nI r)).set k' (nI r'))) set) ∧ ∀ p, p ≠ L + 1 → p ≠ L + 2 → J' p = J p := by
  have okl := ok.1
  intro u
  induction u with
  | zero =>
    intro k n J hi hn dH ha hQ
    obtain ⟨n, rfl⟩ : ∃ n', n = n' + 1 := ⟨n - 1, by omega⟩
    refine ⟨J, false, ?_, ⟨fun z => absurd z (by decide), fun ⟨j, h1, h2, _⟩ => by omega⟩, fun _ _ _ => rfl⟩
    rw [fX5_oneOrTwo_61, Ho_g hH, bS, dH.2.1.1, if_pos (nI_le (by omega) (by omega)), if_neg (by decide)]
  | succ u ih =>
    intro k n J hi hn dH ha hQ
    obtain ⟨n, rfl⟩ : ∃ n', n = n' + 1 := ⟨n - 1, by omega⟩
    obtain ⟨J1, b1, g1, g2, f1⟩ := C_both hL hH o1 o2 ok hr hl hj (show k < FR.length by omega) set dH ha (hQ j hj) (hQ k (by omega))
    rw [fX5_oneOrTwo_61, Ho_g hH, bS, dH.2.1.1, if_neg (nI_ge (by omega) (by omega)), Lu_o hL, bS, g1, bS, nI_i1]
    by_cases c : b1 = true
    · refine ⟨J1, true, ?_, ⟨fun _ => ⟨k, by omega, by omega, g2.mp c⟩, fun _ => rfl⟩, f1⟩
      rw [if_neg (fun z => (bI.mp z) c), if_pos rfl]
    · obtain ⟨J', b, e1, e2, e3⟩ := ih (k + 1) n J1 (by omega) (by omega) (dH.of (fun p h1 h2 => f1 p (by omega) (by omega))) (by rw [f1 row (by omega) (by omega)]; exact ha) (fun j hj => (hQ j hj).of (by rw [f1 _ (by omega) (by omega)]) (f1 _ (by omega) (by omega)))
      refine ⟨J', b, ?_, e2.trans ⟨fun ⟨j, h1, h2, h3⟩ => ⟨j, by omega, h2, h3⟩, fun ⟨k', h1, h2, h3⟩ => ?_⟩, fun p h1 h2 => by rw [e3 p h1 h2, f1 p h1 h2]⟩
      · rw [if_pos (bI.mpr c)]
        exact e1
      · by_cases e : k' = k
        · subst e; exact absurd (g2.mpr h3) c
        · exact ⟨k', by omega, h2, h3⟩
theorem C_twoL (hL : isLu R S N L) (hH : isHo R S N h) (o1 : L + 12 < h) (o2 : row < L) (ok : okS FR PE SC TL UL KL) (hr : isA S N row 7) (hl : a.length = FR.length) {Qs : Nat → List Nat} (set : Int32) (K1 K0 : Wd → Option (Int32 × Wd)) : ∀ (u j n : Nat) (J : Nat → Nat → Int32), j + u = FR.length → u < n → HAt J h FR PE SC TT → arr (J row) a → (∀ j, j < FR.length → RcAt J L j (Qs j)) →
    ∃ (J' : Nat → Nat → Int32) (b : Bool), fX5_oneOrTwo_46 L h row set K1 K0 n (nI j) (J, R, S, N) = (if b = true then K1 (J', R, S, N) else K0 (J', R, S, N)) ∧ (b = true ↔ ∃ j' k, j ≤ j' ∧ j' < k ∧ k < FR.length ∧ ∃ r r', r ∈ Qs j' ∧ r' ∈ Qs k ∧ Sup (mkA FR PE SC ((a.set j' (nI r)).set k (nI r'))) set) ∧ ∀ p, p ≠ L + 1 → p ≠ L + 2 → J' p = J p := by
  have okl := ok.1
  intro u
  induction u with
  | zero =>
    intro k n J hi hn dH ha hQ
    obtain ⟨n, rfl⟩ : ∃ n', n = n' + 1 := ⟨n - 1, by omega⟩
    refine ⟨J, false, ?_, ⟨fun z => absurd z (by decide), fun ⟨j, k, h1, h2, h3, _⟩ => by omega⟩, fun _ _ _ => rfl⟩
    rw [fX5_oneOrTwo_46, Ho_g hH, bS, dH.2.1.1, if_pos (nI_le (by omega) (by omega)), if_neg (by decide)]
  | succ u ih =>
    intro j n J hi hn dH ha hQ
    obtain ⟨n, rfl⟩ : ∃ n', n = n' + 1 := ⟨n - 1, by omega⟩
    obtain ⟨J1, b1, g1, g2, f1⟩ := C_twoI hL hH o1 o2 ok hr hl (show j < FR.length by omega) set (fun (w_17 : Wd) => K1 w_17) (fun (w_18 : Wd) => fX5_oneOrTwo_46 L h row set K1 K0 n (nI j + (1 : Int32)) w_18) u (j + 1) FV J (by omega) (FV_lt (by omega)) dH ha hQ
    rw [fX5_oneOrTwo_46, Ho_g hH, bS, dH.2.1.1, if_neg (nI_ge (by omega) (by omega)), nI_i1]
    rw [nI_i1] at g1
    rw [g1]
    by_cases c : b1 = true
    · refine ⟨J1, true, ?_, ⟨fun _ => ?_, fun _ => rfl⟩, f1⟩
      · rw [if_pos c, if_pos rfl]
      · obtain ⟨k, h1, h2, h3⟩ := g2.mp c
        exact ⟨j, k, by omega, by omega, h2, h3⟩
    · obtain ⟨J', b, e1, e2, e3⟩ := ih (j + 1) n J1 (by omega) (by omega) (dH.of (fun p h1 h2 => f1 p (by omega) (by omega))) (by rw [f1 row (by omega) (by omega)]; exact ha) (fun j hj => (hQ j hj).of (by rw [f1 _ (by omega) (by omega)]) (f1 _ (by omega) (by omega)))
      refine ⟨J', b, ?_, e2.trans ⟨fun ⟨j, k, h1, h2⟩ => ⟨j, k, by omega, h2⟩, fun ⟨j', k, h1, h2, h3, h4⟩ => ?_⟩, fun p h1 h2 => by rw [e3 p h1 h2, f1 p h1 h2]⟩
      · rw [if_neg c]
        exact e1
      · by_cases e : j' = j
        · subst e; exact absurd (g2.mpr ⟨k, by omega, h3, h4⟩) c
        · exact ⟨j', k, by omega, h2, h3, h4⟩
/-- one frame, turned twice -/
theorem C_thrL (hL : isLu R S N L) (hH : isHo R S N h) (o1 : L + 12 < h) (o2 : row < L) (ok : okS FR PE SC TL UL KL) (hr : isA S N row 7) (hA : allA a) (hl : a.length = FR.length) (g : GoodU PE al 41) (set : Int32) (K1 K0 : Wd → Option (Int32 × Wd)) : ∀ (u k n : Nat) (J : Nat → Nat → Int32), k + u = FR.length → u < n → HAt J h FR PE SC TT → arr (J row) a → (∀ d, d < 41 → J (L + 3) d = nI (al d)) →
    ∃ (J' : Nat → Nat → Int32) (b : Bool), fX5_oneOrTwo_101 L h row set K1 K0 n (nI k) (J, R, S, N) = (if b = true then K1 (J', R, S, N) else K0 (J', R, S, N)) ∧ (b = true ↔ ∃ j, k ≤ j ∧ j < FR.length ∧ ent FR SC j ∧ ∃ i, kvO (a.getD j 0) - 40 ≤ i ∧ i ≤ min 80 (kvO (a.getD j 0) + 40) ∧ Sup (mkA FR PE SC (a.set j (nI i - 40))) set) ∧ ∀ p, (p < L + 1 ∨ L + 12 < p) → J' p = J p := by
  have okl := ok.1
  intro u
  induction u with
  | zero =>
    intro k n J hi hn dH ha hal
    obtain ⟨n, rfl⟩ : ∃ n', n = n' + 1 := ⟨n - 1, by omega⟩
    refine ⟨J, false, ?_, ⟨fun z => absurd z (by decide), fun ⟨j, h1, h2, _⟩ => by omega⟩, fun _ _ => rfl⟩
    rw [fX5_oneOrTwo_101, Ho_g hH, bS, dH.2.1.1, if_pos (nI_le (by omega) (by omega)), if_neg (by decide)]
  | succ u ih =>
    intro k n J hi hn dH ha hal
    obtain ⟨n, rfl⟩ : ∃ n', n = n' + 1 := ⟨n - 1, by omega⟩
    have r1 : rdI row (nI k) (J, R, S, N) = some (J row k) := rd hr.1 hr.2 (show k < 7 by omega) (by omega)
    obtain ⟨J1, Q, g1, q1, q2, f1, -⟩ := C_reach hL hH o1 hA hl (show k < FR.length by omega) (show 40 < 41 by omega) (fun d hd => (g d hd).1) dH hal
    have dH1 : HAt J1 h FR PE SC TT := dH.of (fun p h1 h2 => f1 p (by omega) (by omega))
    have ha1 : arr (J1 row) a := by rw [f1 row (by omega) (by omega)]; exact ha
    obtain ⟨J2, b1, k1, k2, k3⟩ := C_wonBy hL hH o1 o2 ok hr hl (show k < FR.length by omega) set dH1 ha1 q1
    have k2' := k2.trans (gen1 ok.2.1 ok.2.2.1 g hA hl q2 (fun s => Sup (mask s) set))
    have ff : ∀ p, (p < L + 1 ∨ L + 12 < p) → J2 p = J p := fun p hp => by rw [k3 p (by omega) (by omega), f1 p (by omega) (by omega)]
    rw [← z40] at g1
    rw [fX5_oneOrTwo_101, Ho_g hH, bS, dH.2.1.1, if_neg (nI_ge (by omega) (by omega)), r1, bS, ha k (by omega), Lu_o hL, bS, g1, bS, Lu_o hL, bS, k1, bS, nI_i1]
    by_cases c : b1 = true
    · refine ⟨J2, true, ?_, ⟨fun _ => ⟨k, by omega, by omega, k2'.mp c⟩, fun _ => rfl⟩, ff⟩
      rw [if_neg (fun z => (bI.mp z) c), if_pos rfl]
    · obtain ⟨J', b, e1, e2, e3⟩ := ih (k + 1) n J2 (by omega) (by omega) (dH.of (fun p h1 h2 => ff p (by omega))) (by rw [ff row (by omega)]; exact ha) (fun d hd => by rw [k3 _ (by omega) (by omega), f1 _ (by omega) (by omega)]; exact hal d hd)
      refine ⟨J', b, ?_, e2.trans ⟨fun ⟨j, h1, h2, h3⟩ => ⟨j, by omega, h2, h3⟩, fun ⟨j, h1, h2, h3⟩ => ?_⟩, fun p hp => by rw [e3 p hp, ff p hp]⟩
      · rw [if_pos (bI.mpr c)]
        exact e1
      · by_cases e : j = k
        · subst e; exact absurd (k2'.mpr h3) c
        · exact ⟨j, by omega, h2, h3⟩
theorem p2sh : ∀ n, n < 6 → (1 : Int32) <<< (nI n &&& 31) = nI (2 ^ n) ∧ 2 ^ n ≤ 32 ∧ 0 < 2 ^ n := by decide
theorem C_fewest (cf : CF R S N T G U V Kp Y L X W C h h2) (cd : CD I R T U V Kp Y X h tx FR PE SC TL UL KL SN) (ok : okS FR PE SC TL UL KL) (v1 v2 : Int32) : ∃ J, fX11_fewest 0 v1 v2 (I, R, S, N) = some (aFew FR PE SC TL v1 v2, (J, R, S, N)) ∧ CD J R T U V Kp Y X h tx FR PE SC TL UL KL SN ∧ ∀ p, 201 < p → J p = I p := by
  have cf0 := cf
  obtain ⟨pl, cf1, hT, hG, hU, hV, hK, hY, hL, hX, hW, hC, hH, hH2⟩ := cf
  obtain ⟨p1, p2, p3, p4, p5, p6, p7, p8, p9, p10, p11⟩ := pl
  obtain ⟨TT0, c50⟩ := cd.2.2.2.2.1
  have hNY := hY.1
  have okl := ok.1
  obtain ⟨w1, w2, w3⟩ := p2sh PE.length (by omega)
  unfold aFew fX11_fewest
  rw [f_10 cf1, bS, Ho_g hH, bS, c50.2.1.2.1, w1, z31]
  rcases ixc v1 (n := 2 ^ PE.length) (by omega) with b1 | ⟨s, b1, rfl⟩
  · rw [ix_n b1, C_out1 b1]
    exact ⟨I, by rw [bS, if_neg i10], cd, fun _ _ => rfl⟩
  · rw [ix_s b1 (by omega), C_out0 b1 (by omega), bS, if_pos rfl]
    rcases ixc v2 (n := 31) (by omega) with b2 | ⟨d, b2, rfl⟩
    · rw [ix_n b2, C_out1 b2]
      exact ⟨I, by rw [bS, if_neg i10], cd, fun _ _ => rfl⟩
    · rw [ix_s b2 (by omega), C_out0 b2 (by omega), bS, if_pos rfl]
      obtain ⟨J, e1, e2, e3, e4, e5⟩ := C_days cf0 cd ok
      obtain ⟨TT, c5⟩ := e2.2.2.2.2.1
      have A1 : isA S N (Y + 2 + d) 7 := ⟨by omega, Dy_s0 hY b2⟩
      have ha := (e3 d b2).1
      have hl := dw_len' FR PE SC TL d
      have hA := allA_dw FR PE SC TL d
      rw [f_o cf1, bS, e1, bS, Dy_3 hY, bS, Dy_r3 hY J b2, bS, (e3 d b2).2.2.2]
      show ∃ J', (if (mkA FR PE SC (dwL FR PE SC TL d) &&& nI s) = nI s then _ else _) = some (pif (Sup (mkA FR PE SC (dwL FR PE SC TL d)) (nI s)) 0 (pif (∃ t, t < 40 * FR.length ∧ Sup (mkA FR PE SC (ttL FR.length t (dwL FR PE SC TL d))) (nI s)) 1 (pif (∃ t u, t < 40 * FR.length ∧ u < 40 * FR.length ∧ Sup (mkA FR PE SC (ttL FR.length u (ttL FR.length t (dwL FR PE SC TL d)))) (nI s)) 2 (-4))), (J', R, S, N)) ∧ _
      generalize dwL FR PE SC TL d = a at ha hl hA
      by_cases c0 : Sup (mkA FR PE SC a) (nI s)
      · rw [if_pos ((sup1 _ _).mpr c0), pif_pos c0]
        exact ⟨J, rfl, e2, fun p hp => e5 p (by omega)⟩
      · rw [if_neg (fun z => c0 ((sup1 _ _).mp z)), pif_neg c0]
        obtain ⟨J0, J1, al, Qs, g0, g1, g2, g3, g4, g5⟩ := C_reachAll hL hH (by omega) (by omega) ok.2.1 A1 hA hl c5 ha
        have dH1 : HAt J1 h FR PE SC TT := c5.of (fun p h1 h2 => g5 p (by omega))
        have ha1 : arr (J1 (Y + 2 + d)) a := by rw [g5 _ (by omega)]; exact ha
        have hRQ : ∀ k, k < FR.length → RQ FR SC al a 20 k (Qs k) := fun k hk => (g4 k hk).2
        have F1 := few1 ok.2.1 ok.2.2.1 g2 hA hl okl.1 okl.2.1 hRQ (fun z => Sup (mask z) (nI s)) c0
        replace F1 : Hid _ := F1
        obtain ⟨J2, x1, k1, k2, k3⟩ := C_oneL hL hH (by omega) (by omega) ok A1 hl (nI s) (fun (w_8 : Wd) => some ((1 : Int32), w_8)) (fun (w_9 : Wd) => fX5_oneOrTwo_46 L h (Y + 2 + d) (nI s) (fun (w_19 : Wd) => some ((2 : Int32), w_19)) (fun (w_20 : Wd) => fX5_oneOrTwo_101 L h (Y + 2 + d) (nI s) (fun (w_29 : Wd) => some ((2 : Int32), w_29)) (fun (w_30 : Wd) => some ((-4 : Int32), w_30)) FV (0 : Int32) w_20) FV (0 : Int32) w_9) FR.length 0 FV J1 (by omega) (FV_lt (by omega)) dH1 ha1 (fun j hj => (g4 j hj).1)
        rw [← z0] at k1
        replace k2 : Hid _ := k2
        have x1i : Hid (x1 = true ↔ ∃ t, t < 40 * FR.length ∧ Sup (mkA FR PE SC (ttL FR.length t a)) (nI s)) :=
          k2.o.trans ((show (∃ j, 0 ≤ j ∧ j < FR.length ∧ ∃ r, r ∈ Qs j ∧ Sup (mkA FR PE SC (a.set j (nI r))) (nI s)) ↔ (∃ j, j < FR.length ∧ ∃ r, r ∈ Qs j ∧ Sup (mkA FR PE SC (a.set j (nI r))) (nI s)) from ⟨fun ⟨j, _, h2, h3⟩ => ⟨j, h2, h3⟩, fun ⟨j, h2, h3⟩ => ⟨j, Nat.zero_le _, h2, h3⟩⟩).trans F1.o)
        rw [f_6 cf1, bS, f_10 cf1, bS, f_5 cf1, bS, Dy_0 hY, bS, Dy_t0 hY J b2, bS, Lu_o hL, bS, fX5_oneOrTwo, Lu_o hL, bS, g0, bS, Lu_o hL, bS, g1, bS, k1]
        by_cases c1 : x1 = true
        · have ff : ∀ p, (p < L + 1 ∨ L + 12 < p) → J2 p = J p := fun p hp => by rw [k3 p (by omega) (by omega), g5 p (by omega)]
          rw [if_pos c1, pif_pos (x1i.o.mp c1)]
          exact ⟨J2, rfl, CD_scr cf0 e2 (fun p hp => ff p (by omega)), fun p hp => by rw [ff p (by omega), e5 p (by omega)]⟩
        · have c1' : Hid (¬ ∃ t, t < 40 * FR.length ∧ Sup (mkA FR PE SC (ttL FR.length t a)) (nI s)) := fun z => c1 (x1i.o.mpr z)
          rw [if_neg c1, pif_neg c1'.o]
          have F2 := few2 ok.2.1 ok.2.2.1 g2 hA hl okl.1 okl.2.1 hRQ (fun z => Sup (mask z) (nI s)) c0 c1'.o
          replace F2 : Hid _ := F2
          have dH2 : HAt J2 h FR PE SC TT := dH1.of (fun p h1 h2 => k3 p (by omega) (by omega))
          have ha2 : arr (J2 (Y + 2 + d)) a := by rw [k3 _ (by omega) (by omega)]; exact ha1
          have hal2 : ∀ d, d < 41 → J2 (L + 3) d = nI (al d) := fun d hd => by rw [k3 _ (by omega) (by omega)]; exact g3 d hd
          obtain ⟨J3, x2, l1, l2, l3⟩ := C_twoL hL hH (by omega) (by omega) ok A1 hl (nI s) (fun (w_19 : Wd) => some ((2 : Int32), w_19)) (fun (w_20 : Wd) => fX5_oneOrTwo_101 L h (Y + 2 + d) (nI s) (fun (w_29 : Wd) => some ((2 : Int32), w_29)) (fun (w_30 : Wd) => some ((-4 : Int32), w_30)) FV (0 : Int32) w_20) FR.length 0 FV J2 (by omega) (FV_lt (by omega)) dH2 ha2 (fun j hj => (g4 j hj).1.of (by rw [k3 _ (by omega) (by omega)]) (k3 _ (by omega) (by omega)))
          rw [← z0] at l1
          replace l2 : Hid _ := l2
          rw [l1]
          have f3 : ∀ p, (p < L + 1 ∨ L + 12 < p) → J3 p = J p := fun p hp => by rw [l3 p (by omega) (by omega), k3 p (by omega) (by omega), g5 p (by omega)]
          by_cases c2 : x2 = true
          · obtain ⟨j, k, -, h2, h3, h4⟩ := l2.o.mp c2
            rw [if_pos c2, pif_pos (show ∃ t u, t < 40 * FR.length ∧ u < 40 * FR.length ∧ Sup (mkA FR PE SC (ttL FR.length u (ttL FR.length t a))) (nI s) from F2.o.mp (Or.inl ⟨j, k, h2, h3, h4⟩))]
            exact ⟨J3, rfl, CD_scr cf0 e2 (fun p hp => f3 p (by omega)), fun p hp => by rw [f3 p (by omega), e5 p (by omega)]⟩
          · obtain ⟨J4, x3, m1, m2, m3⟩ := C_thrL hL hH (by omega) (by omega) ok A1 hA hl g2 (nI s) (fun (w_29 : Wd) => some ((2 : Int32), w_29)) (fun (w_30 : Wd) => some ((-4 : Int32), w_30)) FR.length 0 FV J3 (by omega) (FV_lt (by omega)) (dH2.of (fun p h1 h2 => l3 p (by omega) (by omega))) (by rw [l3 _ (by omega) (by omega)]; exact ha2) (fun d hd => by rw [l3 _ (by omega) (by omega)]; exact hal2 d hd)
            rw [← z0] at m1
            replace m2 : Hid _ := m2
            have f4 : ∀ p, (p < L + 1 ∨ L + 12 < p) → J4 p = J p := fun p hp => by rw [m3 p hp, f3 p hp]
            rw [if_neg c2, m1]
            by_cases c3 : x3 = true
            · obtain ⟨k, -, h2, h3⟩ := m2.o.mp c3
              rw [if_pos c3, pif_pos (show ∃ t u, t < 40 * FR.length ∧ u < 40 * FR.length ∧ Sup (mkA FR PE SC (ttL FR.length u (ttL FR.length t a))) (nI s) from F2.o.mp (Or.inr ⟨k, h2, h3⟩))]
              exact ⟨J4, rfl, CD_scr cf0 e2 (fun p hp => f4 p (by omega)), fun p hp => by rw [f4 p (by omega), e5 p (by omega)]⟩
            · have c4 : Hid (¬ ∃ t u, t < 40 * FR.length ∧ u < 40 * FR.length ∧ Sup (mkA FR PE SC (ttL FR.length u (ttL FR.length t a))) (nI s)) := fun z => by
                rcases F2.o.mpr z with ⟨j, k, h1, h2, h3⟩ | ⟨k, h2, h3⟩
                · exact c2 (l2.o.mpr ⟨j, k, Nat.zero_le _, h1, h2, h3⟩)
                · exact c3 (m2.o.mpr ⟨k, Nat.zero_le _, h2, h3⟩)
              rw [if_neg c3, pif_neg c4.o]
              exact ⟨J4, rfl, CD_scr cf0 e2 (fun p hp => f4 p (by omega)), fun p hp => by rw [f4 p (by omega), e5 p (by omega)]⟩
end FEW
