/-! safe -/
def mkA (FR : List F4) (PE : List P2) (SC : List C3) (a : List Int32) : Int32 := mask (mnL FR PE SC a).2
def orN (f : Nat → Int32) (v0 : Int32) : Nat → Int32
  | 0 => v0
  | n + 1 => orN f v0 n ||| f n
theorem bt_orN (f : Nat → Int32) (v0 : Int32) (i : Nat) : ∀ n, Bt (orN f v0 n) i ↔ Bt v0 i ∨ ∃ t, t < n ∧ Bt (f t) i := by
  intro n
  induction n with
  | zero => exact ⟨Or.inl, fun z => z.elim id (fun ⟨t, h, _⟩ => by omega)⟩
  | succ n ih =>
    show Bt (orN f v0 n ||| f n) i ↔ _
    rw [bt_or, ih]
    constructor
    · rintro ((z | ⟨t, h1, h2⟩) | z)
      · exact Or.inl z
      · exact Or.inr ⟨t, by omega, h2⟩
      · exact Or.inr ⟨n, by omega, z⟩
    · rintro (z | ⟨t, h1, h2⟩)
      · exact Or.inl (Or.inl z)
      · by_cases e : t = n
        · subst e; exact Or.inr h2
        · exact Or.inl (Or.inr ⟨t, by omega, h2⟩)
def aSafe (FR : List F4) (PE : List P2) (SC : List C3) (TL : List T3) (v : Int32) : Int32 := match ix v 31 with
  | some d => (((1 : Int32) <<< (nI PE.length &&& 31)) - 1) &&& (orN (fun t => mkA FR PE SC (ttL FR.length t (dwL FR PE SC TL d))) (mask (stL FR PE SC TL d)) (40 * FR.length) ^^^ (-1))
  | none => -1
section PURE
variable {FR : List F4} {PE : List P2} {SC : List C3} {al : Nat → Nat} {a : List Int32}
theorem mn_reach (ok : okP PE) (okc : okC PE SC) (g : GoodU PE al 41) (hA : allA a) (hl : a.length = FR.length) {k i : Nat} (hi : i < 81) (b : List Int32) (hb : b = a.set k (nI i - 40)) : (mnL FR PE SC (a.set k (nI (al (dN i))))).2 = (mnL FR PE SC b).2 := by
  subst hb
  have hd := dN_le hi
  obtain ⟨g1, g2, -⟩ := g (dN i) (by omega)
  obtain ⟨n1, n2⟩ := abN_nI (al (dN i)) (by omega)
  refine bis ok g okc (allA_set hA k n2) (allA_set hA k ⟨i, hi, rfl⟩) (by rw [List.length_set]; exact hl) (by rw [List.length_set]; exact hl) (fun j hj _ => ?_)
  by_cases c : k < a.length
  · rw [gDset c, gDset c]
    by_cases e : j = k
    · rw [if_pos e, if_pos e, n1, g2]
      rfl
    · rw [if_neg e, if_neg e]
  · rw [List.set_eq_of_length_le (by omega), List.set_eq_of_length_le (by omega)]
theorem mn_unent (ok : okP PE) (okc : okC PE SC) (g : GoodU PE al 41) (hA : allA a) (hl : a.length = FR.length) {k : Nat} (hk : k < FR.length) {v : Int32} (hv : okA v) (hn : ¬ ent FR SC k) : (mnL FR PE SC (a.set k v)).2 = (mnL FR PE SC a).2 := by
  refine bis ok g okc (allA_set hA k hv) hA (by rw [List.length_set]; exact hl) hl (fun j hj he => ?_)
  rw [gDset (by omega), if_neg (fun (e : j = k) => hn (e ▸ he))]
theorem set_same {k : Nat} (hk : k < a.length) : a.set k (a.getD k 0) = a := by
  apply List.ext_getElem (by simp)
  intro i h1 h2
  by_cases e : k = i
  · subst e
    rw [List.getElem_set_self, gD hk]
  · rw [List.getElem_set_ne e]
/-- what a frame reaches by one turn, or by none -/
theorem one1 (ok : okP PE) (okc : okC PE SC) (g : GoodU PE al 41) (hA : allA a) (hl : a.length = FR.length) {k : Nat} (hk : k < FR.length) {Q : List Nat} (hQ : RQ FR SC al a 20 k Q) (P : List Int32 → Prop) : (∃ r, r ∈ Q ∧ P (mnL FR PE SC (a.set k (nI r))).2) ↔ ent FR SC k ∧ (P (mnL FR PE SC a).2 ∨ ∃ v, isD v ∧ P (mnL FR PE SC (tnL k v a)).2) := by
  obtain ⟨ev, hv⟩ := kvO_e (hA k (by omega))
  constructor
  · rintro ⟨r, h1, h2⟩
    obtain ⟨he, i, i1, i2, rfl⟩ := (hQ r).mp h1
    have hi : i < 81 := by omega
    refine ⟨he, ?_⟩
    by_cases c : i = kvO (a.getD k 0)
    · left
      rw [mn_reach ok okc g hA hl hi a (by rw [c, ← ev, set_same (by omega)])] at h2
      exact h2
    · right
      obtain ⟨v, d1, d2⟩ := one_fr hv i1 i2 c
      refine ⟨v, d1, ?_⟩
      rw [mn_reach ok okc g hA hl hi (tnL k v a) (by unfold tnL; rw [← d2, ← ev])] at h2
      exact h2
  · rintro ⟨he, h | ⟨v, d1, h⟩⟩
    · refine ⟨al (dN (kvO (a.getD k 0))), (hQ _).mpr ⟨he, kvO (a.getD k 0), by omega, by omega, rfl⟩, ?_⟩
      rw [mn_reach ok okc g hA hl hv a (by rw [← ev, set_same (by omega)])]
      exact h
    · obtain ⟨j, j1, j2, j3⟩ := one_to hv d1
      refine ⟨al (dN j), (hQ _).mpr ⟨he, j, j1, j2, rfl⟩, ?_⟩
      rw [mn_reach ok okc g hA hl (show j < 81 by omega) (tnL k v a) (by unfold tnL; rw [← j3, ← ev])]
      exact h
theorem safe_eq (ok : okP PE) (okc : okC PE SC) (g : GoodU PE al 41) (hA : allA a) (hl : a.length = FR.length) (h1 : 0 < FR.length) (h7 : FR.length ≤ 7) {Qs : Nat → List Nat} (hQ : ∀ k, k < FR.length → RQ FR SC al a 20 k (Qs k)) {x : Int32} (hx : ∀ i, i < 32 → (Bt x i ↔ ∃ k, k < FR.length ∧ ∃ r, r ∈ Qs k ∧ Bt (mkA FR PE SC (a.set k (nI r))) i)) : (mkA FR PE SC a ||| x) = orN (fun t => mkA FR PE SC (ttL FR.length t a)) (mkA FR PE SC a) (40 * FR.length) := by
  apply bt_ext
  intro i hi
  rw [bt_or, bt_orN, hx i hi]
  constructor
  · rintro (z | ⟨k, hk, z⟩)
    · exact Or.inl z
    · obtain ⟨he, z | ⟨v, d1, z⟩⟩ := (one1 ok okc g hA hl hk (hQ k hk) (fun s => Bt (mask s) i)).mp z
      · exact Or.inl z
      · obtain ⟨t, t1, t2⟩ := tt_sur h1 h7 hk d1
        refine Or.inr ⟨t, t1, ?_⟩
        show Bt (mkA FR PE SC (ttL FR.length t a)) i
        rw [t2]
        exact z
  · rintro (z | ⟨t, ht, z⟩)
    · exact Or.inl z
    · obtain ⟨t1, t2⟩ := tt_in h1 ht
      have z' : Bt (mask (mnL FR PE SC (tnL (t / 2 % FR.length) (byI FR.length t) a)).2) i := z
      by_cases he : ent FR SC (t / 2 % FR.length)
      · right
        exact ⟨_, t1, (one1 ok okc g hA hl t1 (hQ _ t1) (fun s => Bt (mask s) i)).mpr ⟨he, Or.inr ⟨_, t2, z'⟩⟩⟩
      · left
        have := mn_unent ok okc g hA hl t1 (wth_okA (a.getD (t / 2 % FR.length) 0 + byI FR.length t)) he
        unfold tnL at z'
        rw [this] at z'
        exact z'
end PURE
section SAFE
variable {R : Nat → Nat → Option Nat} {S : Nat → Nat × Nat} {N T G U V Kp Y L X W C h h2 q row : Nat} {I : Nat → Nat → Int32} {tx : List Int32} {FR : List F4} {PE : List P2} {CO SC : List C3} {TL TT : List T3} {UL KL : List (List T3)} {SN : List P2} {a : List Int32} {al : Nat → Nat}
theorem C_sfI (hL : isLu R S N L) (hH : isHo R S N h) (o1 : L + 12 < h) (o2 : row < L) (ok : okS FR PE SC TL UL KL) (hr : isA S N row 7) (hl : a.length = FR.length) {k : Nat} (hk : k < FR.length) {Q : List Nat} (K : Int32 → Wd → Option (Int32 × Wd)) : ∀ (u i n : Nat) (J : Nat → Nat → Int32) (x : Int32), i + u = Q.length → u < n → HAt J h FR PE SC TT → arr (J row) a → RcAt J L k Q →
    ∃ J' x', fX5_anybodyByOne_28 L h row (nI k) K n x (nI i) (J, R, S, N) = K x' (J', R, S, N) ∧ (∀ b, b < 32 → (Bt x' b ↔ Bt x b ∨ ∃ r, r ∈ Q.drop i ∧ Bt (mkA FR PE SC (a.set k (nI r))) b)) ∧ ∀ p, p ≠ L + 1 → p ≠ L + 2 → J' p = J p := by
  have okl := ok.1
  intro u
  induction u with
  | zero =>
    intro i n J x hi hn dH ha hQ
    obtain ⟨n, rfl⟩ : ∃ n', n = n' + 1 := ⟨n - 1, by omega⟩
    have hle := hQ.le
    refine ⟨J, x, ?_, fun b _ => ⟨Or.inl, fun z => z.elim id (fun ⟨r, h1, _⟩ => by rw [List.drop_eq_nil_of_le (by omega)] at h1; simp at h1)⟩, fun _ _ _ => rfl⟩
    rw [fX5_anybodyByOne_28, Lu_4 hL, bS, Lu_r4 hL J (show k < 7 by omega), bS, hQ.1, if_pos (nI_le (by omega) (by omega))]
  | succ u ih =>
    intro i n J x hi hn dH ha hQ
    obtain ⟨n, rfl⟩ : ∃ n', n = n' + 1 := ⟨n - 1, by omega⟩
    have hle := hQ.le
    obtain ⟨J1, g1, f1⟩ := C_wonWith hL hH o1 ok dH hr ha hl hk (nI (Q.getD i 0))
    obtain ⟨J', x', e1, e2, e3⟩ := ih (i + 1) n J1 (x ||| mkA FR PE SC (a.set k (nI (Q.getD i 0)))) (by omega) (by omega) (dH.of (fun p h1 h2 => f1 p (by omega) (by omega))) (by rw [f1 row (by omega) (by omega)]; exact ha) (hQ.of (by rw [f1 _ (by omega) (by omega)]) (f1 _ (by omega) (by omega)))
    refine ⟨J', x', ?_, fun b hb => ?_, fun p h1 h2 => by rw [e3 p h1 h2, f1 p h1 h2]⟩
    · rw [fX5_anybodyByOne_28, Lu_4 hL, bS, Lu_r4 hL J (show k < 7 by omega), bS, hQ.1, if_neg (nI_ge (by omega) (by omega)), Lu_3 hL, bS, Lu_t3 hL J (show k < 7 by omega), bS, Lu_r3 hL J (show k < 7 by omega) (show i < 41 by omega), bS, hQ.2.1 i (by omega), Lu_o hL, bS, g1, bS, nI_i1]
      exact e1
    · rw [e2 b hb, bt_or, dropc 0 (show i < Q.length by omega)]
      constructor
      · rintro ((z | z) | ⟨r, h1, h2⟩)
        · exact Or.inl z
        · exact Or.inr ⟨_, by simp, z⟩
        · exact Or.inr ⟨r, by simp [h1], h2⟩
      · rintro (z | ⟨r, h1, h2⟩)
        · exact Or.inl (Or.inl z)
        · rw [List.mem_cons] at h1
          rcases h1 with h1 | h1
          · subst h1; exact Or.inl (Or.inr h2)
          · exact Or.inr ⟨r, h1, h2⟩
theorem C_sfL (hL : isLu R S N L) (hH : isHo R S N h) (o1 : L + 12 < h) (o2 : row < L) (ok : okS FR PE SC TL UL KL) (hr : isA S N row 7) (hl : a.length = FR.length) {Qs : Nat → List Nat} (K : Int32 → Wd → Option (Int32 × Wd)) : ∀ (u k n : Nat) (J : Nat → Nat → Int32) (x : Int32), k + u = FR.length → u < n → HAt J h FR PE SC TT → arr (J row) a → (∀ j, j < FR.length → RcAt J L j (Qs j)) →
    ∃ J' x', fX5_anybodyByOne_16 L h row K n x (nI k) (J, R, S, N) = K x' (J', R, S, N) ∧ (∀ b, b < 32 → (Bt x' b ↔ Bt x b ∨ ∃ j, k ≤ j ∧ j < FR.length ∧ ∃ r, r ∈ Qs j ∧ Bt (mkA FR PE SC (a.set j (nI r))) b)) ∧ ∀ p, p ≠ L + 1 → p ≠ L + 2 → J' p = J p := by
  have okl := ok.1
  intro u
  induction u with
  | zero =>
    intro k n J x hi hn dH ha hQ
    obtain ⟨n, rfl⟩ : ∃ n', n = n' + 1 := ⟨n - 1, by omega⟩
    refine ⟨J, x, ?_, fun b _ => ⟨Or.inl, fun z => z.elim id (fun ⟨j, h1, h2, _⟩ => by omega)⟩, fun _ _ _ => rfl⟩
    rw [fX5_anybodyByOne_16, Ho_g hH, bS, dH.2.1.1, if_pos (nI_le (by omega) (by omega))]
  | succ u ih =>
    intro k n J x hi hn dH ha hQ
    obtain ⟨n, rfl⟩ : ∃ n', n = n' + 1 := ⟨n - 1, by omega⟩
    have hle := (hQ k (by omega)).le
    obtain ⟨J1, x1, g1, g2, f1⟩ := C_sfI hL hH o1 o2 ok hr hl (show k < FR.length by omega) (fun (v3_14 : Int32) (w_13 : Wd) => fX5_anybodyByOne_16 L h row K n v3_14 (nI k + (1 : Int32)) w_13) (Qs k).length 0 FV J x (by omega) (FV_lt (by omega)) dH ha (hQ k (by omega))
    obtain ⟨J', x', e1, e2, e3⟩ := ih (k + 1) n J1 x1 (by omega) (by omega) (dH.of (fun p h1 h2 => f1 p (by omega) (by omega))) (by rw [f1 row (by omega) (by omega)]; exact ha) (fun j hj => (hQ j hj).of (by rw [f1 _ (by omega) (by omega)]) (f1 _ (by omega) (by omega)))
    refine ⟨J', x', ?_, fun b hb => ?_, fun p h1 h2 => by rw [e3 p h1 h2, f1 p h1 h2]⟩
    · rw [fX5_anybodyByOne_16, Ho_g hH, bS, dH.2.1.1, if_neg (nI_ge (by omega) (by omega))]
      rw [← z0] at g1
      refine g1.trans ?_
      show fX5_anybodyByOne_16 L h row K n x1 (nI k + (1 : Int32)) (J1, R, S, N) = _
      rw [nI_i1]
      exact e1
    · rw [e2 b hb, g2 b hb, List.drop_zero]
      constructor
      · rintro ((z | ⟨r, z⟩) | ⟨j, h1, h2, h3⟩)
        · exact Or.inl z
        · exact Or.inr ⟨k, by omega, by omega, r, z⟩
        · exact Or.inr ⟨j, by omega, h2, h3⟩
      · rintro (z | ⟨j, h1, h2, h3⟩)
        · exact Or.inl (Or.inl z)
        · by_cases e : j = k
          · subst e; exact Or.inl (Or.inr h3)
          · exact Or.inr ⟨j, by omega, h2, h3⟩
theorem C_safe (cf : CF R S N T G U V Kp Y L X W C h h2) (cd : CD I R T U V Kp Y X h tx FR PE SC TL UL KL SN) (ok : okS FR PE SC TL UL KL) (v : Int32) : ∃ J, fX11_safe 0 v (I, R, S, N) = some (aSafe FR PE SC TL v, (J, R, S, N)) ∧ CD J R T U V Kp Y X h tx FR PE SC TL UL KL SN ∧ ∀ p, 201 < p → J p = I p := by
  have cf0 := cf
  obtain ⟨pl, cf1, hT, hG, hU, hV, hK, hY, hL, hX, hW, hC, hH, hH2⟩ := cf
  obtain ⟨p1, p2, p3, p4, p5, p6, p7, p8, p9, p10, p11⟩ := pl
  have hNY := hY.1
  have okl := ok.1
  unfold aSafe fX11_safe
  rw [z31]
  rcases ixc v (n := 31) (by omega) with b2 | ⟨d, b2, rfl⟩
  · rw [ix_n b2, C_out1 b2]
    exact ⟨I, by rw [bS, if_neg i10], cd, fun _ _ => rfl⟩
  · rw [ix_s b2 (by omega), C_out0 b2 (by omega)]
    obtain ⟨J, e1, e2, e3, e4, e5⟩ := C_days cf0 cd ok
    obtain ⟨TT, c5⟩ := e2.2.2.2.2.1
    have A1 : isA S N (Y + 2 + d) 7 := ⟨by omega, Dy_s0 hY b2⟩
    have ha := (e3 d b2).1
    have hl := dw_len' FR PE SC TL d
    have hA := allA_dw FR PE SC TL d
    obtain ⟨J0, J1, al, Qs, g0, g1, g2, g3, g4, g5⟩ := C_reachAll hL hH (by omega) (by omega) ok.2.1 A1 hA hl c5 ha
    obtain ⟨J2, x, k1, k2, k3⟩ := C_sfL hL hH (by omega) (by omega) ok A1 hl (fun v w => some (v, w)) FR.length 0 FV J1 0 (by omega) (FV_lt (by omega)) (c5.of (fun p h1 h2 => g5 p (by omega))) (by rw [g5 _ (by omega)]; exact ha) (fun j hj => (g4 j hj).1)
    have f2 : ∀ p, (p < L + 1 ∨ L + 12 < p) → J2 p = J p := fun p hp => by rw [k3 p (by omega) (by omega), g5 p (by omega)]
    refine ⟨J2, ?_, CD_scr cf0 e2 (fun p hp => f2 p (by omega)), fun p hp => by rw [f2 p (by omega), e5 p (by omega)]⟩
    have hab : fX5_anybodyByOne L h (Y + 2 + d) (J, R, S, N) = some (x, (J2, R, S, N)) := by
      rw [fX5_anybodyByOne, Lu_o hL, bS, g0, bS, Lu_o hL, bS, g1, bS]
      rw [← z0] at k1
      exact k1
    have hx := safe_eq ok.2.1 ok.2.2.1 g2 hA hl okl.1 okl.2.1 (fun k hk => (g4 k hk).2) (x := x) (fun i hi => by
      rw [k2 i hi]
      constructor
      · rintro (z | ⟨j, h1, h2, h3⟩)
        · exact absurd z (bt_0 i hi)
        · exact ⟨j, h2, h3⟩
      · rintro ⟨j, h2, h3⟩
        exact Or.inr ⟨j, by omega, h2, h3⟩)
    have x7 : J2 h 7 = nI PE.length := by rw [f2 h (by omega)]; exact c5.2.1.2.1
    rw [bS, if_pos rfl, f_o cf1, bS, e1, bS, Dy_3 hY, bS, Dy_r3 hY J b2, bS, (e3 d b2).2.2.2, f_6 cf1, bS, f_10 cf1, bS, f_5 cf1, bS, Dy_0 hY, bS, Dy_t0 hY J b2, bS, Lu_o hL, bS, hab, bS, f_10 cf1, bS, Ho_g hH, bS, x7]
    show some (_ &&& ((mkA FR PE SC (dwL FR PE SC TL d) ||| x) ^^^ (-1)), _) = _
    rw [hx]
    rfl
theorem M_sfL (hm : isMo R S N q) (ok : okS FR PE SC TL UL KL) (hl : a.length = FR.length) (hA : allA a) (v0 : Int32) (K : Int32 → Wd → Option (Int32 × Wd)) : ∀ (m t n : Nat) (J : Nat → Nat → Int32), t + m = 40 * FR.length → m < n → MH J q FR PE CO SC TL → arr (J (q + 16)) a →
    ∃ J', fX12_safe_21 q K n (orN (fun t => mkA FR PE SC (ttL FR.length t a)) v0 t) (nI t) (J, R, S, N) = K (orN (fun t => mkA FR PE SC (ttL FR.length t a)) v0 (40 * FR.length)) (J', R, S, N) ∧ MG J J' q := by
  have okl := ok.1
  intro m
  induction m with
  | zero =>
    intro t n J hi hn d ha
    obtain ⟨n, rfl⟩ : ∃ n', n = n' + 1 := ⟨n - 1, by omega⟩
    refine ⟨J, ?_, MG.rf⟩
    rw [fX12_safe_21, Mo_g hm, bS, d.2.1.1, z40, pk_mul, if_pos (nI_le (by omega) (by omega)), show t = 40 * FR.length by omega]
  | succ m ih =>
    intro t n J hti hn d ha
    obtain ⟨n, rfl⟩ : ∃ n', n = n' + 1 := ⟨n - 1, by omega⟩
    obtain ⟨J1, g1, s1, r1, m1⟩ := M_tries hm ok d ha hl hA (t := t) (by omega)
    obtain ⟨J', e1, e2⟩ := ih (t + 1) n J1 (by omega) (by omega) (m1.mh d) (by rw [r1]; exact ha)
    refine ⟨J', ?_, m1.tr e2⟩
    rw [fX12_safe_21, Mo_g hm, bS, d.2.1.1, z40, pk_mul, if_neg (nI_ge (by omega) (by omega)), Mo_o hm, bS, g1, bS, Mo_g hm, bS, s1, nI_i1]
    exact e1
theorem MM_safe (hm : isMo R S N q) (d : MD I q tx FR PE CO SC TL UL KL SN) (ok : okS FR PE SC TL UL KL) (v : Int32) : ∃ J, fX12_safe q v (I, R, S, N) = some (aSafe FR PE SC TL v, (J, R, S, N)) ∧ MD J q tx FR PE CO SC TL UL KL SN ∧ ∀ p, (p < q ∨ q + 20 < p) → J p = I p := by
  have d1 := d.1
  have d0 := d1.1
  have okl := ok.1
  unfold aSafe fX12_safe
  rw [M_isDay, bS]
  rcases ixc v (n := 31) (by omega) with b2 | ⟨e, b2, rfl⟩
  · rw [ix_n b2]
    exact ⟨I, rfl, d, fun _ _ => rfl⟩
  · rw [ix_s b2 (by omega), sm1, if_neg i10]
    obtain ⟨J, e1, e2, e3⟩ := M_goes hm ok.2.1 ok.2.2.1 ok.2.2.2.1 b2 d1
    obtain ⟨J2, g1, g2⟩ := M_sfL hm ok (dw_len' FR PE SC TL e) (allA_dw FR PE SC TL e) (mask (stL FR PE SC TL e)) (fun (v2_12 : Int32) (w_11 : Wd) => (gfI 11 2 q w_11).bind fun x_13 => some ((((1 : Int32) <<< (x_13 &&& 31)) - (1 : Int32)) &&& (v2_12 ^^^ (-1 : Int32)), w_11)) (40 * FR.length) 0 FV J (by omega) (FV_lt (by omega)) (e3.mh d1) e2.2.1
    have m2 := e3.tr g2
    refine ⟨J2, ?_, m2.md d, fun p hp => m2.1 p (by omega) (by omega) (by omega) (by omega)⟩
    rw [← z0] at g1
    rw [Mo_o hm, bS, e1, bS, Mo_g hm, bS, e2.2.2.2]
    refine g1.trans ?_
    show ((gfI 11 2 q (J2, R, S, N)).bind fun x_13 => some ((((1 : Int32) <<< (x_13 &&& 31)) - (1 : Int32)) &&& (_ ^^^ (-1 : Int32)), (J2, R, S, N))) = _
    rw [Mo_g hm, bS, (m2.mh d1).2.1.2.1]
end SAFE
