theorem n4 {k : Nat} (h : k < 2 ^ 31) : ¬ nI k = (-4 : Int32) := by
  intro e
  have h1 := nI_pos' h
  rw [e] at h1
  exact absurd h1 (by decide)
theorem mask_set (s : List Int32) (hs : s.length = 5) (i : Nat) (hi : i < 5) (v : Int32) (hv : ¬ v = -4) (h4 : s.getD i 0 = -4) : mask (s.set i v) = mask s ||| ((1 : Int32) <<< (nI i &&& 31)) := by
  match s, hs with
  | [a, b, c, d, e], _ =>
    rcases (show i = 0 ∨ i = 1 ∨ i = 2 ∨ i = 3 ∨ i = 4 by omega) with rfl | rfl | rfl | rfl | rfl
    all_goals
      simp only [List.getD_cons_zero, List.getD_cons_succ] at h4
      subst h4
      simp only [mask, List.range, List.range.loop, List.foldl, List.set, List.getD_cons_zero, List.getD_cons_succ, if_neg hv, if_true]
    · by_cases h1 : b = -4 <;> by_cases h2 : c = -4 <;> by_cases h3 : d = -4 <;> by_cases h5 : e = -4 <;> simp only [h1, h2, h3, h5, if_true, if_false] <;> decide
    · by_cases h1 : a = -4 <;> by_cases h2 : c = -4 <;> by_cases h3 : d = -4 <;> by_cases h5 : e = -4 <;> simp only [h1, h2, h3, h5, if_true, if_false] <;> decide
    · by_cases h1 : a = -4 <;> by_cases h2 : b = -4 <;> by_cases h3 : d = -4 <;> by_cases h5 : e = -4 <;> simp only [h1, h2, h3, h5, if_true, if_false] <;> decide
    · by_cases h1 : a = -4 <;> by_cases h2 : b = -4 <;> by_cases h3 : c = -4 <;> by_cases h5 : e = -4 <;> simp only [h1, h2, h3, h5, if_true, if_false] <;> decide
section SIM2
variable {R : Nat → Nat → Option Nat} {S : Nat → Nat × Nat} {N h row rt : Nat} {FR : List F4} {PE : List P2} {SC : List C3} {TL : List T3}
theorem S_fillL {p len : Nat} (hp : isA S N p len) (hl : len ≤ 1000) (v : Int32) (K : Wd → Option (Unit × Wd)) : ∀ (m i n : Nat) (J : Nat → Nat → Int32), i + m = len → m < n → fJ7_fill_53178_5 p v (nI len) K n (nI i) (J, R, S, N) = K (up1 J p (fun k => if i ≤ k ∧ k < len then v else J p k), R, S, N) := by
  have hw : ∀ (J : Nat → Nat → Int32) k, k < len → wrI p (nI k) v (J, R, S, N) = some (up1 J p (upd (J p) k v), R, S, N) := fun J k hk => wr hp.1 hp.2 hk (by omega)
  intro m
  induction m with
  | zero =>
    intro i n J hi hn
    obtain ⟨n, rfl⟩ : ∃ n', n = n' + 1 := ⟨n - 1, by omega⟩
    simp (disch := omega) only [fJ7_fill_53178_5, nle]
    rw [if_pos (by omega)]
    congr 2
    funext a b
    by_cases ha : a = p
    · subst ha
      simp only [up1, if_true]
      rw [if_neg (by omega)]
    · simp [up1, ha]
  | succ m ih =>
    intro i n J hi hn
    obtain ⟨n, rfl⟩ : ∃ n', n = n' + 1 := ⟨n - 1, by omega⟩
    simp (disch := omega) only [fJ7_fill_53178_5, nle, hw, Option.bind_some, nI_i1, ih (i + 1) n _ (by omega) (by omega), up1_u, up1_s]
    rw [if_neg (by omega)]
    congr 3
    funext k
    by_cases e : k = i
    · subst e
      simp only [upd, if_true]
      rw [if_neg (by omega), if_pos (by omega)]
    · simp only [upd, if_neg e]
      by_cases c : i ≤ k ∧ k < len
      · rw [if_pos c, if_pos (by omega)]
      · rw [if_neg c, if_neg (by omega)]
theorem S_fill {p len : Nat} (hp : isA S N p len) (hl : len ≤ 1000) (v : Int32) (J : Nat → Nat → Int32) : fJ7_fill_53178 p v (J, R, S, N) = some ((), (up1 J p (fun k => if k < len then v else J p k), R, S, N)) := by
  simp only [fJ7_fill_53178, lA hp.1 hp.2, Option.bind_some, z0]
  rw [S_fillL hp hl v _ len 0 FV _ (by omega) (FV_lt (by omega))]
  simp
/-! wires -/
def twF (FR : List F4) (i : Nat) (a : List Int32) : List Int32 := (List.range FR.length).map (fun k => if i ≤ k then wth (a.getD k 0 + (FR.getD k f4).2.2.1) else a.getD k 0)
theorem twF_0 (a : List Int32) : twF FR 0 a = twL FR a := by simp [twF, twL]
theorem twF_e {a : List Int32} {i : Nat} (hl : a.length = FR.length) (hi : FR.length ≤ i) : twF FR i a = a := by
  apply lext
  · simp [twF, hl]
  · intro k hk
    simp only [twF, List.length_map, List.length_range] at hk
    rw [twF, gDmap hk, if_neg (by omega)]
theorem twF_s {a : List Int32} {i : Nat} (hl : a.length = FR.length) (hi : i < FR.length) : twF FR (i + 1) (a.set i (wth (a.getD i 0 + (FR.getD i f4).2.2.1))) = twF FR i a := by
  apply lext
  · simp [twF]
  · intro k hk
    simp only [twF, List.length_map, List.length_range] at hk
    rw [twF, twF, gDmap hk, gDmap hk, gDset (by omega)]
    by_cases e : k = i
    · subst e
      rw [if_neg (by omega), if_pos rfl, if_pos (by omega)]
    · rw [if_neg e]
      by_cases c : i ≤ k
      · rw [if_pos (by omega), if_pos c]
      · rw [if_neg (by omega), if_neg c]
theorem S_twL (hh : isHo R S N h) (hr : isA S N row 7) (ho : row < h ∨ h + 13 < row) (K : Wd → Option (Unit × Wd)) : ∀ (m i n : Nat) (J : Nat → Nat → Int32) (a : List Int32), i + m = FR.length → m < n → HAt J h FR PE SC TL → arr (J row) a → a.length = FR.length →
    ∃ J', fX4_twist_2 h row K n (nI i) (J, R, S, N) = K (J', R, S, N) ∧ arr (J' row) (twF FR i a) ∧ ∀ p, p ≠ row → J' p = J p := by
  have hrd : ∀ (J : Nat → Nat → Int32) k, k < 7 → rdI row (nI k) (J, R, S, N) = some (J row k) := fun J k hk => rd hr.1 hr.2 hk (by omega)
  have hw : ∀ (J : Nat → Nat → Int32) k v, k < 7 → wrI row (nI k) v (J, R, S, N) = some (up1 J row (upd (J row) k v), R, S, N) := fun J k v hk => wr hr.1 hr.2 hk (by omega)
  intro m
  induction m with
  | zero =>
    intro i n J a hi hn d ha hl
    obtain ⟨n, rfl⟩ : ∃ n', n = n' + 1 := ⟨n - 1, by omega⟩
    have d1 := d.1
    refine ⟨J, ?_, by rw [twF_e hl (by omega)]; exact ha, fun _ _ => rfl⟩
    simp (disch := omega) only [fX4_twist_2, Ho_g hh, Option.bind_some, d.2.1.1, nle]
    rw [if_pos (by omega)]
  | succ m ih =>
    intro i n J a hi hn d ha hl
    obtain ⟨n, rfl⟩ : ∃ n', n = n' + 1 := ⟨n - 1, by omega⟩
    have d1 := d.1
    have hk := d.2.2.1 i (by omega)
    obtain ⟨J', e1, e2, e3⟩ := ih (i + 1) n (up1 J row (upd (J row) i (wth (a.getD i 0 + (FR.getD i f4).2.2.1)))) (a.set i (wth (a.getD i 0 + (FR.getD i f4).2.2.1))) (by omega) (by omega) (d.of (fun p h1 h2 => up1_n _ _ (by omega))) (by rw [up1_s]; exact ha.set _ _ (by omega)) (by simp [hl])
    refine ⟨J', ?_, by rw [← twF_s hl (by omega)]; exact e2, fun p hp => by rw [e3 p hp, up1_n _ _ hp]⟩
    simp (disch := omega) only [fX4_twist_2, Ho_g hh, Ho_2 hh, Ho_r2 hh, hrd, hw, Option.bind_some, d.2.1.1, nle, hk.2.2.1, ha i (by omega), S_kept, nI_i1, e1]
    rw [if_neg (by omega)]
theorem S_twist (hh : isHo R S N h) (hr : isA S N row 7) (ho : row < h ∨ h + 13 < row) {J : Nat → Nat → Int32} {a : List Int32} (d : HAt J h FR PE SC TL) (ha : arr (J row) a) (hl : a.length = FR.length) :
    ∃ J', fX4_twist h row (J, R, S, N) = some ((), (J', R, S, N)) ∧ arr (J' row) (twL FR a) ∧ ∀ p, p ≠ row → J' p = J p := by
  have d1 := d.1
  obtain ⟨J', e1, e2, e3⟩ := S_twL hh hr ho (fun w => some ((), w)) FR.length 0 FV J a (by omega) (FV_lt (by omega)) d ha hl
  exact ⟨J', by rw [fX4_twist, z0]; exact e1, by rw [← twF_0]; exact e2, e3⟩
/-! turns -/
theorem tn_len (k : Nat) (d : Int32) (a : List Int32) : (tnL k d a).length = a.length := by simp [tnL]
theorem nt_len (TL : List T3) (d : Int32) : ∀ a : List Int32, (ntL TL d a).length = a.length := by
  unfold ntL
  induction TL with
  | nil => intro a; rfl
  | cons t TL ih =>
    intro a
    rw [List.foldl_cons, ih]
    split
    · exact tn_len _ _ _
    · rfl
theorem tw_len (a : List Int32) : (twL FR a).length = FR.length := by simp [twL]
theorem S_taL {t : Nat} (ht : isT R S N t) (hr : isA S N row 7) (ho : row < t ∨ t + 3 < row) (v : Int32) (K : Wd → Option (Unit × Wd)) (hT : TL.length ≤ 8) : ∀ (m i n : Nat) (J : Nat → Nat → Int32) (a : List Int32), i + m = TL.length → m < n → TAt J t TL → arr (J row) a → a.length ≤ 7 → (∀ k, k < TL.length → (TL.getD k t3).2.1 < a.length) →
    ∃ J', fX10_turnAll_2 t v row K n (nI i) (J, R, S, N) = K (J', R, S, N) ∧ arr (J' row) (ntL (TL.drop i) v a) ∧ ∀ p, p ≠ row → J' p = J p := by
  have hrd : ∀ (J : Nat → Nat → Int32) k, k < 7 → rdI row (nI k) (J, R, S, N) = some (J row k) := fun J k hk => rd hr.1 hr.2 hk (by omega)
  have hw : ∀ (J : Nat → Nat → Int32) k v, k < 7 → wrI row (nI k) v (J, R, S, N) = some (up1 J row (upd (J row) k v), R, S, N) := fun J k v hk => wr hr.1 hr.2 hk (by omega)
  intro m
  induction m with
  | zero =>
    intro i n J a hi hn d ha hl hb
    obtain ⟨n, rfl⟩ : ∃ n', n = n' + 1 := ⟨n - 1, by omega⟩
    refine ⟨J, ?_, by rw [List.drop_eq_nil_of_le (by omega)]; exact ha, fun _ _ => rfl⟩
    simp (disch := omega) only [fX10_turnAll_2, T_g ht, Option.bind_some, d.2.1, nle]
    rw [if_pos (by omega)]
  | succ m ih =>
    intro i n J a hi hn d ha hl hb
    obtain ⟨n, rfl⟩ : ∃ n', n = n' + 1 := ⟨n - 1, by omega⟩
    have hk := d.2.2 i (by omega)
    have hbi := hb i (by omega)
    rw [dropc t3 (show i < TL.length by omega), ntL, List.foldl_cons]
    by_cases c : (TL.getD i t3).1 = v
    · obtain ⟨J', e1, e2, e3⟩ := ih (i + 1) n (up1 J row (upd (J row) (TL.getD i t3).2.1 (wth (a.getD (TL.getD i t3).2.1 0 + (TL.getD i t3).2.2)))) (tnL (TL.getD i t3).2.1 (TL.getD i t3).2.2 a) (by omega) (by omega) (d.of (fun p h1 h2 => up1_n _ _ (by omega))) (by rw [up1_s]; exact ha.set _ _ hbi) (by rw [tn_len]; exact hl) (by rw [tn_len]; exact hb)
      refine ⟨J', ?_, by rw [if_pos c]; exact e2, fun p hp => by rw [e3 p hp, up1_n _ _ hp]⟩
      simp (disch := omega) only [fX10_turnAll_2, T_g ht, T_0 ht, T_1 ht, T_2 ht, T_r0 ht, T_r1 ht, T_r2 ht, hrd, hw, Option.bind_some, d.2.1, nle, hk.1, hk.2.1, hk.2.2, c, ha _ hbi, S_kept, nI_i1, e1, if_true]
      rw [if_neg (by omega)]
    · obtain ⟨J', e1, e2, e3⟩ := ih (i + 1) n J a (by omega) (by omega) d ha hl hb
      refine ⟨J', ?_, by rw [if_neg c]; exact e2, e3⟩
      simp (disch := omega) only [fX10_turnAll_2, T_g ht, T_0 ht, T_r0 ht, Option.bind_some, d.2.1, nle, hk.1, c, nI_i1, e1, if_false]
      rw [if_neg (by omega)]
theorem S_turnAll {t : Nat} (ht : isT R S N t) (hr : isA S N row 7) (ho : row < t ∨ t + 3 < row) (v : Int32) {J : Nat → Nat → Int32} {a : List Int32} (d : TAt J t TL) (ha : arr (J row) a) (hl : a.length ≤ 7) (hb : ∀ k, k < TL.length → (TL.getD k t3).2.1 < a.length) :
    ∃ J', fX10_turnAll t v row (J, R, S, N) = some ((), (J', R, S, N)) ∧ arr (J' row) (ntL TL v a) ∧ ∀ p, p ≠ row → J' p = J p := by
  have d1 := d.1
  obtain ⟨J', e1, e2, e3⟩ := S_taL ht hr ho v (fun w => some ((), w)) d.1 TL.length 0 FV J a (by omega) (FV_lt (by omega)) d ha hl hb
  exact ⟨J', by rw [fX10_turnAll, z0]; exact e1, e2, e3⟩
/-! a morning -/
theorem cm_len (st : List Int32 × List Int32) (c : C3) : (cmL FR PE st c).1.length = st.1.length ∧ (cmL FR PE st c).2.length = st.2.length := by
  unfold cmL
  split
  · split
    · exact ⟨rfl, rfl⟩
    · simp
  · exact ⟨rfl, rfl⟩
theorem fT_lt {a : List Int32} {lim room : Int32} {i m k : Nat} (h : fTL FR lim room a i m = some k) : i ≤ k ∧ k < i + m := by
  have := List.mem_of_find?_eq_some h
  rw [List.mem_range'_1] at this
  exact this
theorem S_lcL (hh : isHo R S N h) (hr : isA S N row 7) (hq : isA S N rt 5) (ho : row < h ∨ h + 13 < row) (ho2 : rt < h ∨ h + 13 < rt) (hne : row ≠ rt) (ok : okP PE) (okc : okC PE SC) (K : Int32 → Wd → Option (Int32 × Wd)) : ∀ (m i n : Nat) (J : Nat → Nat → Int32) (a s : List Int32), i + m = SC.length → m < n → HAt J h FR PE SC TL → arr (J row) a → a.length = FR.length → arr (J rt) s → s.length = 5 →
    ∃ J', fX4_letCome_11 h row rt K n (mask s) (nI i) (J, R, S, N) = K (mask ((SC.drop i).foldl (cmL FR PE) (a, s)).2) (J', R, S, N) ∧ arr (J' row) ((SC.drop i).foldl (cmL FR PE) (a, s)).1 ∧ arr (J' rt) ((SC.drop i).foldl (cmL FR PE) (a, s)).2 ∧ ∀ p, p ≠ row → p ≠ rt → J' p = J p := by
  have hrd : ∀ (J : Nat → Nat → Int32) k, k < 7 → rdI row (nI k) (J, R, S, N) = some (J row k) := fun J k hk => rd hr.1 hr.2 hk (by omega)
  have hw : ∀ (J : Nat → Nat → Int32) k v, k < 7 → wrI row (nI k) v (J, R, S, N) = some (up1 J row (upd (J row) k v), R, S, N) := fun J k v hk => wr hr.1 hr.2 hk (by omega)
  have hrd2 : ∀ (J : Nat → Nat → Int32) k, k < 5 → rdI rt (nI k) (J, R, S, N) = some (J rt k) := fun J k hk => rd hq.1 hq.2 hk (by omega)
  have hw2 : ∀ (J : Nat → Nat → Int32) k v, k < 5 → wrI rt (nI k) v (J, R, S, N) = some (up1 J rt (upd (J rt) k v), R, S, N) := fun J k v hk => wr hq.1 hq.2 hk (by omega)
  intro m
  induction m with
  | zero =>
    intro i n J a s hi hn d ha hl hs hls
    obtain ⟨n, rfl⟩ : ∃ n', n = n' + 1 := ⟨n - 1, by omega⟩
    have d1 := d.1
    rw [List.drop_eq_nil_of_le (by omega)]
    refine ⟨J, ?_, ha, hs, fun _ _ _ => rfl⟩
    simp (disch := omega) only [fX4_letCome_11, Ho_g hh, Option.bind_some, d.2.1.2.2, nle, List.foldl_nil]
    rw [if_pos (by omega)]
  | succ m ih =>
    intro i n J a s hi hn d ha hl hs hls
    obtain ⟨n, rfl⟩ : ∃ n', n = n' + 1 := ⟨n - 1, by omega⟩
    have d1 := d.1
    have hk := d.2.2.2.2.1 i (by omega)
    have hp := okc i (by omega)
    rw [dropc c3 (show i < SC.length by omega), List.foldl_cons]
    generalize SC.getD i c3 = cc at hk hp ⊢
    have hsi := hs cc.1 (by omega)
    by_cases c : s.getD cc.1 0 = -4
    · have hft := S_firstT hh d hr ha hl hp cc.2.2
      cases hf : fTL FR (limO (PE.getD cc.1 p2).1 (PE.getD cc.1 p2).2) cc.2.2 a 0 FR.length with
      | none =>
        rw [hf] at hft
        have e0 : cmL FR PE (a, s) cc = (a, s) := by simp only [cmL, c, hf, if_true]
        rw [e0]
        obtain ⟨J', e1, e2, e3, e4⟩ := ih (i + 1) n J a s (by omega) (by omega) d ha hl hs hls
        refine ⟨J', ?_, e2, e3, e4⟩
        simp (disch := omega) only [fX4_letCome_11, Ho_g hh, Ho_8 hh, Ho_r8 hh, Ho_10 hh, Ho_r10 hh, Ho_o hh, hrd2, Option.bind_some, d.2.1.2.2, nle, hk.1, hk.2.2, hsi, c, hft, Option.elim, if_true, nI_i1, e1]
        rw [if_neg (by omega)]
      | some k =>
        rw [hf] at hft
        have hkl := fT_lt hf
        have e0 : cmL FR PE (a, s) cc = (a.set k (made (PE.getD cc.1 p2).1 (PE.getD cc.1 p2).2 (a.getD k 0)), s.set cc.1 (nI k)) := by simp only [cmL, c, hf, if_true]
        rw [e0]
        obtain ⟨J', e1, e2, e3, e4⟩ := ih (i + 1) n (up1 (up1 J row (upd (J row) k (made (PE.getD cc.1 p2).1 (PE.getD cc.1 p2).2 (a.getD k 0)))) rt (upd (J rt) cc.1 (nI k))) (a.set k (made (PE.getD cc.1 p2).1 (PE.getD cc.1 p2).2 (a.getD k 0))) (s.set cc.1 (nI k)) (by omega) (by omega) (d.of (fun p h1 h2 => by rw [up1_n _ _ (by omega), up1_n _ _ (by omega)])) (by rw [up1_n _ _ hne, up1_s]; exact ha.set _ _ (by omega)) (by simp [hl]) (by rw [up1_s]; exact hs.set _ _ (by omega)) (by simp [hls])
        refine ⟨J', ?_, e2, e3, fun p h1 h2 => by rw [e4 p h1 h2, up1_n _ _ h2, up1_n _ _ h1]⟩
        rw [mask_set s hls cc.1 (by omega) (nI k) (n4 (by omega)) c] at e1
        have hak := ha k (by omega)
        simp (disch := omega) only [fX4_letCome_11, Ho_g hh, Ho_8 hh, Ho_r8 hh, Ho_10 hh, Ho_r10 hh, Ho_o hh, hrd2, hrd, hw, hw2, Option.bind_some, d.2.1.2.2, nle, hk.1, hk.2.2, hsi, c, hft, Option.elim, if_true, n4, if_false, hak, S_setBy hh d ok hp, nI_i1, up1_n _ _ (Ne.symm hne), e1]
        rw [if_neg (by omega)]
    · have e0 : cmL FR PE (a, s) cc = (a, s) := by simp only [cmL, c, if_false]
      rw [e0]
      obtain ⟨J', e1, e2, e3, e4⟩ := ih (i + 1) n J a s (by omega) (by omega) d ha hl hs hls
      refine ⟨J', ?_, e2, e3, e4⟩
      simp (disch := omega) only [fX4_letCome_11, Ho_g hh, Ho_8 hh, Ho_r8 hh, hrd2, Option.bind_some, d.2.1.2.2, nle, hk.1, hsi, c, if_true, if_false, nI_i1, e1]
      rw [if_neg (by omega)]
theorem S_letCome (hh : isHo R S N h) (hr : isA S N row 7) (hq : isA S N rt 5) (ho : row < h ∨ h + 13 < row) (ho2 : rt < h ∨ h + 13 < rt) (hne : row ≠ rt) (ok : okP PE) (okc : okC PE SC) {J : Nat → Nat → Int32} {a : List Int32} (d : HAt J h FR PE SC TL) (ha : arr (J row) a) (hl : a.length = FR.length) :
    ∃ J', fX4_letCome h row rt (J, R, S, N) = some (mask (mnL FR PE SC a).2, (J', R, S, N)) ∧ arr (J' row) (mnL FR PE SC a).1 ∧ arr (J' rt) (mnL FR PE SC a).2 ∧ ∀ p, p ≠ row → p ≠ rt → J' p = J p := by
  have d1 := d.1
  obtain ⟨J', e1, e2, e3, e4⟩ := S_lcL hh hr hq ho ho2 hne ok okc (fun v w => some (v, w)) SC.length 0 FV (up1 J rt (fun k => if k < 5 then -4 else J rt k)) a none5 (by omega) (FV_lt (by omega)) (d.of (fun p h1 h2 => up1_n _ _ (by omega))) (by rw [up1_n _ _ hne]; exact ha) hl (by
    rw [up1_s]
    intro k hk
    have hk5 : k < 5 := hk
    simp only [if_pos hk5]
    rcases (show k = 0 ∨ k = 1 ∨ k = 2 ∨ k = 3 ∨ k = 4 by omega) with rfl | rfl | rfl | rfl | rfl <;> rfl) rfl
  refine ⟨J', ?_, e2, e3, fun p h1 h2 => by rw [e4 p h1 h2, up1_n _ _ h2]⟩
  rw [fX4_letCome, S_fill hq (by omega)]
  simp only [Option.bind_some, z0]
  exact e1
end SIM2
