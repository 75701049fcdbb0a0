/-! hang -/
theorem foldPerm {α β : Type} (f : β → α → β) (hf : ∀ b x y, f (f b x) y = f (f b y) x) {l l' : List α} (p : l.Perm l') : ∀ b, l.foldl f b = l'.foldl f b := by
  induction p with
  | nil => intro b; rfl
  | cons x _ ih => intro b; exact ih (f b x)
  | swap x y l => intro b; show l.foldl f (f (f b y) x) = l.foldl f (f (f b x) y); rw [hf]
  | trans _ _ ih1 ih2 => intro b; rw [ih1 b, ih2 b]
/-- what every house that was told keeps besides -/
def okX (FR : List F4) (CO SC : List C3) : Prop := (∀ k, k < FR.length → ∃ j, j < 41 ∧ (FR.getD k f4).2.1 = nI j - 20) ∧ SC.Perm CO
def abN (v : Int32) : Nat := (iabs v).toNatClampNeg
theorem abN0 : ∀ j, j < 41 → iabs (nI j - 20) = nI (abN (nI j - 20)) ∧ abN (nI j - 20) ≤ 20 := by decide +kernel
def limN (PE : List P2) (i : Nat) : Nat := (limO (PE.getD i p2).1 (PE.getD i p2).2).toNatClampNeg
theorem limN0 : ∀ k, k < 4 → ∀ j, j < 21 → limO (nI k) (nI j) = nI (limO (nI k) (nI j)).toNatClampNeg ∧ (limO (nI k) (nI j)).toNatClampNeg ≤ 40 := by decide +kernel
theorem limN_e {PE : List P2} (ok : okP PE) {i : Nat} (hi : i < PE.length) : limO (PE.getD i p2).1 (PE.getD i p2).2 = nI (limN PE i) ∧ limN PE i ≤ 40 := by
  obtain ⟨⟨k, h1, e1⟩, ⟨j, h2, e2⟩⟩ := ok i hi
  unfold limN
  rw [e1, e2]
  exact limN0 k h1 j h2
def bnF (PE : List P2) (room : Int32) (m : Nat) (c : C3) : Nat := if c.2.2 = room then min m (limN PE c.1) else m
theorem bnF_c (PE : List P2) (room : Int32) (m : Nat) (x y : C3) : bnF PE room (bnF PE room m x) y = bnF PE room (bnF PE room m y) x := by
  unfold bnF
  split <;> split <;> omega
/-- by how much a frame of that distance hangs too far -/
theorem bn_far {PE : List P2} {room : Int32} {a : Nat} (ha : a ≤ 40) : ∀ (l : List C3), (∀ c, c < l.length → limN PE (l.getD c c3).1 ≤ 40) → a - l.foldl (bnF PE room) 100 = a - l.foldl (bnF PE room) 40 := by
  intro l hl
  have key : ∀ (l : List C3), (∀ c, c < l.length → limN PE (l.getD c c3).1 ≤ 40) → l.foldl (bnF PE room) 100 = l.foldl (bnF PE room) 40 ∨ (l.foldl (bnF PE room) 100 = 100 ∧ l.foldl (bnF PE room) 40 = 40) := by
    intro l
    induction l with
    | nil => intro _; exact Or.inr ⟨rfl, rfl⟩
    | cons c l ih =>
      intro h
      have h0 := h 0 (by simp)
      rw [List.foldl_cons, List.foldl_cons]
      by_cases e : c.2.2 = room
      · left
        have h0' : limN PE c.1 ≤ 40 := h0
        unfold bnF
        rw [if_pos e, if_pos e, Nat.min_eq_right (by omega), Nat.min_eq_right h0']
      · have e1 : ∀ m, bnF PE room m c = m := fun m => if_neg e
        rw [e1, e1]
        exact ih (fun i hi => h (i + 1) (by simp; omega))
  rcases key l hl with h | ⟨h1, h2⟩
  · rw [h]
  · omega
theorem bn_le (PE : List P2) (room : Int32) : ∀ (l : List C3) (m : Nat), l.foldl (bnF PE room) m ≤ m := by
  intro l
  induction l with
  | nil => intro m; exact Nat.le_refl _
  | cons c l ih =>
    intro m
    rw [List.foldl_cons]
    refine Nat.le_trans (ih _) ?_
    unfold bnF
    split <;> omega
def farN (FR : List F4) (PE : List P2) (SC : List C3) (k : Nat) : Nat := abN (FR.getD k f4).2.1 - SC.foldl (bnF PE (FR.getD k f4).1) 40
def smN (g : Nat → Nat) : Nat → Nat
  | 0 => 0
  | k + 1 => smN g k + g k
def aHang (FR : List F4) (PE : List P2) (SC : List C3) (v : Int32) : Int32 := match ix v 2 with
  | some w => nI (smN (fun k => if farN FR PE SC k = 0 then 0 else if w = 0 then farN FR PE SC k else 1) FR.length)
  | none => -1
theorem imin_n {a b : Nat} (ha : a < 2 ^ 31) (hb : b < 2 ^ 31) : imin (nI a) (nI b) = nI (min a b) := by
  unfold imin
  simp only [nlt hb ha]
  split
  · rw [Nat.min_eq_right (by omega)]
  · rw [Nat.min_eq_left (by omega)]
theorem sub_le0 {a b : Nat} (ha : a < 2 ^ 30) (hb : b < 2 ^ 30) : (nI a - nI b ≤ 0) = (a - b = 0) := by
  rw [leT, pk_sub_toInt (by omega) (by omega), i0]
  exact propext ⟨fun h => by omega, fun h => by omega⟩
section HANG
variable {R : Nat → Nat → Option Nat} {S : Nat → Nat × Nat} {N T G U V Kp Y L X W C h h2 q : Nat} {I : Nat → Nat → Int32} {tx : List Int32} {FR : List F4} {PE : List P2} {CO SC : List C3} {TL TT : List T3} {UL KL : List (List T3)} {SN : List P2}
theorem C_fbL (hh : isHo R S N h) (d : HAt I h FR PE SC TT) (ok : okP PE) (okc : okC PE SC) (room : Int32) (K : Int32 → Wd → Option (Int32 × Wd)) : ∀ (m c n b : Nat), c + m = SC.length → m < n → b ≤ 40 → fX4_farthestBorneIn_5 h room K n (nI b) (nI c) (I, R, S, N) = K (nI ((SC.drop c).foldl (bnF PE room) b)) (I, R, S, N) := by
  have d1 := d.1
  intro m
  induction m with
  | zero =>
    intro c n b hc hn hb
    obtain ⟨n, rfl⟩ : ∃ n', n = n' + 1 := ⟨n - 1, by omega⟩
    simp (disch := omega) only [fX4_farthestBorneIn_5, Ho_g hh, bS, d.2.1.2.2, nle]
    rw [if_pos (by omega), List.drop_eq_nil_of_le (by omega)]
    rfl
  | succ m ih =>
    intro c n b hc hn hb
    obtain ⟨n, rfl⟩ : ∃ n', n = n' + 1 := ⟨n - 1, by omega⟩
    have hk := d.2.2.2.2.1 c (by omega)
    have hp := okc c (by omega)
    rw [dropc c3 (show c < SC.length by omega), List.foldl_cons]
    generalize SC.getD c c3 = cc at hk hp ⊢
    have hpp := d.2.2.2.1 cc.1 hp
    have hl := limN_e ok hp
    by_cases e : cc.2.2 = room
    · simp (disch := omega) only [fX4_farthestBorneIn_5, Ho_g hh, Ho_10 hh, Ho_r10 hh, Ho_8 hh, Ho_r8 hh, Ho_5 hh, Ho_r5 hh, Ho_6 hh, Ho_r6 hh, bS, d.2.1.2.2, nle, hk.1, hk.2.2, e, if_true, hpp.1, hpp.2, S_fb, nI_i1, hl.1, imin_n]
      rw [if_neg (by omega), ih (c + 1) n _ (by omega) (by omega) (by omega), show bnF PE room b cc = min b (limN PE cc.1) from if_pos e]
    · simp (disch := omega) only [fX4_farthestBorneIn_5, Ho_g hh, Ho_10 hh, Ho_r10 hh, bS, d.2.1.2.2, nle, hk.2.2, e, if_false, nI_i1]
      rw [if_neg (by omega), ih (c + 1) n _ (by omega) (by omega) hb, show bnF PE room b cc = b from if_neg e]
theorem C_fb (hh : isHo R S N h) (d : HAt I h FR PE SC TT) (ok : okP PE) (okc : okC PE SC) (room : Int32) : fX4_farthestBorneIn h room (I, R, S, N) = some (nI (SC.foldl (bnF PE room) 40), (I, R, S, N)) := by
  have d1 := d.1
  have e := C_fbL hh d ok okc room (fun v w => some (v, w)) SC.length 0 FV 40 (by omega) (FV_lt (by omega)) (by omega)
  rw [fX4_farthestBorneIn, z40, z0]
  exact e
theorem C_hgL (cf : CF R S N T G U V Kp Y L X W C h h2) (d : HAt I h FR PE SC TT) (ok : okS FR PE SC TL UL KL) (okx : okX FR CO SC) {w : Nat} (hw : w < 2) (K : Int32 → Wd → Option (Int32 × Wd)) : ∀ (m k n : Nat), k + m = FR.length → m < n → fX11_hang_14 0 (nI w) K n (nI (smN (fun k => if farN FR PE SC k = 0 then 0 else if w = 0 then farN FR PE SC k else 1) k)) (nI k) (I, R, S, N) = K (nI (smN (fun k => if farN FR PE SC k = 0 then 0 else if w = 0 then farN FR PE SC k else 1) FR.length)) (I, R, S, N) := by
  obtain ⟨pl, cf1, hT, hG, hU, hV, hK, hY, hL, hX, hW, hC, hH, hH2⟩ := cf
  have d1 := d.1
  intro m
  induction m with
  | zero =>
    intro k n hk hn
    obtain ⟨n, rfl⟩ : ∃ n', n = n' + 1 := ⟨n - 1, by omega⟩
    simp (disch := omega) only [fX11_hang_14, f_10 cf1, Ho_g hH, bS, d.2.1.1, nle]
    rw [if_pos (by omega), show k = FR.length by omega]
  | succ m ih =>
    intro k n hk hn
    obtain ⟨n, rfl⟩ : ∃ n', n = n' + 1 := ⟨n - 1, by omega⟩
    have hd := d.2.2.1 k (by omega)
    obtain ⟨j, hj, ej⟩ := okx.1 k (by omega)
    have ha := abN0 j hj
    rw [← ej] at ha
    have hb := bn_le PE (FR.getD k f4).1 SC 40
    have hw0 : nI w = 0 ↔ w = 0 := by rw [z0]; exact nI_eq (by omega) (by omega)
    have ih' := ih (k + 1) n (by omega) (by omega)
    simp (disch := omega) only [fX11_hang_14, f_10 cf1, Ho_g hH, Ho_0 hH, Ho_r0 hH, Ho_1 hH, Ho_r1 hH, Ho_o hH, bS, d.2.1.1, nle, hd.1, hd.2.1, C_fb hH d ok.2.1 ok.2.2.1, ha.1, sub_le0, nI_i1]
    rw [if_neg (by omega)]
    have e1 : smN (fun k => if farN FR PE SC k = 0 then 0 else if w = 0 then farN FR PE SC k else 1) (k + 1) = smN (fun k => if farN FR PE SC k = 0 then 0 else if w = 0 then farN FR PE SC k else 1) k + (if farN FR PE SC k = 0 then 0 else if w = 0 then farN FR PE SC k else 1) := rfl
    rw [e1] at ih'
    have ef : abN (FR.getD k f4).2.1 - SC.foldl (bnF PE (FR.getD k f4).1) 40 = farN FR PE SC k := rfl
    by_cases c1 : farN FR PE SC k = 0
    · rw [ef, if_pos c1]
      rw [if_pos c1, Nat.add_zero] at ih'
      exact ih'
    · rw [ef, if_neg c1]
      rw [if_neg c1] at ih'
      by_cases c2 : w = 0
      · rw [if_pos (hw0.mpr c2), pk_sub (by omega), ef, nI_add]
        rw [if_pos c2] at ih'
        exact ih'
      · rw [if_neg (fun y => c2 (hw0.mp y))]
        rw [if_neg c2] at ih'
        exact ih'
theorem C_hang (cf : CF R S N T G U V Kp Y L X W C h h2) (cd : CD I R T U V Kp Y X h tx FR PE SC TL UL KL SN) (ok : okS FR PE SC TL UL KL) (okx : okX FR CO SC) (v : Int32) : fX11_hang 0 v (I, R, S, N) = some (aHang FR PE SC v, (I, R, S, N)) := by
  obtain ⟨TT, d⟩ := cd.2.2.2.2.1
  have okl := ok.1
  unfold aHang fX11_hang
  rw [show (2 : Int32) = nI 2 from z2]
  rcases ixc v (n := 2) (by omega) with b1 | ⟨w, b1, rfl⟩
  · rw [ix_n b1, C_out1 b1]
    simp only [bS]
    rw [if_neg (by decide)]
  · rw [ix_s b1 (by omega), C_out0 b1 (by omega)]
    simp only [bS, if_true]
    exact (congrArg (fun y => fX11_hang_14 0 (nI w) (fun v w => some (v, w)) FV y y (I, R, S, N)) z0).trans (C_hgL cf d ok okx b1 _ FR.length 0 FV (by omega) (FV_lt (by omega)))
theorem M_bnL (hm : isMo R S N q) (d : MH I q FR PE CO SC TL) (ok : okP PE) (okc : okC PE CO) (room : Int32) (K : Int32 → Wd → Option (Int32 × Wd)) : ∀ (m c n b : Nat), c + m = CO.length → m < n → b ≤ 100 → fX12_borne_5 q room K n (nI b) (nI c) (I, R, S, N) = K (nI ((CO.drop c).foldl (bnF PE room) b)) (I, R, S, N) := by
  have d1 := d.1
  intro m
  induction m with
  | zero =>
    intro c n b hc hn hb
    obtain ⟨n, rfl⟩ : ∃ n', n = n' + 1 := ⟨n - 1, by omega⟩
    simp (disch := omega) only [fX12_borne_5, Mo_g hm, bS, d.2.1.2.2.1, nle]
    rw [if_pos (by omega), List.drop_eq_nil_of_le (by omega)]
    rfl
  | succ m ih =>
    intro c n b hc hn hb
    obtain ⟨n, rfl⟩ : ∃ n', n = n' + 1 := ⟨n - 1, by omega⟩
    have hk := d.2.2.2.2.1 c (by omega)
    have hp := okc c (by omega)
    rw [dropc c3 (show c < CO.length by omega), List.foldl_cons]
    generalize CO.getD c c3 = cc at hk hp ⊢
    have hpp := d.2.2.2.1 cc.1 hp
    have hl := limN_e ok hp
    have hb2 : bnF PE room b cc ≤ 100 := by unfold bnF; split <;> omega
    have i1 := ih (c + 1) n b (by omega) (by omega) hb
    have i2 := ih (c + 1) n (limN PE cc.1) (by omega) (by omega) (by omega)
    have hlo : limO (PE.getD cc.1 p2).1 (PE.getD cc.1 p2).2 = if (PE.getD cc.1 p2).1 = 3 then 2 * (PE.getD cc.1 p2).2 else (PE.getD cc.1 p2).2 := rfl
    simp (disch := omega) only [fX12_borne_5, Mo_g hm, Mo_5 hm, ix3, ix2, nI_i1, nI_i2, Mo_r5 hm, Mo_3 hm, Mo_r3 hm, bS, d.2.1.2.2.1, nle, hk.1, hk.2.2, hpp.1, hpp.2]
    rw [if_neg (by omega)]
    have fin : (if cc.2.2 = room then (if nI b ≤ nI (limN PE cc.1) then fX12_borne_5 q room K n (nI b) (nI (c + 1)) (I, R, S, N) else fX12_borne_5 q room K n (nI (limN PE cc.1)) (nI (c + 1)) (I, R, S, N)) else fX12_borne_5 q room K n (nI b) (nI (c + 1)) (I, R, S, N)) = K (nI ((CO.drop (c + 1)).foldl (bnF PE room) (bnF PE room b cc))) (I, R, S, N) := by
      by_cases e : cc.2.2 = room
      · rw [if_pos e, show bnF PE room b cc = min b (limN PE cc.1) from if_pos e]
        simp (disch := omega) only [nle]
        split
        · rw [i1, Nat.min_eq_left (by omega)]
        · rw [i2, Nat.min_eq_right (by omega)]
      · rw [if_neg e, i1, show bnF PE room b cc = b from if_neg e]
    rw [← hl.1, hlo] at fin
    by_cases c3 : (PE.getD cc.1 p2).1 = 3
    · rw [if_pos c3]
      rw [if_pos c3] at fin
      exact fin
    · rw [if_neg c3]
      rw [if_neg c3] at fin
      exact fin
theorem M_bn (hm : isMo R S N q) (d : MH I q FR PE CO SC TL) (ok : okP PE) (okc : okC PE CO) (room : Int32) : fX12_borne q room (I, R, S, N) = some (nI (CO.foldl (bnF PE room) 100), (I, R, S, N)) := by
  have d1 := d.1
  have e := M_bnL hm d ok okc room (fun v w => some (v, w)) CO.length 0 FV 100 (by omega) (FV_lt (by omega)) (by omega)
  rw [fX12_borne, show (100 : Int32) = nI 100 by decide, z0]
  exact e
theorem okC_p (okc : okC PE SC) (p : SC.Perm CO) : okC PE CO := by
  intro c hc
  have h1 : CO.getD c c3 ∈ CO := by rw [gD hc]; exact List.getElem_mem hc
  have h2 := p.mem_iff.mpr h1
  obtain ⟨i, hi, e⟩ := List.getElem_of_mem h2
  have := okc i hi
  rw [gD hi, e] at this
  exact this
theorem M_hgL (hm : isMo R S N q) (d : MH I q FR PE CO SC TL) (ok : okS FR PE SC TL UL KL) (okx : okX FR CO SC) (v : Int32) (K : Int32 → Int32 → Wd → Option (Int32 × Wd)) : ∀ (m k n : Nat), k + m = FR.length → m < n → fX12_hang_18 q v K n (nI (smN (farN FR PE SC) k)) (nI (smN (fun k => if farN FR PE SC k = 0 then 0 else 1) k)) (nI k) (I, R, S, N) = K (nI (smN (farN FR PE SC) FR.length)) (nI (smN (fun k => if farN FR PE SC k = 0 then 0 else 1) FR.length)) (I, R, S, N) := by
  have d1 := d.1
  have okc2 := okC_p ok.2.2.1 okx.2
  intro m
  induction m with
  | zero =>
    intro k n hk hn
    obtain ⟨n, rfl⟩ : ∃ n', n = n' + 1 := ⟨n - 1, by omega⟩
    simp (disch := omega) only [fX12_hang_18, Mo_g hm, bS, d.2.1.1, nle]
    rw [if_pos (by omega), show k = FR.length by omega]
  | succ m ih =>
    intro k n hk hn
    obtain ⟨n, rfl⟩ : ∃ n', n = n' + 1 := ⟨n - 1, by omega⟩
    have hd := d.2.2.1 k (by omega)
    obtain ⟨j, hj, ej⟩ := okx.1 k (by omega)
    have ha := abN0 j hj
    rw [← ej] at ha
    have hb := bn_le PE (FR.getD k f4).1 CO 100
    have hfar : abN (FR.getD k f4).2.1 - CO.foldl (bnF PE (FR.getD k f4).1) 100 = farN FR PE SC k := by
      rw [bn_far (by omega) CO (fun c hc => (limN_e ok.2.1 (okc2 c hc)).2), ← foldPerm _ (bnF_c PE _) okx.2]
      rfl
    have ih' := ih (k + 1) n (by omega) (by omega)
    simp (disch := omega) only [fX12_hang_18, Mo_g hm, Mo_1 hm, ix4, nI_i1, Mo_r1 hm, Mo_o hm, M_size, bS, d.2.1.1, nle, hd.1, hd.2.1, M_bn hm d ok.2.1 okc2, ha.1, sub_le0]
    rw [if_neg (by omega), hfar]
    have e1 : smN (fun k => if farN FR PE SC k = 0 then 0 else 1) (k + 1) = smN (fun k => if farN FR PE SC k = 0 then 0 else 1) k + (if farN FR PE SC k = 0 then 0 else 1) := rfl
    have e2 : smN (farN FR PE SC) (k + 1) = smN (farN FR PE SC) k + farN FR PE SC k := rfl
    rw [e1, e2] at ih'
    by_cases c1 : farN FR PE SC k = 0
    · rw [if_pos c1, if_pos c1, Int32.add_zero, Int32.add_zero]
      rw [if_pos c1, c1, Nat.add_zero, Nat.add_zero] at ih'
      exact ih'
    · rw [if_neg c1, if_neg c1, pk_sub (by omega), hfar, nI_add]
      rw [if_neg c1] at ih'
      exact ih'
theorem sm_congr {g g2 : Nat → Nat} (e : ∀ k, g k = g2 k) (n : Nat) : smN g n = smN g2 n := by rw [show g = g2 from funext e]
theorem MM_hang (hm : isMo R S N q) (d : MD I q tx FR PE CO SC TL UL KL SN) (ok : okS FR PE SC TL UL KL) (okx : okX FR CO SC) (v : Int32) : fX12_hang q v (I, R, S, N) = some (aHang FR PE SC v, (I, R, S, N)) := by
  have d1 := d.1
  have okl := ok.1
  unfold aHang fX12_hang
  simp only [M_inK (show 1 + 1 < 2 ^ 30 by decide) z1, bS]
  rcases ixc v (n := 2) (by omega) with b1 | ⟨w, b1, rfl⟩
  · rw [ix_n b1]
    rfl
  · rw [ix_s b1 (by omega)]
    simp only [Option.isSome_some, if_true, i10, if_false]
    have e := (congrArg (fun y => fX12_hang_18 q (nI w) (fun (v2_16 : Int32) (v3_17 : Int32) (w_15 : Wd) => if nI w = 0 then some (v2_16, w_15) else some (v3_17, w_15)) FV y y y (I, R, S, N)) z0).trans (M_hgL hm d1 ok okx (nI w) _ FR.length 0 FV (by omega) (FV_lt (by omega)))
    refine e.trans ?_
    have hw0 : nI w = 0 ↔ w = 0 := by rw [z0]; exact nI_eq (by omega) (by omega)
    by_cases c : w = 0
    · rw [if_pos (hw0.mpr c), sm_congr (g := fun k => if farN FR PE SC k = 0 then 0 else if w = 0 then farN FR PE SC k else 1) (g2 := farN FR PE SC) (fun k => by split <;> simp_all)]
    · rw [if_neg (fun y => c (hw0.mp y)), sm_congr (g := fun k => if farN FR PE SC k = 0 then 0 else if w = 0 then farN FR PE SC k else 1) (g2 := fun k => if farN FR PE SC k = 0 then 0 else 1) (fun k => by rw [if_neg c])]
end HANG
