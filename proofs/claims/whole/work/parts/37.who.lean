section WHO
variable {R : Nat → Nat → Option Nat} {S : Nat → Nat × Nat} {N T G U V Kp Y L X W C h h2 q : Nat} {I : Nat → Nat → Int32} {tx : List Int32} {FR : List F4} {PE : List P2} {CO SC : List C3} {TL TT : List T3} {UL KL : List (List T3)} {SN : List P2}
def mdP (PE : List P2) (i : Nat) (v : Int32) : Int32 := made (PE.getD i p2).1 (PE.getD i p2).2 v
def whF (PE : List P2) (a b : Int32) : Int32 → Nat → Nat → Int32
  | v, _, 0 => v
  | v, i, m + 1 => whF PE a b (if mdP PE i (a - 20) = b - 20 then v ||| ((1 : Int32) <<< (nI i &&& 31)) else v) (i + 1) m
def aWho (PE : List P2) (a b : Int32) : Int32 := match ix a 41, ix b 41 with
  | some _, some _ => if a = b then -1 else whF PE a b 0 0 PE.length
  | _, _ => -1
theorem C_whL (cf : CF R S N T G U V Kp Y L X W C h h2) (c5 : HAt I h FR PE SC TT) (ok : okP PE) (a b : Int32) (K : Int32 → Wd → Option (Int32 × Wd)) : ∀ (m i n : Nat) (v : Int32), i + m = PE.length → m < n → fX11_who_30 0 a b K n v (nI i) (I, R, S, N) = K (whF PE a b v i m) (I, R, S, N) := by
  obtain ⟨pl, cf1, hT, hG, hU, hV, hK, hY, hL, hX, hW, hC, hH, hH2⟩ := cf
  have d0 := c5.1
  intro m
  induction m with
  | zero =>
    intro i n v hi hn
    obtain ⟨n, rfl⟩ : ∃ n', n = n' + 1 := ⟨n - 1, by omega⟩
    simp (disch := omega) only [fX11_who_30, f_10 cf1, Ho_g hH, Option.bind_some, c5.2.1.2.1, nle, whF]
    rw [if_pos (by omega)]
  | succ m ih =>
    intro i n v hi hn
    obtain ⟨n, rfl⟩ : ∃ n', n = n' + 1 := ⟨n - 1, by omega⟩
    have hs : fX4_setBy h (nI i) (a - 20) (I, R, S, N) = some (mdP PE i (a - 20), (I, R, S, N)) := S_setBy hH c5 ok (by omega) _
    simp (disch := omega) only [fX11_who_30, f_10 cf1, Ho_g hH, Ho_o hH, Option.bind_some, c5.2.1.2.1, nle, hs, nI_i1, ih (i + 1) n _ (by omega) (by omega), whF]
    rw [if_neg (by omega)]
    split <;> rfl
theorem C_who (cf : CF R S N T G U V Kp Y L X W C h h2) (cd : CD I R T U V Kp Y X h tx FR PE SC TL UL KL SN) (ok : okS FR PE SC TL UL KL) (a b : Int32) : fX11_who 0 a b (I, R, S, N) = some (aWho PE a b, (I, R, S, N)) := by
  obtain ⟨TT, c5⟩ := cd.2.2.2.2.1
  have d0 := c5.1
  unfold aWho fX11_who
  simp only [z41]
  rcases ixc a (n := 41) (by omega) with b1 | ⟨k, b1, rfl⟩
  · rw [ix_n b1, C_out1 b1]
    simp only [Option.bind_some]
    rw [if_neg (by decide)]
  · rw [ix_s b1 (by omega), C_out0 b1 (by omega)]
    simp only [Option.bind_some, if_true]
    rcases ixc b (n := 41) (by omega) with b2 | ⟨j, b2, rfl⟩
    · rw [ix_n b2, C_out1 b2]
      simp only [Option.bind_some]
      rw [if_neg (by decide)]
    · rw [ix_s b2 (by omega), C_out0 b2 (by omega)]
      simp only [Option.bind_some, if_true]
      by_cases c : nI k = nI j
      · rw [if_pos c, if_pos c]
      · rw [if_neg c, if_neg c]
        rw [show (0 : Int32) = nI 0 from z0, C_whL cf c5 ok.2.1 _ _ _ PE.length 0 FV (nI 0) (by omega) (FV_lt (by omega))]
theorem M_whL (hm : isMo R S N q) (d : MH I q FR PE CO SC TL) (a b : Int32) (K : Int32 → Wd → Option (Int32 × Wd)) : ∀ (m i n : Nat) (v : Int32), i + m = PE.length → m < n → fX12_who_32 q a b K n v (nI i) (I, R, S, N) = K (whF PE a b v i m) (I, R, S, N) := by
  have d0 := d.1
  intro m
  induction m with
  | zero =>
    intro i n v hi hn
    obtain ⟨n, rfl⟩ : ∃ n', n = n' + 1 := ⟨n - 1, by omega⟩
    simp (disch := omega) only [fX12_who_32, Mo_g hm, Option.bind_some, d.2.1.2.1, nle, whF]
    rw [if_pos (by omega)]
  | succ m ih =>
    intro i n v hi hn
    obtain ⟨n, rfl⟩ : ∃ n', n = n' + 1 := ⟨n - 1, by omega⟩
    have hs : fX12_madeBy q (nI i) (a - 20) (I, R, S, N) = some (mdP PE i (a - 20), (I, R, S, N)) := M_madeBy hm d (by omega) _
    simp (disch := omega) only [fX12_who_32, Mo_g hm, Mo_o hm, Option.bind_some, d.2.1.2.1, nle, hs, nI_i1, Int32.or_zero, ih (i + 1) n _ (by omega) (by omega), whF]
    rw [if_neg (by omega)]
    split <;> rfl
theorem MM_who (hm : isMo R S N q) (d : MD I q tx FR PE CO SC TL UL KL SN) (a b : Int32) : fX12_who q a b (I, R, S, N) = some (aWho PE a b, (I, R, S, N)) := by
  have d1 := d.1
  have d0 := d1.1
  unfold aWho fX12_who
  simp only [M_inK (show 40 + 1 < 2 ^ 30 by decide) z40, Option.bind_some]
  rcases ixc a (n := 41) (by omega) with b1 | ⟨k, b1, rfl⟩
  · rw [ix_n b1]
    rfl
  · rw [ix_s b1 (by omega)]
    simp only [Option.isSome_some, if_true, i10, if_false]
    rcases ixc b (n := 41) (by omega) with b2 | ⟨j, b2, rfl⟩
    · rw [ix_n b2]
      rfl
    · rw [ix_s b2 (by omega)]
      simp only [Option.isSome_some, if_true, i10, if_false]
      by_cases c : nI k = nI j
      · rw [if_pos c, if_pos c]
      · rw [if_neg c, if_neg c]
        rw [show (0 : Int32) = nI 0 from z0, M_whL hm d1 _ _ _ PE.length 0 FV (nI 0) (by omega) (FV_lt (by omega))]
/-! where two end -/
def fxP (PE : List P2) (i j : Nat) (v : Int32) : Prop := mdP PE i v = v ∧ mdP PE j v = v
def edR (PE : List P2) (i j : Nat) : Nat → Nat → Int32 → Option (Int32 × Nat)
  | 0, _, _ => none
  | f + 1, n, v => if mdP PE i v = v then (if mdP PE j v = v then some (v, n) else edR PE i j f (n + 1) (if n % 2 = 0 then mdP PE i v else mdP PE j v)) else edR PE i j f (n + 1) (if n % 2 = 0 then mdP PE i v else mdP PE j v)
theorem edR_mono (PE : List P2) (i j : Nat) : ∀ (f f' n : Nat) (v : Int32) (x : Int32 × Nat), f ≤ f' → edR PE i j f n v = some x → edR PE i j f' n v = some x := by
  intro f
  induction f with
  | zero => intro f' n v x _ hh; cases hh
  | succ f ih =>
    intro f' n v x hle hh
    obtain ⟨f', rfl⟩ : ∃ g, f' = g + 1 := ⟨f' - 1, by omega⟩
    rw [edR] at hh ⊢
    by_cases c1 : mdP PE i v = v
    · rw [if_pos c1] at hh ⊢
      by_cases c2 : mdP PE j v = v
      · rw [if_pos c2] at hh ⊢; exact hh
      · rw [if_neg c2] at hh ⊢; exact ih f' _ _ _ (by omega) hh
    · rw [if_neg c1] at hh ⊢; exact ih f' _ _ _ (by omega) hh
/-- how far an angle is from level -/
def far (v : Int32) : Nat := (iabs v).toNatClampNeg
theorem far_dec0 : ∀ kd, kd < 4 → ∀ b, b < 21 → ∀ k, k < 81 → (made (nI kd) (nI b) (nI k - 40) = nI k - 40 ∨ far (made (nI kd) (nI b) (nI k - 40)) < far (nI k - 40)) := by decide +kernel
theorem far_dec {kd b v : Int32} (hk : okK kd) (hb : okB b) (hv : okA v) : made kd b v = v ∨ far (made kd b v) < far v := by
  obtain ⟨k, h1, rfl⟩ := hk
  obtain ⟨j, h2, rfl⟩ := hb
  obtain ⟨i, h3, rfl⟩ := hv
  exact far_dec0 k h1 j h2 i h3
theorem far_20 : ∀ k, k < 41 → far (nI k - 20) ≤ 20 ∧ ∃ j, j < 81 ∧ nI k - 20 = nI j - 40 := by
  intro k hk
  refine ⟨?_, k + 20, by omega, ?_⟩
  · revert k
    decide +kernel
  · rw [← nI_add k 20, show nI 20 = (20 : Int32) from by decide, show (40 : Int32) = 20 + 20 from by decide, ← Int32.sub_sub, Int32.add_sub_cancel]
theorem edR_some {PE : List P2} {i j : Nat} (ok : okP PE) (hi : i < PE.length) (hj : j < PE.length) : ∀ (m n : Nat) (v : Int32), okA v → far v ≤ m → ∃ x, edR PE i j (2 * m + 2) n v = some x := by
  intro m
  induction m with
  | zero =>
    intro n v hv hf
    have a1 : mdP PE i v = v := (far_dec (ok i hi).1 (ok i hi).2 hv).resolve_right (by omega)
    have a2 : mdP PE j v = v := (far_dec (ok j hj).1 (ok j hj).2 hv).resolve_right (by omega)
    exact ⟨(v, n), by rw [edR, if_pos a1, if_pos a2]⟩
  | succ m ih =>
    intro n v hv hf
    by_cases c1 : mdP PE i v = v
    · by_cases c2 : mdP PE j v = v
      · exact ⟨(v, n), by rw [edR, if_pos c1, if_pos c2]⟩
      · have d2 := (far_dec (ok j hj).1 (ok j hj).2 hv).resolve_left c2
        have o2 := made_okA (ok j hj).1 (ok j hj).2 hv
        by_cases cn : n % 2 = 0
        · obtain ⟨x, hx⟩ := ih (n + 1 + 1) (mdP PE j v) o2 (by unfold mdP; omega)
          refine ⟨x, ?_⟩
          rw [show 2 * (m + 1) + 2 = (2 * m + 2) + 1 + 1 by omega, edR, if_pos c1, if_neg c2, if_pos cn, c1, edR, if_pos c1, if_neg c2, if_neg (by omega)]
          exact hx
        · obtain ⟨x, hx⟩ := ih (n + 1) (mdP PE j v) o2 (by unfold mdP; omega)
          refine ⟨x, ?_⟩
          rw [show 2 * (m + 1) + 2 = (2 * m + 2 + 1) + 1 by omega, edR, if_pos c1, if_neg c2, if_neg cn]
          exact edR_mono PE i j _ _ _ _ _ (by omega) hx
    · have d1 := (far_dec (ok i hi).1 (ok i hi).2 hv).resolve_left c1
      have o1 := made_okA (ok i hi).1 (ok i hi).2 hv
      by_cases cn : n % 2 = 0
      · obtain ⟨x, hx⟩ := ih (n + 1) (mdP PE i v) o1 (by unfold mdP; omega)
        refine ⟨x, ?_⟩
        rw [show 2 * (m + 1) + 2 = (2 * m + 2 + 1) + 1 by omega, edR, if_neg c1, if_pos cn]
        exact edR_mono PE i j _ _ _ _ _ (by omega) hx
      · by_cases c2 : mdP PE j v = v
        · obtain ⟨x, hx⟩ := ih (n + 1 + 1) (mdP PE i v) o1 (by unfold mdP; omega)
          refine ⟨x, ?_⟩
          rw [show 2 * (m + 1) + 2 = (2 * m + 2) + 1 + 1 by omega, edR, if_neg c1, if_neg cn, c2, edR, if_neg c1, if_pos (by omega)]
          exact hx
        · have d2 := (far_dec (ok j hj).1 (ok j hj).2 hv).resolve_left c2
          have o2 := made_okA (ok j hj).1 (ok j hj).2 hv
          obtain ⟨x, hx⟩ := ih (n + 1) (mdP PE j v) o2 (by unfold mdP; omega)
          refine ⟨x, ?_⟩
          rw [show 2 * (m + 1) + 2 = (2 * m + 2 + 1) + 1 by omega, edR, if_neg c1, if_neg cn]
          exact edR_mono PE i j _ _ _ _ _ (by omega) hx
theorem rmI2 {n : Nat} (hn : n < 1000) : rmI (nI n) 2 = some (nI (n % 2)) := by
  rw [rmI, if_neg (by decide), z2, pk_rem (by omega) (by omega) (by omega)]
theorem C_edL (cf : CF R S N T G U V Kp Y L X W C h h2) (c5 : HAt I h FR PE SC TT) (ok : okP PE) {i j : Nat} (hi : i < PE.length) (hj : j < PE.length) (v4 : Int32) (K1 : Int32 → Int32 → Wd → Option (Int32 × Wd)) (K2 : Wd → Option (Int32 × Wd)) : ∀ (m n f : Nat) (v : Int32), n + m = 81 → m < f → fX11_ends_57 0 (nI i) (nI j) v4 K1 K2 f v (nI n) (I, R, S, N) = (edR PE i j m n v).elim (K2 (I, R, S, N)) (fun x => K1 x.1 (nI x.2) (I, R, S, N)) := by
  obtain ⟨pl, cf1, hT, hG, hU, hV, hK, hY, hL, hX, hW, hC, hH, hH2⟩ := cf
  have hsi : ∀ v, fX4_setBy h (nI i) v (I, R, S, N) = some (mdP PE i v, (I, R, S, N)) := fun v => S_setBy hH c5 ok hi v
  have hsj : ∀ v, fX4_setBy h (nI j) v (I, R, S, N) = some (mdP PE j v, (I, R, S, N)) := fun v => S_setBy hH c5 ok hj v
  have z80 : (80 : Int32) = nI 80 := by decide
  intro m
  induction m with
  | zero =>
    intro n f v hn hf
    obtain ⟨f, rfl⟩ : ∃ f', f = f' + 1 := ⟨f - 1, by omega⟩
    rw [fX11_ends_57, z80, if_pos (nI_lt (by omega) (by omega))]
    rfl
  | succ m ih =>
    intro n f v hn hf
    obtain ⟨f, rfl⟩ : ∃ f', f = f' + 1 := ⟨f - 1, by omega⟩
    rw [fX11_ends_57, edR, z80, if_neg (nI_nlt (by omega) (by omega))]
    simp only [f_10 cf1, Ho_o hH, hsi, hsj, Option.bind_some, rmI2 (show n < 1000 by omega), nI_i1, ih (n + 1) f _ (by omega) (by omega)]
    have hp : nI (n % 2) = 0 ↔ n % 2 = 0 := by rw [z0]; exact nI_eq (by omega) (by omega)
    by_cases cn : n % 2 = 0
    · simp only [cn, if_true, show nI 0 = (0 : Int32) from z0.symm]
      by_cases c1 : mdP PE i v = v
      · by_cases c2 : mdP PE j v = v
        · simp only [c1, c2, if_true, Option.elim]
        · simp only [c1, c2, if_true, if_false]
      · simp only [c1, if_false]
    · have cn1 : ¬ nI (n % 2) = 0 := fun z => cn (hp.mp z)
      simp only [cn, cn1, if_false]
      by_cases c1 : mdP PE i v = v
      · by_cases c2 : mdP PE j v = v
        · simp only [c1, c2, if_true, Option.elim]
        · simp only [c1, c2, if_true, if_false]
      · simp only [c1, if_false]
theorem M_edL (hm : isMo R S N q) (d : MH I q FR PE CO SC TL) {i j : Nat} (hi : i < PE.length) (hj : j < PE.length) (v4 : Int32) (K1 : Int32 → Int32 → Wd → Option (Int32 × Wd)) (K2 : Wd → Option (Int32 × Wd)) : ∀ (m n f : Nat) (v : Int32), n + m = 200 → m < f → fX12_ends_47 q (nI i) (nI j) v4 K1 K2 f v (nI n) (I, R, S, N) = (edR PE i j m n v).elim (K2 (I, R, S, N)) (fun x => K1 x.1 (nI x.2) (I, R, S, N)) := by
  have hsi : ∀ v, fX12_madeBy q (nI i) v (I, R, S, N) = some (mdP PE i v, (I, R, S, N)) := fun v => M_madeBy hm d hi v
  have hsj : ∀ v, fX12_madeBy q (nI j) v (I, R, S, N) = some (mdP PE j v, (I, R, S, N)) := fun v => M_madeBy hm d hj v
  intro m
  induction m with
  | zero =>
    intro n f v hn hf
    obtain ⟨f, rfl⟩ : ∃ f', f = f' + 1 := ⟨f - 1, by omega⟩
    rw [fX12_ends_47, z200, if_pos (nI_le (by omega) (by omega))]
    rfl
  | succ m ih =>
    intro n f v hn hf
    obtain ⟨f, rfl⟩ : ∃ f', f = f' + 1 := ⟨f - 1, by omega⟩
    rw [fX12_ends_47, edR, z200, if_neg (nI_ge (by omega) (by omega))]
    simp only [Mo_o hm, hsi, hsj, Option.bind_some, rmI2 (show n < 1000 by omega), nI_i1, ih (n + 1) f _ (by omega) (by omega)]
    have hp : nI (n % 2) = 0 ↔ n % 2 = 0 := by rw [z0]; exact nI_eq (by omega) (by omega)
    by_cases cn : n % 2 = 0
    · simp only [cn, if_true, show nI 0 = (0 : Int32) from z0.symm]
      by_cases c1 : mdP PE i v = v
      · by_cases c2 : mdP PE j v = v
        · simp only [c1, c2, if_true, Option.elim]
        · simp only [c1, c2, if_true, if_false]
      · simp only [c1, if_false]
    · have cn1 : ¬ nI (n % 2) = 0 := fun z => cn (hp.mp z)
      simp only [cn, cn1, if_false]
      by_cases c1 : mdP PE i v = v
      · by_cases c2 : mdP PE j v = v
        · simp only [c1, c2, if_true, Option.elim]
        · simp only [c1, c2, if_true, if_false]
      · simp only [c1, if_false]
def aEnds (PE : List P2) (v1 v2 v3 v4 : Int32) : Int32 := match ix v1 PE.length, ix v2 PE.length, ix v3 41, ix v4 2 with
  | some i, some j, some a, some w => (edR PE i j 81 0 (nI a - 20)).elim (-4) (fun x => if w = 0 then x.1 + 40 else nI x.2)
  | _, _, _, _ => -1
theorem C_ends (cf : CF R S N T G U V Kp Y L X W C h h2) (cd : CD I R T U V Kp Y X h tx FR PE SC TL UL KL SN) (ok : okS FR PE SC TL UL KL) (v1 v2 v3 v4 : Int32) : fX11_ends 0 v1 v2 v3 v4 (I, R, S, N) = some (aEnds PE v1 v2 v3 v4, (I, R, S, N)) := by
  have cf0 := cf
  obtain ⟨pl, cf1, hT, hG, hU, hV, hK, hY, hL, hX, hW, hC, hH, hH2⟩ := cf
  obtain ⟨TT, c5⟩ := cd.2.2.2.2.1
  have d0 := c5.1
  unfold aEnds fX11_ends
  simp only [f_10 cf1, Ho_g hH, Option.bind_some, c5.2.1.2.1]
  rcases ixc v1 (n := PE.length) (by omega) with b1 | ⟨i, b1, rfl⟩
  · rw [ix_n b1, C_out1 b1]
    simp only [Option.bind_some]
    rw [if_neg (by decide)]
  · rw [ix_s b1 (by omega), C_out0 b1 (by omega)]
    simp only [Option.bind_some, if_true, f_10 cf1, Ho_g hH, c5.2.1.2.1]
    rcases ixc v2 (n := PE.length) (by omega) with b2 | ⟨j, b2, rfl⟩
    · rw [ix_n b2, C_out1 b2]
      simp only [Option.bind_some]
      rw [if_neg (by decide)]
    · rw [ix_s b2 (by omega), C_out0 b2 (by omega), z41]
      simp only [Option.bind_some, if_true]
      rcases ixc v3 (n := 41) (by omega) with b3 | ⟨a, b3, rfl⟩
      · rw [ix_n b3, C_out1 b3]
        simp only [Option.bind_some]
        rw [if_neg (by decide)]
      · rw [ix_s b3 (by omega), C_out0 b3 (by omega)]
        simp only [Option.bind_some, if_true]
        rcases ixc v4 (n := 2) (by omega) with b4 | ⟨w, b4, rfl⟩
        · rw [ix_n b4, z2, C_out1 b4]
          simp only [Option.bind_some]
          rw [if_neg (by decide)]
        · rw [ix_s b4 (by omega), show (2 : Int32) = nI 2 from z2, C_out0 b4 (by omega)]
          simp only [Option.bind_some, if_true]
          rw [show fX11_ends_57 0 (nI i) (nI j) (nI w) (fun v5_37 v6_38 w_36 => if nI w = 0 then some (v5_37 + 40, w_36) else some (v6_38, w_36)) (fun w_40 => some (-4, w_40)) FV (nI a - 20) 0 (I, R, S, N) = _ from (congrArg (fun z => fX11_ends_57 0 (nI i) (nI j) (nI w) (fun v5_37 v6_38 w_36 => if nI w = 0 then some (v5_37 + 40, w_36) else some (v6_38, w_36)) (fun w_40 => some (-4, w_40)) FV (nI a - 20) z (I, R, S, N)) z0).trans (C_edL cf0 c5 ok.2.1 b1 b2 (nI w) _ _ 81 0 FV (nI a - 20) (by omega) (FV_lt (by omega)))]
          have hw : nI w = 0 ↔ w = 0 := by rw [z0]; exact nI_eq (by omega) (by omega)
          cases edR PE i j 81 0 (nI a - 20) with
          | none => rfl
          | some x =>
            simp only [Option.elim]
            by_cases c : w = 0
            · rw [if_pos (hw.mpr c), if_pos c]
            · rw [if_neg (fun z => c (hw.mp z)), if_neg c]
theorem MM_ends (hm : isMo R S N q) (d : MD I q tx FR PE CO SC TL UL KL SN) (ok : okS FR PE SC TL UL KL) (v1 v2 v3 v4 : Int32) : fX12_ends q v1 v2 v3 v4 (I, R, S, N) = some (aEnds PE v1 v2 v3 v4, (I, R, S, N)) := by
  have d1 := d.1
  have d0 := d1.1
  unfold aEnds fX12_ends
  simp only [Mo_o hm, Option.bind_some, M_isPerson hm d1]
  rcases ixc v1 (n := PE.length) (by omega) with b1 | ⟨i, b1, rfl⟩
  · rw [ix_n b1]
    rfl
  · rw [ix_s b1 (by omega)]
    simp only [Option.isSome_some, if_true, i10, if_false]
    rcases ixc v2 (n := PE.length) (by omega) with b2 | ⟨j, b2, rfl⟩
    · rw [ix_n b2]
      rfl
    · rw [ix_s b2 (by omega)]
      simp only [Option.isSome_some, if_true, i10, if_false, M_inK (show 40 + 1 < 2 ^ 30 by decide) z40, Option.bind_some]
      rcases ixc v3 (n := 41) (by omega) with b3 | ⟨a, b3, rfl⟩
      · rw [ix_n b3]
        rfl
      · rw [ix_s b3 (by omega)]
        simp only [Option.isSome_some, if_true, i10, if_false, M_inK (show 1 + 1 < 2 ^ 30 by decide) z1, Option.bind_some]
        rcases ixc v4 (n := 2) (by omega) with b4 | ⟨w, b4, rfl⟩
        · rw [ix_n b4]
          rfl
        · rw [ix_s b4 (by omega)]
          simp only [Option.isSome_some, if_true, i10, if_false]
          rw [show fX12_ends_47 q (nI i) (nI j) (nI w) (fun v5_31 v6_32 w_30 => if nI w = 0 then some (v5_31 + 40, w_30) else some (v6_32, w_30)) (fun w_34 => some (-4, w_34)) FV (nI a - 20) 0 (I, R, S, N) = _ from (congrArg (fun z => fX12_ends_47 q (nI i) (nI j) (nI w) (fun v5_31 v6_32 w_30 => if nI w = 0 then some (v5_31 + 40, w_30) else some (v6_32, w_30)) (fun w_34 => some (-4, w_34)) FV (nI a - 20) z (I, R, S, N)) z0).trans (M_edL hm d1 b1 b2 (nI w) _ _ 200 0 FV (nI a - 20) (by omega) (FV_lt (by omega)))]
          have hw : nI w = 0 ↔ w = 0 := by rw [z0]; exact nI_eq (by omega) (by omega)
          obtain ⟨hf, hA⟩ := far_20 a b3
          obtain ⟨x, hx⟩ := edR_some ok.2.1 b1 b2 20 0 (nI a - 20) hA hf
          rw [edR_mono PE i j _ 200 0 _ x (by omega) hx, edR_mono PE i j _ 81 0 _ x (by omega) hx]
          simp only [Option.elim]
          by_cases c : w = 0
          · rw [if_pos (hw.mpr c), if_pos c]
          · rw [if_neg (fun z => c (hw.mp z)), if_neg c]
end WHO
