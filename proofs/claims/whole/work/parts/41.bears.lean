/-! bears, look -/
theorem sh1_bit0 : ∀ b, b < 21 → ∀ i, i < 32 → ((1 : Int32) <<< (nI b &&& 31)).toBitVec.getLsbD i = decide (i = b) := by decide +kernel
theorem smod0 : ∀ c, c < 21 → ((nI c &&& 31).toBitVec.smod 32).toNat = c := by decide +kernel
theorem sh_bit (x : Int32) {c : Nat} (hc : c < 21) : ((x >>> (nI c &&& 31)) &&& 1) = if x.toBitVec.getLsbD c then 1 else 0 := by
  apply Int32.toBitVec_inj.1
  rw [Int32.toBitVec_and, Int32.toBitVec_shiftRight, BitVec.sshiftRight_eq', smod0 c hc]
  apply BitVec.eq_of_getLsbD_eq
  intro i hi
  rw [BitVec.getLsbD_and, BitVec.getLsbD_sshiftRight]
  have h1 : (1 : Int32).toBitVec.getLsbD i = decide (i = 0) := by
    have := sh1_bit0 0 (by omega) i hi
    exact this
  rw [h1]
  by_cases e : i = 0
  · subst e
    have : c + 0 < 32 := by omega
    simp only [Nat.add_zero, decide_true, Bool.and_true]
    rw [if_pos (by omega)]
    by_cases g : x.toBitVec.getLsbD c = true
    · rw [if_pos g, g]; rfl
    · rw [if_neg g, Bool.eq_false_iff.mpr g]; rfl
  · simp only [e, decide_false, Bool.and_false]
    by_cases g : x.toBitVec.getLsbD c = true
    · rw [if_pos g]; rw [h1]; simp [e]
    · rw [if_neg g]; simp
/-- bits told by a test -/
def btF (f : Nat → Bool) : Nat → Int32
  | 0 => 0
  | b + 1 => if f b = true then btF f b ||| ((1 : Int32) <<< (nI b &&& 31)) else btF f b
theorem btF_bit (f : Nat → Bool) : ∀ n, n ≤ 21 → ∀ i, i < 32 → (btF f n).toBitVec.getLsbD i = (decide (i < n) && f i) := by
  intro n
  induction n with
  | zero => intro _ i hi; simp [btF]
  | succ n ih =>
    intro hn i hi
    have ih' := ih (by omega) i hi
    unfold btF
    by_cases c : f n = true
    · rw [if_pos c, Int32.toBitVec_or, BitVec.getLsbD_or, ih', sh1_bit0 n (by omega) i hi]
      by_cases e : i = n
      · subst e; simp [c]
      · have : decide (i < n + 1) = decide (i < n) := by simp; omega
        rw [this]; simp [e]
    · rw [if_neg c, ih']
      by_cases e : i = n
      · subst e; simp [Bool.eq_false_iff.mpr c]
      · have : decide (i < n + 1) = decide (i < n) := by simp; omega
        rw [this]
theorem btF_has (f : Nat → Bool) {c : Nat} (hc : c < 21) : ((btF f 21 >>> (nI c &&& 31)) &&& 1) = if f c = true then 1 else 0 := by
  rw [sh_bit _ hc, btF_bit f 21 (by omega) c (by omega)]
  simp [hc]
def fitB (kd : Nat) (SN : List P2) (b : Nat) : Bool := SN.all (fun s => decide (made (nI kd) (nI b) s.1 = s.2))
def aBears (SN : List P2) (v : Int32) : Int32 := match ix v 4 with
  | some kd => btF (fitB kd SN) 21
  | none => -1
/-- where a bearing of that kind leaves a frame, as a place -/
def idF (kd a b : Nat) : Nat := (made (nI kd) (nI b) (nI a) + 40).toNatClampNeg
theorem idF0 : ∀ kd, kd < 4 → ∀ b, b < 21 → ∀ a, a < 21 → wth (made (nI kd) (nI b) (nI a)) + 40 = nI (idF kd a b) ∧ idF kd a b < 81 ∧ made (nI kd) (nI b) (nI a) = nI (idF kd a b) - 40 := by decide +kernel
theorem id_inj {i j : Nat} (hi : i < 81) (hj : j < 81) : (nI i - 40 = nI j - 40) ↔ i = j := by
  rw [eqT, z40, pk_sub_toInt (by omega) (by omega), pk_sub_toInt (by omega) (by omega)]
  omega
def cnF (f : Nat → Bool) (g : Nat → Nat) (j : Nat) : Nat → Nat
  | 0 => 0
  | b + 1 => cnF f g j b + (if f b = true ∧ g b = j then 1 else 0)
theorem cnF_le (f : Nat → Bool) (g : Nat → Nat) (j : Nat) : ∀ n, cnF f g j n ≤ n := by
  intro n
  induction n with
  | zero => exact Nat.le_refl _
  | succ n ih => unfold cnF; split <;> omega
def wcF (f : Nat → Bool) (g : Nat → Nat) : Nat → Nat
  | 0 => 0
  | b + 1 => if f b = true then max (wcF f g b) (cnF f g (g b) (b + 1)) else wcF f g b
theorem wcF_mx (f : Nat → Bool) (g : Nat → Nat) : ∀ n, (∀ b, b < n → f b = true → cnF f g (g b) n ≤ wcF f g n) ∧ (wcF f g n = 0 ∨ ∃ b, b < n ∧ f b = true ∧ cnF f g (g b) n = wcF f g n) := by
  intro n
  induction n with
  | zero => exact ⟨fun b hb => by omega, Or.inl rfl⟩
  | succ n ih =>
    obtain ⟨ih1, ih2⟩ := ih
    by_cases c : f n = true
    · have e1 : wcF f g (n + 1) = max (wcF f g n) (cnF f g (g n) (n + 1)) := if_pos c
      have e2 : ∀ j, cnF f g j (n + 1) = cnF f g j n + (if g n = j then 1 else 0) := fun j => by
        show cnF f g j n + (if f n = true ∧ g n = j then 1 else 0) = _
        simp only [c, true_and]
      refine ⟨fun b hb hf => ?_, Or.inr ?_⟩
      · by_cases eb : g n = g b
        · rw [e1, ← eb]; omega
        · rw [e1, e2, if_neg eb]
          by_cases ebn : b = n
          · exact absurd (by rw [ebn]) eb
          · have := ih1 b (by omega) hf; omega
      · by_cases cc : cnF f g (g n) (n + 1) ≥ wcF f g n
        · exact ⟨n, by omega, c, by rw [e1]; omega⟩
        · rcases ih2 with z | ⟨b, hb, hf, hm⟩
          · omega
          · refine ⟨b, by omega, hf, ?_⟩
            by_cases eb : g n = g b
            · rw [← eb] at hm
              rw [e2, if_pos rfl] at cc
              omega
            · rw [e1, e2, if_neg eb]; omega
    · have e1 : wcF f g (n + 1) = wcF f g n := if_neg c
      have e2 : ∀ j, cnF f g j (n + 1) = cnF f g j n := fun j => by
        show cnF f g j n + (if f n = true ∧ g n = j then 1 else 0) = _
        rw [if_neg (fun h => c h.1)]
        rfl
      refine ⟨fun b hb hf => ?_, ?_⟩
      · rw [e1, e2]
        exact ih1 b (by have : b ≠ n := fun e => c (e ▸ hf); omega) hf
      · rw [e1]
        rcases ih2 with z | ⟨b, hb, hf, hm⟩
        · exact Or.inl z
        · exact Or.inr ⟨b, by omega, hf, by rw [e2]; exact hm⟩
/-- the greatest of some numbers -/
def mxF (h : Nat → Nat) : Nat → Nat
  | 0 => 0
  | b + 1 => if h b ≤ mxF h b then mxF h b else h b
theorem mxF_mx (h : Nat → Nat) : ∀ n, (∀ b, b < n → h b ≤ mxF h n) ∧ (mxF h n = 0 ∨ ∃ b, b < n ∧ h b = mxF h n) := by
  intro n
  induction n with
  | zero => exact ⟨fun b hb => by omega, Or.inl rfl⟩
  | succ n ih =>
    obtain ⟨ih1, ih2⟩ := ih
    by_cases c : h n ≤ mxF h n
    · have e1 : mxF h (n + 1) = mxF h n := if_pos c
      rw [e1]
      refine ⟨fun b hb => ?_, ?_⟩
      · by_cases e : b = n
        · rw [e]; exact c
        · exact ih1 b (by omega)
      · rcases ih2 with z | ⟨b, hb, hm⟩
        · exact Or.inl z
        · exact Or.inr ⟨b, by omega, hm⟩
    · have e1 : mxF h (n + 1) = h n := if_neg c
      rw [e1]
      refine ⟨fun b hb => ?_, Or.inr ⟨n, by omega, rfl⟩⟩
      by_cases e : b = n
      · rw [e]; exact Nat.le_refl _
      · have := ih1 b (by omega); omega
theorem mx_wc (f : Nat → Bool) (g : Nat → Nat) (n : Nat) : mxF (fun b => if f b = true then cnF f g (g b) n else 0) n = wcF f g n := by
  obtain ⟨a1, a2⟩ := wcF_mx f g n
  obtain ⟨b1, b2⟩ := mxF_mx (fun b => if f b = true then cnF f g (g b) n else 0) n
  apply Nat.le_antisymm
  · rcases b2 with z | ⟨b, hb, hm⟩
    · omega
    · rw [← hm]
      show (if f b = true then cnF f g (g b) n else 0) ≤ _
      split
      · exact a1 b hb (by assumption)
      · omega
  · rcases a2 with z | ⟨b, hb, hf, hm⟩
    · omega
    · have h1 : (if f b = true then cnF f g (g b) n else 0) ≤ _ := b1 b hb
      rw [if_pos hf] at h1
      omega
/-- how many do the same at the worst, by the angle -/
def mAl (SN : List P2) (kd a : Nat) : Nat := wcF (fitB kd SN) (idF kd a) 21
theorem wcF_le (f : Nat → Bool) (g : Nat → Nat) : ∀ n, wcF f g n ≤ n := by
  intro n
  induction n with
  | zero => exact Nat.le_refl _
  | succ n ih =>
    unfold wcF
    have := cnF_le f g (g n) (n + 1)
    split <;> omega
def bkF (m : Nat → Nat) (b a : Nat) : Nat → Nat
  | 0 => b
  | n + 1 => if m b ≤ m a then bkF m b (a + 1) n else bkF m a (a + 1) n
theorem bkF_lt (m : Nat → Nat) : ∀ (n b a : Nat), b < a → a + n = 21 → bkF m b a n < 21
  | 0, b, a, h, e => by show b < 21; omega
  | n + 1, b, a, h, e => by
    unfold bkF
    split
    · exact bkF_lt m n b (a + 1) (by omega) (by omega)
    · exact bkF_lt m n a (a + 1) (by omega) (by omega)
def aLook (SN : List P2) (v1 v2 : Int32) : Int32 := match ix v1 4, ix v2 2 with
  | some kd, some w => if btF (fitB kd SN) 21 = 0 then -4 else if w = 0 then nI (bkF (mAl SN kd) 0 1 20) else nI (mAl SN kd (bkF (mAl SN kd) 0 1 20))
  | _, _ => -1
