/-! A STEP of both sides keeps what holds between them -/
theorem gD_all {α : Type} (d : α) (P : α → Prop) (l : List α) : (∀ k, k < l.length → P (l.getD k d)) ↔ ∀ x, x ∈ l → P x := by
  refine ⟨fun h x hx => ?_, fun h k hk => ?_⟩
  · obtain ⟨k, hk, rfl⟩ := List.getElem_of_mem hx
    have := h k hk
    rw [List.getD_eq_getElem?_getD, List.getElem?_eq_getElem hk] at this
    exact this
  · rw [List.getD_eq_getElem?_getD, List.getElem?_eq_getElem hk]
    exact h _ (List.getElem_mem hk)
theorem okT_m {FR : List F4} {TL : List T3} : okT FR TL ↔ ∀ t, t ∈ TL → t.2.1 < FR.length := gD_all t3 (fun t => t.2.1 < FR.length) TL
theorem okU_m {FR : List F4} {UL : List (List T3)} : (∀ j, j < UL.length → okT FR (UL.getD j [])) ↔ ∀ l, l ∈ UL → okT FR l := gD_all [] (fun l => okT FR l) UL
theorem ix_lt {x : Int32} {n k : Nat} (hn : n < 2 ^ 31) (h : ix x n = some k) : k < n := by
  unfold ix at h
  by_cases c : x < 0 ∨ nI n ≤ x
  · rw [if_pos c] at h; cases h
  · rw [if_neg c] at h
    cases h
    refine Nat.lt_of_not_le fun z => c (Or.inr ?_)
    have h1 : nI x.toNatClampNeg = x := nI_tn (fun z => c (Or.inl z))
    have h2 : x.toNatClampNeg < 2 ^ 31 := by
      have := Int32.toInt_lt x
      show x.toInt.toNat < 2 ^ 31
      omega
    rw [← h1]
    exact nI_le z h2
section STEPS
variable {R : Nat → Nat → Option Nat} {S : Nat → Nat × Nat} {N T G U V Kp Y L X W C h h2 : Nat} {I J : Nat → Nat → Int32} {tx : List Int32} {FR : List F4} {PE : List P2} {CO SC : List C3} {TL : List T3} {UL KL : List (List T3)} {SN : List P2}
theorem okP_push (hU : ∀ l, l ∈ UL → okT FR l) (hT : okT FR TL) : ∀ l, l ∈ pushU UL TL → okT FR l := by
  intro l hl
  unfold pushU at hl
  rcases List.mem_append.mp hl with hl | hl
  · by_cases c : UL.length < 8
    · rw [if_pos c] at hl; exact hU l hl
    · rw [if_neg c] at hl; exact hU l (List.mem_of_mem_drop hl)
  · rw [List.mem_singleton.mp hl]; exact hT
theorem ok_turn (ok : okS FR PE SC TL UL KL) (v1 v2 v3 : Int32) : okS FR PE SC (aTurn FR TL UL v1 v2 v3).2.1 (aTurn FR TL UL v1 v2 v3).2.2 KL := by
  obtain ⟨a, b, c, d, e, f⟩ := ok
  unfold aTurn
  cases h1 : ix v1 31 with
  | none => exact ⟨a, b, c, d, e, f⟩
  | some n =>
    cases h2 : ix v2 FR.length with
    | none => exact ⟨a, b, c, d, e, f⟩
    | some k =>
      cases h3 : ix v3 41 with
      | none => exact ⟨a, b, c, d, e, f⟩
      | some j =>
        show okS FR PE SC (if TL.length < 8 then (nI (TL.length + 1), TL ++ [(nI n, k, nI j - 20)], pushU UL TL) else (-3, TL, UL)).2.1 (if TL.length < 8 then (nI (TL.length + 1), TL ++ [(nI n, k, nI j - 20)], pushU UL TL) else (-3, TL, UL)).2.2 KL
        by_cases c8 : TL.length < 8
        · rw [if_pos c8]
          refine ⟨a, b, c, okT_m.mpr (fun t ht => ?_), okU_m.mpr (okP_push (okU_m.mp e) d), f⟩
          rcases List.mem_append.mp ht with ht | ht
          · exact okT_m.mp d t ht
          · rw [List.mem_singleton.mp ht]
            exact ix_lt (by omega) h2
        · rw [if_neg c8]
          exact ⟨a, b, c, d, e, f⟩
theorem ok_leave (ok : okS FR PE SC TL UL KL) (v : Int32) : okS FR PE SC (aLeave TL UL v).2.1 (aLeave TL UL v).2.2 KL := by
  obtain ⟨a, b, c, d, e, f⟩ := ok
  unfold aLeave
  cases h1 : ix v TL.length with
  | none => exact ⟨a, b, c, d, e, f⟩
  | some k => exact ⟨a, b, c, okT_m.mpr (fun t ht => okT_m.mp d t (List.mem_of_mem_eraseIdx ht)), okU_m.mpr (okP_push (okU_m.mp e) d), f⟩
theorem last_in {α : Type} {l : List α} (d : α) (h : l ≠ []) : l.getLastD d ∈ l := by
  cases l with
  | nil => exact absurd rfl h
  | cons x l =>
    rw [List.getLastD_cons]
    induction l generalizing x with
    | nil => exact List.mem_cons_self
    | cons y l ih => rw [List.getLastD_cons]; exact List.mem_cons_of_mem _ (ih y (by simp))
theorem ok_undo (ok : okS FR PE SC TL UL KL) : okS FR PE SC (aUndo TL UL).2.1 (aUndo TL UL).2.2 KL := by
  obtain ⟨a, b, c, d, e, f⟩ := ok
  unfold aUndo
  by_cases h1 : UL = []
  · rw [if_pos h1]; exact ⟨a, b, c, d, e, f⟩
  · rw [if_neg h1]
    exact ⟨a, b, c, okU_m.mp e _ (last_in [] h1), okU_m.mpr (fun l hl => okU_m.mp e l (List.dropLast_subset _ hl)), f⟩
theorem ok_keep (ok : okS FR PE SC TL UL KL) : okS FR PE SC TL UL (aKeep TL KL).2 := by
  obtain ⟨a, b, c, d, e, f⟩ := ok
  unfold aKeep
  by_cases h1 : KL.length < 2
  · rw [if_pos h1]
    refine ⟨a, b, c, d, e, okU_m.mpr (fun l hl => ?_)⟩
    rcases List.mem_append.mp hl with hl | hl
    · exact okU_m.mp f l hl
    · rw [List.mem_singleton.mp hl]; exact d
  · rw [if_neg h1]; exact ⟨a, b, c, d, e, f⟩
theorem ok_back (ok : okS FR PE SC TL UL KL) : okS FR PE SC (aBack TL UL KL).2.1 (aBack TL UL KL).2.2.1 (aBack TL UL KL).2.2.2 := by
  obtain ⟨a, b, c, d, e, f⟩ := ok
  unfold aBack
  by_cases h1 : KL = []
  · rw [if_pos h1]; exact ⟨a, b, c, d, e, f⟩
  · rw [if_neg h1]
    exact ⟨a, b, c, okU_m.mp f _ (last_in [] h1), nolt, okU_m.mpr (fun l hl => okU_m.mp f l (List.dropLast_subset _ hl))⟩
theorem MD_hi (md : MD I 202 tx FR PE CO SC TL UL KL SN) (f : ∀ p, 201 < p → J p = I p) : MD J 202 tx FR PE CO SC TL UL KL SN := md.of (fun j _ => by rw [f 202 (by omega)]) (fun p a b => f p (by omega))
theorem CD_lo (cf : CF R S N T G U V Kp Y L X W C h h2) (cd : CD I R T U V Kp Y X h tx FR PE SC TL UL KL SN) (f : ∀ p, p < 202 → J p = I p) : CD J R T U V Kp Y X h tx FR PE SC TL UL KL SN := by
  obtain ⟨p1, p2, p3, p4, p5, p6, p7, p8, p9, p10, p11⟩ := cf.1
  exact CD_scr cf cd (fun p hp => f p (by omega))
end STEPS
theorem layS_ok {tx : List Int32} {hs : HS} (h : aLayS tx = some hs) : okHS hs ∧ hs.1.length ≠ 0 := by
  unfold aLayS at h
  cases g : prsA tx with
  | inl k => rw [g] at h; cases h
  | inr hs' =>
    rw [g] at h
    have h : (if hs'.1.length = 0 then none else some hs') = some hs := h
    by_cases c : hs'.1.length = 0
    · rw [if_pos c] at h; cases h
    · rw [if_neg c] at h
      cases h
      exact ⟨prs_ok tx _ _ _ _ okHS_0 g, c⟩
theorem st_lay {w : Wd} (hi : INV w) : ∃ r w1 w2, (isO 10 0 w = some () ∧ fX11_lay 0 w = some (r, w1)) ∧ (isO 11 202 w1 = some () ∧ fX12_lay 202 w1 = some (r, w2)) ∧ INV w2 := by
  obtain ⟨I, R, S, N, T, G, U, V, Kp, Y, L, X, W, C, h, h2, tx, FR, PE, CO, SC, TL, UL, KL, SN, rfl, cf, cd, hm, md, ok, okx⟩ := hi
  have o1 := f_o cf.2.1 I
  obtain ⟨J, R', e1, k1, f1⟩ := C_lay cf cd
  have md := MD_hi md (fun p hp => (f1 p hp).1)
  have hm := isMo_ofR hm (fun k a b => (f1 k (by omega)).2)
  obtain ⟨J2, e2, k2, f2⟩ := MM_lay hm md
  rcases k1 with ⟨k1, cf, cd⟩ | ⟨hs, k1, cf, cd⟩
  · rcases k2 with ⟨-, md⟩ | ⟨hs, k2, -⟩
    · have cd := CD_lo cf cd (fun p hp => f2 p (by omega))
      exact ⟨_, _, _, ⟨o1, e1⟩, ⟨Mo_o hm J, e2⟩, J2, R', S, N, T, G, U, V, Kp, Y, L, X, W, C, h, h2, tx, FR, PE, CO, SC, TL, UL, KL, SN, rfl, cf, cd, hm, md, ok, okx⟩
    · rw [k1] at k2; cases k2
  · rcases k2 with ⟨k2, -⟩ | ⟨hs', k2, md⟩
    · rw [k1] at k2; cases k2
    · rw [k1] at k2
      cases k2
      have cd := CD_lo cf cd (fun p hp => f2 p (by omega))
      obtain ⟨n1, n2⟩ := layS_ok k1
      exact ⟨_, _, _, ⟨o1, e1⟩, ⟨Mo_o hm J, e2⟩, J2, R', S, N, T, G, U, V, Kp, Y, L, X, W, C, h2, h, tx, hs.1, hs.2.1, hs.2.2.1, bkt hs.2.2.1, hs.2.2.2, [], [], [], rfl, cf, cd, hm, md, (okS_hs n1 n2).1, (okS_hs n1 n2).2⟩

theorem st_write {w : Wd} (hi : INV w) (v1 : Int32) : ∃ r w1 w2, (isO 10 0 w = some () ∧ fX11_write 0 v1 w = some (r, w1)) ∧ (isO 11 202 w1 = some () ∧ fX12_write 202 v1 w1 = some (r, w2)) ∧ INV w2 := by
  obtain ⟨I, R, S, N, T, G, U, V, Kp, Y, L, X, W, C, h, h2, tx, FR, PE, CO, SC, TL, UL, KL, SN, rfl, cf, cd, hm, md, ok, okx⟩ := hi
  have o1 := f_o cf.2.1 I
  obtain ⟨J, e1, cd, f1⟩ := C_write cf cd v1
  have md := MD_hi md f1
  obtain ⟨J2, e2, md, f2⟩ := MM_write hm md v1
  have cd := CD_lo cf cd (fun p hp => f2 p (by omega) (by omega))
  exact ⟨_, _, _, ⟨o1, e1⟩, ⟨Mo_o hm J, e2⟩, J2, R, S, N, T, G, U, V, Kp, Y, L, X, W, C, h, h2, (aWrite tx v1).2, FR, PE, CO, SC, TL, UL, KL, SN, rfl, cf, cd, hm, md, ok, okx⟩
theorem st_wipe {w : Wd} (hi : INV w)  : ∃ r w1 w2, (isO 10 0 w = some () ∧ fX11_wipe 0  w = some (r, w1)) ∧ (isO 11 202 w1 = some () ∧ fX12_wipe 202  w1 = some (r, w2)) ∧ INV w2 := by
  obtain ⟨I, R, S, N, T, G, U, V, Kp, Y, L, X, W, C, h, h2, tx, FR, PE, CO, SC, TL, UL, KL, SN, rfl, cf, cd, hm, md, ok, okx⟩ := hi
  have o1 := f_o cf.2.1 I
  obtain ⟨J, e1, cd, f1⟩ := C_wipe cf cd 
  have md := MD_hi md f1
  obtain ⟨J2, e2, md, f2⟩ := MM_wipe hm md 
  have cd := CD_lo cf cd (fun p hp => f2 p (by omega))
  exact ⟨_, _, _, ⟨o1, e1⟩, ⟨Mo_o hm J, e2⟩, J2, R, S, N, T, G, U, V, Kp, Y, L, X, W, C, h, h2, [], FR, PE, CO, SC, TL, UL, KL, SN, rfl, cf, cd, hm, md, ok, okx⟩
theorem st_fault {w : Wd} (hi : INV w)  : ∃ r w1 w2, (isO 10 0 w = some () ∧ fX11_fault 0  w = some (r, w1)) ∧ (isO 11 202 w1 = some () ∧ fX12_fault 202  w1 = some (r, w2)) ∧ INV w2 := by
  obtain ⟨I, R, S, N, T, G, U, V, Kp, Y, L, X, W, C, h, h2, tx, FR, PE, CO, SC, TL, UL, KL, SN, rfl, cf, cd, hm, md, ok, okx⟩ := hi
  have o1 := f_o cf.2.1 I
  obtain ⟨J, e1, cd, f1⟩ := C_fault cf cd 
  have md := MD_hi md f1
  obtain ⟨J2, e2, md, f2⟩ := MM_fault hm md 
  have cd := CD_lo cf cd (fun p hp => f2 p (by omega))
  exact ⟨_, _, _, ⟨o1, e1⟩, ⟨Mo_o hm J, e2⟩, J2, R, S, N, T, G, U, V, Kp, Y, L, X, W, C, h, h2, tx, FR, PE, CO, SC, TL, UL, KL, SN, rfl, cf, cd, hm, md, ok, okx⟩
theorem st_frame {w : Wd} (hi : INV w) (v1 v2 : Int32) : ∃ r w1 w2, (isO 10 0 w = some () ∧ fX11_frame 0 v1 v2 w = some (r, w1)) ∧ (isO 11 202 w1 = some () ∧ fX12_frame 202 v1 v2 w1 = some (r, w2)) ∧ INV w2 := by
  obtain ⟨I, R, S, N, T, G, U, V, Kp, Y, L, X, W, C, h, h2, tx, FR, PE, CO, SC, TL, UL, KL, SN, rfl, cf, cd, hm, md, ok, okx⟩ := hi
  have o1 := f_o cf.2.1 I
  have e1 := C_frame cf cd v1 v2
  have e2 := MM_frame hm md v1 v2
  exact ⟨_, _, _, ⟨o1, e1⟩, ⟨Mo_o hm I, e2⟩, I, R, S, N, T, G, U, V, Kp, Y, L, X, W, C, h, h2, tx, FR, PE, CO, SC, TL, UL, KL, SN, rfl, cf, cd, hm, md, ok, okx⟩
theorem st_person {w : Wd} (hi : INV w) (v1 v2 : Int32) : ∃ r w1 w2, (isO 10 0 w = some () ∧ fX11_person 0 v1 v2 w = some (r, w1)) ∧ (isO 11 202 w1 = some () ∧ fX12_person 202 v1 v2 w1 = some (r, w2)) ∧ INV w2 := by
  obtain ⟨I, R, S, N, T, G, U, V, Kp, Y, L, X, W, C, h, h2, tx, FR, PE, CO, SC, TL, UL, KL, SN, rfl, cf, cd, hm, md, ok, okx⟩ := hi
  have o1 := f_o cf.2.1 I
  have e1 := C_person cf cd v1 v2
  have e2 := MM_person hm md v1 v2
  exact ⟨_, _, _, ⟨o1, e1⟩, ⟨Mo_o hm I, e2⟩, I, R, S, N, T, G, U, V, Kp, Y, L, X, W, C, h, h2, tx, FR, PE, CO, SC, TL, UL, KL, SN, rfl, cf, cd, hm, md, ok, okx⟩
theorem st_angle {w : Wd} (hi : INV w) (v1 v2 : Int32) : ∃ r w1 w2, (isO 10 0 w = some () ∧ fX11_angle 0 v1 v2 w = some (r, w1)) ∧ (isO 11 202 w1 = some () ∧ fX12_angle 202 v1 v2 w1 = some (r, w2)) ∧ INV w2 := by
  obtain ⟨I, R, S, N, T, G, U, V, Kp, Y, L, X, W, C, h, h2, tx, FR, PE, CO, SC, TL, UL, KL, SN, rfl, cf, cd, hm, md, ok, okx⟩ := hi
  have o1 := f_o cf.2.1 I
  obtain ⟨J, e1, cd, f1⟩ := C_angle cf cd ok v1 v2
  have md := MD_hi md f1
  obtain ⟨J2, e2, md, f2⟩ := MM_angle hm md ok v1 v2
  have cd := CD_lo cf cd (fun p hp => f2 p (by omega))
  exact ⟨_, _, _, ⟨o1, e1⟩, ⟨Mo_o hm J, e2⟩, J2, R, S, N, T, G, U, V, Kp, Y, L, X, W, C, h, h2, tx, FR, PE, CO, SC, TL, UL, KL, SN, rfl, cf, cd, hm, md, ok, okx⟩
theorem st_hers {w : Wd} (hi : INV w) (v1 : Int32) : ∃ r w1 w2, (isO 10 0 w = some () ∧ fX11_hers 0 v1 w = some (r, w1)) ∧ (isO 11 202 w1 = some () ∧ fX12_hers 202 v1 w1 = some (r, w2)) ∧ INV w2 := by
  obtain ⟨I, R, S, N, T, G, U, V, Kp, Y, L, X, W, C, h, h2, tx, FR, PE, CO, SC, TL, UL, KL, SN, rfl, cf, cd, hm, md, ok, okx⟩ := hi
  have o1 := f_o cf.2.1 I
  obtain ⟨J, e1, cd, f1⟩ := C_hers cf cd ok v1
  have md := MD_hi md f1
  obtain ⟨J2, e2, md, f2⟩ := MM_hers hm md ok v1
  have cd := CD_lo cf cd (fun p hp => f2 p (by omega))
  exact ⟨_, _, _, ⟨o1, e1⟩, ⟨Mo_o hm J, e2⟩, J2, R, S, N, T, G, U, V, Kp, Y, L, X, W, C, h, h2, tx, FR, PE, CO, SC, TL, UL, KL, SN, rfl, cf, cd, hm, md, ok, okx⟩
theorem st_sets {w : Wd} (hi : INV w) (v1 v2 : Int32) : ∃ r w1 w2, (isO 10 0 w = some () ∧ fX11_sets 0 v1 v2 w = some (r, w1)) ∧ (isO 11 202 w1 = some () ∧ fX12_sets 202 v1 v2 w1 = some (r, w2)) ∧ INV w2 := by
  obtain ⟨I, R, S, N, T, G, U, V, Kp, Y, L, X, W, C, h, h2, tx, FR, PE, CO, SC, TL, UL, KL, SN, rfl, cf, cd, hm, md, ok, okx⟩ := hi
  have o1 := f_o cf.2.1 I
  obtain ⟨J, e1, cd, f1⟩ := C_sets cf cd ok v1 v2
  have md := MD_hi md f1
  obtain ⟨J2, e2, md, f2⟩ := MM_sets hm md ok v1 v2
  have cd := CD_lo cf cd (fun p hp => f2 p (by omega))
  exact ⟨_, _, _, ⟨o1, e1⟩, ⟨Mo_o hm J, e2⟩, J2, R, S, N, T, G, U, V, Kp, Y, L, X, W, C, h, h2, tx, FR, PE, CO, SC, TL, UL, KL, SN, rfl, cf, cd, hm, md, ok, okx⟩
theorem st_rest {w : Wd} (hi : INV w)  : ∃ r w1 w2, (isO 10 0 w = some () ∧ fX11_rest 0  w = some (r, w1)) ∧ (isO 11 202 w1 = some () ∧ fX12_rest 202  w1 = some (r, w2)) ∧ INV w2 := by
  obtain ⟨I, R, S, N, T, G, U, V, Kp, Y, L, X, W, C, h, h2, tx, FR, PE, CO, SC, TL, UL, KL, SN, rfl, cf, cd, hm, md, ok, okx⟩ := hi
  have o1 := f_o cf.2.1 I
  obtain ⟨J, e1, cd, f1⟩ := C_rest cf cd ok 
  have md := MD_hi md f1
  obtain ⟨J2, e2, md, f2⟩ := MM_rest hm md ok 
  have cd := CD_lo cf cd (fun p hp => f2 p (by omega))
  exact ⟨_, _, _, ⟨o1, e1⟩, ⟨Mo_o hm J, e2⟩, J2, R, S, N, T, G, U, V, Kp, Y, L, X, W, C, h, h2, tx, FR, PE, CO, SC, TL, UL, KL, SN, rfl, cf, cd, hm, md, ok, okx⟩
theorem st_sways {w : Wd} (hi : INV w)  : ∃ r w1 w2, (isO 10 0 w = some () ∧ fX11_sways 0  w = some (r, w1)) ∧ (isO 11 202 w1 = some () ∧ fX12_sways 202  w1 = some (r, w2)) ∧ INV w2 := by
  obtain ⟨I, R, S, N, T, G, U, V, Kp, Y, L, X, W, C, h, h2, tx, FR, PE, CO, SC, TL, UL, KL, SN, rfl, cf, cd, hm, md, ok, okx⟩ := hi
  have o1 := f_o cf.2.1 I
  obtain ⟨J, e1, cd, f1⟩ := C_sways cf cd ok 
  have md := MD_hi md f1
  obtain ⟨J2, e2, md, f2⟩ := MM_sways hm md ok 
  have cd := CD_lo cf cd (fun p hp => f2 p (by omega))
  exact ⟨_, _, _, ⟨o1, e1⟩, ⟨Mo_o hm J, e2⟩, J2, R, S, N, T, G, U, V, Kp, Y, L, X, W, C, h, h2, tx, FR, PE, CO, SC, TL, UL, KL, SN, rfl, cf, cd, hm, md, ok, okx⟩
theorem st_told {w : Wd} (hi : INV w) (v1 v2 : Int32) : ∃ r w1 w2, (isO 10 0 w = some () ∧ fX11_told 0 v1 v2 w = some (r, w1)) ∧ (isO 11 202 w1 = some () ∧ fX12_told 202 v1 v2 w1 = some (r, w2)) ∧ INV w2 := by
  obtain ⟨I, R, S, N, T, G, U, V, Kp, Y, L, X, W, C, h, h2, tx, FR, PE, CO, SC, TL, UL, KL, SN, rfl, cf, cd, hm, md, ok, okx⟩ := hi
  have o1 := f_o cf.2.1 I
  have e1 := C_told cf cd v1 v2
  have e2 := MM_told hm md v1 v2
  exact ⟨_, _, _, ⟨o1, e1⟩, ⟨Mo_o hm I, e2⟩, I, R, S, N, T, G, U, V, Kp, Y, L, X, W, C, h, h2, tx, FR, PE, CO, SC, TL, UL, KL, SN, rfl, cf, cd, hm, md, ok, okx⟩
theorem st_turn {w : Wd} (hi : INV w) (v1 v2 v3 : Int32) : ∃ r w1 w2, (isO 10 0 w = some () ∧ fX11_turn 0 v1 v2 v3 w = some (r, w1)) ∧ (isO 11 202 w1 = some () ∧ fX12_turn 202 v1 v2 v3 w1 = some (r, w2)) ∧ INV w2 := by
  obtain ⟨I, R, S, N, T, G, U, V, Kp, Y, L, X, W, C, h, h2, tx, FR, PE, CO, SC, TL, UL, KL, SN, rfl, cf, cd, hm, md, ok, okx⟩ := hi
  have o1 := f_o cf.2.1 I
  obtain ⟨J, R', e1, cf, cd, f1⟩ := C_turn cf cd v1 v2 v3
  have md := MD_hi md (fun p hp => (f1 p hp).1)
  have hm := isMo_ofR hm (fun k a b => (f1 k (by omega)).2)
  obtain ⟨J2, e2, md, f2⟩ := MM_turn hm md v1 v2 v3
  have cd := CD_lo cf cd (fun p hp => f2 p (by omega))
  exact ⟨_, _, _, ⟨o1, e1⟩, ⟨Mo_o hm J, e2⟩, J2, R', S, N, T, G, U, V, Kp, Y, L, X, W, C, h, h2, tx, FR, PE, CO, SC, (aTurn FR TL UL v1 v2 v3).2.1, (aTurn FR TL UL v1 v2 v3).2.2, KL, SN, rfl, cf, cd, hm, md, (ok_turn ok v1 v2 v3), okx⟩
theorem st_leave {w : Wd} (hi : INV w) (v1 : Int32) : ∃ r w1 w2, (isO 10 0 w = some () ∧ fX11_leave 0 v1 w = some (r, w1)) ∧ (isO 11 202 w1 = some () ∧ fX12_leave 202 v1 w1 = some (r, w2)) ∧ INV w2 := by
  obtain ⟨I, R, S, N, T, G, U, V, Kp, Y, L, X, W, C, h, h2, tx, FR, PE, CO, SC, TL, UL, KL, SN, rfl, cf, cd, hm, md, ok, okx⟩ := hi
  have o1 := f_o cf.2.1 I
  obtain ⟨J, R', e1, cf, cd, f1⟩ := C_leave cf cd v1
  have md := MD_hi md (fun p hp => (f1 p hp).1)
  have hm := isMo_ofR hm (fun k a b => (f1 k (by omega)).2)
  obtain ⟨J2, e2, md, f2⟩ := MM_leave hm md v1
  have cd := CD_lo cf cd (fun p hp => f2 p (by omega))
  exact ⟨_, _, _, ⟨o1, e1⟩, ⟨Mo_o hm J, e2⟩, J2, R', S, N, T, G, U, V, Kp, Y, L, X, W, C, h, h2, tx, FR, PE, CO, SC, (aLeave TL UL v1).2.1, (aLeave TL UL v1).2.2, KL, SN, rfl, cf, cd, hm, md, (ok_leave ok v1), okx⟩
theorem st_undo {w : Wd} (hi : INV w)  : ∃ r w1 w2, (isO 10 0 w = some () ∧ fX11_undo 0  w = some (r, w1)) ∧ (isO 11 202 w1 = some () ∧ fX12_undo 202  w1 = some (r, w2)) ∧ INV w2 := by
  obtain ⟨I, R, S, N, T, G, U, V, Kp, Y, L, X, W, C, h, h2, tx, FR, PE, CO, SC, TL, UL, KL, SN, rfl, cf, cd, hm, md, ok, okx⟩ := hi
  have o1 := f_o cf.2.1 I
  obtain ⟨J, e1, cd, f1⟩ := C_undo cf cd 
  have md := MD_hi md f1
  obtain ⟨J2, e2, md, f2⟩ := MM_undo hm md 
  have cd := CD_lo cf cd (fun p hp => f2 p (by omega))
  exact ⟨_, _, _, ⟨o1, e1⟩, ⟨Mo_o hm J, e2⟩, J2, R, S, N, T, G, U, V, Kp, Y, L, X, W, C, h, h2, tx, FR, PE, CO, SC, (aUndo TL UL).2.1, (aUndo TL UL).2.2, KL, SN, rfl, cf, cd, hm, md, (ok_undo ok), okx⟩
theorem st_tempt {w : Wd} (hi : INV w) (v1 v2 : Int32) : ∃ r w1 w2, (isO 10 0 w = some () ∧ fX11_tempt 0 v1 v2 w = some (r, w1)) ∧ (isO 11 202 w1 = some () ∧ fX12_tempt 202 v1 v2 w1 = some (r, w2)) ∧ INV w2 := by
  obtain ⟨I, R, S, N, T, G, U, V, Kp, Y, L, X, W, C, h, h2, tx, FR, PE, CO, SC, TL, UL, KL, SN, rfl, cf, cd, hm, md, ok, okx⟩ := hi
  have o1 := f_o cf.2.1 I
  obtain ⟨J, e1, cd, f1⟩ := C_tempt cf cd ok v1 v2
  have md := MD_hi md f1
  obtain ⟨J2, e2, md, f2⟩ := MM_tempt hm md ok v1 v2
  have cd := CD_lo cf cd (fun p hp => f2 p (by omega))
  exact ⟨_, _, _, ⟨o1, e1⟩, ⟨Mo_o hm J, e2⟩, J2, R, S, N, T, G, U, V, Kp, Y, L, X, W, C, h, h2, tx, FR, PE, CO, SC, TL, UL, KL, SN, rfl, cf, cd, hm, md, ok, okx⟩
theorem st_fewest {w : Wd} (hi : INV w) (v1 v2 : Int32) : ∃ r w1 w2, (isO 10 0 w = some () ∧ fX11_fewest 0 v1 v2 w = some (r, w1)) ∧ (isO 11 202 w1 = some () ∧ fX12_fewest 202 v1 v2 w1 = some (r, w2)) ∧ INV w2 := by
  obtain ⟨I, R, S, N, T, G, U, V, Kp, Y, L, X, W, C, h, h2, tx, FR, PE, CO, SC, TL, UL, KL, SN, rfl, cf, cd, hm, md, ok, okx⟩ := hi
  have o1 := f_o cf.2.1 I
  obtain ⟨J, e1, cd, f1⟩ := C_fewest cf cd ok v1 v2
  have md := MD_hi md f1
  obtain ⟨J2, e2, md, f2⟩ := MM_fewest hm md ok v1 v2
  have cd := CD_lo cf cd (fun p hp => f2 p (by omega))
  exact ⟨_, _, _, ⟨o1, e1⟩, ⟨Mo_o hm J, e2⟩, J2, R, S, N, T, G, U, V, Kp, Y, L, X, W, C, h, h2, tx, FR, PE, CO, SC, TL, UL, KL, SN, rfl, cf, cd, hm, md, ok, okx⟩
theorem st_safe {w : Wd} (hi : INV w) (v1 : Int32) : ∃ r w1 w2, (isO 10 0 w = some () ∧ fX11_safe 0 v1 w = some (r, w1)) ∧ (isO 11 202 w1 = some () ∧ fX12_safe 202 v1 w1 = some (r, w2)) ∧ INV w2 := by
  obtain ⟨I, R, S, N, T, G, U, V, Kp, Y, L, X, W, C, h, h2, tx, FR, PE, CO, SC, TL, UL, KL, SN, rfl, cf, cd, hm, md, ok, okx⟩ := hi
  have o1 := f_o cf.2.1 I
  obtain ⟨J, e1, cd, f1⟩ := C_safe cf cd ok v1
  have md := MD_hi md f1
  obtain ⟨J2, e2, md, f2⟩ := MM_safe hm md ok v1
  have cd := CD_lo cf cd (fun p hp => f2 p (by omega))
  exact ⟨_, _, _, ⟨o1, e1⟩, ⟨Mo_o hm J, e2⟩, J2, R, S, N, T, G, U, V, Kp, Y, L, X, W, C, h, h2, tx, FR, PE, CO, SC, TL, UL, KL, SN, rfl, cf, cd, hm, md, ok, okx⟩
theorem st_hang {w : Wd} (hi : INV w) (v1 : Int32) : ∃ r w1 w2, (isO 10 0 w = some () ∧ fX11_hang 0 v1 w = some (r, w1)) ∧ (isO 11 202 w1 = some () ∧ fX12_hang 202 v1 w1 = some (r, w2)) ∧ INV w2 := by
  obtain ⟨I, R, S, N, T, G, U, V, Kp, Y, L, X, W, C, h, h2, tx, FR, PE, CO, SC, TL, UL, KL, SN, rfl, cf, cd, hm, md, ok, okx⟩ := hi
  have o1 := f_o cf.2.1 I
  have e1 := C_hang cf cd ok okx v1
  have e2 := MM_hang hm md ok okx v1
  exact ⟨_, _, _, ⟨o1, e1⟩, ⟨Mo_o hm I, e2⟩, I, R, S, N, T, G, U, V, Kp, Y, L, X, W, C, h, h2, tx, FR, PE, CO, SC, TL, UL, KL, SN, rfl, cf, cd, hm, md, ok, okx⟩
theorem st_seen {w : Wd} (hi : INV w) (v1 v2 : Int32) : ∃ r w1 w2, (isO 10 0 w = some () ∧ fX11_seen 0 v1 v2 w = some (r, w1)) ∧ (isO 11 202 w1 = some () ∧ fX12_seen 202 v1 v2 w1 = some (r, w2)) ∧ INV w2 := by
  obtain ⟨I, R, S, N, T, G, U, V, Kp, Y, L, X, W, C, h, h2, tx, FR, PE, CO, SC, TL, UL, KL, SN, rfl, cf, cd, hm, md, ok, okx⟩ := hi
  have o1 := f_o cf.2.1 I
  obtain ⟨J, e1, cd, f1⟩ := C_seen cf cd v1 v2
  have md := MD_hi md f1
  obtain ⟨J2, e2, md, f2⟩ := MM_seen hm md v1 v2
  have cd := CD_lo cf cd (fun p hp => f2 p (by omega))
  exact ⟨_, _, _, ⟨o1, e1⟩, ⟨Mo_o hm J, e2⟩, J2, R, S, N, T, G, U, V, Kp, Y, L, X, W, C, h, h2, tx, FR, PE, CO, SC, TL, UL, KL, (aSeen SN v1 v2).2, rfl, cf, cd, hm, md, ok, okx⟩
theorem st_forget {w : Wd} (hi : INV w)  : ∃ r w1 w2, (isO 10 0 w = some () ∧ fX11_forget 0  w = some (r, w1)) ∧ (isO 11 202 w1 = some () ∧ fX12_forget 202  w1 = some (r, w2)) ∧ INV w2 := by
  obtain ⟨I, R, S, N, T, G, U, V, Kp, Y, L, X, W, C, h, h2, tx, FR, PE, CO, SC, TL, UL, KL, SN, rfl, cf, cd, hm, md, ok, okx⟩ := hi
  have o1 := f_o cf.2.1 I
  obtain ⟨J, e1, cd, f1⟩ := C_forget cf cd 
  have md := MD_hi md f1
  obtain ⟨J2, e2, md, f2⟩ := MM_forget hm md 
  have cd := CD_lo cf cd (fun p hp => f2 p (by omega))
  exact ⟨_, _, _, ⟨o1, e1⟩, ⟨Mo_o hm J, e2⟩, J2, R, S, N, T, G, U, V, Kp, Y, L, X, W, C, h, h2, tx, FR, PE, CO, SC, TL, UL, KL, [], rfl, cf, cd, hm, md, ok, okx⟩
theorem st_bears {w : Wd} (hi : INV w) (v1 : Int32) : ∃ r w1 w2, (isO 10 0 w = some () ∧ fX11_bears 0 v1 w = some (r, w1)) ∧ (isO 11 202 w1 = some () ∧ fX12_bears 202 v1 w1 = some (r, w2)) ∧ INV w2 := by
  obtain ⟨I, R, S, N, T, G, U, V, Kp, Y, L, X, W, C, h, h2, tx, FR, PE, CO, SC, TL, UL, KL, SN, rfl, cf, cd, hm, md, ok, okx⟩ := hi
  have o1 := f_o cf.2.1 I
  have e1 := C_bears cf cd v1
  have e2 := MM_bears hm md v1
  exact ⟨_, _, _, ⟨o1, e1⟩, ⟨Mo_o hm I, e2⟩, I, R, S, N, T, G, U, V, Kp, Y, L, X, W, C, h, h2, tx, FR, PE, CO, SC, TL, UL, KL, SN, rfl, cf, cd, hm, md, ok, okx⟩
theorem st_look {w : Wd} (hi : INV w) (v1 v2 : Int32) : ∃ r w1 w2, (isO 10 0 w = some () ∧ fX11_look 0 v1 v2 w = some (r, w1)) ∧ (isO 11 202 w1 = some () ∧ fX12_look 202 v1 v2 w1 = some (r, w2)) ∧ INV w2 := by
  obtain ⟨I, R, S, N, T, G, U, V, Kp, Y, L, X, W, C, h, h2, tx, FR, PE, CO, SC, TL, UL, KL, SN, rfl, cf, cd, hm, md, ok, okx⟩ := hi
  have o1 := f_o cf.2.1 I
  obtain ⟨J, e1, cd, f1⟩ := C_look cf cd v1 v2
  have md := MD_hi md f1
  have e2 := MM_look hm md v1 v2
  exact ⟨_, _, _, ⟨o1, e1⟩, ⟨Mo_o hm J, e2⟩, J, R, S, N, T, G, U, V, Kp, Y, L, X, W, C, h, h2, tx, FR, PE, CO, SC, TL, UL, KL, SN, rfl, cf, cd, hm, md, ok, okx⟩
theorem st_who {w : Wd} (hi : INV w) (v1 v2 : Int32) : ∃ r w1 w2, (isO 10 0 w = some () ∧ fX11_who 0 v1 v2 w = some (r, w1)) ∧ (isO 11 202 w1 = some () ∧ fX12_who 202 v1 v2 w1 = some (r, w2)) ∧ INV w2 := by
  obtain ⟨I, R, S, N, T, G, U, V, Kp, Y, L, X, W, C, h, h2, tx, FR, PE, CO, SC, TL, UL, KL, SN, rfl, cf, cd, hm, md, ok, okx⟩ := hi
  have o1 := f_o cf.2.1 I
  have e1 := C_who cf cd ok v1 v2
  have e2 := MM_who hm md v1 v2
  exact ⟨_, _, _, ⟨o1, e1⟩, ⟨Mo_o hm I, e2⟩, I, R, S, N, T, G, U, V, Kp, Y, L, X, W, C, h, h2, tx, FR, PE, CO, SC, TL, UL, KL, SN, rfl, cf, cd, hm, md, ok, okx⟩
theorem st_ends {w : Wd} (hi : INV w) (v1 v2 v3 v4 : Int32) : ∃ r w1 w2, (isO 10 0 w = some () ∧ fX11_ends 0 v1 v2 v3 v4 w = some (r, w1)) ∧ (isO 11 202 w1 = some () ∧ fX12_ends 202 v1 v2 v3 v4 w1 = some (r, w2)) ∧ INV w2 := by
  obtain ⟨I, R, S, N, T, G, U, V, Kp, Y, L, X, W, C, h, h2, tx, FR, PE, CO, SC, TL, UL, KL, SN, rfl, cf, cd, hm, md, ok, okx⟩ := hi
  have o1 := f_o cf.2.1 I
  have e1 := C_ends cf cd ok v1 v2 v3 v4
  have e2 := MM_ends hm md ok v1 v2 v3 v4
  exact ⟨_, _, _, ⟨o1, e1⟩, ⟨Mo_o hm I, e2⟩, I, R, S, N, T, G, U, V, Kp, Y, L, X, W, C, h, h2, tx, FR, PE, CO, SC, TL, UL, KL, SN, rfl, cf, cd, hm, md, ok, okx⟩
theorem st_wire {w : Wd} (hi : INV w) (v1 v2 v3 v4 v5 v6 : Int32) : ∃ r w1 w2, (isO 10 0 w = some () ∧ fX11_wire 0 v1 v2 v3 v4 v5 v6 w = some (r, w1)) ∧ (isO 11 202 w1 = some () ∧ fX12_wire 202 v1 v2 v3 v4 v5 v6 w1 = some (r, w2)) ∧ INV w2 := by
  obtain ⟨I, R, S, N, T, G, U, V, Kp, Y, L, X, W, C, h, h2, tx, FR, PE, CO, SC, TL, UL, KL, SN, rfl, cf, cd, hm, md, ok, okx⟩ := hi
  have o1 := f_o cf.2.1 I
  obtain ⟨J, R', e1, cf, cd, f1⟩ := C_wire cf cd v1 v2 v3 v4 v5 v6
  have md := MD_hi md (fun p hp => (f1 p hp).1)
  have hm := isMo_ofR hm (fun k a b => (f1 k (by omega)).2)
  obtain ⟨J2, e2, md, f2⟩ := MM_wire hm md v1 v2 v3 v4 v5 v6
  have cd := CD_lo cf cd (fun p hp => f2 p (by omega))
  exact ⟨_, _, _, ⟨o1, e1⟩, ⟨Mo_o hm J, e2⟩, J2, R', S, N, T, G, U, V, Kp, Y, L, X, W, C, h, h2, tx, FR, PE, CO, SC, TL, UL, KL, SN, rfl, cf, cd, hm, md, ok, okx⟩
theorem st_most {w : Wd} (hi : INV w) (v1 : Int32) : ∃ r w1 w2, (isO 10 0 w = some () ∧ fX11_most 0 v1 w = some (r, w1)) ∧ (isO 11 202 w1 = some () ∧ fX12_most 202 v1 w1 = some (r, w2)) ∧ INV w2 := by
  obtain ⟨I, R, S, N, T, G, U, V, Kp, Y, L, X, W, C, h, h2, tx, FR, PE, CO, SC, TL, UL, KL, SN, rfl, cf, cd, hm, md, ok, okx⟩ := hi
  have o1 := f_o cf.2.1 I
  obtain ⟨J, e1, cd, f1⟩ := C_most cf cd ok v1
  have md := MD_hi md f1
  obtain ⟨J2, e2, md, f2⟩ := MM_most hm md ok v1
  have cd := CD_lo cf cd (fun p hp => f2 p (by omega))
  exact ⟨_, _, _, ⟨o1, e1⟩, ⟨Mo_o hm J, e2⟩, J2, R, S, N, T, G, U, V, Kp, Y, L, X, W, C, h, h2, tx, FR, PE, CO, SC, TL, UL, KL, SN, rfl, cf, cd, hm, md, ok, okx⟩
theorem st_patches {w : Wd} (hi : INV w) (v1 : Int32) : ∃ r w1 w2, (isO 10 0 w = some () ∧ fX11_patches 0 v1 w = some (r, w1)) ∧ (isO 11 202 w1 = some () ∧ fX12_patches 202 v1 w1 = some (r, w2)) ∧ INV w2 := by
  obtain ⟨I, R, S, N, T, G, U, V, Kp, Y, L, X, W, C, h, h2, tx, FR, PE, CO, SC, TL, UL, KL, SN, rfl, cf, cd, hm, md, ok, okx⟩ := hi
  have o1 := f_o cf.2.1 I
  obtain ⟨J, e1, cd, f1⟩ := C_patches cf cd ok v1
  have md := MD_hi md f1
  obtain ⟨J2, e2, md, f2⟩ := MM_patches hm md ok v1
  have cd := CD_lo cf cd (fun p hp => f2 p (by omega))
  exact ⟨_, _, _, ⟨o1, e1⟩, ⟨Mo_o hm J, e2⟩, J2, R, S, N, T, G, U, V, Kp, Y, L, X, W, C, h, h2, tx, FR, PE, CO, SC, TL, UL, KL, SN, rfl, cf, cd, hm, md, ok, okx⟩
theorem st_night {w : Wd} (hi : INV w) (v1 v2 : Int32) : ∃ r w1 w2, (isO 10 0 w = some () ∧ fX11_night 0 v1 v2 w = some (r, w1)) ∧ (isO 11 202 w1 = some () ∧ fX12_night 202 v1 v2 w1 = some (r, w2)) ∧ INV w2 := by
  obtain ⟨I, R, S, N, T, G, U, V, Kp, Y, L, X, W, C, h, h2, tx, FR, PE, CO, SC, TL, UL, KL, SN, rfl, cf, cd, hm, md, ok, okx⟩ := hi
  have o1 := f_o cf.2.1 I
  obtain ⟨J, e1, cd, f1⟩ := C_night cf cd ok v1 v2
  have md := MD_hi md f1
  obtain ⟨J2, e2, md, f2⟩ := MM_night hm md ok v1 v2
  have cd := CD_lo cf cd (fun p hp => f2 p (by omega))
  exact ⟨_, _, _, ⟨o1, e1⟩, ⟨Mo_o hm J, e2⟩, J2, R, S, N, T, G, U, V, Kp, Y, L, X, W, C, h, h2, tx, FR, PE, CO, SC, TL, UL, KL, SN, rfl, cf, cd, hm, md, ok, okx⟩
theorem st_keep {w : Wd} (hi : INV w)  : ∃ r w1 w2, (isO 10 0 w = some () ∧ fX11_keep 0  w = some (r, w1)) ∧ (isO 11 202 w1 = some () ∧ fX12_keep 202  w1 = some (r, w2)) ∧ INV w2 := by
  obtain ⟨I, R, S, N, T, G, U, V, Kp, Y, L, X, W, C, h, h2, tx, FR, PE, CO, SC, TL, UL, KL, SN, rfl, cf, cd, hm, md, ok, okx⟩ := hi
  have o1 := f_o cf.2.1 I
  obtain ⟨J, e1, cd, f1⟩ := C_keep cf cd 
  have md := MD_hi md f1
  obtain ⟨J2, e2, md, f2⟩ := MM_keep hm md 
  have cd := CD_lo cf cd (fun p hp => f2 p (by omega))
  exact ⟨_, _, _, ⟨o1, e1⟩, ⟨Mo_o hm J, e2⟩, J2, R, S, N, T, G, U, V, Kp, Y, L, X, W, C, h, h2, tx, FR, PE, CO, SC, TL, UL, (aKeep TL KL).2, SN, rfl, cf, cd, hm, md, (ok_keep ok), okx⟩
theorem st_back {w : Wd} (hi : INV w)  : ∃ r w1 w2, (isO 10 0 w = some () ∧ fX11_back 0  w = some (r, w1)) ∧ (isO 11 202 w1 = some () ∧ fX12_back 202  w1 = some (r, w2)) ∧ INV w2 := by
  obtain ⟨I, R, S, N, T, G, U, V, Kp, Y, L, X, W, C, h, h2, tx, FR, PE, CO, SC, TL, UL, KL, SN, rfl, cf, cd, hm, md, ok, okx⟩ := hi
  have o1 := f_o cf.2.1 I
  obtain ⟨J, e1, cd, f1⟩ := C_back cf cd 
  have md := MD_hi md f1
  obtain ⟨J2, e2, md, f2⟩ := MM_back hm md 
  have cd := CD_lo cf cd (fun p hp => f2 p (by omega))
  exact ⟨_, _, _, ⟨o1, e1⟩, ⟨Mo_o hm J, e2⟩, J2, R, S, N, T, G, U, V, Kp, Y, L, X, W, C, h, h2, tx, FR, PE, CO, SC, (aBack TL UL KL).2.1, (aBack TL UL KL).2.2.1, (aBack TL UL KL).2.2.2, SN, rfl, cf, cd, hm, md, (ok_back ok), okx⟩
theorem st_count {w : Wd} (hi : INV w) (v1 : Int32) : ∃ r w1 w2, (isO 10 0 w = some () ∧ fX11_count 0 v1 w = some (r, w1)) ∧ (isO 11 202 w1 = some () ∧ fX12_count 202 v1 w1 = some (r, w2)) ∧ INV w2 := by
  obtain ⟨I, R, S, N, T, G, U, V, Kp, Y, L, X, W, C, h, h2, tx, FR, PE, CO, SC, TL, UL, KL, SN, rfl, cf, cd, hm, md, ok, okx⟩ := hi
  have o1 := f_o cf.2.1 I
  have e1 := C_count cf cd v1
  have e2 := MM_count hm md v1
  exact ⟨_, _, _, ⟨o1, e1⟩, ⟨Mo_o hm I, e2⟩, I, R, S, N, T, G, U, V, Kp, Y, L, X, W, C, h, h2, tx, FR, PE, CO, SC, TL, UL, KL, SN, rfl, cf, cd, hm, md, ok, okx⟩
