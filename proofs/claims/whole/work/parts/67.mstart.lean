/-! THE START of the reference: the same steps over any world that ends at 202 -/
noncomputable def fX12_init_A (p0 : Nat) (w : Wd) : Option Wd := (pfI 11 0 p0 (4 : Int32) w).bind fun w_1 => (pfR 11 1 p0 (wN w_1) (nw 12 28 w_1)).bind fun w_2 => (pfI 11 2 p0 (3 : Int32) w_2).bind fun w_3 => (pfR 11 3 p0 (wN w_3) (nw 12 10 w_3)).bind fun w_4 => (pfI 11 4 p0 (4 : Int32) w_4).bind fun w_5 => (pfR 11 5 p0 (wN w_5) (nw 12 30 w_5)).bind fun w_6 => (pfR 11 6 p0 (wN w_6) (nw 12 10 w_6)).bind fun w_7 => (pfR 11 7 p0 (wN w_7) (nw 12 25 w_7)).bind fun w_8 => (pfR 11 9 p0 (wN w_8) (nw 12 200 w_8)).bind fun w_9 => (pfR 11 11 p0 (wN w_9) (nw 12 50 w_9)).bind fun w_10 => (pfR 11 13 p0 (wN w_10) (nw 12 16 w_10)).bind fun w_11 => (pfR 11 14 p0 (wN w_11) (nw 12 200 w_11)).bind fun w_12 => (pfR 11 17 p0 (wN w_12) (nw 12 4 w_12)).bind fun w_13 => (pfR 11 19 p0 (wN w_13) (nw 12 28 w_13)).bind fun w_14 => (pfR 11 21 p0 (wN w_14) (nw 12 10 w_14)).bind fun w_15 => (pfR 11 23 p0 (wN w_15) (nw 12 30 w_15)).bind fun w_16 => (pfR 11 24 p0 (wN w_16) (nw 12 25 w_16)).bind fun w_17 => (pfR 11 25 p0 (wN w_17) (nw 12 7 w_17)).bind fun w_18 => (pfR 11 26 p0 (wN w_18) (nw 12 7 w_18)).bind fun w_19 => (pfR 11 27 p0 (wN w_19) (nw 12 5 w_19)).bind fun w_20 => (pfR 11 29 p0 (wN w_20) (nw 12 7 w_20)).bind fun w_21 => (pfR 11 30 p0 (wN w_21) (nw 12 13 w_21)).bind fun w_22 => (pfR 11 31 p0 (wN w_22) (nw 12 5 w_22)).bind fun w_23 => (gfR 11 1 p0 w_23).bind fun r_24 => (fX12_lays r_24 (0 : Int32) (0 : Int32) (3 : Int32) (1 : Int32) w_23).bind fun q_25 => (gfR 11 1 p0 q_25.2).bind fun r_26 => (fX12_lays r_26 (4 : Int32) (0 : Int32) (0 : Int32) (0 : Int32) q_25.2).bind fun q_27 => (gfR 11 1 p0 q_27.2).bind fun r_28 => (fX12_lays r_28 (8 : Int32) (1 : Int32) (-5 : Int32) (0 : Int32) q_27.2).bind fun q_29 => (gfR 11 1 p0 q_29.2).bind fun r_30 => (fX12_lays r_30 (12 : Int32) (1 : Int32) (6 : Int32) (-1 : Int32) q_29.2).bind fun q_31 => (gfR 11 1 p0 q_31.2).bind fun r_32 => (wrI r_32 (11 : Int32) (-4 : Int32) q_31.2).bind fun w_33 => (gfR 11 3 p0 w_33).bind fun r_34 => (fX12_lays r_34 (0 : Int32) (0 : Int32) (2 : Int32) (1 : Int32) w_33).bind fun q_35 => (gfR 11 3 p0 q_35.2).bind fun r_36 => (fX12_lays r_36 (3 : Int32) (1 : Int32) (2 : Int32) (3 : Int32) q_35.2).bind fun q_37 => (gfR 11 5 p0 q_37.2).bind fun r_38 => (fX12_lays r_38 (0 : Int32) (0 : Int32) (8 : Int32) (0 : Int32) q_37.2).bind fun q_39 => (gfR 11 5 p0 q_39.2).bind fun r_40 => (fX12_lays r_40 (3 : Int32) (1 : Int32) (9 : Int32) (0 : Int32) q_39.2).bind fun q_41 => (gfR 11 5 p0 q_41.2).bind fun r_42 => (fX12_lays r_42 (6 : Int32) (1 : Int32) (10 : Int32) (1 : Int32) q_41.2).bind fun q_43 => (gfR 11 5 p0 q_43.2).bind fun r_44 => (fX12_lays r_44 (9 : Int32) (2 : Int32) (8 : Int32) (1 : Int32) q_43.2).bind fun q_45 => (gfR 11 7 p0 q_45.2).bind fun r_46 => (wrI r_46 (0 : Int32) (2 : Int32) q_45.2).bind fun w_47 => (gfR 11 7 p0 w_47).bind fun r_48 => (fX12_lays r_48 (1 : Int32) (1 : Int32) (1 : Int32) (4 : Int32) w_47).bind fun q_49 => (gfR 11 7 p0 q_49.2).bind fun r_50 => (fX12_lays r_50 (4 : Int32) (2 : Int32) (2 : Int32) (-2 : Int32) q_49.2).bind fun q_51 => some (q_51.2)
theorem fM_split (p0 : Nat) (w : Wd) : fX12_init p0 w = (fX12_init_A p0 w).bind fun w => (isO 11 p0 w).bind fun _ => (fX12_orders p0 w).bind fun q => some ((), q.2) := by
  unfold fX12_init fX12_init_A
  simp only [Option.bind_assoc, Option.bind_some]
/-- w is as v from q on, and as u below q -/
def Ag (q : Nat) (u w v : Wd) : Prop := wN w = wN v ∧ q < wN v ∧ (∀ a, q ≤ a → wI w a = wI v a ∧ wR w a = wR v a ∧ wS w a = wS v a) ∧ (∀ a, a < q → wI w a = wI u a ∧ wR w a = wR u a ∧ wS w a = wS u a) ∧ ∀ j r, wR v q j = some r → q ≤ r
section AGREE
variable {q : Nat} {u w v v' : Wd}
theorem ag_pfI {c j p : Nat} {x : Int32} (h : Ag q u w v) (hp : q ≤ p) (e : pfI c j p x v = some v') : ∃ w', pfI c j p x w = some w' ∧ Ag q u w' v' := by
  obtain ⟨⟨c1, c2⟩, rfl⟩ := isn e
  obtain ⟨h1, h2, h3, h4, h5⟩ := h
  refine ⟨(up2 (wI w) p j x, wR w, wS w, wN w), if_pos ⟨by rw [h1]; exact c1, by rw [(h3 p hp).2.2]; exact c2⟩, h1, h2, fun a ha => ⟨?_, (h3 a ha).2.1, (h3 a ha).2.2⟩, fun a ha => ⟨?_, (h4 a ha).2.1, (h4 a ha).2.2⟩, h5⟩
  · funext b
    show up2 (wI w) p j x a b = up2 (wI v) p j x a b
    unfold up2
    rw [(h3 a ha).1]
  · funext b
    show up2 (wI w) p j x a b = wI u a b
    unfold up2
    rw [if_neg (by omega), (h4 a ha).1]
theorem ag_wrI {p : Nat} {i x : Int32} (h : Ag q u w v) (hp : q ≤ p) (e : wrI p i x v = some v') : ∃ w', wrI p i x w = some w' ∧ Ag q u w' v' := by
  obtain ⟨⟨c1, c2, c3⟩, rfl⟩ := isn e
  obtain ⟨h1, h2, h3, h4, h5⟩ := h
  refine ⟨(up2 (wI w) p i.toNatClampNeg x, wR w, wS w, wN w), if_pos ⟨by rw [h1]; exact c1, by rw [(h3 p hp).2.2]; exact c2, by rw [(h3 p hp).2.2]; exact c3⟩, h1, h2, fun a ha => ⟨?_, (h3 a ha).2.1, (h3 a ha).2.2⟩, fun a ha => ⟨?_, (h4 a ha).2.1, (h4 a ha).2.2⟩, h5⟩
  · funext b
    show up2 (wI w) p i.toNatClampNeg x a b = up2 (wI v) p i.toNatClampNeg x a b
    unfold up2
    rw [(h3 a ha).1]
  · funext b
    show up2 (wI w) p i.toNatClampNeg x a b = wI u a b
    unfold up2
    rw [if_neg (by omega), (h4 a ha).1]
theorem ag_pfR {c j p z : Nat} (h : Ag q u w v) (hp : q ≤ p) (hz : q ≤ z) (e : pfR c j p z v = some v') : ∃ w', pfR c j p z w = some w' ∧ Ag q u w' v' := by
  obtain ⟨⟨c1, c2⟩, rfl⟩ := isn e
  obtain ⟨h1, h2, h3, h4, h5⟩ := h
  refine ⟨(wI w, up2 (wR w) p j (some z), wS w, wN w), if_pos ⟨by rw [h1]; exact c1, by rw [(h3 p hp).2.2]; exact c2⟩, h1, h2, fun a ha => ⟨(h3 a ha).1, ?_, (h3 a ha).2.2⟩, fun a ha => ⟨(h4 a ha).1, ?_, (h4 a ha).2.2⟩, fun i r hr => ?_⟩
  · funext b
    show up2 (wR w) p j (some z) a b = up2 (wR v) p j (some z) a b
    unfold up2
    rw [(h3 a ha).2.1]
  · funext b
    show up2 (wR w) p j (some z) a b = wR u a b
    unfold up2
    rw [if_neg (by omega), (h4 a ha).2.1]
  · have hr : up2 (wR v) p j (some z) q i = some r := hr
    unfold up2 at hr
    by_cases g : q = p ∧ i = j
    · rw [if_pos g] at hr
      cases hr
      exact hz
    · rw [if_neg g] at hr
      exact h5 i r hr
theorem ag_nw (c n : Nat) (h : Ag q u w v) : Ag q u (nw c n w) (nw c n v) := by
  obtain ⟨h1, h2, h3, h4, h5⟩ := h
  refine ⟨by show wN w + 1 = wN v + 1; rw [h1], by show q < wN v + 1; omega, fun a ha => ⟨?_, ?_, ?_⟩, fun a ha => ⟨?_, ?_, ?_⟩, fun j r hr => ?_⟩
  · funext b
    show (if wN w ≤ a then (0 : Int32) else wI w a b) = if wN v ≤ a then 0 else wI v a b
    rw [h1, (h3 a ha).1]
  · funext b
    show (if wN w ≤ a then none else wR w a b) = if wN v ≤ a then none else wR v a b
    rw [h1, (h3 a ha).2.1]
  · show (if a < wN w then wS w a else (c, n)) = if a < wN v then wS v a else (c, n)
    rw [h1, (h3 a ha).2.2]
  · rw [nw_I c n (by omega)]; exact (h4 a ha).1
  · rw [nw_R c n (by omega)]; exact (h4 a ha).2.1
  · rw [nw_S c n (by omega)]; exact (h4 a ha).2.2
  · rw [nw_R c n h2] at hr
    exact h5 j r hr
/-- a row is made, and set into the field -/
theorem ag_np {c j n : Nat} (h : Ag q u w v) (e : pfR c j q (wN v) (nw 12 n v) = some v') : ∃ w', pfR c j q (wN w) (nw 12 n w) = some w' ∧ Ag q u w' v' := by
  rw [h.1]
  exact ag_pfR (ag_nw 12 n h) (Nat.le_refl _) (Nat.le_of_lt h.2.1) e
theorem ag_gfR {c j r : Nat} (h : Ag q u w v) (e : gfR c j q v = some r) : gfR c j q w = some r ∧ q ≤ r := by
  obtain ⟨⟨c1, c2⟩, c3⟩ := iso e
  refine ⟨?_, h.2.2.2.2 j r c3⟩
  unfold gfR
  rw [if_pos ⟨by rw [h.1]; exact c1, by rw [(h.2.2.1 q (Nat.le_refl _)).2.2]; exact c2⟩, (h.2.2.1 q (Nat.le_refl _)).2.1]
  exact c3
theorem ag_lays {p : Nat} {a x y z : Int32} {r : Unit × Wd} (h : Ag q u w v) (hp : q ≤ p) (e : fX12_lays p a x y z v = some r) : ∃ r', fX12_lays p a x y z w = some r' ∧ Ag q u r'.2 r.2 := by
  unfold fX12_lays at e ⊢
  obtain ⟨v1, e1, e⟩ := bnd e
  obtain ⟨w1, a1, h⟩ := ag_wrI h hp e1
  rw [a1, Option.bind_some]
  obtain ⟨v2, e2, e⟩ := bnd e
  obtain ⟨w2, a2, h⟩ := ag_wrI h hp e2
  rw [a2, Option.bind_some]
  obtain ⟨v3, e3, e⟩ := bnd e
  obtain ⟨w3, a3, h⟩ := ag_wrI h hp e3
  rw [a3, Option.bind_some]
  have e := Option.some.inj e
  subst e
  exact ⟨_, rfl, h⟩
end AGREE

set_option maxHeartbeats 4000000 in
set_option maxRecDepth 100000 in
theorem mA_sim {u w v vF : Wd} (h : Ag 202 u w v) (hF : fX12_init_A 202 v = some vF) : ∃ w', fX12_init_A 202 w = some w' ∧ Ag 202 u w' vF := by
  unfold fX12_init_A at hF ⊢
  obtain ⟨v1, e1, hF⟩ := bnd hF
  obtain ⟨w1, a1, h⟩ := ag_pfI h (by decide) e1
  rw [a1, Option.bind_some]
  obtain ⟨v2, e2, hF⟩ := bnd hF
  obtain ⟨w2, a2, h⟩ := ag_np h e2
  rw [a2, Option.bind_some]
  obtain ⟨v3, e3, hF⟩ := bnd hF
  obtain ⟨w3, a3, h⟩ := ag_pfI h (by decide) e3
  rw [a3, Option.bind_some]
  obtain ⟨v4, e4, hF⟩ := bnd hF
  obtain ⟨w4, a4, h⟩ := ag_np h e4
  rw [a4, Option.bind_some]
  obtain ⟨v5, e5, hF⟩ := bnd hF
  obtain ⟨w5, a5, h⟩ := ag_pfI h (by decide) e5
  rw [a5, Option.bind_some]
  obtain ⟨v6, e6, hF⟩ := bnd hF
  obtain ⟨w6, a6, h⟩ := ag_np h e6
  rw [a6, Option.bind_some]
  obtain ⟨v7, e7, hF⟩ := bnd hF
  obtain ⟨w7, a7, h⟩ := ag_np h e7
  rw [a7, Option.bind_some]
  obtain ⟨v8, e8, hF⟩ := bnd hF
  obtain ⟨w8, a8, h⟩ := ag_np h e8
  rw [a8, Option.bind_some]
  obtain ⟨v9, e9, hF⟩ := bnd hF
  obtain ⟨w9, a9, h⟩ := ag_np h e9
  rw [a9, Option.bind_some]
  obtain ⟨v10, e10, hF⟩ := bnd hF
  obtain ⟨w10, a10, h⟩ := ag_np h e10
  rw [a10, Option.bind_some]
  obtain ⟨v11, e11, hF⟩ := bnd hF
  obtain ⟨w11, a11, h⟩ := ag_np h e11
  rw [a11, Option.bind_some]
  obtain ⟨v12, e12, hF⟩ := bnd hF
  obtain ⟨w12, a12, h⟩ := ag_np h e12
  rw [a12, Option.bind_some]
  obtain ⟨v13, e13, hF⟩ := bnd hF
  obtain ⟨w13, a13, h⟩ := ag_np h e13
  rw [a13, Option.bind_some]
  obtain ⟨v14, e14, hF⟩ := bnd hF
  obtain ⟨w14, a14, h⟩ := ag_np h e14
  rw [a14, Option.bind_some]
  obtain ⟨v15, e15, hF⟩ := bnd hF
  obtain ⟨w15, a15, h⟩ := ag_np h e15
  rw [a15, Option.bind_some]
  obtain ⟨v16, e16, hF⟩ := bnd hF
  obtain ⟨w16, a16, h⟩ := ag_np h e16
  rw [a16, Option.bind_some]
  obtain ⟨v17, e17, hF⟩ := bnd hF
  obtain ⟨w17, a17, h⟩ := ag_np h e17
  rw [a17, Option.bind_some]
  obtain ⟨v18, e18, hF⟩ := bnd hF
  obtain ⟨w18, a18, h⟩ := ag_np h e18
  rw [a18, Option.bind_some]
  obtain ⟨v19, e19, hF⟩ := bnd hF
  obtain ⟨w19, a19, h⟩ := ag_np h e19
  rw [a19, Option.bind_some]
  obtain ⟨v20, e20, hF⟩ := bnd hF
  obtain ⟨w20, a20, h⟩ := ag_np h e20
  rw [a20, Option.bind_some]
  obtain ⟨v21, e21, hF⟩ := bnd hF
  obtain ⟨w21, a21, h⟩ := ag_np h e21
  rw [a21, Option.bind_some]
  obtain ⟨v22, e22, hF⟩ := bnd hF
  obtain ⟨w22, a22, h⟩ := ag_np h e22
  rw [a22, Option.bind_some]
  obtain ⟨v23, e23, hF⟩ := bnd hF
  obtain ⟨w23, a23, h⟩ := ag_np h e23
  rw [a23, Option.bind_some]
  obtain ⟨r24, e24, hF⟩ := bnd hF
  obtain ⟨a24, hr⟩ := ag_gfR h e24
  rw [a24, Option.bind_some]
  obtain ⟨v25, e25, hF⟩ := bnd hF
  obtain ⟨w25, a25, h⟩ := ag_lays h hr e25
  rw [a25, Option.bind_some]
  obtain ⟨r26, e26, hF⟩ := bnd hF
  obtain ⟨a26, hr⟩ := ag_gfR h e26
  rw [a26, Option.bind_some]
  obtain ⟨v27, e27, hF⟩ := bnd hF
  obtain ⟨w27, a27, h⟩ := ag_lays h hr e27
  rw [a27, Option.bind_some]
  obtain ⟨r28, e28, hF⟩ := bnd hF
  obtain ⟨a28, hr⟩ := ag_gfR h e28
  rw [a28, Option.bind_some]
  obtain ⟨v29, e29, hF⟩ := bnd hF
  obtain ⟨w29, a29, h⟩ := ag_lays h hr e29
  rw [a29, Option.bind_some]
  obtain ⟨r30, e30, hF⟩ := bnd hF
  obtain ⟨a30, hr⟩ := ag_gfR h e30
  rw [a30, Option.bind_some]
  obtain ⟨v31, e31, hF⟩ := bnd hF
  obtain ⟨w31, a31, h⟩ := ag_lays h hr e31
  rw [a31, Option.bind_some]
  obtain ⟨r32, e32, hF⟩ := bnd hF
  obtain ⟨a32, hr⟩ := ag_gfR h e32
  rw [a32, Option.bind_some]
  obtain ⟨v33, e33, hF⟩ := bnd hF
  obtain ⟨w33, a33, h⟩ := ag_wrI h hr e33
  rw [a33, Option.bind_some]
  obtain ⟨r34, e34, hF⟩ := bnd hF
  obtain ⟨a34, hr⟩ := ag_gfR h e34
  rw [a34, Option.bind_some]
  obtain ⟨v35, e35, hF⟩ := bnd hF
  obtain ⟨w35, a35, h⟩ := ag_lays h hr e35
  rw [a35, Option.bind_some]
  obtain ⟨r36, e36, hF⟩ := bnd hF
  obtain ⟨a36, hr⟩ := ag_gfR h e36
  rw [a36, Option.bind_some]
  obtain ⟨v37, e37, hF⟩ := bnd hF
  obtain ⟨w37, a37, h⟩ := ag_lays h hr e37
  rw [a37, Option.bind_some]
  obtain ⟨r38, e38, hF⟩ := bnd hF
  obtain ⟨a38, hr⟩ := ag_gfR h e38
  rw [a38, Option.bind_some]
  obtain ⟨v39, e39, hF⟩ := bnd hF
  obtain ⟨w39, a39, h⟩ := ag_lays h hr e39
  rw [a39, Option.bind_some]
  obtain ⟨r40, e40, hF⟩ := bnd hF
  obtain ⟨a40, hr⟩ := ag_gfR h e40
  rw [a40, Option.bind_some]
  obtain ⟨v41, e41, hF⟩ := bnd hF
  obtain ⟨w41, a41, h⟩ := ag_lays h hr e41
  rw [a41, Option.bind_some]
  obtain ⟨r42, e42, hF⟩ := bnd hF
  obtain ⟨a42, hr⟩ := ag_gfR h e42
  rw [a42, Option.bind_some]
  obtain ⟨v43, e43, hF⟩ := bnd hF
  obtain ⟨w43, a43, h⟩ := ag_lays h hr e43
  rw [a43, Option.bind_some]
  obtain ⟨r44, e44, hF⟩ := bnd hF
  obtain ⟨a44, hr⟩ := ag_gfR h e44
  rw [a44, Option.bind_some]
  obtain ⟨v45, e45, hF⟩ := bnd hF
  obtain ⟨w45, a45, h⟩ := ag_lays h hr e45
  rw [a45, Option.bind_some]
  obtain ⟨r46, e46, hF⟩ := bnd hF
  obtain ⟨a46, hr⟩ := ag_gfR h e46
  rw [a46, Option.bind_some]
  obtain ⟨v47, e47, hF⟩ := bnd hF
  obtain ⟨w47, a47, h⟩ := ag_wrI h hr e47
  rw [a47, Option.bind_some]
  obtain ⟨r48, e48, hF⟩ := bnd hF
  obtain ⟨a48, hr⟩ := ag_gfR h e48
  rw [a48, Option.bind_some]
  obtain ⟨v49, e49, hF⟩ := bnd hF
  obtain ⟨w49, a49, h⟩ := ag_lays h hr e49
  rw [a49, Option.bind_some]
  obtain ⟨r50, e50, hF⟩ := bnd hF
  obtain ⟨a50, hr⟩ := ag_gfR h e50
  rw [a50, Option.bind_some]
  obtain ⟨v51, e51, hF⟩ := bnd hF
  obtain ⟨w51, a51, h⟩ := ag_lays h hr e51
  rw [a51, Option.bind_some]
  have hF := Option.some.inj hF
  subst hF
  exact ⟨_, rfl, h⟩
section MONO
variable {R R' : Nat → Nat → Option Nat} {S S' : Nat → Nat × Nat} {N N' p : Nat}
theorem isT_mono (h : isT R S N p) (hN : N ≤ N') (e : ∀ a, a < N → R' a = R a ∧ S' a = S a) : isT R' S' N' p := by
  obtain ⟨h0, h1, h2, h3, h4, h5, h6, h7⟩ := h
  exact ⟨Nat.lt_of_lt_of_le h0 hN, by rw [(e p (by omega)).2]; exact h1, by rw [(e (p + 1) (by omega)).2]; exact h2, by rw [(e (p + 2) (by omega)).2]; exact h3, by rw [(e (p + 3) (by omega)).2]; exact h4, by rw [(e p (by omega)).1]; exact h5, by rw [(e p (by omega)).1]; exact h6, by rw [(e p (by omega)).1]; exact h7⟩
theorem isTx_mono (h : isTx R S N p) (hN : N ≤ N') (e : ∀ a, a < N → R' a = R a ∧ S' a = S a) : isTx R' S' N' p := by
  obtain ⟨h0, h1, g0⟩ := h
  exact ⟨Nat.lt_of_lt_of_le h0 hN, by rw [(e p (by omega)).2]; exact h1, ⟨by rw [(e (p + 1) (by omega)).2]; exact g0.1, by rw [(e p (by omega)).1]; exact g0.2⟩⟩
theorem isRd_mono (h : isRd R S N p) (hN : N ≤ N') (e : ∀ a, a < N → R' a = R a ∧ S' a = S a) : isRd R' S' N' p := by
  obtain ⟨h0, h1, g0⟩ := h
  exact ⟨Nat.lt_of_lt_of_le h0 hN, by rw [(e p (by omega)).2]; exact h1, ⟨by rw [(e (p + 1) (by omega)).2]; exact g0.1, by rw [(e p (by omega)).1]; exact g0.2⟩⟩
theorem isDy_mono (h : isDy R S N p) (hN : N ≤ N') (e : ∀ a, a < N → R' a = R a ∧ S' a = S a) : isDy R' S' N' p := by
  obtain ⟨h0, h1, g0, g1, g2, g3⟩ := h
  exact ⟨Nat.lt_of_lt_of_le h0 hN, by rw [(e p (by omega)).2]; exact h1, ⟨by rw [(e (p + 1) (by omega)).2]; exact g0.1, by rw [(e p (by omega)).1]; exact g0.2.1, fun d hd => ⟨by rw [(e (p + 2 + d) (by omega)).2]; exact (g0.2.2 d hd).1, by rw [(e (p + 1) (by omega)).1]; exact (g0.2.2 d hd).2⟩⟩, ⟨by rw [(e (p + 33) (by omega)).2]; exact g1.1, by rw [(e p (by omega)).1]; exact g1.2.1, fun d hd => ⟨by rw [(e (p + 34 + d) (by omega)).2]; exact (g1.2.2 d hd).1, by rw [(e (p + 33) (by omega)).1]; exact (g1.2.2 d hd).2⟩⟩, ⟨by rw [(e (p + 65) (by omega)).2]; exact g2.1, by rw [(e p (by omega)).1]; exact g2.2.1, fun d hd => ⟨by rw [(e (p + 66 + d) (by omega)).2]; exact (g2.2.2 d hd).1, by rw [(e (p + 65) (by omega)).1]; exact (g2.2.2 d hd).2⟩⟩, ⟨by rw [(e (p + 97) (by omega)).2]; exact g3.1, by rw [(e p (by omega)).1]; exact g3.2⟩⟩
theorem isLu_mono (h : isLu R S N p) (hN : N ≤ N') (e : ∀ a, a < N → R' a = R a ∧ S' a = S a) : isLu R' S' N' p := by
  obtain ⟨h0, h1, g0, g1, g2, g3, g4⟩ := h
  exact ⟨Nat.lt_of_lt_of_le h0 hN, by rw [(e p (by omega)).2]; exact h1, ⟨by rw [(e (p + 1) (by omega)).2]; exact g0.1, by rw [(e p (by omega)).1]; exact g0.2⟩, ⟨by rw [(e (p + 2) (by omega)).2]; exact g1.1, by rw [(e p (by omega)).1]; exact g1.2⟩, ⟨by rw [(e (p + 3) (by omega)).2]; exact g2.1, by rw [(e p (by omega)).1]; exact g2.2⟩, ⟨by rw [(e (p + 4) (by omega)).2]; exact g3.1, by rw [(e p (by omega)).1]; exact g3.2.1, fun d hd => ⟨by rw [(e (p + 5 + d) (by omega)).2]; exact (g3.2.2 d hd).1, by rw [(e (p + 4) (by omega)).1]; exact (g3.2.2 d hd).2⟩⟩, ⟨by rw [(e (p + 12) (by omega)).2]; exact g4.1, by rw [(e p (by omega)).1]; exact g4.2⟩⟩
theorem isSi_mono (h : isSi R S N p) (hN : N ≤ N') (e : ∀ a, a < N → R' a = R a ∧ S' a = S a) : isSi R' S' N' p := by
  obtain ⟨h0, h1, g0, g1, g2⟩ := h
  exact ⟨Nat.lt_of_lt_of_le h0 hN, by rw [(e p (by omega)).2]; exact h1, ⟨by rw [(e (p + 1) (by omega)).2]; exact g0.1, by rw [(e p (by omega)).1]; exact g0.2⟩, ⟨by rw [(e (p + 2) (by omega)).2]; exact g1.1, by rw [(e p (by omega)).1]; exact g1.2⟩, ⟨by rw [(e (p + 3) (by omega)).2]; exact g2.1, by rw [(e p (by omega)).1]; exact g2.2⟩⟩
theorem isDr_mono (h : isDr R S N p) (hN : N ≤ N') (e : ∀ a, a < N → R' a = R a ∧ S' a = S a) : isDr R' S' N' p := by
  obtain ⟨h0, h1, g0, g1⟩ := h
  exact ⟨Nat.lt_of_lt_of_le h0 hN, by rw [(e p (by omega)).2]; exact h1, ⟨by rw [(e (p + 1) (by omega)).2]; exact g0.1, by rw [(e p (by omega)).1]; exact g0.2⟩, ⟨by rw [(e (p + 2) (by omega)).2]; exact g1.1, by rw [(e p (by omega)).1]; exact g1.2⟩⟩
theorem isHo_mono (h : isHo R S N p) (hN : N ≤ N') (e : ∀ a, a < N → R' a = R a ∧ S' a = S a) : isHo R' S' N' p := by
  obtain ⟨h0, h1, g0, g1, g2, g3, g4, g5, g6, g7, g8, g9⟩ := h
  exact ⟨Nat.lt_of_lt_of_le h0 hN, by rw [(e p (by omega)).2]; exact h1, ⟨by rw [(e (p + 1) (by omega)).2]; exact g0.1, by rw [(e p (by omega)).1]; exact g0.2⟩, ⟨by rw [(e (p + 2) (by omega)).2]; exact g1.1, by rw [(e p (by omega)).1]; exact g1.2⟩, ⟨by rw [(e (p + 3) (by omega)).2]; exact g2.1, by rw [(e p (by omega)).1]; exact g2.2⟩, ⟨by rw [(e (p + 4) (by omega)).2]; exact g3.1, by rw [(e p (by omega)).1]; exact g3.2⟩, ⟨by rw [(e (p + 5) (by omega)).2]; exact g4.1, by rw [(e p (by omega)).1]; exact g4.2⟩, ⟨by rw [(e (p + 6) (by omega)).2]; exact g5.1, by rw [(e p (by omega)).1]; exact g5.2⟩, ⟨by rw [(e (p + 7) (by omega)).2]; exact g6.1, by rw [(e p (by omega)).1]; exact g6.2⟩, ⟨by rw [(e (p + 8) (by omega)).2]; exact g7.1, by rw [(e p (by omega)).1]; exact g7.2⟩, ⟨by rw [(e (p + 9) (by omega)).2]; exact g8.1, by rw [(e p (by omega)).1]; exact g8.2⟩, ⟨by rw [(e p (by omega)).1]; exact g9.1, isT_mono g9.2 hN e⟩⟩
end MONO
section MST
variable {R R' : Nat → Nat → Option Nat} {S S' : Nat → Nat × Nat} {N N' : Nat}
theorem isSh_mono {V n : Nat} (h : isSh R S N V n) (hN : N ≤ N') (e : ∀ a, a < N → R' a = R a ∧ S' a = S a) : isSh R' S' N' V n := by
  obtain ⟨h0, h1, h2, h3, h4, h5, h6⟩ := h
  refine ⟨Nat.lt_of_lt_of_le h0 hN, by rw [(e V (by omega)).2]; exact h1, by rw [(e (V + 1) (by omega)).2]; exact h2, by rw [(e V (by omega)).1]; exact h3, ?_, ?_, fun c hc => isT_mono (h6 c hc) hN e⟩
  · rw [(e (V + 1) (by omega)).1]; exact h4
  · rw [(e (V + 1) (by omega)).1]; exact h5
theorem isCh_mono {c : Nat} (h : isCh R S N c) (hN : N ≤ N') (e : ∀ a, a < N → R' a = R a ∧ S' a = S a) : isCh R' S' N' c := by
  obtain ⟨h0, h1, h2, h3, h4⟩ := h
  refine ⟨Nat.lt_of_lt_of_le h0 hN, by rw [(e c (by omega)).2]; exact h1, by rw [(e (c + 1) (by omega)).2]; exact h2, by rw [(e (c + 2) (by omega)).2]; exact h3, ?_⟩
  rw [(e c (by omega)).1]
  exact h4
theorem CF_mono {T G U V Kp Y L X W C h h2 : Nat} (cf : CF R S N T G U V Kp Y L X W C h h2) (hN : N ≤ N') (e : ∀ a, a < N → R' a = R a ∧ S' a = S a) : CF R' S' N' T G U V Kp Y L X W C h h2 := by
  obtain ⟨a0, a1, a2, a3, a4, a5, a6, a7, a8, a9, a10, a11, a12, a13⟩ := cf
  refine ⟨a0, ?_, isTx_mono a2 hN e, isRd_mono a3 hN e, isT_mono a4 hN e, isSh_mono a5 hN e, isSh_mono a6 hN e, isDy_mono a7 hN e, isLu_mono a8 hN e, isSi_mono a9 hN e, isDr_mono a10 hN e, isCh_mono a11 hN e, isHo_mono a12 hN e, isHo_mono a13 hN e⟩
  obtain ⟨b0, b1⟩ := a1
  refine ⟨Nat.lt_of_lt_of_le b0 hN, ?_⟩
  rw [(e 0 b0).1, (e 0 b0).2]
  exact b1
theorem isMo_ag {q : Nat} (h : isMo R S N q) (eR : R' q = R q) (eS : ∀ a, q ≤ a → S' a = S a) : isMo R' S' N q := by
  unfold isMo at *
  rw [eR, eS q (by omega), eS (q + 1) (by omega), eS (q + 2) (by omega), eS (q + 3) (by omega), eS (q + 4) (by omega), eS (q + 5) (by omega), eS (q + 6) (by omega), eS (q + 7) (by omega), eS (q + 8) (by omega), eS (q + 9) (by omega), eS (q + 10) (by omega), eS (q + 11) (by omega), eS (q + 12) (by omega), eS (q + 13) (by omega), eS (q + 14) (by omega), eS (q + 15) (by omega), eS (q + 16) (by omega), eS (q + 17) (by omega), eS (q + 18) (by omega), eS (q + 19) (by omega), eS (q + 20) (by omega)]
  exact h
end MST
def v0M : Wd := nw 11 0 ((fun _ _ => 0, fun _ _ => none, fun _ => (0, 0), 202) : Wd)
noncomputable def vM : Wd := (fX12_init_A 202 v0M).getD w0
theorem vM_is : (fX12_init_A 202 v0M).isSome = true := by decide +kernel
theorem vM_eq : fX12_init_A 202 v0M = some vM := by
  have h := vM_is
  unfold vM
  cases g : fX12_init_A 202 v0M with
  | none => rw [g] at h; cases h
  | some x => rfl
theorem vM_N : wN vM = 223 := by decide +kernel
theorem vM_mo : isMo (wR vM) (wS vM) 223 202 := ⟨by decide +kernel, by decide +kernel, by decide +kernel, by decide +kernel, by decide +kernel, by decide +kernel, by decide +kernel, by decide +kernel, by decide +kernel, by decide +kernel, by decide +kernel, by decide +kernel, by decide +kernel, by decide +kernel, by decide +kernel, by decide +kernel, by decide +kernel, by decide +kernel, by decide +kernel, by decide +kernel, by decide +kernel, by decide +kernel⟩
theorem vM_co : wI vM 202 4 = nI 4 ∧ ∀ c, c < 4 → wI vM 205 (3 * c + 1) = (hs0.2.2.1.getD c c3).2.1 := by decide +kernel
theorem vM_a : wI vM 202 0 = nI 4 ∧ wI vM 202 2 = nI 3 ∧ wI vM 202 4 = nI 4 ∧ wI vM 207 0 = nI 2 := by decide +kernel
theorem vM_b : ∀ k, k < 4 → wI vM 203 (4 * k) = (hs0.1.getD k f4).1 ∧ wI vM 203 (4 * k + 1) = (hs0.1.getD k f4).2.1 ∧ wI vM 203 (4 * k + 2) = (hs0.1.getD k f4).2.2.1 ∧ wI vM 203 (4 * k + 3) = (hs0.1.getD k f4).2.2.2 := by decide +kernel
theorem vM_c : ∀ i, i < 3 → wI vM 204 (2 * i) = (hs0.2.1.getD i p2).1 ∧ wI vM 204 (2 * i + 1) = (hs0.2.1.getD i p2).2 := by decide +kernel
theorem vM_d : ∀ c, c < 4 → wI vM 205 (3 * c) = nI (hs0.2.2.1.getD c c3).1 ∧ wI vM 205 (3 * c + 1) = (hs0.2.2.1.getD c c3).2.1 ∧ wI vM 205 (3 * c + 2) = (hs0.2.2.1.getD c c3).2.2 := by decide +kernel
theorem vM_e : ∀ k, k < 2 → wI vM 207 (1 + 3 * k) = (hs0.2.2.2.getD k t3).1 ∧ wI vM 207 (1 + 3 * k + 1) = nI (hs0.2.2.2.getD k t3).2.1 ∧ wI vM 207 (1 + 3 * k + 2) = (hs0.2.2.2.getD k t3).2.2 := by decide +kernel
theorem vM_f : wI vM 202 15 = nI 0 ∧ wI vM 202 8 = nI 0 ∧ wI vM 202 10 = nI 0 ∧ wI vM 202 12 = nI 0 := by decide +kernel
theorem ok0 : okHS hs0 := by
  have h := lay0
  unfold aLayS at h
  cases g : prsA strB with
  | inl k => rw [g] at h; cases h
  | inr hs =>
    rw [g] at h
    have h : (if hs.1.length = 0 then none else some hs) = some hs0 := h
    by_cases c : hs.1.length = 0
    · rw [if_pos c] at h; cases h
    · rw [if_neg c] at h
      cases h
      exact prs_ok strB _ _ _ _ okHS_0 g
/-- THE START, both -/
def INV (w : Wd) : Prop := ∃ (I : Nat → Nat → Int32) (R : Nat → Nat → Option Nat) (S : Nat → Nat × Nat) (N T G U V Kp Y L X W C h h2 : Nat) (tx : List Int32) (FR : List F4) (PE : List P2) (CO SC : List C3) (TL : List T3) (UL KL : List (List T3)) (SN : List P2), w = (I, R, S, N) ∧ CF R S N T G U V Kp Y L X W C h h2 ∧ CD I R T U V Kp Y X h tx FR PE SC TL UL KL SN ∧ isMo R S N 202 ∧ MD I 202 tx FR PE CO SC TL UL KL SN ∧ okS FR PE SC TL UL KL ∧ okX FR CO SC
/-- what a house that was told keeps -/
theorem okS_hs {hs : HS} (ok : okHS hs) (h0 : hs.1.length ≠ 0) : okS hs.1 hs.2.1 (bkt hs.2.2.1) hs.2.2.2 [] [] ∧ okX hs.1 hs.2.2.1 (bkt hs.2.2.1) := by
  have hp := okHS_p ok
  obtain ⟨⟨a1, a2, a3, a4⟩, b, c, d, e⟩ := ok
  refine ⟨⟨⟨by omega, a1, a2, by rw [hp.length_eq]; exact a3⟩, b, fun k hk => ?_, d, nolt, nolt⟩, e, hp⟩
  rw [List.getD_eq_getElem?_getD, List.getElem?_eq_getElem hk]
  exact (c _ (hp.mem_iff.mp (List.getElem_mem hk))).1
theorem mod_start {J : Nat → Nat → Int32} {R : Nat → Nat → Option Nat} {S : Nat → Nat × Nat} (cf : CF R S 202 1 3 5 9 43 53 151 164 168 171 188 174) (cd : CD J R 1 5 9 43 53 164 188 [] hs0.1 hs0.2.1 (bkt hs0.2.2.1) hs0.2.2.2 [] [] []) : ∃ w, fX12_init 202 (nw 11 0 (J, R, S, 202)) = some ((), w) ∧ INV w := by
  have h : Ag 202 (J, R, S, 202) (nw 11 0 (J, R, S, 202)) v0M := by
    refine ⟨rfl, by decide, fun a ha => ⟨?_, ?_, ?_⟩, fun a ha => ⟨nw_I 11 0 ha, nw_R 11 0 ha, nw_S 11 0 ha⟩, fun j r hr => ?_⟩
    · funext b
      show (if 202 ≤ a then (0 : Int32) else J a b) = if 202 ≤ a then 0 else 0
      rw [if_pos ha, if_pos ha]
    · funext b
      show (if 202 ≤ a then none else R a b) = if 202 ≤ a then none else none
      rw [if_pos ha, if_pos ha]
    · show (if a < 202 then S a else (11, 0)) = if a < 202 then (0, 0) else (11, 0)
      rw [if_neg (by omega), if_neg (by omega)]
    · have hr : (none : Option Nat) = some r := hr
      cases hr
  obtain ⟨w', a1, g1, g2, g3, g4, g5⟩ := mA_sim h vM_eq
  rw [vM_N] at g1
  have hw : w' = (wI w', wR w', wS w', 223) := (Wd_eta w').trans (congrArg (fun n => (wI w', wR w', wS w', n)) g1)
  have hm : isMo (wR w') (wS w') 223 202 := isMo_ag vM_mo (g3 202 (by omega)).2.1 (fun a ha => (g3 a ha).2.2)
  have cf' : CF (wR w') (wS w') 223 1 3 5 9 43 53 151 164 168 171 188 174 := CF_mono cf (by omega) (fun a ha => ⟨(g4 a ha).2.1, (g4 a ha).2.2⟩)
  have hI : ∀ a, 202 ≤ a → wI w' a = wI vM a := fun a ha => (g3 a ha).1
  have hco : coAt (wI w') 202 hs0.2.2.1 := by
    refine ⟨by decide, ?_, ?_⟩
    · rw [hI 202 (by omega)]; exact vM_co.1
    · rw [hI (202 + 3) (by omega)]; exact vM_co.2
  have hp := okHS_p ok0
  obtain ⟨J', b1, b2, b3⟩ := M_orders hm hp hco
  have hl : (bkt hs0.2.2.1).length = hs0.2.2.1.length := hp.length_eq
  refine ⟨(J', wR w', wS w', 223), ?_, J', wR w', wS w', 223, 1, 3, 5, 9, 43, 53, 151, 164, 168, 171, 188, 174, [], hs0.1, hs0.2.1, hs0.2.2.1, bkt hs0.2.2.1, hs0.2.2.2, [], [], [], rfl, cf', ?_, hm, ?_, (okS_hs ok0 (by decide)).1, (okS_hs ok0 (by decide)).2⟩
  · rw [fM_split, a1, Option.bind_some]
    have k1 : isO 11 202 w' = some () := by rw [hw]; exact Mo_o hm _
    have k2 : fX12_orders 202 w' = some ((), (J', wR w', wS w', 223)) := (congrArg (fX12_orders 202) hw).trans b1
    rw [k1, Option.bind_some, k2, Option.bind_some]
  · have cd2 : CD J (wR w') 1 5 9 43 53 164 188 [] hs0.1 hs0.2.1 (bkt hs0.2.2.1) hs0.2.2.2 [] [] [] := by
      unfold CD ShAt at *
      rw [(g4 (9 + 1) (by omega)).2.1, (g4 (43 + 1) (by omega)).2.1]
      exact cd
    refine CD_scr cf' cd2 (fun p hp => ?_)
    rw [b3 p (by omega), (g4 p (by omega)).1]
    rfl
  · have e : ∀ a, 202 ≤ a → a ≠ 206 → J' a = wI vM a := fun a h1 h2 => by rw [b3 a h2, hI a h1]
    refine ⟨⟨⟨by decide, by decide, by decide, by decide, hl⟩, ?_, ?_, ?_, ?_, b2, ?_⟩, ⟨Nat.zero_le _, ?_, nolt⟩, ⟨Nat.zero_le _, ?_, nolt⟩, ⟨Nat.zero_le _, ?_, nolt⟩, ⟨Nat.zero_le _, ?_, nolt⟩⟩
    · rw [e 202 (by omega) (by omega), e (202 + 5) (by omega) (by omega)]; exact vM_a
    · rw [e (202 + 1) (by omega) (by omega)]; exact vM_b
    · rw [e (202 + 2) (by omega) (by omega)]; exact vM_c
    · rw [e (202 + 3) (by omega) (by omega)]; exact vM_d
    · rw [e (202 + 5) (by omega) (by omega)]; exact vM_e
    · rw [e 202 (by omega) (by omega)]; exact vM_f.1
    · rw [e 202 (by omega) (by omega)]; exact vM_f.2.1
    · rw [e 202 (by omega) (by omega)]; exact vM_f.2.2.1
    · rw [e 202 (by omega) (by omega)]; exact vM_f.2.2.2

