theorem bkt_nil : bkt [] = [] := by
  unfold bkt bkN
  rw [List.flatMap_eq_nil_iff]
  intro x _
  rfl
theorem bkt_perm : ∀ (n : Nat) (CO : List C3), CO.length = n → (∀ c, c ∈ CO → ∃ h, h < 24 ∧ c.2.1 = nI h) → (bkt CO).Perm CO := by
  intro n
  induction n with
  | zero =>
    intro CO h _
    rw [List.length_eq_zero_iff] at h
    subst h
    rw [bkt_nil]
  | succ n ih =>
    intro CO h hc
    rcases List.eq_nil_or_concat CO with rfl | ⟨L, b, rfl⟩
    · simp at h
    · rw [List.concat_eq_append] at h hc ⊢
      obtain ⟨h0, h1, h2⟩ := hc b (by simp)
      obtain ⟨b1, b2⟩ := bkt_app (CO := L) h2 h1
      have hL := ih L (by simp at h; omega) (fun c hc' => hc c (by simp [hc']))
      rw [b1]
      rw [b2] at hL
      exact List.perm_middle.trans ((hL.cons b).trans (List.perm_append_comm (l₁ := [b]) (l₂ := L)))
theorem okHS_p {hs : HS} (ok : okHS hs) : (bkt hs.2.2.1).Perm hs.2.2.1 := bkt_perm _ _ rfl (fun c hc => (ok.2.2.1 c hc).2)
theorem okHS_l {hs : HS} (ok : okHS hs) : (bkt hs.2.2.1).length = hs.2.2.1.length := (okHS_p ok).length_eq
theorem okS_HS {hs : HS} (ok : okHS hs) (h0 : 0 < hs.1.length) : okS hs.1 hs.2.1 (bkt hs.2.2.1) hs.2.2.2 [] [] ∧ okX hs.1 hs.2.2.1 (bkt hs.2.2.1) := by
  have hp := okHS_p ok
  have hl := okHS_l ok
  obtain ⟨⟨l1, l2, l3, l4⟩, o2, o3, o4, o5⟩ := ok
  refine ⟨⟨⟨h0, l1, l2, by rw [hl]; exact l3⟩, o2, ?_, o4, fun j hj => by simp at hj, fun j hj => by simp at hj⟩, o5, hp⟩
  intro c hc
  have h1 : (bkt hs.2.2.1).getD c c3 ∈ bkt hs.2.2.1 := by rw [gD hc]; exact List.getElem_mem hc
  exact (o3 _ (hp.mem_iff.mp h1)).1
def aLayS (tx : List Int32) : Option HS := match prsA tx with
  | Sum.inl _ => none
  | Sum.inr hs => if hs.1.length = 0 then none else some hs
def aLay (tx : List Int32) : Int32 := match aLayS tx with
  | none => -2
  | some hs => nI hs.1.length
section LAY
variable {R : Nat → Nat → Option Nat} {S : Nat → Nat × Nat} {N T G U V Kp Y L X W C h h2 : Nat} {I : Nat → Nat → Int32} {tx : List Int32} {FR : List F4} {PE : List P2} {CO SC : List C3} {TL TT : List T3} {UL KL : List (List T3)} {SN : List P2}
theorem C_take (hG : isRd R S N G) (hh : isHo R S N h) {J : Nat → Nat → Int32} {hs : HS} (ok : okHS hs) (d : HAt J h hs.1 hs.2.1 (bkt hs.2.2.1) hs.2.2.2) {c : Int32} (hc : ¬ wnt c = 0) {x y z : Nat} (hx : x < 100) (hy : y < 100) (hz : z < 100) (x0 : J (G + 1) 0 = nI x) (x1 : J (G + 1) 1 = nI y) (x2 : wnt c = 3 → J (G + 1) 2 = nI z) :
    ∃ J', (∀ p, (p < h ∨ h + 13 < p) → J' p = J p) ∧ ((∃ hs', stp hs c x y z = some hs' ∧ fX4_take h c (G + 1) (J, R, S, N) = some (1, (J', R, S, N)) ∧ HAt J' h hs'.1 hs'.2.1 (bkt hs'.2.2.1) hs'.2.2.2) ∨ (stp hs c x y z = none ∧ fX4_take h c (G + 1) (J, R, S, N) = some (0, (J', R, S, N)))) := by
  have r0 : rdI (G + 1) 0 (J, R, S, N) = some (nI x) := by rw [← x0, z0]; exact Rd_r0 hG J (by omega)
  have r1 : rdI (G + 1) 1 (J, R, S, N) = some (nI y) := by rw [← x1, z1]; exact Rd_r0 hG J (by omega)
  have r2 : rdI (G + 1) 2 (J, R, S, N) = some (J (G + 1) 2) := by rw [z2]; exact Rd_r0 hG J (by omega)
  have hlen := okHS_l ok
  rw [fX4_take, r0, bS, r1, bS, r2, bS]
  unfold stp
  by_cases k1 : c = 99
  · rw [if_pos k1, if_pos k1]
    obtain ⟨J', e1, ⟨e2, e3, e4⟩ | ⟨e2, e3⟩⟩ := C_takePatch (R := R) (S := S) (N := N) hh d (show x < 1000 by omega) (show y < 1000 by omega)
    · exact ⟨J', e1, Or.inl ⟨_, if_pos e2, by rw [Ho_o hh, bS, e3, bS, bz1, bS], e4⟩⟩
    · exact ⟨J', e1, Or.inr ⟨if_neg e2, by rw [Ho_o hh, bS, e3, bS, bz0, bS]⟩⟩
  rw [if_neg k1, if_neg k1]
  by_cases k2 : c = 102
  · rw [if_pos k2, if_pos k2]
    obtain ⟨J', e1, ⟨e2, e3, e4⟩ | ⟨e2, e3⟩⟩ := C_takeFrame (R := R) (S := S) (N := N) hh d (show x < 1000 by omega) (show y < 1000 by omega)
    · exact ⟨J', e1, Or.inl ⟨_, if_pos e2, by rw [Ho_o hh, bS, e3, bS, bz1, bS], e4⟩⟩
    · exact ⟨J', e1, Or.inr ⟨if_neg e2, by rw [Ho_o hh, bS, e3, bS, bz0, bS]⟩⟩
  rw [if_neg k2, if_neg k2]
  by_cases k3 : c = 110
  · have y2 := x2 (by rw [k3]; decide)
    rw [if_pos k3, if_pos k3, y2]
    obtain ⟨J', e1, ⟨e2, e3, e4⟩ | ⟨e2, e3⟩⟩ := C_takeTurn (R := R) (S := S) (N := N) hh d (show x < 1000 by omega) (show y < 1000 by omega) (show z < 1000 by omega)
    · exact ⟨J', e1, Or.inl ⟨_, if_pos e2, by rw [Ho_o hh, bS, e3, bS, bz1, bS], e4⟩⟩
    · exact ⟨J', e1, Or.inr ⟨if_neg e2, by rw [Ho_o hh, bS, e3, bS, bz0, bS]⟩⟩
  rw [if_neg k3, if_neg k3]
  by_cases k4 : c = 112
  · rw [if_pos k4, if_pos k4]
    obtain ⟨J', e1, ⟨e2, e3, e4⟩ | ⟨e2, e3⟩⟩ := C_takePerson (R := R) (S := S) (N := N) hh d (show x < 1000 by omega) (show y < 1000 by omega)
    · exact ⟨J', e1, Or.inl ⟨_, if_pos e2, by rw [Ho_o hh, bS, e3, bS, bz1, bS], e4⟩⟩
    · exact ⟨J', e1, Or.inr ⟨if_neg e2, by rw [Ho_o hh, bS, e3, bS, bz0, bS]⟩⟩
  rw [if_neg k4, if_neg k4]
  by_cases k5 : c = 116
  · rw [if_pos k5, if_pos k5]
    obtain ⟨J', e1, ⟨e2, e3, e4⟩ | ⟨e2, e3⟩⟩ := C_takeWire (R := R) (S := S) (N := N) hh d (show x < 1000 by omega) (show y < 1000 by omega)
    · exact ⟨J', e1, Or.inl ⟨_, if_pos e2, by rw [Ho_o hh, bS, e3, bS, bz1, bS], e4⟩⟩
    · exact ⟨J', e1, Or.inr ⟨if_neg e2, by rw [Ho_o hh, bS, e3, bS, bz0, bS]⟩⟩
  rw [if_neg k5, if_neg k5]
  by_cases k6 : c = 119
  · have y2 := x2 (by rw [k6]; decide)
    rw [if_pos k6, if_pos k6, y2]
    obtain ⟨J', e1, ⟨e2, e3, e4⟩ | ⟨e2, e3⟩⟩ := C_takeComing (R := R) (S := S) (N := N) hh d (show x < 1000 by omega) (show y < 1000 by omega) (show z < 1000 by omega) hlen
    · exact ⟨J', e1, Or.inl ⟨_, if_pos e2, by rw [Ho_o hh, bS, e3, bS, bz1, bS], e4⟩⟩
    · exact ⟨J', e1, Or.inr ⟨if_neg e2, by rw [Ho_o hh, bS, e3, bS, bz0, bS]⟩⟩
  exact absurd (by unfold wnt; rw [if_neg k1, if_neg k2, if_neg k3, if_neg k4, if_neg k5, if_neg k6]) hc
theorem C_raA (hG : isRd R S N G) (hT : isTx R S N T) (hh : isHo R S N h) (o : T + 1 < G) (o2 : G + 1 < h) (K1 : Int32 → Wd → Option (Int32 × Wd)) (K0 : Wd → Option (Int32 × Wd)) : ∀ (n f k it : Nat) (J : Nat → Nat → Int32) (hs : HS), tx.length < k + n → n < f → it ≤ k → k ≤ tx.length → okHS hs → TxAt J T tx → J G 1 = nI k → HAt J h hs.1 hs.2.1 (bkt hs.2.2.1) hs.2.2.2 →
    ∃ J', (∀ p, p ≠ G → p ≠ G + 1 → (p < h ∨ h + 13 < p) → J' p = J p) ∧ ((∃ e, prs tx n k hs = Sum.inl e ∧ fX6_readAll_11 G T h K1 K0 f (nI it) (J, R, S, N) = K1 (nI e) (J', R, S, N)) ∨ (∃ hs', prs tx n k hs = Sum.inr hs' ∧ fX6_readAll_11 G T h K1 K0 f (nI it) (J, R, S, N) = K0 (J', R, S, N) ∧ HAt J' h hs'.1 hs'.2.1 (bkt hs'.2.2.1) hs'.2.2.2)) := by
  intro n
  induction n with
  | zero => intro f k it J hs h1 h2 h3 h4; omega
  | succ n ih =>
    intro f k it J hs h1 h2 h3 h4 ok d hJ dH
    obtain ⟨f, rfl⟩ : ∃ n', f = n' + 1 := ⟨f - 1, by omega⟩
    have d0 := d.1
    unfold prs
    rw [fX6_readAll_11]
    by_cases c1 : k < tx.length
    · rw [if_pos c1, if_neg (show ¬ (200 : Int32) ≤ nI it by rw [z200]; exact nI_ge (by omega) (by omega)), Rd_g hG, bS, hJ, Tx_g hT, bS, d.2.1, if_neg (nI_ge c1 (by omega)), bS, Rd_o hG, bS]
      obtain ⟨J1, f1, ⟨g1, g2⟩ | ⟨g1, r, g2, g3, g4, g5⟩⟩ := C_readItem hG hT o d c1 hJ
      · have hi : itm tx k hs = none := by
          unfold itm
          rcases g1 with g1 | g1
          · rw [if_pos g1]
          · split
            · rfl
            · rw [g1]
        refine ⟨J1, fun p a b _ => f1 p a b, Or.inl ⟨k, by rw [hi], ?_⟩⟩
        rw [g2, bS]
        exact if_pos rfl
      · obtain ⟨l1, l2, l3⟩ := rds_le tx _ _ _ g2
        have l4 := rds_gt tx _ _ _ g2
        have hw := wnt_le (tx.getD k 0)
        have hw2 : 2 ≤ wnt (tx.getD k 0) := by
          revert g1
          unfold wnt
          repeat (first | (intro; omega) | split)
        have hb : ∀ i, r.1.getD i 0 < 100 := fun i => by
          by_cases c : i < wnt (tx.getD k 0)
          · exact l3 i c
          · rw [List.getD_eq_getElem?_getD, List.getElem?_eq_none (by omega)]
            decide
        have d1 : TxAt J1 T tx := d.of (f1 _ (by omega) (by omega)) (f1 _ (by omega) (by omega))
        have dH1 := dH.of (fun p a b => f1 p (by omega) (by omega))
        have hlt : fX9_letterAt T (nI k) (J1, R, S, N) = some (tx.getD k 0, (J1, R, S, N)) := by rw [X_letterAt hT d1 k (by omega), if_pos c1]
        obtain ⟨J2, f2, k1⟩ := C_take (R := R) (S := S) (N := N) hG hh ok dH1 g1 (hb 0) (hb 1) (hb 2) (g5 0 (by omega)) (g5 1 (by omega)) (fun e => g5 2 (by omega))
        have f12 : ∀ p, p ≠ G → p ≠ G + 1 → (p < h ∨ h + 13 < p) → J2 p = J p := fun p a b c => by rw [f2 p c, f1 p a b]
        rw [g3, bS, if_neg i10, Tx_o hT, bS, hlt, bS, Rd_0 hG, bS, Ho_o hh, bS]
        rcases k1 with ⟨hs', e1, e2, e3⟩ | ⟨e1, e2⟩
        · have hi : itm tx k hs = some (hs', r.2) := by
            unfold itm
            rw [if_neg g1, g2]
            simp only
            rw [e1]
            rfl
          have hl2 := l2 (by omega)
          obtain ⟨J', m1, m2⟩ := ih f r.2 (it + 1) J2 hs' (by omega) (by omega) (by omega) hl2 (itm_ok ok hi) (d1.of (f2 _ (by omega)) (f2 _ (by omega))) (by rw [f2 _ (by omega)]; exact g4) e3
          refine ⟨J', fun p a b c => by rw [m1 p a b c, f12 p a b c], ?_⟩
          rw [hi, e2, bS, if_neg i10, nI_i1]
          exact m2
        · have hi : itm tx k hs = none := by
            unfold itm
            rw [if_neg g1, g2]
            simp only
            rw [e1]
            rfl
          refine ⟨J2, f12, Or.inl ⟨k, by rw [hi], ?_⟩⟩
          rw [e2, bS]
          exact if_pos rfl
    · refine ⟨J, fun _ _ _ _ => rfl, Or.inr ⟨hs, by rw [if_neg c1], ?_, dH⟩⟩
      by_cases c2 : it < 200
      · rw [if_neg (show ¬ (200 : Int32) ≤ nI it by rw [z200]; exact nI_ge (by omega) (by omega)), Rd_g hG, bS, hJ, Tx_g hT, bS, d.2.1, if_pos (nI_le (by omega) (by omega))]
      · rw [if_pos (show (200 : Int32) ≤ nI it by rw [z200]; exact nI_le (by omega) (by omega))]
theorem C_readAll (hG : isRd R S N G) (hT : isTx R S N T) (hh : isHo R S N h) (o : T + 1 < G) (o2 : G + 1 < h) {J : Nat → Nat → Int32} (d : TxAt J T tx) : ∃ J', (∀ p, p ≠ G → p ≠ G + 1 → (p < h ∨ h + 13 < p) → J' p = J p) ∧ fX6_readAll G T h (J, R, S, N) = some (aFault tx, (J', R, S, N)) ∧ ∀ hs, prsA tx = Sum.inr hs → HAt J' h hs.1 hs.2.1 (bkt hs.2.2.1) hs.2.2.2 := by
  have d0 := d.1
  have hTT := Ho_T hh
  obtain ⟨J1, hJ1⟩ : ∃ J1, J1 = up1 J h (upd (J h) 4 0) := ⟨_, rfl⟩
  obtain ⟨J2, hJ2⟩ : ∃ J2, J2 = up1 J1 h (upd (J1 h) 7 0) := ⟨_, rfl⟩
  obtain ⟨J3, hJ3⟩ : ∃ J3, J3 = up1 J2 h (upd (J2 h) 11 0) := ⟨_, rfl⟩
  obtain ⟨J4, hJ4⟩ : ∃ J4, J4 = up1 J3 (h + 10) (upd (J3 (h + 10)) 3 0) := ⟨_, rfl⟩
  obtain ⟨J5, hJ5⟩ : ∃ J5, J5 = up1 J4 G (upd (J4 G) 1 0) := ⟨_, rfl⟩
  have w1 : pfI 3 4 h 0 (J, R, S, N) = some (J1, R, S, N) := by rw [hJ1]; exact Ho_p hh J _ _
  have w2 : pfI 3 7 h 0 (J1, R, S, N) = some (J2, R, S, N) := by rw [hJ2]; exact Ho_p hh J1 _ _
  have w3 : pfI 3 11 h 0 (J2, R, S, N) = some (J3, R, S, N) := by rw [hJ3]; exact Ho_p hh J2 _ _
  have w4 : pfI 9 3 (h + 10) 0 (J3, R, S, N) = some (J4, R, S, N) := by rw [hJ4]; exact T_p hTT J3 _ _
  have w5 : pfI 5 1 G 0 (J4, R, S, N) = some (J5, R, S, N) := by rw [hJ5]; exact Rd_p hG J4 _ _
  have ff : ∀ p, p ≠ h → p ≠ h + 10 → p ≠ G → J5 p = J p := fun p a b c => by rw [hJ5, up1_n _ _ c, hJ4, up1_n _ _ b, hJ3, up1_n _ _ a, hJ2, up1_n _ _ a, hJ1, up1_n _ _ a]
  have yh : J5 h = upd (upd (upd (J h) 4 0) 7 0) 11 0 := by rw [hJ5, up1_n _ _ (by omega), hJ4, up1_n _ _ (by omega), hJ3, up1_s, hJ2, up1_s, hJ1, up1_s]
  have dH : HAt J5 h [] [] (bkt []) [] := by
    rw [bkt_nil]
    refine ⟨by simp, ?_, fun k hk => by simp at hk, fun k hk => by simp at hk, fun k hk => by simp at hk, by simp, ?_, fun k hk => by simp at hk⟩
    · rw [yh]
      refine ⟨?_, ?_, ?_⟩ <;> simp [upd] <;> decide
    · rw [hJ5, up1_n _ _ (by omega), hJ4, up1_s]
      simp [upd]
      decide
  obtain ⟨J', e1, e2⟩ := C_raA (R := R) (S := S) (N := N) hG hT hh o o2 (fun (v4_19 : Int32) (w_18 : Wd) => some (v4_19, w_18)) (fun (w_20 : Wd) => some ((-4 : Int32), w_20)) (tx.length + 1) FV 0 0 J5 ([], [], [], []) (by omega) (FV_lt (by omega)) (by omega) (by omega) okHS_0 (d.of (ff _ (by omega) (by omega) (by omega)) (ff _ (by omega) (by omega) (by omega))) (by rw [hJ5, up1_s]; simp [upd]; decide) dH
  rw [← z0] at e2
  refine ⟨J', fun p a b c => by rw [e1 p a b c, ff p (by omega) (by omega) a], ?_, ?_⟩
  · rw [fX6_readAll, Ho_o hh, bS, fX4_empty, w1, bS, w2, bS, w3, bS, Ho_12 hh, bS, w4, bS, bS, w5, bS]
    unfold aFault
    rcases e2 with ⟨e, e3, e4⟩ | ⟨hs', e3, e4, e5⟩
    · rw [show prsA tx = Sum.inl e from e3]
      exact e4
    · rw [show prsA tx = Sum.inr hs' from e3]
      exact e4
  · intro hs hp
    rcases e2 with ⟨e, e3, e4⟩ | ⟨hs', e3, e4, e5⟩
    · rw [show prsA tx = Sum.inl e from e3] at hp
      cases hp
    · rw [show prsA tx = Sum.inr hs' from e3] at hp
      cases hp
      exact e5
theorem C_fault (cf : CF R S N T G U V Kp Y L X W C h h2) (cd : CD I R T U V Kp Y X h tx FR PE SC TL UL KL SN) : ∃ J, fX11_fault 0 (I, R, S, N) = some (aFault tx, (J, R, S, N)) ∧ CD J R T U V Kp Y X h tx FR PE SC TL UL KL SN ∧ ∀ p, 201 < p → J p = I p := by
  have cf0 := cf
  obtain ⟨pl, cf1, hT, hG, hU, hV, hK, hY, hL, hX, hW, hC, hH, hH2⟩ := cf
  obtain ⟨p1, p2, p3, p4, p5, p6, p7, p8, p9, p10, p11⟩ := pl
  obtain ⟨J, e1, e2, -⟩ := C_readAll (R := R) (S := S) (N := N) hG hT hH2 (by omega) (by omega) cd.1
  refine ⟨J, ?_, CD_scr cf0 cd (fun p hp => e1 p (by omega) (by omega) (by omega)), fun p hp => e1 p (by omega) (by omega) (by omega)⟩
  rw [fX11_fault, f_1 cf1, bS, f_0 cf1, bS, f_11 cf1, bS, Rd_o hG, bS, e2, bS]
theorem aFault_4 (tx : List Int32) (ht : tx.length ≤ 200) : aFault tx = -4 ↔ ∃ hs, prsA tx = Sum.inr hs := by
  unfold aFault
  cases h : prsA tx with
  | inl k =>
    have := prs_lt tx _ _ _ _ h
    exact ⟨fun z => absurd z (n4 (by omega)), fun ⟨hs, z⟩ => by cases z⟩
  | inr hs => exact ⟨fun _ => ⟨hs, rfl⟩, fun _ => rfl⟩
theorem C_lay (cf : CF R S N T G U V Kp Y L X W C h h2) (cd : CD I R T U V Kp Y X h tx FR PE SC TL UL KL SN) : ∃ J R', fX11_lay 0 (I, R, S, N) = some (aLay tx, (J, R', S, N)) ∧ ((aLayS tx = none ∧ CF R' S N T G U V Kp Y L X W C h h2 ∧ CD J R' T U V Kp Y X h tx FR PE SC TL UL KL SN) ∨ (∃ hs, aLayS tx = some hs ∧ CF R' S N T G U V Kp Y L X W C h2 h ∧ CD J R' T U V Kp Y X h2 tx hs.1 hs.2.1 (bkt hs.2.2.1) hs.2.2.2 [] [] [])) ∧ (∀ p, 201 < p → J p = I p ∧ R' p = R p) := by
  have cf0 := cf
  obtain ⟨pl, cf1, hT, hG, hU, hV, hK, hY, hL, hX, hW, hC, hH, hH2⟩ := cf
  have pl0 := pl
  obtain ⟨p1, p2, p3, p4, p5, p6, p7, p8, p9, p10, p11⟩ := pl
  have htx := cd.1.1
  obtain ⟨J, e1, e2, e3⟩ := C_readAll (R := R) (S := S) (N := N) hG hT hH2 (by omega) (by omega) cd.1
  have cdJ : CD J R T U V Kp Y X h tx FR PE SC TL UL KL SN := CD_scr cf0 cd (fun p hp => e1 p (by omega) (by omega) (by omega))
  have fJ : ∀ p, 201 < p → J p = I p := fun p hp => e1 p (by omega) (by omega) (by omega)
  rw [fX11_lay, f_1 cf1, bS, f_0 cf1, bS, f_11 cf1, bS, Rd_o hG, bS, e2, bS]
  cases hp : prsA tx with
  | inl k =>
    have hn : aLayS tx = none := by unfold aLayS; rw [hp]
    have hne : ¬ aFault tx = -4 := fun z => by
      obtain ⟨hs, z⟩ := (aFault_4 tx htx).mp z
      rw [hp] at z
      cases z
    refine ⟨J, R, ?_, Or.inl ⟨hn, cf0, cdJ⟩, fun p hp => ⟨fJ p hp, rfl⟩⟩
    unfold aLay
    rw [hn]
    exact if_neg hne
  | inr hs =>
    have hf4 : aFault tx = -4 := (aFault_4 tx htx).mpr ⟨hs, hp⟩
    have dH := e3 hs hp
    have okh : okHS hs := prs_ok tx _ _ _ _ okHS_0 hp
    have okl := okh.1
    show ∃ J' R', (if aFault tx = -4 then _ else _) = _ ∧ _
    rw [if_pos hf4, f_11 cf1, bS, Ho_g hH2, bS, dH.2.1.1]
    by_cases c : hs.1.length = 0
    · have hn : aLayS tx = none := by unfold aLayS; rw [hp]; exact if_pos c
      refine ⟨J, R, ?_, Or.inl ⟨hn, cf0, cdJ⟩, fun p hp => ⟨fJ p hp, rfl⟩⟩
      unfold aLay
      rw [hn]
      exact if_pos (by rw [c]; exact z0.symm)
    · have hn : aLayS tx = some hs := by unfold aLayS; rw [hp]; exact if_neg c
      rw [if_neg (nI_ne0 (by omega) (by omega))]
      obtain ⟨R1, hR1⟩ : ∃ R1, R1 = up2 R 0 10 (some h2) := ⟨_, rfl⟩
      obtain ⟨R2, hR2⟩ : ∃ R2, R2 = up2 R1 0 11 (some h) := ⟨_, rfl⟩
      have k1 : pfR 10 10 0 h2 (J, R, S, N) = some (J, R1, S, N) := by rw [hR1]; exact pR cf1.1 cf1.2.1
      have k2 : pfR 10 11 0 h (J, R1, S, N) = some (J, R2, S, N) := by rw [hR2]; exact pR cf1.1 cf1.2.1
      have fR : ∀ p, p ≠ 0 → R2 p = R p := fun p hp => by rw [hR2, hR1]; funext j; simp [up2, hp]
      have cf2 : CF R2 S N T G U V Kp Y L X W C h2 h := by
        refine ⟨⟨p1, p2, p3, p4, p5, p6, p7, p8, p9, p10, by omega⟩, ?_, isTx_ofR hT (fun k a b => fR k (by omega)), isRd_ofR hG (fun k a b => fR k (by omega)), hU.ofR (fR _ (by omega)), isSh_ofR hV (fun k a b => fR k (by omega)), isSh_ofR hK (fun k a b => fR k (by omega)), isDy_ofR hY (fun k a b => fR k (by omega)), isLu_ofR hL (fun k a b => fR k (by omega)), isSi_ofR hX (fun k a b => fR k (by omega)), isDr_ofR hW (fun k a b => fR k (by omega)), ?_, isHo_ofR hH2 (fun k a b => fR k (by omega)), isHo_ofR hH (fun k a b => fR k (by omega))⟩
        · obtain ⟨q1, q2, q3, q4, q5, q6, q7, q8, q9, q10, q11, q12, q13, q14⟩ := cf1
          have e10 : ∀ j, j ≠ 10 → j ≠ 11 → R2 0 j = R 0 j := fun j a b => by rw [hR2, hR1]; simp [up2, a, b]
          refine ⟨q1, q2, ?_, ?_, ?_, ?_, ?_, ?_, ?_, ?_, ?_, ?_, ?_, ?_⟩
          · rw [e10 0 (by omega) (by omega)]; exact q3
          · rw [e10 1 (by omega) (by omega)]; exact q4
          · rw [e10 2 (by omega) (by omega)]; exact q5
          · rw [e10 3 (by omega) (by omega)]; exact q6
          · rw [e10 4 (by omega) (by omega)]; exact q7
          · rw [e10 5 (by omega) (by omega)]; exact q8
          · rw [e10 6 (by omega) (by omega)]; exact q9
          · rw [e10 7 (by omega) (by omega)]; exact q10
          · rw [e10 8 (by omega) (by omega)]; exact q11
          · rw [e10 9 (by omega) (by omega)]; exact q12
          · rw [hR2, hR1]; simp [up2]
          · rw [hR2]; simp [up2]
        · unfold isCh at *
          rw [fR C (by omega)]
          exact hC
      obtain ⟨-, cf2a, hT', hG', hU', hV', hK', hY', hL', hX', hW', hC', hH', hH2'⟩ := id cf2
      obtain ⟨J1, t1, t2, t3⟩ := T_copy hU' (Ho_T hH') (by omega) (J := J) dH.2.2.2.2.2
      obtain ⟨J2, hJ2⟩ : ∃ J2, J2 = up1 J1 V (upd (J1 V) 1 0) := ⟨_, rfl⟩
      obtain ⟨J3, hJ3⟩ : ∃ J3, J3 = up1 J2 Kp (upd (J2 Kp) 1 0) := ⟨_, rfl⟩
      obtain ⟨J4, hJ4⟩ : ∃ J4, J4 = up1 J3 X (upd (J3 X) 2 0) := ⟨_, rfl⟩
      obtain ⟨J5, hJ5⟩ : ∃ J5, J5 = up1 J4 Y (upd (J4 Y) 4 1) := ⟨_, rfl⟩
      have w2 : pfI 6 1 V 0 (J1, R2, S, N) = some (J2, R2, S, N) := by rw [hJ2]; exact Sh_p hV' J1 _ _
      have w3 : pfI 6 1 Kp 0 (J2, R2, S, N) = some (J3, R2, S, N) := by rw [hJ3]; exact Sh_p hK' J2 _ _
      have w4 : pfI 7 2 X 0 (J3, R2, S, N) = some (J4, R2, S, N) := by rw [hJ4]; exact Si_p hX' J3 _ _
      have w5 : pfI 1 4 Y 1 (J4, R2, S, N) = some (J5, R2, S, N) := by rw [hJ5]; exact Dy_p hY' J4 _ _
      have ff : ∀ p, (p < U ∨ U + 3 < p) → p ≠ V → p ≠ Kp → p ≠ X → p ≠ Y → J5 p = J p := fun p a b c e f => by rw [hJ5, up1_n _ _ f, hJ4, up1_n _ _ e, hJ3, up1_n _ _ c, hJ2, up1_n _ _ b, t3 p a]
      have f15 : ∀ p, p ≠ V → p ≠ Kp → p ≠ X → p ≠ Y → J5 p = J1 p := fun p b c e f => by rw [hJ5, up1_n _ _ f, hJ4, up1_n _ _ e, hJ3, up1_n _ _ c, hJ2, up1_n _ _ b]
      have x5 : J5 h2 4 = nI hs.1.length := by rw [ff h2 (by omega) (by omega) (by omega) (by omega) (by omega)]; exact dH.2.1.1
      refine ⟨J5, R2, ?_, Or.inr ⟨hs, hn, cf2, ?_⟩, fun p hp => ⟨by rw [ff p (by omega) (by omega) (by omega) (by omega) (by omega), fJ p hp], fR p (by omega)⟩⟩
      · unfold aLay
        rw [hn]
        rw [f_o cf1, bS, fX11_moveIn, f_10 cf1, bS, f_11 cf1, bS, k1, bS, k2, bS, f_2 cf2a, bS, f_10 cf2a, bS, Ho_12 hH', bS, T_o hU', bS, t1, bS, f_3 cf2a, bS, w2, bS, f_4 cf2a, bS, w3, bS, f_7 cf2a, bS, Si_o hX', bS, fX8_empty]
        simp only [Si_g hX', bS, w4, f_5 cf2a, w5, f_10 cf2a, Ho_g hH', x5]
      · refine ⟨cdJ.1.of (ff _ (by omega) (by omega) (by omega) (by omega) (by omega)) (ff _ (by omega) (by omega) (by omega) (by omega) (by omega)), t2.of (fun p a b => f15 p (by omega) (by omega) (by omega) (by omega)), ⟨by simp, ?_, fun j hj => by simp at hj⟩, ⟨by simp, ?_, fun j hj => by simp at hj⟩, ⟨hs.2.2.2, dH.of (fun p a b => ff p (by omega) (by omega) (by omega) (by omega) (by omega))⟩, Or.inl ?_, by simp, ?_, fun k hk => by simp at hk⟩
        · rw [hJ5, up1_n _ _ (by omega), hJ4, up1_n _ _ (by omega), hJ3, up1_n _ _ (by omega), hJ2, up1_s]
          simp [upd]
          decide
        · rw [hJ5, up1_n _ _ (by omega), hJ4, up1_n _ _ (by omega), hJ3, up1_s]
          simp [upd]
          decide
        · rw [hJ5, up1_s]
          simp [upd]
        · rw [hJ5, up1_n _ _ (by omega), hJ4, up1_s]
          simp [upd]
          decide
end LAY
