section ACC
variable {R : Nat → Nat → Option Nat} {S : Nat → Nat × Nat} {N p : Nat}
def isTx (R : Nat → Nat → Option Nat) (S : Nat → Nat × Nat) (N p : Nat) : Prop := p + 1 < N ∧ (S p).1 = 8 ∧ (S (p + 1) = (12, 200) ∧ R p 0 = some (p + 1))
theorem Tx_g (h : isTx R S N p) (I : Nat → Nat → Int32) (j : Nat) : gfI 8 j p (I, R, S, N) = some (I p j) := gI (by have := h.1; omega) h.2.1
theorem Tx_p (h : isTx R S N p) (I : Nat → Nat → Int32) (j : Nat) (x : Int32) : pfI 8 j p x (I, R, S, N) = some (up1 I p (upd (I p) j x), R, S, N) := pI (by have := h.1; omega) h.2.1
theorem Tx_o (h : isTx R S N p) (I : Nat → Nat → Int32) : isO 8 p (I, R, S, N) = some () := oI (by have := h.1; omega) h.2.1
theorem Tx_0 (h : isTx R S N p) (I : Nat → Nat → Int32) : gfR 8 0 p (I, R, S, N) = some (p + 1) := gR (by have := h.1; omega) h.2.1 h.2.2.2
theorem Tx_r0 (h : isTx R S N p) (I : Nat → Nat → Int32) {k : Nat} (hk : k < 200) : rdI (p + 1) (nI k) (I, R, S, N) = some (I (p + 1) k) := rd (by have := h.1; omega) h.2.2.1 hk (by omega)
theorem Tx_w0 (h : isTx R S N p) (I : Nat → Nat → Int32) {k : Nat} (x : Int32) (hk : k < 200) : wrI (p + 1) (nI k) x (I, R, S, N) = some (up1 I (p + 1) (upd (I (p + 1)) k x), R, S, N) := wr (by have := h.1; omega) h.2.2.1 hk (by omega)
def isRd (R : Nat → Nat → Option Nat) (S : Nat → Nat × Nat) (N p : Nat) : Prop := p + 1 < N ∧ (S p).1 = 5 ∧ (S (p + 1) = (12, 3) ∧ R p 0 = some (p + 1))
theorem Rd_g (h : isRd R S N p) (I : Nat → Nat → Int32) (j : Nat) : gfI 5 j p (I, R, S, N) = some (I p j) := gI (by have := h.1; omega) h.2.1
theorem Rd_p (h : isRd R S N p) (I : Nat → Nat → Int32) (j : Nat) (x : Int32) : pfI 5 j p x (I, R, S, N) = some (up1 I p (upd (I p) j x), R, S, N) := pI (by have := h.1; omega) h.2.1
theorem Rd_o (h : isRd R S N p) (I : Nat → Nat → Int32) : isO 5 p (I, R, S, N) = some () := oI (by have := h.1; omega) h.2.1
theorem Rd_0 (h : isRd R S N p) (I : Nat → Nat → Int32) : gfR 5 0 p (I, R, S, N) = some (p + 1) := gR (by have := h.1; omega) h.2.1 h.2.2.2
theorem Rd_r0 (h : isRd R S N p) (I : Nat → Nat → Int32) {k : Nat} (hk : k < 3) : rdI (p + 1) (nI k) (I, R, S, N) = some (I (p + 1) k) := rd (by have := h.1; omega) h.2.2.1 hk (by omega)
theorem Rd_w0 (h : isRd R S N p) (I : Nat → Nat → Int32) {k : Nat} (x : Int32) (hk : k < 3) : wrI (p + 1) (nI k) x (I, R, S, N) = some (up1 I (p + 1) (upd (I (p + 1)) k x), R, S, N) := wr (by have := h.1; omega) h.2.2.1 hk (by omega)
def isDy (R : Nat → Nat → Option Nat) (S : Nat → Nat × Nat) (N p : Nat) : Prop := p + 97 < N ∧ (S p).1 = 1 ∧ (S (p + 1) = (14, 31) ∧ R p 0 = some (p + 1) ∧ ∀ d, d < 31 → S (p + 2 + d) = (12, 7) ∧ R (p + 1) d = some (p + 2 + d)) ∧ (S (p + 33) = (14, 31) ∧ R p 1 = some (p + 33) ∧ ∀ d, d < 31 → S (p + 34 + d) = (12, 7) ∧ R (p + 33) d = some (p + 34 + d)) ∧ (S (p + 65) = (14, 31) ∧ R p 2 = some (p + 65) ∧ ∀ d, d < 31 → S (p + 66 + d) = (12, 5) ∧ R (p + 65) d = some (p + 66 + d)) ∧ (S (p + 97) = (12, 31) ∧ R p 3 = some (p + 97))
theorem Dy_g (h : isDy R S N p) (I : Nat → Nat → Int32) (j : Nat) : gfI 1 j p (I, R, S, N) = some (I p j) := gI (by have := h.1; omega) h.2.1
theorem Dy_p (h : isDy R S N p) (I : Nat → Nat → Int32) (j : Nat) (x : Int32) : pfI 1 j p x (I, R, S, N) = some (up1 I p (upd (I p) j x), R, S, N) := pI (by have := h.1; omega) h.2.1
theorem Dy_o (h : isDy R S N p) (I : Nat → Nat → Int32) : isO 1 p (I, R, S, N) = some () := oI (by have := h.1; omega) h.2.1
theorem Dy_0 (h : isDy R S N p) (I : Nat → Nat → Int32) : gfR 1 0 p (I, R, S, N) = some (p + 1) := gR (by have := h.1; omega) h.2.1 h.2.2.1.2.1
theorem Dy_t0 (h : isDy R S N p) (I : Nat → Nat → Int32) {d : Nat} (hd : d < 31) : rdR 14 (p + 1) (nI d) (I, R, S, N) = some (p + 2 + d) := rR (by have := h.1; omega) h.2.2.1.1 hd (by omega) (h.2.2.1.2.2 d hd).2
theorem Dy_r0 (h : isDy R S N p) (I : Nat → Nat → Int32) {d k : Nat} (hd : d < 31) (hk : k < 7) : rdI (p + 2 + d) (nI k) (I, R, S, N) = some (I (p + 2 + d) k) := rd (by have := h.1; omega) (h.2.2.1.2.2 d hd).1 hk (by omega)
theorem Dy_w0 (h : isDy R S N p) (I : Nat → Nat → Int32) {d k : Nat} (x : Int32) (hd : d < 31) (hk : k < 7) : wrI (p + 2 + d) (nI k) x (I, R, S, N) = some (up1 I (p + 2 + d) (upd (I (p + 2 + d)) k x), R, S, N) := wr (by have := h.1; omega) (h.2.2.1.2.2 d hd).1 hk (by omega)
theorem Dy_s0 (h : isDy R S N p) {d : Nat} (hd : d < 31) : S (p + 2 + d) = (12, 7) := (h.2.2.1.2.2 d hd).1
theorem Dy_1 (h : isDy R S N p) (I : Nat → Nat → Int32) : gfR 1 1 p (I, R, S, N) = some (p + 33) := gR (by have := h.1; omega) h.2.1 h.2.2.2.1.2.1
theorem Dy_t1 (h : isDy R S N p) (I : Nat → Nat → Int32) {d : Nat} (hd : d < 31) : rdR 14 (p + 33) (nI d) (I, R, S, N) = some (p + 34 + d) := rR (by have := h.1; omega) h.2.2.2.1.1 hd (by omega) (h.2.2.2.1.2.2 d hd).2
theorem Dy_r1 (h : isDy R S N p) (I : Nat → Nat → Int32) {d k : Nat} (hd : d < 31) (hk : k < 7) : rdI (p + 34 + d) (nI k) (I, R, S, N) = some (I (p + 34 + d) k) := rd (by have := h.1; omega) (h.2.2.2.1.2.2 d hd).1 hk (by omega)
theorem Dy_w1 (h : isDy R S N p) (I : Nat → Nat → Int32) {d k : Nat} (x : Int32) (hd : d < 31) (hk : k < 7) : wrI (p + 34 + d) (nI k) x (I, R, S, N) = some (up1 I (p + 34 + d) (upd (I (p + 34 + d)) k x), R, S, N) := wr (by have := h.1; omega) (h.2.2.2.1.2.2 d hd).1 hk (by omega)
theorem Dy_s1 (h : isDy R S N p) {d : Nat} (hd : d < 31) : S (p + 34 + d) = (12, 7) := (h.2.2.2.1.2.2 d hd).1
theorem Dy_2 (h : isDy R S N p) (I : Nat → Nat → Int32) : gfR 1 2 p (I, R, S, N) = some (p + 65) := gR (by have := h.1; omega) h.2.1 h.2.2.2.2.1.2.1
theorem Dy_t2 (h : isDy R S N p) (I : Nat → Nat → Int32) {d : Nat} (hd : d < 31) : rdR 14 (p + 65) (nI d) (I, R, S, N) = some (p + 66 + d) := rR (by have := h.1; omega) h.2.2.2.2.1.1 hd (by omega) (h.2.2.2.2.1.2.2 d hd).2
theorem Dy_r2 (h : isDy R S N p) (I : Nat → Nat → Int32) {d k : Nat} (hd : d < 31) (hk : k < 5) : rdI (p + 66 + d) (nI k) (I, R, S, N) = some (I (p + 66 + d) k) := rd (by have := h.1; omega) (h.2.2.2.2.1.2.2 d hd).1 hk (by omega)
theorem Dy_w2 (h : isDy R S N p) (I : Nat → Nat → Int32) {d k : Nat} (x : Int32) (hd : d < 31) (hk : k < 5) : wrI (p + 66 + d) (nI k) x (I, R, S, N) = some (up1 I (p + 66 + d) (upd (I (p + 66 + d)) k x), R, S, N) := wr (by have := h.1; omega) (h.2.2.2.2.1.2.2 d hd).1 hk (by omega)
theorem Dy_s2 (h : isDy R S N p) {d : Nat} (hd : d < 31) : S (p + 66 + d) = (12, 5) := (h.2.2.2.2.1.2.2 d hd).1
theorem Dy_3 (h : isDy R S N p) (I : Nat → Nat → Int32) : gfR 1 3 p (I, R, S, N) = some (p + 97) := gR (by have := h.1; omega) h.2.1 h.2.2.2.2.2.2
theorem Dy_r3 (h : isDy R S N p) (I : Nat → Nat → Int32) {k : Nat} (hk : k < 31) : rdI (p + 97) (nI k) (I, R, S, N) = some (I (p + 97) k) := rd (by have := h.1; omega) h.2.2.2.2.2.1 hk (by omega)
theorem Dy_w3 (h : isDy R S N p) (I : Nat → Nat → Int32) {k : Nat} (x : Int32) (hk : k < 31) : wrI (p + 97) (nI k) x (I, R, S, N) = some (up1 I (p + 97) (upd (I (p + 97)) k x), R, S, N) := wr (by have := h.1; omega) h.2.2.2.2.2.1 hk (by omega)
def isLu (R : Nat → Nat → Option Nat) (S : Nat → Nat × Nat) (N p : Nat) : Prop := p + 12 < N ∧ (S p).1 = 4 ∧ (S (p + 1) = (12, 7) ∧ R p 0 = some (p + 1)) ∧ (S (p + 2) = (12, 5) ∧ R p 1 = some (p + 2)) ∧ (S (p + 3) = (12, 41) ∧ R p 2 = some (p + 3)) ∧ (S (p + 4) = (14, 7) ∧ R p 3 = some (p + 4) ∧ ∀ d, d < 7 → S (p + 5 + d) = (12, 41) ∧ R (p + 4) d = some (p + 5 + d)) ∧ (S (p + 12) = (12, 7) ∧ R p 4 = some (p + 12))
theorem Lu_g (h : isLu R S N p) (I : Nat → Nat → Int32) (j : Nat) : gfI 4 j p (I, R, S, N) = some (I p j) := gI (by have := h.1; omega) h.2.1
theorem Lu_p (h : isLu R S N p) (I : Nat → Nat → Int32) (j : Nat) (x : Int32) : pfI 4 j p x (I, R, S, N) = some (up1 I p (upd (I p) j x), R, S, N) := pI (by have := h.1; omega) h.2.1
theorem Lu_o (h : isLu R S N p) (I : Nat → Nat → Int32) : isO 4 p (I, R, S, N) = some () := oI (by have := h.1; omega) h.2.1
theorem Lu_0 (h : isLu R S N p) (I : Nat → Nat → Int32) : gfR 4 0 p (I, R, S, N) = some (p + 1) := gR (by have := h.1; omega) h.2.1 h.2.2.1.2
theorem Lu_r0 (h : isLu R S N p) (I : Nat → Nat → Int32) {k : Nat} (hk : k < 7) : rdI (p + 1) (nI k) (I, R, S, N) = some (I (p + 1) k) := rd (by have := h.1; omega) h.2.2.1.1 hk (by omega)
theorem Lu_w0 (h : isLu R S N p) (I : Nat → Nat → Int32) {k : Nat} (x : Int32) (hk : k < 7) : wrI (p + 1) (nI k) x (I, R, S, N) = some (up1 I (p + 1) (upd (I (p + 1)) k x), R, S, N) := wr (by have := h.1; omega) h.2.2.1.1 hk (by omega)
theorem Lu_1 (h : isLu R S N p) (I : Nat → Nat → Int32) : gfR 4 1 p (I, R, S, N) = some (p + 2) := gR (by have := h.1; omega) h.2.1 h.2.2.2.1.2
theorem Lu_r1 (h : isLu R S N p) (I : Nat → Nat → Int32) {k : Nat} (hk : k < 5) : rdI (p + 2) (nI k) (I, R, S, N) = some (I (p + 2) k) := rd (by have := h.1; omega) h.2.2.2.1.1 hk (by omega)
theorem Lu_w1 (h : isLu R S N p) (I : Nat → Nat → Int32) {k : Nat} (x : Int32) (hk : k < 5) : wrI (p + 2) (nI k) x (I, R, S, N) = some (up1 I (p + 2) (upd (I (p + 2)) k x), R, S, N) := wr (by have := h.1; omega) h.2.2.2.1.1 hk (by omega)
theorem Lu_2 (h : isLu R S N p) (I : Nat → Nat → Int32) : gfR 4 2 p (I, R, S, N) = some (p + 3) := gR (by have := h.1; omega) h.2.1 h.2.2.2.2.1.2
theorem Lu_r2 (h : isLu R S N p) (I : Nat → Nat → Int32) {k : Nat} (hk : k < 41) : rdI (p + 3) (nI k) (I, R, S, N) = some (I (p + 3) k) := rd (by have := h.1; omega) h.2.2.2.2.1.1 hk (by omega)
theorem Lu_w2 (h : isLu R S N p) (I : Nat → Nat → Int32) {k : Nat} (x : Int32) (hk : k < 41) : wrI (p + 3) (nI k) x (I, R, S, N) = some (up1 I (p + 3) (upd (I (p + 3)) k x), R, S, N) := wr (by have := h.1; omega) h.2.2.2.2.1.1 hk (by omega)
theorem Lu_3 (h : isLu R S N p) (I : Nat → Nat → Int32) : gfR 4 3 p (I, R, S, N) = some (p + 4) := gR (by have := h.1; omega) h.2.1 h.2.2.2.2.2.1.2.1
theorem Lu_t3 (h : isLu R S N p) (I : Nat → Nat → Int32) {d : Nat} (hd : d < 7) : rdR 14 (p + 4) (nI d) (I, R, S, N) = some (p + 5 + d) := rR (by have := h.1; omega) h.2.2.2.2.2.1.1 hd (by omega) (h.2.2.2.2.2.1.2.2 d hd).2
theorem Lu_r3 (h : isLu R S N p) (I : Nat → Nat → Int32) {d k : Nat} (hd : d < 7) (hk : k < 41) : rdI (p + 5 + d) (nI k) (I, R, S, N) = some (I (p + 5 + d) k) := rd (by have := h.1; omega) (h.2.2.2.2.2.1.2.2 d hd).1 hk (by omega)
theorem Lu_w3 (h : isLu R S N p) (I : Nat → Nat → Int32) {d k : Nat} (x : Int32) (hd : d < 7) (hk : k < 41) : wrI (p + 5 + d) (nI k) x (I, R, S, N) = some (up1 I (p + 5 + d) (upd (I (p + 5 + d)) k x), R, S, N) := wr (by have := h.1; omega) (h.2.2.2.2.2.1.2.2 d hd).1 hk (by omega)
theorem Lu_s3 (h : isLu R S N p) {d : Nat} (hd : d < 7) : S (p + 5 + d) = (12, 41) := (h.2.2.2.2.2.1.2.2 d hd).1
theorem Lu_4 (h : isLu R S N p) (I : Nat → Nat → Int32) : gfR 4 4 p (I, R, S, N) = some (p + 12) := gR (by have := h.1; omega) h.2.1 h.2.2.2.2.2.2.2
theorem Lu_r4 (h : isLu R S N p) (I : Nat → Nat → Int32) {k : Nat} (hk : k < 7) : rdI (p + 12) (nI k) (I, R, S, N) = some (I (p + 12) k) := rd (by have := h.1; omega) h.2.2.2.2.2.2.1 hk (by omega)
theorem Lu_w4 (h : isLu R S N p) (I : Nat → Nat → Int32) {k : Nat} (x : Int32) (hk : k < 7) : wrI (p + 12) (nI k) x (I, R, S, N) = some (up1 I (p + 12) (upd (I (p + 12)) k x), R, S, N) := wr (by have := h.1; omega) h.2.2.2.2.2.2.1 hk (by omega)
def isSi (R : Nat → Nat → Option Nat) (S : Nat → Nat × Nat) (N p : Nat) : Prop := p + 3 < N ∧ (S p).1 = 7 ∧ (S (p + 1) = (12, 8) ∧ R p 0 = some (p + 1)) ∧ (S (p + 2) = (12, 8) ∧ R p 1 = some (p + 2)) ∧ (S (p + 3) = (12, 81) ∧ R p 3 = some (p + 3))
theorem Si_g (h : isSi R S N p) (I : Nat → Nat → Int32) (j : Nat) : gfI 7 j p (I, R, S, N) = some (I p j) := gI (by have := h.1; omega) h.2.1
theorem Si_p (h : isSi R S N p) (I : Nat → Nat → Int32) (j : Nat) (x : Int32) : pfI 7 j p x (I, R, S, N) = some (up1 I p (upd (I p) j x), R, S, N) := pI (by have := h.1; omega) h.2.1
theorem Si_o (h : isSi R S N p) (I : Nat → Nat → Int32) : isO 7 p (I, R, S, N) = some () := oI (by have := h.1; omega) h.2.1
theorem Si_0 (h : isSi R S N p) (I : Nat → Nat → Int32) : gfR 7 0 p (I, R, S, N) = some (p + 1) := gR (by have := h.1; omega) h.2.1 h.2.2.1.2
theorem Si_r0 (h : isSi R S N p) (I : Nat → Nat → Int32) {k : Nat} (hk : k < 8) : rdI (p + 1) (nI k) (I, R, S, N) = some (I (p + 1) k) := rd (by have := h.1; omega) h.2.2.1.1 hk (by omega)
theorem Si_w0 (h : isSi R S N p) (I : Nat → Nat → Int32) {k : Nat} (x : Int32) (hk : k < 8) : wrI (p + 1) (nI k) x (I, R, S, N) = some (up1 I (p + 1) (upd (I (p + 1)) k x), R, S, N) := wr (by have := h.1; omega) h.2.2.1.1 hk (by omega)
theorem Si_1 (h : isSi R S N p) (I : Nat → Nat → Int32) : gfR 7 1 p (I, R, S, N) = some (p + 2) := gR (by have := h.1; omega) h.2.1 h.2.2.2.1.2
theorem Si_r1 (h : isSi R S N p) (I : Nat → Nat → Int32) {k : Nat} (hk : k < 8) : rdI (p + 2) (nI k) (I, R, S, N) = some (I (p + 2) k) := rd (by have := h.1; omega) h.2.2.2.1.1 hk (by omega)
theorem Si_w1 (h : isSi R S N p) (I : Nat → Nat → Int32) {k : Nat} (x : Int32) (hk : k < 8) : wrI (p + 2) (nI k) x (I, R, S, N) = some (up1 I (p + 2) (upd (I (p + 2)) k x), R, S, N) := wr (by have := h.1; omega) h.2.2.2.1.1 hk (by omega)
theorem Si_3 (h : isSi R S N p) (I : Nat → Nat → Int32) : gfR 7 3 p (I, R, S, N) = some (p + 3) := gR (by have := h.1; omega) h.2.1 h.2.2.2.2.2
theorem Si_r3 (h : isSi R S N p) (I : Nat → Nat → Int32) {k : Nat} (hk : k < 81) : rdI (p + 3) (nI k) (I, R, S, N) = some (I (p + 3) k) := rd (by have := h.1; omega) h.2.2.2.2.1 hk (by omega)
theorem Si_w3 (h : isSi R S N p) (I : Nat → Nat → Int32) {k : Nat} (x : Int32) (hk : k < 81) : wrI (p + 3) (nI k) x (I, R, S, N) = some (up1 I (p + 3) (upd (I (p + 3)) k x), R, S, N) := wr (by have := h.1; omega) h.2.2.2.2.1 hk (by omega)
def isDr (R : Nat → Nat → Option Nat) (S : Nat → Nat × Nat) (N p : Nat) : Prop := p + 2 < N ∧ (S p).1 = 2 ∧ (S (p + 1) = (12, 7) ∧ R p 0 = some (p + 1)) ∧ (S (p + 2) = (12, 5) ∧ R p 1 = some (p + 2))
theorem Dr_g (h : isDr R S N p) (I : Nat → Nat → Int32) (j : Nat) : gfI 2 j p (I, R, S, N) = some (I p j) := gI (by have := h.1; omega) h.2.1
theorem Dr_p (h : isDr R S N p) (I : Nat → Nat → Int32) (j : Nat) (x : Int32) : pfI 2 j p x (I, R, S, N) = some (up1 I p (upd (I p) j x), R, S, N) := pI (by have := h.1; omega) h.2.1
theorem Dr_o (h : isDr R S N p) (I : Nat → Nat → Int32) : isO 2 p (I, R, S, N) = some () := oI (by have := h.1; omega) h.2.1
theorem Dr_0 (h : isDr R S N p) (I : Nat → Nat → Int32) : gfR 2 0 p (I, R, S, N) = some (p + 1) := gR (by have := h.1; omega) h.2.1 h.2.2.1.2
theorem Dr_r0 (h : isDr R S N p) (I : Nat → Nat → Int32) {k : Nat} (hk : k < 7) : rdI (p + 1) (nI k) (I, R, S, N) = some (I (p + 1) k) := rd (by have := h.1; omega) h.2.2.1.1 hk (by omega)
theorem Dr_w0 (h : isDr R S N p) (I : Nat → Nat → Int32) {k : Nat} (x : Int32) (hk : k < 7) : wrI (p + 1) (nI k) x (I, R, S, N) = some (up1 I (p + 1) (upd (I (p + 1)) k x), R, S, N) := wr (by have := h.1; omega) h.2.2.1.1 hk (by omega)
theorem Dr_1 (h : isDr R S N p) (I : Nat → Nat → Int32) : gfR 2 1 p (I, R, S, N) = some (p + 2) := gR (by have := h.1; omega) h.2.1 h.2.2.2.2
theorem Dr_r1 (h : isDr R S N p) (I : Nat → Nat → Int32) {k : Nat} (hk : k < 5) : rdI (p + 2) (nI k) (I, R, S, N) = some (I (p + 2) k) := rd (by have := h.1; omega) h.2.2.2.1 hk (by omega)
theorem Dr_w1 (h : isDr R S N p) (I : Nat → Nat → Int32) {k : Nat} (x : Int32) (hk : k < 5) : wrI (p + 2) (nI k) x (I, R, S, N) = some (up1 I (p + 2) (upd (I (p + 2)) k x), R, S, N) := wr (by have := h.1; omega) h.2.2.2.1 hk (by omega)
def isHo (R : Nat → Nat → Option Nat) (S : Nat → Nat × Nat) (N p : Nat) : Prop := p + 13 < N ∧ (S p).1 = 3 ∧ (S (p + 1) = (12, 7) ∧ R p 0 = some (p + 1)) ∧ (S (p + 2) = (12, 7) ∧ R p 1 = some (p + 2)) ∧ (S (p + 3) = (12, 7) ∧ R p 2 = some (p + 3)) ∧ (S (p + 4) = (12, 7) ∧ R p 3 = some (p + 4)) ∧ (S (p + 5) = (12, 5) ∧ R p 5 = some (p + 5)) ∧ (S (p + 6) = (12, 5) ∧ R p 6 = some (p + 6)) ∧ (S (p + 7) = (12, 10) ∧ R p 8 = some (p + 7)) ∧ (S (p + 8) = (12, 10) ∧ R p 9 = some (p + 8)) ∧ (S (p + 9) = (12, 10) ∧ R p 10 = some (p + 9)) ∧ (R p 12 = some (p + 10) ∧ isT R S N (p + 10))
theorem Ho_g (h : isHo R S N p) (I : Nat → Nat → Int32) (j : Nat) : gfI 3 j p (I, R, S, N) = some (I p j) := gI (by have := h.1; omega) h.2.1
theorem Ho_p (h : isHo R S N p) (I : Nat → Nat → Int32) (j : Nat) (x : Int32) : pfI 3 j p x (I, R, S, N) = some (up1 I p (upd (I p) j x), R, S, N) := pI (by have := h.1; omega) h.2.1
theorem Ho_o (h : isHo R S N p) (I : Nat → Nat → Int32) : isO 3 p (I, R, S, N) = some () := oI (by have := h.1; omega) h.2.1
theorem Ho_0 (h : isHo R S N p) (I : Nat → Nat → Int32) : gfR 3 0 p (I, R, S, N) = some (p + 1) := gR (by have := h.1; omega) h.2.1 h.2.2.1.2
theorem Ho_r0 (h : isHo R S N p) (I : Nat → Nat → Int32) {k : Nat} (hk : k < 7) : rdI (p + 1) (nI k) (I, R, S, N) = some (I (p + 1) k) := rd (by have := h.1; omega) h.2.2.1.1 hk (by omega)
theorem Ho_w0 (h : isHo R S N p) (I : Nat → Nat → Int32) {k : Nat} (x : Int32) (hk : k < 7) : wrI (p + 1) (nI k) x (I, R, S, N) = some (up1 I (p + 1) (upd (I (p + 1)) k x), R, S, N) := wr (by have := h.1; omega) h.2.2.1.1 hk (by omega)
theorem Ho_1 (h : isHo R S N p) (I : Nat → Nat → Int32) : gfR 3 1 p (I, R, S, N) = some (p + 2) := gR (by have := h.1; omega) h.2.1 h.2.2.2.1.2
theorem Ho_r1 (h : isHo R S N p) (I : Nat → Nat → Int32) {k : Nat} (hk : k < 7) : rdI (p + 2) (nI k) (I, R, S, N) = some (I (p + 2) k) := rd (by have := h.1; omega) h.2.2.2.1.1 hk (by omega)
theorem Ho_w1 (h : isHo R S N p) (I : Nat → Nat → Int32) {k : Nat} (x : Int32) (hk : k < 7) : wrI (p + 2) (nI k) x (I, R, S, N) = some (up1 I (p + 2) (upd (I (p + 2)) k x), R, S, N) := wr (by have := h.1; omega) h.2.2.2.1.1 hk (by omega)
theorem Ho_2 (h : isHo R S N p) (I : Nat → Nat → Int32) : gfR 3 2 p (I, R, S, N) = some (p + 3) := gR (by have := h.1; omega) h.2.1 h.2.2.2.2.1.2
theorem Ho_r2 (h : isHo R S N p) (I : Nat → Nat → Int32) {k : Nat} (hk : k < 7) : rdI (p + 3) (nI k) (I, R, S, N) = some (I (p + 3) k) := rd (by have := h.1; omega) h.2.2.2.2.1.1 hk (by omega)
theorem Ho_w2 (h : isHo R S N p) (I : Nat → Nat → Int32) {k : Nat} (x : Int32) (hk : k < 7) : wrI (p + 3) (nI k) x (I, R, S, N) = some (up1 I (p + 3) (upd (I (p + 3)) k x), R, S, N) := wr (by have := h.1; omega) h.2.2.2.2.1.1 hk (by omega)
theorem Ho_3 (h : isHo R S N p) (I : Nat → Nat → Int32) : gfR 3 3 p (I, R, S, N) = some (p + 4) := gR (by have := h.1; omega) h.2.1 h.2.2.2.2.2.1.2
theorem Ho_r3 (h : isHo R S N p) (I : Nat → Nat → Int32) {k : Nat} (hk : k < 7) : rdI (p + 4) (nI k) (I, R, S, N) = some (I (p + 4) k) := rd (by have := h.1; omega) h.2.2.2.2.2.1.1 hk (by omega)
theorem Ho_w3 (h : isHo R S N p) (I : Nat → Nat → Int32) {k : Nat} (x : Int32) (hk : k < 7) : wrI (p + 4) (nI k) x (I, R, S, N) = some (up1 I (p + 4) (upd (I (p + 4)) k x), R, S, N) := wr (by have := h.1; omega) h.2.2.2.2.2.1.1 hk (by omega)
theorem Ho_5 (h : isHo R S N p) (I : Nat → Nat → Int32) : gfR 3 5 p (I, R, S, N) = some (p + 5) := gR (by have := h.1; omega) h.2.1 h.2.2.2.2.2.2.1.2
theorem Ho_r5 (h : isHo R S N p) (I : Nat → Nat → Int32) {k : Nat} (hk : k < 5) : rdI (p + 5) (nI k) (I, R, S, N) = some (I (p + 5) k) := rd (by have := h.1; omega) h.2.2.2.2.2.2.1.1 hk (by omega)
theorem Ho_w5 (h : isHo R S N p) (I : Nat → Nat → Int32) {k : Nat} (x : Int32) (hk : k < 5) : wrI (p + 5) (nI k) x (I, R, S, N) = some (up1 I (p + 5) (upd (I (p + 5)) k x), R, S, N) := wr (by have := h.1; omega) h.2.2.2.2.2.2.1.1 hk (by omega)
theorem Ho_6 (h : isHo R S N p) (I : Nat → Nat → Int32) : gfR 3 6 p (I, R, S, N) = some (p + 6) := gR (by have := h.1; omega) h.2.1 h.2.2.2.2.2.2.2.1.2
theorem Ho_r6 (h : isHo R S N p) (I : Nat → Nat → Int32) {k : Nat} (hk : k < 5) : rdI (p + 6) (nI k) (I, R, S, N) = some (I (p + 6) k) := rd (by have := h.1; omega) h.2.2.2.2.2.2.2.1.1 hk (by omega)
theorem Ho_w6 (h : isHo R S N p) (I : Nat → Nat → Int32) {k : Nat} (x : Int32) (hk : k < 5) : wrI (p + 6) (nI k) x (I, R, S, N) = some (up1 I (p + 6) (upd (I (p + 6)) k x), R, S, N) := wr (by have := h.1; omega) h.2.2.2.2.2.2.2.1.1 hk (by omega)
theorem Ho_8 (h : isHo R S N p) (I : Nat → Nat → Int32) : gfR 3 8 p (I, R, S, N) = some (p + 7) := gR (by have := h.1; omega) h.2.1 h.2.2.2.2.2.2.2.2.1.2
theorem Ho_r8 (h : isHo R S N p) (I : Nat → Nat → Int32) {k : Nat} (hk : k < 10) : rdI (p + 7) (nI k) (I, R, S, N) = some (I (p + 7) k) := rd (by have := h.1; omega) h.2.2.2.2.2.2.2.2.1.1 hk (by omega)
theorem Ho_w8 (h : isHo R S N p) (I : Nat → Nat → Int32) {k : Nat} (x : Int32) (hk : k < 10) : wrI (p + 7) (nI k) x (I, R, S, N) = some (up1 I (p + 7) (upd (I (p + 7)) k x), R, S, N) := wr (by have := h.1; omega) h.2.2.2.2.2.2.2.2.1.1 hk (by omega)
theorem Ho_9 (h : isHo R S N p) (I : Nat → Nat → Int32) : gfR 3 9 p (I, R, S, N) = some (p + 8) := gR (by have := h.1; omega) h.2.1 h.2.2.2.2.2.2.2.2.2.1.2
theorem Ho_r9 (h : isHo R S N p) (I : Nat → Nat → Int32) {k : Nat} (hk : k < 10) : rdI (p + 8) (nI k) (I, R, S, N) = some (I (p + 8) k) := rd (by have := h.1; omega) h.2.2.2.2.2.2.2.2.2.1.1 hk (by omega)
theorem Ho_w9 (h : isHo R S N p) (I : Nat → Nat → Int32) {k : Nat} (x : Int32) (hk : k < 10) : wrI (p + 8) (nI k) x (I, R, S, N) = some (up1 I (p + 8) (upd (I (p + 8)) k x), R, S, N) := wr (by have := h.1; omega) h.2.2.2.2.2.2.2.2.2.1.1 hk (by omega)
theorem Ho_10 (h : isHo R S N p) (I : Nat → Nat → Int32) : gfR 3 10 p (I, R, S, N) = some (p + 9) := gR (by have := h.1; omega) h.2.1 h.2.2.2.2.2.2.2.2.2.2.1.2
theorem Ho_r10 (h : isHo R S N p) (I : Nat → Nat → Int32) {k : Nat} (hk : k < 10) : rdI (p + 9) (nI k) (I, R, S, N) = some (I (p + 9) k) := rd (by have := h.1; omega) h.2.2.2.2.2.2.2.2.2.2.1.1 hk (by omega)
theorem Ho_w10 (h : isHo R S N p) (I : Nat → Nat → Int32) {k : Nat} (x : Int32) (hk : k < 10) : wrI (p + 9) (nI k) x (I, R, S, N) = some (up1 I (p + 9) (upd (I (p + 9)) k x), R, S, N) := wr (by have := h.1; omega) h.2.2.2.2.2.2.2.2.2.2.1.1 hk (by omega)
theorem Ho_12 (h : isHo R S N p) (I : Nat → Nat → Int32) : gfR 3 12 p (I, R, S, N) = some (p + 10) := gR (by have := h.1; omega) h.2.1 h.2.2.2.2.2.2.2.2.2.2.2.1
theorem Ho_T (h : isHo R S N p) : isT R S N (p + 10) := h.2.2.2.2.2.2.2.2.2.2.2.2
def isMo (R : Nat → Nat → Option Nat) (S : Nat → Nat × Nat) (N p : Nat) : Prop := p + 20 < N ∧ (S p).1 = 11 ∧ (S (p + 1) = (12, 28) ∧ R p 1 = some (p + 1)) ∧ (S (p + 2) = (12, 10) ∧ R p 3 = some (p + 2)) ∧ (S (p + 3) = (12, 30) ∧ R p 5 = some (p + 3)) ∧ (S (p + 4) = (12, 10) ∧ R p 6 = some (p + 4)) ∧ (S (p + 5) = (12, 25) ∧ R p 7 = some (p + 5)) ∧ (S (p + 6) = (12, 200) ∧ R p 9 = some (p + 6)) ∧ (S (p + 7) = (12, 50) ∧ R p 11 = some (p + 7)) ∧ (S (p + 8) = (12, 16) ∧ R p 13 = some (p + 8)) ∧ (S (p + 9) = (12, 200) ∧ R p 14 = some (p + 9)) ∧ (S (p + 10) = (12, 4) ∧ R p 17 = some (p + 10)) ∧ (S (p + 11) = (12, 28) ∧ R p 19 = some (p + 11)) ∧ (S (p + 12) = (12, 10) ∧ R p 21 = some (p + 12)) ∧ (S (p + 13) = (12, 30) ∧ R p 23 = some (p + 13)) ∧ (S (p + 14) = (12, 25) ∧ R p 24 = some (p + 14)) ∧ (S (p + 15) = (12, 7) ∧ R p 25 = some (p + 15)) ∧ (S (p + 16) = (12, 7) ∧ R p 26 = some (p + 16)) ∧ (S (p + 17) = (12, 5) ∧ R p 27 = some (p + 17)) ∧ (S (p + 18) = (12, 7) ∧ R p 29 = some (p + 18)) ∧ (S (p + 19) = (12, 13) ∧ R p 30 = some (p + 19)) ∧ (S (p + 20) = (12, 5) ∧ R p 31 = some (p + 20))
theorem Mo_g (h : isMo R S N p) (I : Nat → Nat → Int32) (j : Nat) : gfI 11 j p (I, R, S, N) = some (I p j) := gI (by have := h.1; omega) h.2.1
theorem Mo_p (h : isMo R S N p) (I : Nat → Nat → Int32) (j : Nat) (x : Int32) : pfI 11 j p x (I, R, S, N) = some (up1 I p (upd (I p) j x), R, S, N) := pI (by have := h.1; omega) h.2.1
theorem Mo_o (h : isMo R S N p) (I : Nat → Nat → Int32) : isO 11 p (I, R, S, N) = some () := oI (by have := h.1; omega) h.2.1
theorem Mo_1 (h : isMo R S N p) (I : Nat → Nat → Int32) : gfR 11 1 p (I, R, S, N) = some (p + 1) := gR (by have := h.1; omega) h.2.1 h.2.2.1.2
theorem Mo_r1 (h : isMo R S N p) (I : Nat → Nat → Int32) {k : Nat} (hk : k < 28) : rdI (p + 1) (nI k) (I, R, S, N) = some (I (p + 1) k) := rd (by have := h.1; omega) h.2.2.1.1 hk (by omega)
theorem Mo_w1 (h : isMo R S N p) (I : Nat → Nat → Int32) {k : Nat} (x : Int32) (hk : k < 28) : wrI (p + 1) (nI k) x (I, R, S, N) = some (up1 I (p + 1) (upd (I (p + 1)) k x), R, S, N) := wr (by have := h.1; omega) h.2.2.1.1 hk (by omega)
theorem Mo_3 (h : isMo R S N p) (I : Nat → Nat → Int32) : gfR 11 3 p (I, R, S, N) = some (p + 2) := gR (by have := h.1; omega) h.2.1 h.2.2.2.1.2
theorem Mo_r3 (h : isMo R S N p) (I : Nat → Nat → Int32) {k : Nat} (hk : k < 10) : rdI (p + 2) (nI k) (I, R, S, N) = some (I (p + 2) k) := rd (by have := h.1; omega) h.2.2.2.1.1 hk (by omega)
theorem Mo_w3 (h : isMo R S N p) (I : Nat → Nat → Int32) {k : Nat} (x : Int32) (hk : k < 10) : wrI (p + 2) (nI k) x (I, R, S, N) = some (up1 I (p + 2) (upd (I (p + 2)) k x), R, S, N) := wr (by have := h.1; omega) h.2.2.2.1.1 hk (by omega)
theorem Mo_5 (h : isMo R S N p) (I : Nat → Nat → Int32) : gfR 11 5 p (I, R, S, N) = some (p + 3) := gR (by have := h.1; omega) h.2.1 h.2.2.2.2.1.2
theorem Mo_r5 (h : isMo R S N p) (I : Nat → Nat → Int32) {k : Nat} (hk : k < 30) : rdI (p + 3) (nI k) (I, R, S, N) = some (I (p + 3) k) := rd (by have := h.1; omega) h.2.2.2.2.1.1 hk (by omega)
theorem Mo_w5 (h : isMo R S N p) (I : Nat → Nat → Int32) {k : Nat} (x : Int32) (hk : k < 30) : wrI (p + 3) (nI k) x (I, R, S, N) = some (up1 I (p + 3) (upd (I (p + 3)) k x), R, S, N) := wr (by have := h.1; omega) h.2.2.2.2.1.1 hk (by omega)
theorem Mo_6 (h : isMo R S N p) (I : Nat → Nat → Int32) : gfR 11 6 p (I, R, S, N) = some (p + 4) := gR (by have := h.1; omega) h.2.1 h.2.2.2.2.2.1.2
theorem Mo_r6 (h : isMo R S N p) (I : Nat → Nat → Int32) {k : Nat} (hk : k < 10) : rdI (p + 4) (nI k) (I, R, S, N) = some (I (p + 4) k) := rd (by have := h.1; omega) h.2.2.2.2.2.1.1 hk (by omega)
theorem Mo_w6 (h : isMo R S N p) (I : Nat → Nat → Int32) {k : Nat} (x : Int32) (hk : k < 10) : wrI (p + 4) (nI k) x (I, R, S, N) = some (up1 I (p + 4) (upd (I (p + 4)) k x), R, S, N) := wr (by have := h.1; omega) h.2.2.2.2.2.1.1 hk (by omega)
theorem Mo_7 (h : isMo R S N p) (I : Nat → Nat → Int32) : gfR 11 7 p (I, R, S, N) = some (p + 5) := gR (by have := h.1; omega) h.2.1 h.2.2.2.2.2.2.1.2
theorem Mo_r7 (h : isMo R S N p) (I : Nat → Nat → Int32) {k : Nat} (hk : k < 25) : rdI (p + 5) (nI k) (I, R, S, N) = some (I (p + 5) k) := rd (by have := h.1; omega) h.2.2.2.2.2.2.1.1 hk (by omega)
theorem Mo_w7 (h : isMo R S N p) (I : Nat → Nat → Int32) {k : Nat} (x : Int32) (hk : k < 25) : wrI (p + 5) (nI k) x (I, R, S, N) = some (up1 I (p + 5) (upd (I (p + 5)) k x), R, S, N) := wr (by have := h.1; omega) h.2.2.2.2.2.2.1.1 hk (by omega)
theorem Mo_9 (h : isMo R S N p) (I : Nat → Nat → Int32) : gfR 11 9 p (I, R, S, N) = some (p + 6) := gR (by have := h.1; omega) h.2.1 h.2.2.2.2.2.2.2.1.2
theorem Mo_r9 (h : isMo R S N p) (I : Nat → Nat → Int32) {k : Nat} (hk : k < 200) : rdI (p + 6) (nI k) (I, R, S, N) = some (I (p + 6) k) := rd (by have := h.1; omega) h.2.2.2.2.2.2.2.1.1 hk (by omega)
theorem Mo_w9 (h : isMo R S N p) (I : Nat → Nat → Int32) {k : Nat} (x : Int32) (hk : k < 200) : wrI (p + 6) (nI k) x (I, R, S, N) = some (up1 I (p + 6) (upd (I (p + 6)) k x), R, S, N) := wr (by have := h.1; omega) h.2.2.2.2.2.2.2.1.1 hk (by omega)
theorem Mo_11 (h : isMo R S N p) (I : Nat → Nat → Int32) : gfR 11 11 p (I, R, S, N) = some (p + 7) := gR (by have := h.1; omega) h.2.1 h.2.2.2.2.2.2.2.2.1.2
theorem Mo_r11 (h : isMo R S N p) (I : Nat → Nat → Int32) {k : Nat} (hk : k < 50) : rdI (p + 7) (nI k) (I, R, S, N) = some (I (p + 7) k) := rd (by have := h.1; omega) h.2.2.2.2.2.2.2.2.1.1 hk (by omega)
theorem Mo_w11 (h : isMo R S N p) (I : Nat → Nat → Int32) {k : Nat} (x : Int32) (hk : k < 50) : wrI (p + 7) (nI k) x (I, R, S, N) = some (up1 I (p + 7) (upd (I (p + 7)) k x), R, S, N) := wr (by have := h.1; omega) h.2.2.2.2.2.2.2.2.1.1 hk (by omega)
theorem Mo_13 (h : isMo R S N p) (I : Nat → Nat → Int32) : gfR 11 13 p (I, R, S, N) = some (p + 8) := gR (by have := h.1; omega) h.2.1 h.2.2.2.2.2.2.2.2.2.1.2
theorem Mo_r13 (h : isMo R S N p) (I : Nat → Nat → Int32) {k : Nat} (hk : k < 16) : rdI (p + 8) (nI k) (I, R, S, N) = some (I (p + 8) k) := rd (by have := h.1; omega) h.2.2.2.2.2.2.2.2.2.1.1 hk (by omega)
theorem Mo_w13 (h : isMo R S N p) (I : Nat → Nat → Int32) {k : Nat} (x : Int32) (hk : k < 16) : wrI (p + 8) (nI k) x (I, R, S, N) = some (up1 I (p + 8) (upd (I (p + 8)) k x), R, S, N) := wr (by have := h.1; omega) h.2.2.2.2.2.2.2.2.2.1.1 hk (by omega)
theorem Mo_14 (h : isMo R S N p) (I : Nat → Nat → Int32) : gfR 11 14 p (I, R, S, N) = some (p + 9) := gR (by have := h.1; omega) h.2.1 h.2.2.2.2.2.2.2.2.2.2.1.2
theorem Mo_r14 (h : isMo R S N p) (I : Nat → Nat → Int32) {k : Nat} (hk : k < 200) : rdI (p + 9) (nI k) (I, R, S, N) = some (I (p + 9) k) := rd (by have := h.1; omega) h.2.2.2.2.2.2.2.2.2.2.1.1 hk (by omega)
theorem Mo_w14 (h : isMo R S N p) (I : Nat → Nat → Int32) {k : Nat} (x : Int32) (hk : k < 200) : wrI (p + 9) (nI k) x (I, R, S, N) = some (up1 I (p + 9) (upd (I (p + 9)) k x), R, S, N) := wr (by have := h.1; omega) h.2.2.2.2.2.2.2.2.2.2.1.1 hk (by omega)
theorem Mo_17 (h : isMo R S N p) (I : Nat → Nat → Int32) : gfR 11 17 p (I, R, S, N) = some (p + 10) := gR (by have := h.1; omega) h.2.1 h.2.2.2.2.2.2.2.2.2.2.2.1.2
theorem Mo_r17 (h : isMo R S N p) (I : Nat → Nat → Int32) {k : Nat} (hk : k < 4) : rdI (p + 10) (nI k) (I, R, S, N) = some (I (p + 10) k) := rd (by have := h.1; omega) h.2.2.2.2.2.2.2.2.2.2.2.1.1 hk (by omega)
theorem Mo_w17 (h : isMo R S N p) (I : Nat → Nat → Int32) {k : Nat} (x : Int32) (hk : k < 4) : wrI (p + 10) (nI k) x (I, R, S, N) = some (up1 I (p + 10) (upd (I (p + 10)) k x), R, S, N) := wr (by have := h.1; omega) h.2.2.2.2.2.2.2.2.2.2.2.1.1 hk (by omega)
theorem Mo_19 (h : isMo R S N p) (I : Nat → Nat → Int32) : gfR 11 19 p (I, R, S, N) = some (p + 11) := gR (by have := h.1; omega) h.2.1 h.2.2.2.2.2.2.2.2.2.2.2.2.1.2
theorem Mo_r19 (h : isMo R S N p) (I : Nat → Nat → Int32) {k : Nat} (hk : k < 28) : rdI (p + 11) (nI k) (I, R, S, N) = some (I (p + 11) k) := rd (by have := h.1; omega) h.2.2.2.2.2.2.2.2.2.2.2.2.1.1 hk (by omega)
theorem Mo_w19 (h : isMo R S N p) (I : Nat → Nat → Int32) {k : Nat} (x : Int32) (hk : k < 28) : wrI (p + 11) (nI k) x (I, R, S, N) = some (up1 I (p + 11) (upd (I (p + 11)) k x), R, S, N) := wr (by have := h.1; omega) h.2.2.2.2.2.2.2.2.2.2.2.2.1.1 hk (by omega)
theorem Mo_21 (h : isMo R S N p) (I : Nat → Nat → Int32) : gfR 11 21 p (I, R, S, N) = some (p + 12) := gR (by have := h.1; omega) h.2.1 h.2.2.2.2.2.2.2.2.2.2.2.2.2.1.2
theorem Mo_r21 (h : isMo R S N p) (I : Nat → Nat → Int32) {k : Nat} (hk : k < 10) : rdI (p + 12) (nI k) (I, R, S, N) = some (I (p + 12) k) := rd (by have := h.1; omega) h.2.2.2.2.2.2.2.2.2.2.2.2.2.1.1 hk (by omega)
theorem Mo_w21 (h : isMo R S N p) (I : Nat → Nat → Int32) {k : Nat} (x : Int32) (hk : k < 10) : wrI (p + 12) (nI k) x (I, R, S, N) = some (up1 I (p + 12) (upd (I (p + 12)) k x), R, S, N) := wr (by have := h.1; omega) h.2.2.2.2.2.2.2.2.2.2.2.2.2.1.1 hk (by omega)
theorem Mo_23 (h : isMo R S N p) (I : Nat → Nat → Int32) : gfR 11 23 p (I, R, S, N) = some (p + 13) := gR (by have := h.1; omega) h.2.1 h.2.2.2.2.2.2.2.2.2.2.2.2.2.2.1.2
theorem Mo_r23 (h : isMo R S N p) (I : Nat → Nat → Int32) {k : Nat} (hk : k < 30) : rdI (p + 13) (nI k) (I, R, S, N) = some (I (p + 13) k) := rd (by have := h.1; omega) h.2.2.2.2.2.2.2.2.2.2.2.2.2.2.1.1 hk (by omega)
theorem Mo_w23 (h : isMo R S N p) (I : Nat → Nat → Int32) {k : Nat} (x : Int32) (hk : k < 30) : wrI (p + 13) (nI k) x (I, R, S, N) = some (up1 I (p + 13) (upd (I (p + 13)) k x), R, S, N) := wr (by have := h.1; omega) h.2.2.2.2.2.2.2.2.2.2.2.2.2.2.1.1 hk (by omega)
theorem Mo_24 (h : isMo R S N p) (I : Nat → Nat → Int32) : gfR 11 24 p (I, R, S, N) = some (p + 14) := gR (by have := h.1; omega) h.2.1 h.2.2.2.2.2.2.2.2.2.2.2.2.2.2.2.1.2
theorem Mo_r24 (h : isMo R S N p) (I : Nat → Nat → Int32) {k : Nat} (hk : k < 25) : rdI (p + 14) (nI k) (I, R, S, N) = some (I (p + 14) k) := rd (by have := h.1; omega) h.2.2.2.2.2.2.2.2.2.2.2.2.2.2.2.1.1 hk (by omega)
theorem Mo_w24 (h : isMo R S N p) (I : Nat → Nat → Int32) {k : Nat} (x : Int32) (hk : k < 25) : wrI (p + 14) (nI k) x (I, R, S, N) = some (up1 I (p + 14) (upd (I (p + 14)) k x), R, S, N) := wr (by have := h.1; omega) h.2.2.2.2.2.2.2.2.2.2.2.2.2.2.2.1.1 hk (by omega)
theorem Mo_25 (h : isMo R S N p) (I : Nat → Nat → Int32) : gfR 11 25 p (I, R, S, N) = some (p + 15) := gR (by have := h.1; omega) h.2.1 h.2.2.2.2.2.2.2.2.2.2.2.2.2.2.2.2.1.2
theorem Mo_r25 (h : isMo R S N p) (I : Nat → Nat → Int32) {k : Nat} (hk : k < 7) : rdI (p + 15) (nI k) (I, R, S, N) = some (I (p + 15) k) := rd (by have := h.1; omega) h.2.2.2.2.2.2.2.2.2.2.2.2.2.2.2.2.1.1 hk (by omega)
theorem Mo_w25 (h : isMo R S N p) (I : Nat → Nat → Int32) {k : Nat} (x : Int32) (hk : k < 7) : wrI (p + 15) (nI k) x (I, R, S, N) = some (up1 I (p + 15) (upd (I (p + 15)) k x), R, S, N) := wr (by have := h.1; omega) h.2.2.2.2.2.2.2.2.2.2.2.2.2.2.2.2.1.1 hk (by omega)
theorem Mo_26 (h : isMo R S N p) (I : Nat → Nat → Int32) : gfR 11 26 p (I, R, S, N) = some (p + 16) := gR (by have := h.1; omega) h.2.1 h.2.2.2.2.2.2.2.2.2.2.2.2.2.2.2.2.2.1.2
theorem Mo_r26 (h : isMo R S N p) (I : Nat → Nat → Int32) {k : Nat} (hk : k < 7) : rdI (p + 16) (nI k) (I, R, S, N) = some (I (p + 16) k) := rd (by have := h.1; omega) h.2.2.2.2.2.2.2.2.2.2.2.2.2.2.2.2.2.1.1 hk (by omega)
theorem Mo_w26 (h : isMo R S N p) (I : Nat → Nat → Int32) {k : Nat} (x : Int32) (hk : k < 7) : wrI (p + 16) (nI k) x (I, R, S, N) = some (up1 I (p + 16) (upd (I (p + 16)) k x), R, S, N) := wr (by have := h.1; omega) h.2.2.2.2.2.2.2.2.2.2.2.2.2.2.2.2.2.1.1 hk (by omega)
theorem Mo_27 (h : isMo R S N p) (I : Nat → Nat → Int32) : gfR 11 27 p (I, R, S, N) = some (p + 17) := gR (by have := h.1; omega) h.2.1 h.2.2.2.2.2.2.2.2.2.2.2.2.2.2.2.2.2.2.1.2
theorem Mo_r27 (h : isMo R S N p) (I : Nat → Nat → Int32) {k : Nat} (hk : k < 5) : rdI (p + 17) (nI k) (I, R, S, N) = some (I (p + 17) k) := rd (by have := h.1; omega) h.2.2.2.2.2.2.2.2.2.2.2.2.2.2.2.2.2.2.1.1 hk (by omega)
theorem Mo_w27 (h : isMo R S N p) (I : Nat → Nat → Int32) {k : Nat} (x : Int32) (hk : k < 5) : wrI (p + 17) (nI k) x (I, R, S, N) = some (up1 I (p + 17) (upd (I (p + 17)) k x), R, S, N) := wr (by have := h.1; omega) h.2.2.2.2.2.2.2.2.2.2.2.2.2.2.2.2.2.2.1.1 hk (by omega)
theorem Mo_29 (h : isMo R S N p) (I : Nat → Nat → Int32) : gfR 11 29 p (I, R, S, N) = some (p + 18) := gR (by have := h.1; omega) h.2.1 h.2.2.2.2.2.2.2.2.2.2.2.2.2.2.2.2.2.2.2.1.2
theorem Mo_r29 (h : isMo R S N p) (I : Nat → Nat → Int32) {k : Nat} (hk : k < 7) : rdI (p + 18) (nI k) (I, R, S, N) = some (I (p + 18) k) := rd (by have := h.1; omega) h.2.2.2.2.2.2.2.2.2.2.2.2.2.2.2.2.2.2.2.1.1 hk (by omega)
theorem Mo_w29 (h : isMo R S N p) (I : Nat → Nat → Int32) {k : Nat} (x : Int32) (hk : k < 7) : wrI (p + 18) (nI k) x (I, R, S, N) = some (up1 I (p + 18) (upd (I (p + 18)) k x), R, S, N) := wr (by have := h.1; omega) h.2.2.2.2.2.2.2.2.2.2.2.2.2.2.2.2.2.2.2.1.1 hk (by omega)
theorem Mo_30 (h : isMo R S N p) (I : Nat → Nat → Int32) : gfR 11 30 p (I, R, S, N) = some (p + 19) := gR (by have := h.1; omega) h.2.1 h.2.2.2.2.2.2.2.2.2.2.2.2.2.2.2.2.2.2.2.2.1.2
theorem Mo_r30 (h : isMo R S N p) (I : Nat → Nat → Int32) {k : Nat} (hk : k < 13) : rdI (p + 19) (nI k) (I, R, S, N) = some (I (p + 19) k) := rd (by have := h.1; omega) h.2.2.2.2.2.2.2.2.2.2.2.2.2.2.2.2.2.2.2.2.1.1 hk (by omega)
theorem Mo_w30 (h : isMo R S N p) (I : Nat → Nat → Int32) {k : Nat} (x : Int32) (hk : k < 13) : wrI (p + 19) (nI k) x (I, R, S, N) = some (up1 I (p + 19) (upd (I (p + 19)) k x), R, S, N) := wr (by have := h.1; omega) h.2.2.2.2.2.2.2.2.2.2.2.2.2.2.2.2.2.2.2.2.1.1 hk (by omega)
theorem Mo_31 (h : isMo R S N p) (I : Nat → Nat → Int32) : gfR 11 31 p (I, R, S, N) = some (p + 20) := gR (by have := h.1; omega) h.2.1 h.2.2.2.2.2.2.2.2.2.2.2.2.2.2.2.2.2.2.2.2.2.2
theorem Mo_r31 (h : isMo R S N p) (I : Nat → Nat → Int32) {k : Nat} (hk : k < 5) : rdI (p + 20) (nI k) (I, R, S, N) = some (I (p + 20) k) := rd (by have := h.1; omega) h.2.2.2.2.2.2.2.2.2.2.2.2.2.2.2.2.2.2.2.2.2.1 hk (by omega)
theorem Mo_w31 (h : isMo R S N p) (I : Nat → Nat → Int32) {k : Nat} (x : Int32) (hk : k < 5) : wrI (p + 20) (nI k) x (I, R, S, N) = some (up1 I (p + 20) (upd (I (p + 20)) k x), R, S, N) := wr (by have := h.1; omega) h.2.2.2.2.2.2.2.2.2.2.2.2.2.2.2.2.2.2.2.2.2.1 hk (by omega)
theorem isTx_ofR {R' : Nat → Nat → Option Nat} (h : isTx R S N p) (e : ∀ k, p ≤ k → k ≤ p + 1 → R' k = R k) : isTx R' S N p := by
  unfold isTx at *
  rw [e p (by omega) (by omega)]
  exact h
theorem isRd_ofR {R' : Nat → Nat → Option Nat} (h : isRd R S N p) (e : ∀ k, p ≤ k → k ≤ p + 1 → R' k = R k) : isRd R' S N p := by
  unfold isRd at *
  rw [e p (by omega) (by omega)]
  exact h
theorem isDy_ofR {R' : Nat → Nat → Option Nat} (h : isDy R S N p) (e : ∀ k, p ≤ k → k ≤ p + 97 → R' k = R k) : isDy R' S N p := by
  unfold isDy at *
  rw [e p (by omega) (by omega), e (p + 1) (by omega) (by omega), e (p + 33) (by omega) (by omega), e (p + 65) (by omega) (by omega)]
  exact h
theorem isLu_ofR {R' : Nat → Nat → Option Nat} (h : isLu R S N p) (e : ∀ k, p ≤ k → k ≤ p + 12 → R' k = R k) : isLu R' S N p := by
  unfold isLu at *
  rw [e p (by omega) (by omega), e (p + 4) (by omega) (by omega)]
  exact h
theorem isSi_ofR {R' : Nat → Nat → Option Nat} (h : isSi R S N p) (e : ∀ k, p ≤ k → k ≤ p + 3 → R' k = R k) : isSi R' S N p := by
  unfold isSi at *
  rw [e p (by omega) (by omega)]
  exact h
theorem isDr_ofR {R' : Nat → Nat → Option Nat} (h : isDr R S N p) (e : ∀ k, p ≤ k → k ≤ p + 2 → R' k = R k) : isDr R' S N p := by
  unfold isDr at *
  rw [e p (by omega) (by omega)]
  exact h
theorem isHo_ofR {R' : Nat → Nat → Option Nat} (h : isHo R S N p) (e : ∀ k, p ≤ k → k ≤ p + 13 → R' k = R k) : isHo R' S N p := by
  unfold isHo isT at *
  rw [e p (by omega) (by omega), e (p + 10) (by omega) (by omega)]
  exact h
theorem isMo_ofR {R' : Nat → Nat → Option Nat} (h : isMo R S N p) (e : ∀ k, p ≤ k → k ≤ p + 20 → R' k = R k) : isMo R' S N p := by
  unfold isMo at *
  rw [e p (by omega) (by omega)]
  exact h
end ACC
