/-! the class: where it lies, what it holds of the abstract state -/
def xK (i : Nat) : Nat := [6, 5, 8, 8, 1, 8, 8, 8, 8, 5, 8, 8, 5, 8, 8, 1, 8, 8, 8, 8, 11, 10, 3, 4, 5, 8, 8, 8, 8, 8].getD i 0
/-- where the class and what it has made lies -/
def XS (a : Nat → Nat) (S : Hp) : Prop := (∀ i, i < 30 → kd S (a i) = xK i) ∧ (∀ i j, i < 30 → j < 30 → a i = a j → i = j) ∧ (gR S 50 (a 0) = some (a 1) ∧ gR S 51 (a 0) = some (a 4) ∧ gR S 52 (a 0) = some (a 9) ∧ gR S 54 (a 0) = some (a 12) ∧ gR S 55 (a 0) = some (a 15) ∧ gR S 56 (a 0) = some (a 20) ∧ gR S 57 (a 0) = some (a 21) ∧ gR S 58 (a 0) = some (a 22) ∧ gR S 59 (a 0) = some (a 23) ∧ gR S 60 (a 0) = some (a 27) ∧ gR S 61 (a 0) = some (a 28) ∧ gR S 62 (a 0) = some (a 29) ∧ gR S 40 (a 1) = some (a 2) ∧ gR S 41 (a 1) = some (a 3) ∧ gR S 40 (a 9) = some (a 10) ∧ gR S 41 (a 9) = some (a 11) ∧ gR S 40 (a 12) = some (a 13) ∧ gR S 41 (a 12) = some (a 14) ∧ gR S 40 (a 24) = some (a 25) ∧ gR S 41 (a 24) = some (a 26) ∧ gR S 0 (a 4) = some (a 5) ∧ gR S 1 (a 4) = some (a 6) ∧ gR S 2 (a 4) = some (a 7) ∧ gR S 3 (a 4) = some (a 8) ∧ gR S 0 (a 15) = some (a 16) ∧ gR S 1 (a 15) = some (a 17) ∧ gR S 2 (a 15) = some (a 18) ∧ gR S 3 (a 15) = some (a 19) ∧ gR S 30 (a 23) = some (a 24)) ∧ (ln S (a 2) = 6 ∧ ln S (a 3) = 6 ∧ ln S (a 10) = 6 ∧ ln S (a 11) = 6 ∧ ln S (a 13) = 6 ∧ ln S (a 14) = 6 ∧ ln S (a 25) = 6 ∧ ln S (a 26) = 6 ∧ ln S (a 5) = 729 ∧ ln S (a 6) = 729 ∧ ln S (a 7) = 729 ∧ ln S (a 8) = 729 ∧ ln S (a 16) = 729 ∧ ln S (a 17) = 729 ∧ ln S (a 18) = 729 ∧ ln S (a 19) = 729 ∧ ln S (a 20) = 8 ∧ ln S (a 21) = 8 ∧ ln S (a 27) = 1000 ∧ ln S (a 28) = 64 ∧ ln S (a 29) = 729) ∧ gI S 20 (a 22) = 0 ∧ gI S 21 (a 22) = 0
theorem XS.k0 {a : Nat → Nat} {S : Hp} (h : XS a S) : kd S (a 0) = 6 := h.1 0 (by decide)
theorem XS.k1 {a : Nat → Nat} {S : Hp} (h : XS a S) : kd S (a 1) = 5 := h.1 1 (by decide)
theorem XS.k2 {a : Nat → Nat} {S : Hp} (h : XS a S) : kd S (a 2) = 8 := h.1 2 (by decide)
theorem XS.k3 {a : Nat → Nat} {S : Hp} (h : XS a S) : kd S (a 3) = 8 := h.1 3 (by decide)
theorem XS.k4 {a : Nat → Nat} {S : Hp} (h : XS a S) : kd S (a 4) = 1 := h.1 4 (by decide)
theorem XS.k5 {a : Nat → Nat} {S : Hp} (h : XS a S) : kd S (a 5) = 8 := h.1 5 (by decide)
theorem XS.k6 {a : Nat → Nat} {S : Hp} (h : XS a S) : kd S (a 6) = 8 := h.1 6 (by decide)
theorem XS.k7 {a : Nat → Nat} {S : Hp} (h : XS a S) : kd S (a 7) = 8 := h.1 7 (by decide)
theorem XS.k8 {a : Nat → Nat} {S : Hp} (h : XS a S) : kd S (a 8) = 8 := h.1 8 (by decide)
theorem XS.k9 {a : Nat → Nat} {S : Hp} (h : XS a S) : kd S (a 9) = 5 := h.1 9 (by decide)
theorem XS.k10 {a : Nat → Nat} {S : Hp} (h : XS a S) : kd S (a 10) = 8 := h.1 10 (by decide)
theorem XS.k11 {a : Nat → Nat} {S : Hp} (h : XS a S) : kd S (a 11) = 8 := h.1 11 (by decide)
theorem XS.k12 {a : Nat → Nat} {S : Hp} (h : XS a S) : kd S (a 12) = 5 := h.1 12 (by decide)
theorem XS.k13 {a : Nat → Nat} {S : Hp} (h : XS a S) : kd S (a 13) = 8 := h.1 13 (by decide)
theorem XS.k14 {a : Nat → Nat} {S : Hp} (h : XS a S) : kd S (a 14) = 8 := h.1 14 (by decide)
theorem XS.k15 {a : Nat → Nat} {S : Hp} (h : XS a S) : kd S (a 15) = 1 := h.1 15 (by decide)
theorem XS.k16 {a : Nat → Nat} {S : Hp} (h : XS a S) : kd S (a 16) = 8 := h.1 16 (by decide)
theorem XS.k17 {a : Nat → Nat} {S : Hp} (h : XS a S) : kd S (a 17) = 8 := h.1 17 (by decide)
theorem XS.k18 {a : Nat → Nat} {S : Hp} (h : XS a S) : kd S (a 18) = 8 := h.1 18 (by decide)
theorem XS.k19 {a : Nat → Nat} {S : Hp} (h : XS a S) : kd S (a 19) = 8 := h.1 19 (by decide)
theorem XS.k20 {a : Nat → Nat} {S : Hp} (h : XS a S) : kd S (a 20) = 11 := h.1 20 (by decide)
theorem XS.k21 {a : Nat → Nat} {S : Hp} (h : XS a S) : kd S (a 21) = 10 := h.1 21 (by decide)
theorem XS.k22 {a : Nat → Nat} {S : Hp} (h : XS a S) : kd S (a 22) = 3 := h.1 22 (by decide)
theorem XS.k23 {a : Nat → Nat} {S : Hp} (h : XS a S) : kd S (a 23) = 4 := h.1 23 (by decide)
theorem XS.k24 {a : Nat → Nat} {S : Hp} (h : XS a S) : kd S (a 24) = 5 := h.1 24 (by decide)
theorem XS.k25 {a : Nat → Nat} {S : Hp} (h : XS a S) : kd S (a 25) = 8 := h.1 25 (by decide)
theorem XS.k26 {a : Nat → Nat} {S : Hp} (h : XS a S) : kd S (a 26) = 8 := h.1 26 (by decide)
theorem XS.k27 {a : Nat → Nat} {S : Hp} (h : XS a S) : kd S (a 27) = 8 := h.1 27 (by decide)
theorem XS.k28 {a : Nat → Nat} {S : Hp} (h : XS a S) : kd S (a 28) = 8 := h.1 28 (by decide)
theorem XS.k29 {a : Nat → Nat} {S : Hp} (h : XS a S) : kd S (a 29) = 8 := h.1 29 (by decide)
theorem XS.r50_0 {a : Nat → Nat} {S : Hp} (h : XS a S) : gR S 50 (a 0) = some (a 1) := h.2.2.1.1
theorem XS.r51_0 {a : Nat → Nat} {S : Hp} (h : XS a S) : gR S 51 (a 0) = some (a 4) := h.2.2.1.2.1
theorem XS.r52_0 {a : Nat → Nat} {S : Hp} (h : XS a S) : gR S 52 (a 0) = some (a 9) := h.2.2.1.2.2.1
theorem XS.r54_0 {a : Nat → Nat} {S : Hp} (h : XS a S) : gR S 54 (a 0) = some (a 12) := h.2.2.1.2.2.2.1
theorem XS.r55_0 {a : Nat → Nat} {S : Hp} (h : XS a S) : gR S 55 (a 0) = some (a 15) := h.2.2.1.2.2.2.2.1
theorem XS.r56_0 {a : Nat → Nat} {S : Hp} (h : XS a S) : gR S 56 (a 0) = some (a 20) := h.2.2.1.2.2.2.2.2.1
theorem XS.r57_0 {a : Nat → Nat} {S : Hp} (h : XS a S) : gR S 57 (a 0) = some (a 21) := h.2.2.1.2.2.2.2.2.2.1
theorem XS.r58_0 {a : Nat → Nat} {S : Hp} (h : XS a S) : gR S 58 (a 0) = some (a 22) := h.2.2.1.2.2.2.2.2.2.2.1
theorem XS.r59_0 {a : Nat → Nat} {S : Hp} (h : XS a S) : gR S 59 (a 0) = some (a 23) := h.2.2.1.2.2.2.2.2.2.2.2.1
theorem XS.r60_0 {a : Nat → Nat} {S : Hp} (h : XS a S) : gR S 60 (a 0) = some (a 27) := h.2.2.1.2.2.2.2.2.2.2.2.2.1
theorem XS.r61_0 {a : Nat → Nat} {S : Hp} (h : XS a S) : gR S 61 (a 0) = some (a 28) := h.2.2.1.2.2.2.2.2.2.2.2.2.2.1
theorem XS.r62_0 {a : Nat → Nat} {S : Hp} (h : XS a S) : gR S 62 (a 0) = some (a 29) := h.2.2.1.2.2.2.2.2.2.2.2.2.2.2.1
theorem XS.r40_1 {a : Nat → Nat} {S : Hp} (h : XS a S) : gR S 40 (a 1) = some (a 2) := h.2.2.1.2.2.2.2.2.2.2.2.2.2.2.2.1
theorem XS.r41_1 {a : Nat → Nat} {S : Hp} (h : XS a S) : gR S 41 (a 1) = some (a 3) := h.2.2.1.2.2.2.2.2.2.2.2.2.2.2.2.2.1
theorem XS.r40_9 {a : Nat → Nat} {S : Hp} (h : XS a S) : gR S 40 (a 9) = some (a 10) := h.2.2.1.2.2.2.2.2.2.2.2.2.2.2.2.2.2.1
theorem XS.r41_9 {a : Nat → Nat} {S : Hp} (h : XS a S) : gR S 41 (a 9) = some (a 11) := h.2.2.1.2.2.2.2.2.2.2.2.2.2.2.2.2.2.2.1
theorem XS.r40_12 {a : Nat → Nat} {S : Hp} (h : XS a S) : gR S 40 (a 12) = some (a 13) := h.2.2.1.2.2.2.2.2.2.2.2.2.2.2.2.2.2.2.2.1
theorem XS.r41_12 {a : Nat → Nat} {S : Hp} (h : XS a S) : gR S 41 (a 12) = some (a 14) := h.2.2.1.2.2.2.2.2.2.2.2.2.2.2.2.2.2.2.2.2.1
theorem XS.r40_24 {a : Nat → Nat} {S : Hp} (h : XS a S) : gR S 40 (a 24) = some (a 25) := h.2.2.1.2.2.2.2.2.2.2.2.2.2.2.2.2.2.2.2.2.2.1
theorem XS.r41_24 {a : Nat → Nat} {S : Hp} (h : XS a S) : gR S 41 (a 24) = some (a 26) := h.2.2.1.2.2.2.2.2.2.2.2.2.2.2.2.2.2.2.2.2.2.2.1
theorem XS.r0_4 {a : Nat → Nat} {S : Hp} (h : XS a S) : gR S 0 (a 4) = some (a 5) := h.2.2.1.2.2.2.2.2.2.2.2.2.2.2.2.2.2.2.2.2.2.2.2.1
theorem XS.r1_4 {a : Nat → Nat} {S : Hp} (h : XS a S) : gR S 1 (a 4) = some (a 6) := h.2.2.1.2.2.2.2.2.2.2.2.2.2.2.2.2.2.2.2.2.2.2.2.2.1
theorem XS.r2_4 {a : Nat → Nat} {S : Hp} (h : XS a S) : gR S 2 (a 4) = some (a 7) := h.2.2.1.2.2.2.2.2.2.2.2.2.2.2.2.2.2.2.2.2.2.2.2.2.2.1
theorem XS.r3_4 {a : Nat → Nat} {S : Hp} (h : XS a S) : gR S 3 (a 4) = some (a 8) := h.2.2.1.2.2.2.2.2.2.2.2.2.2.2.2.2.2.2.2.2.2.2.2.2.2.2.1
theorem XS.r0_15 {a : Nat → Nat} {S : Hp} (h : XS a S) : gR S 0 (a 15) = some (a 16) := h.2.2.1.2.2.2.2.2.2.2.2.2.2.2.2.2.2.2.2.2.2.2.2.2.2.2.2.1
theorem XS.r1_15 {a : Nat → Nat} {S : Hp} (h : XS a S) : gR S 1 (a 15) = some (a 17) := h.2.2.1.2.2.2.2.2.2.2.2.2.2.2.2.2.2.2.2.2.2.2.2.2.2.2.2.2.1
theorem XS.r2_15 {a : Nat → Nat} {S : Hp} (h : XS a S) : gR S 2 (a 15) = some (a 18) := h.2.2.1.2.2.2.2.2.2.2.2.2.2.2.2.2.2.2.2.2.2.2.2.2.2.2.2.2.2.1
theorem XS.r3_15 {a : Nat → Nat} {S : Hp} (h : XS a S) : gR S 3 (a 15) = some (a 19) := h.2.2.1.2.2.2.2.2.2.2.2.2.2.2.2.2.2.2.2.2.2.2.2.2.2.2.2.2.2.2.1
theorem XS.r30_23 {a : Nat → Nat} {S : Hp} (h : XS a S) : gR S 30 (a 23) = some (a 24) := h.2.2.1.2.2.2.2.2.2.2.2.2.2.2.2.2.2.2.2.2.2.2.2.2.2.2.2.2.2.2.2
theorem XS.l2 {a : Nat → Nat} {S : Hp} (h : XS a S) : ln S (a 2) = 6 := h.2.2.2.1.1
theorem XS.l3 {a : Nat → Nat} {S : Hp} (h : XS a S) : ln S (a 3) = 6 := h.2.2.2.1.2.1
theorem XS.l10 {a : Nat → Nat} {S : Hp} (h : XS a S) : ln S (a 10) = 6 := h.2.2.2.1.2.2.1
theorem XS.l11 {a : Nat → Nat} {S : Hp} (h : XS a S) : ln S (a 11) = 6 := h.2.2.2.1.2.2.2.1
theorem XS.l13 {a : Nat → Nat} {S : Hp} (h : XS a S) : ln S (a 13) = 6 := h.2.2.2.1.2.2.2.2.1
theorem XS.l14 {a : Nat → Nat} {S : Hp} (h : XS a S) : ln S (a 14) = 6 := h.2.2.2.1.2.2.2.2.2.1
theorem XS.l25 {a : Nat → Nat} {S : Hp} (h : XS a S) : ln S (a 25) = 6 := h.2.2.2.1.2.2.2.2.2.2.1
theorem XS.l26 {a : Nat → Nat} {S : Hp} (h : XS a S) : ln S (a 26) = 6 := h.2.2.2.1.2.2.2.2.2.2.2.1
theorem XS.l5 {a : Nat → Nat} {S : Hp} (h : XS a S) : ln S (a 5) = 729 := h.2.2.2.1.2.2.2.2.2.2.2.2.1
theorem XS.l6 {a : Nat → Nat} {S : Hp} (h : XS a S) : ln S (a 6) = 729 := h.2.2.2.1.2.2.2.2.2.2.2.2.2.1
theorem XS.l7 {a : Nat → Nat} {S : Hp} (h : XS a S) : ln S (a 7) = 729 := h.2.2.2.1.2.2.2.2.2.2.2.2.2.2.1
theorem XS.l8 {a : Nat → Nat} {S : Hp} (h : XS a S) : ln S (a 8) = 729 := h.2.2.2.1.2.2.2.2.2.2.2.2.2.2.2.1
theorem XS.l16 {a : Nat → Nat} {S : Hp} (h : XS a S) : ln S (a 16) = 729 := h.2.2.2.1.2.2.2.2.2.2.2.2.2.2.2.2.1
theorem XS.l17 {a : Nat → Nat} {S : Hp} (h : XS a S) : ln S (a 17) = 729 := h.2.2.2.1.2.2.2.2.2.2.2.2.2.2.2.2.2.1
theorem XS.l18 {a : Nat → Nat} {S : Hp} (h : XS a S) : ln S (a 18) = 729 := h.2.2.2.1.2.2.2.2.2.2.2.2.2.2.2.2.2.2.1
theorem XS.l19 {a : Nat → Nat} {S : Hp} (h : XS a S) : ln S (a 19) = 729 := h.2.2.2.1.2.2.2.2.2.2.2.2.2.2.2.2.2.2.2.1
theorem XS.l20 {a : Nat → Nat} {S : Hp} (h : XS a S) : ln S (a 20) = 8 := h.2.2.2.1.2.2.2.2.2.2.2.2.2.2.2.2.2.2.2.2.1
theorem XS.l21 {a : Nat → Nat} {S : Hp} (h : XS a S) : ln S (a 21) = 8 := h.2.2.2.1.2.2.2.2.2.2.2.2.2.2.2.2.2.2.2.2.2.1
theorem XS.l27 {a : Nat → Nat} {S : Hp} (h : XS a S) : ln S (a 27) = 1000 := h.2.2.2.1.2.2.2.2.2.2.2.2.2.2.2.2.2.2.2.2.2.2.1
theorem XS.l28 {a : Nat → Nat} {S : Hp} (h : XS a S) : ln S (a 28) = 64 := h.2.2.2.1.2.2.2.2.2.2.2.2.2.2.2.2.2.2.2.2.2.2.2.1
theorem XS.l29 {a : Nat → Nat} {S : Hp} (h : XS a S) : ln S (a 29) = 729 := h.2.2.2.1.2.2.2.2.2.2.2.2.2.2.2.2.2.2.2.2.2.2.2.2
theorem XS.ne {a : Nat → Nat} {S : Hp} (h : XS a S) {i j : Nat} (hi : i < 30) (hj : j < 30) (n : i ≠ j) : a i ≠ a j := fun z => n (h.2.1 i j hi hj z)
-- bits of a lying
def rbt : Nat → Nat → Nat
  | 0, _ => 0
  | n + 1, q => rbt n q ||| (if dg n q = 1 then 2 ^ n else 0)
def lbt : Nat → Nat → Nat
  | 0, _ => 0
  | n + 1, q => lbt n q ||| (if dg n q = 2 then 2 ^ n else 0)
def pcn (m : Nat) : Nat := cnt (fun i => m.testBit i) 6
theorem bits_all : ∀ n, n < 7 → ∀ q, q < 729 → (rbt n q < 64 ∧ lbt n q < 64 ∧ pcn (rbt n q) = rct n q ∧ (lbt n q = 0 ↔ lct n q = 0) ∧ rbt n q ||| lbt n q = usd n q ∧ pcn (usd n q) = lif n q) := by decide +kernel
theorem bits_of {n q : Nat} (hn : n ≤ 6) (hq : q < 3 ^ n) : rbt n q < 64 ∧ lbt n q < 64 ∧ pcn (rbt n q) = rct n q ∧ (lbt n q = 0 ↔ lct n q = 0) ∧ rbt n q ||| lbt n q = usd n q ∧ pcn (usd n q) = lif n q := bits_all n (by omega) q (by have := p3_6 hn; omega)
theorem usd_64 {n q : Nat} (hn : n ≤ 6) : usd n q < 64 := Nat.lt_of_lt_of_le (usd_lt n q) (Nat.pow_le_pow_right (n := 2) (by decide) hn)
theorem nI_or (a b : Nat) : nI a ||| nI b = nI (a ||| b) := by
  rw [← Int32.toBitVec_inj]; simp [nI, BitVec.ofNat_or]
theorem e_bitCount {m : Nat} (hm : m < 64) (S : Hp) (Q : Int32 → Hp → Prop) : wp_J6_bitCount_0f7a4 (nI m) S Q ↔ Q (nI (pcn m)) S := by
  have key : ∀ m, m < 64 → (let y1 := (nI m - (((nI m).toUInt32 >>> (((1 : Int32)).toUInt32 &&& Int32.toUInt32 31)).toInt32 &&& (1431655765 : Int32))); let y2 := ((y1 &&& (858993459 : Int32)) + (((y1).toUInt32 >>> (((2 : Int32)).toUInt32 &&& Int32.toUInt32 31)).toInt32 &&& (858993459 : Int32))); let y3 := ((y2 + ((y2).toUInt32 >>> (((4 : Int32)).toUInt32 &&& Int32.toUInt32 31)).toInt32) &&& (252645135 : Int32)); let y4 := (y3 + ((y3).toUInt32 >>> (((8 : Int32)).toUInt32 &&& Int32.toUInt32 31)).toInt32); let y5 := (y4 + ((y4).toUInt32 >>> (((16 : Int32)).toUInt32 &&& Int32.toUInt32 31)).toInt32); y5 &&& (63 : Int32)) = nI (pcn m) := by decide +kernel
  unfold wp_J6_bitCount_0f7a4
  simp only [forall_eq]
  rw [← key m hm]
theorem lft_bd {t : ASt} (h : StOk t) (q : Nat) : ∀ n, n ≤ t.1 → (lct n q : Int) ≤ (lft t.2.1 n q).toInt ∧ (lft t.2.1 n q).toInt ≤ 99 * lct n q
  | 0, _ => by simp [lct, lft]
  | n + 1, hn => by
    obtain ⟨h1, h2⟩ := lft_bd h q n (by omega)
    have h6 := h.1
    have hw := h.2.1 n (by omega)
    have hl := lct_le n q
    unfold lct lft
    by_cases e : dg n q = 2
    · rw [if_pos e, if_pos e, p_add (by omega) (by omega)]; omega
    · rw [if_neg e, if_neg e, p_add (by rw [show (0 : Int32).toInt = 0 from rfl]; omega) (by rw [show (0 : Int32).toInt = 0 from rfl]; omega), show (0 : Int32).toInt = 0 from rfl]; omega
theorem lft_0 {t : ASt} (h : StOk t) (q : Nat) : lft t.2.1 t.1 q ≤ 0 ↔ lct t.1 q = 0 := by
  have := lft_bd h q t.1 (Nat.le_refl _)
  rw [p_le, show (0 : Int32).toInt = 0 from rfl]
  omega
-- lyings laid out
def LyS (S : Hp) (y r l c d : Nat) : Prop := kd S y = 1 ∧ gR S 0 y = some r ∧ gR S 1 y = some l ∧ gR S 2 y = some c ∧ gR S 3 y = some d ∧ kd S r = 8 ∧ kd S l = 8 ∧ kd S c = 8 ∧ kd S d = 8 ∧ ln S r = 729 ∧ ln S l = 729 ∧ ln S c = 729 ∧ ln S d = 729 ∧ r ≠ l ∧ r ≠ c ∧ r ≠ d ∧ l ≠ c ∧ l ≠ d ∧ c ≠ d
def LyD (S : Hp) (y r l c d : Nat) (t : ASt) : Prop := gI S 4 y = nI (3 ^ t.1) ∧ ∀ q, q < 3 ^ t.1 → gA S r q = rgt t.2.1 t.1 q ∧ gA S l q = lft t.2.1 t.1 q ∧ gA S c q = nI (rbt t.1 q) ∧ gA S d q = nI (lbt t.1 q)
def ScS (S : Hp) (z : Nat) (s : ASh) : Prop := kd S z = 3 ∧ gI S 20 z = s.2.1 ∧ gI S 21 z = s.2.2.1
def StR (S : Hp) (c w p : Nat) (t : ASt) : Prop := gI S 42 c = nI t.1 ∧ (∀ j, j < t.1 → gA S w j = t.2.1 j) ∧ (∀ j, j < t.1 → gA S p j = t.2.2 j)
theorem x_isLying {S : Hp} {y r l c d : Nat} {t : ASt} {q : Int32} {Q : Int32 → Hp → Prop} (hS : LyS S y r l c d) (hD : LyD S y r l c d t) (hn : t.1 ≤ 6) (h : ∀ z, (z = 0 ↔ ¬ isLy t.1 q) → Q z S) : wp_X0_isLying y q S Q := by
  have h3 := p3_6 hn
  unfold wp_X0_isLying
  rw [hD.1, p_lt, p_le, nI_toInt (by omega), show (0 : Int32).toInt = 0 from rfl]
  refine ⟨fun z => h 0 ?_, fun z => ⟨hS.1, fun z2 => h 0 ?_, fun z2 => h 1 ?_⟩⟩
  · unfold isLy; exact ⟨fun _ w => by omega, fun _ => rfl⟩
  · unfold isLy; exact ⟨fun _ w => by omega, fun _ => rfl⟩
  · unfold isLy
    exact ⟨fun w => absurd w (by decide), fun w => absurd ⟨by omega, by omega⟩ w⟩
theorem x_notOff {S : Hp} {y r l c d : Nat} {t : ASt} {q : Nat} {Q : Int32 → Hp → Prop} (hS : LyS S y r l c d) (hD : LyD S y r l c d t) (hn : t.1 ≤ 6) (hq : q < 3 ^ t.1) (h : Q (nI (usd t.1 q)) S) : wp_X0_notOff y (nI q) S Q := by
  have h3 := p3_6 hn
  have hin : vp_in (nI q) 729 := vp_in_nI (by omega) (by decide)
  have hcl : (nI q).toNatClampNeg = q := nI_clamp (by omega)
  obtain ⟨s1, s2, s3, s4, s5, s6, s7, s8, s9, s10, s11, s12, s13, -⟩ := hS
  simp only [wp_X0_notOff, s1, s4, s5, s8, s9, s12, s13, hin, hcl, true_and, Option.some.injEq, exists_eq_left', (hD.2 q hq).2.2.1, (hD.2 q hq).2.2.2, nI_or, (bits_of hn hq).2.2.2.2.1]
  exact h
theorem x_liftsOf {S : Hp} {y r l c d : Nat} {t : ASt} {q : Nat} {Q : Int32 → Hp → Prop} (hS : LyS S y r l c d) (hD : LyD S y r l c d t) (hn : t.1 ≤ 6) (hq : q < 3 ^ t.1) (h : Q (nI (lif t.1 q)) S) : wp_X0_liftsOf y (nI q) S Q := by
  unfold wp_X0_liftsOf
  refine ⟨hS.1, x_notOff hS hD hn hq ?_⟩
  rw [e_bitCount (usd_64 hn), (bits_of hn hq).2.2.2.2.2]
  exact h
theorem x_allows {S : Hp} {y r l c d z : Nat} {t : ASt} {s : ASh} {q : Nat} {Q : Int32 → Hp → Prop} (hS : LyS S y r l c d) (hD : LyD S y r l c d t) (hZ : ScS S z s) (hn : t.1 ≤ 6) (hq : q < 3 ^ t.1) (h : Q (b2 (mayQ s t.1 q = true)) S) : wp_X2_allows z y (nI q) S Q := by
  have h3 := p3_6 hn
  have hin : vp_in (nI q) 729 := vp_in_nI (by omega) (by decide)
  have hcl : (nI q).toNatClampNeg = q := nI_clamp (by omega)
  have hb := bits_of hn hq
  have hr := rct_le t.1 q
  obtain ⟨s1, s2, s3, s4, s5, s6, s7, s8, s9, s10, s11, s12, s13, -⟩ := hS
  have h0 : (nI (lbt t.1 q) = 0) ↔ lct t.1 q = 0 := by rw [show (0 : Int32) = nI 0 from rfl, nI_eq (by omega) (by decide)]; exact hb.2.2.2.1
  have h2 : ((2 : Int32) < nI (rct t.1 q)) ↔ 2 < rct t.1 q := by rw [show (2 : Int32) = nI 2 from rfl, nI_ltI (by decide) (by omega)]
  have k1 : s.2.1 = 1 ↔ s.2.1.toInt = 1 := p_eq _ _
  have k4 : s.2.1 = 4 ↔ s.2.1.toInt = 4 := p_eq _ _
  have k6 : s.2.1 = 6 ↔ s.2.1.toInt = 6 := p_eq _ _
  unfold mayQ mayB at h
  simp only [k1, k4, k6] at h
  simp only [wp_X2_allows, J_X2_allows_40, hZ.1, hZ.2.1, s1, s4, s5, s8, s9, s12, s13, hin, hcl, true_and, Option.some.injEq, exists_eq_left', (hD.2 q hq).2.2.1, (hD.2 q hq).2.2.2, e_bitCount hb.1, hb.2.2.1, h0, h2]
  generalize s.2.1.toInt = k at h
  by_cases e1 : k = 1
  · subst e1
    by_cases e : lct t.1 q = 0 <;> simp [e, b2] at h ⊢ <;> exact h
  by_cases e6 : k = 6
  · subst e6
    by_cases e : lct t.1 q = 0 <;> simp [e, b2] at h ⊢ <;> exact h
  by_cases e4 : k = 4
  · subst e4
    by_cases e : 2 < rct t.1 q
    · simp [e, b2, Nat.not_le.mpr e] at h ⊢; exact h
    · simp [e, b2, Nat.not_lt.mp e] at h ⊢; exact h
  · simp [e1, e4, e6, b2] at h ⊢; exact h
theorem x_weightOf {S : Hp} {y r l c d z : Nat} {t : ASt} {s : ASh} {q : Nat} {Q : Int32 → Hp → Prop} (hS : LyS S y r l c d) (hD : LyD S y r l c d t) (hZ : ScS S z s) (ht : StOk t) (hq : q < 3 ^ t.1) (h : Q (wgQ s t q) S) : wp_X2_weightOf z y (nI q) S Q := by
  have hn := ht.1
  have h3 := p3_6 hn
  have hin : vp_in (nI q) 729 := vp_in_nI (by omega) (by decide)
  have hcl : (nI q).toNatClampNeg = q := nI_clamp (by omega)
  have hb := bits_of hn hq
  obtain ⟨s1, s2, s3, s4, s5, s6, s7, s8, s9, s10, s11, s12, s13, -⟩ := hS
  have h0 : (nI (lbt t.1 q) = 0) ↔ lft t.2.1 t.1 q ≤ 0 := by rw [show (nI (lbt t.1 q) = 0 ↔ lft t.2.1 t.1 q ≤ 0) ↔ (nI (lbt t.1 q) = nI 0 ↔ lft t.2.1 t.1 q ≤ 0) from Iff.rfl, nI_eq (by omega) (by decide), hb.2.2.2.1]; exact (lft_0 ht q).symm
  unfold wgQ weig at h
  simp only [wp_X2_weightOf, hZ.1, hZ.2.1, hZ.2.2, s1, s2, s3, s5, s6, s7, s9, s10, s11, s13, hin, hcl, true_and, Option.some.injEq, exists_eq_left', forall_eq, (hD.2 q hq).1, (hD.2 q hq).2.1, (hD.2 q hq).2.2.2, h0]
  by_cases h2 : s.2.1.toInt = 2
  · simp [h2] at h ⊢; exact h
  by_cases h3 : s.2.1.toInt = 3
  · simp [h3] at h ⊢; exact h
  by_cases h4 : s.2.1.toInt = 4
  · simp [h4] at h ⊢; exact h
  by_cases h5 : s.2.1.toInt = 5
  · simp [h5] at h ⊢; exact h
  by_cases h6 : s.2.1.toInt = 6
  · simp [h6] at h ⊢; exact h
  by_cases h7 : s.2.1.toInt = 7
  · by_cases hl : lft t.2.1 t.1 q ≤ 0
    · simp [h7, hl] at h ⊢; exact h
    · simp [h7, hl] at h ⊢; exact h
  · simp only [h2, h3, h4, h5, h6, h7, if_false, false_implies, true_and] at h ⊢
    exact fun _ => h
theorem x_hits {S : Hp} {y r l c d z : Nat} {t : ASt} {s : ASh} {q : Nat} {w : Int32} {Q : Int32 → Hp → Prop} (hS : LyS S y r l c d) (hD : LyD S y r l c d t) (hZ : ScS S z s) (ht : StOk t) (hq : q < 3 ^ t.1) (h : Q (b2 (hitQ s t w q = true)) S) : wp_X2_hits z y (nI q) w S Q := by
  unfold hitQ at h
  unfold wp_X2_hits
  refine ⟨hZ.1, x_allows hS hD hZ ht.1 hq (br0 (fun hm => ⟨hZ.1, x_weightOf hS hD hZ ht hq ⟨fun hw => ?_, fun hw => ?_⟩⟩) (fun hm => ?_))⟩
  · rw [b2_f (by simp [hw])] at h; exact h
  · rw [b2_t (by simp [hw, hm])] at h; exact h
  · rw [b2_f (by simp [hm])] at h; exact h
