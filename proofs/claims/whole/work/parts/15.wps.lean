def wp_X0_init (a0 : Nat) (S : Hp) (Q : Hp → Prop) : Prop :=
  ∀ q1, fr S q1 → ∀ S2, S2 = nA S q1 8 729 →
  (kd S2 a0 = 1) ∧
  ∀ S3, S3 = sR S2 0 a0 (some q1) →
  ∀ q4, fr S3 q4 → ∀ S5, S5 = nA S3 q4 8 729 →
  (kd S5 a0 = 1) ∧
  ∀ S6, S6 = sR S5 1 a0 (some q4) →
  ∀ q7, fr S6 q7 → ∀ S8, S8 = nA S6 q7 8 729 →
  (kd S8 a0 = 1) ∧
  ∀ S9, S9 = sR S8 2 a0 (some q7) →
  ∀ q10, fr S9 q10 → ∀ S11, S11 = nA S9 q10 8 729 →
  (kd S11 a0 = 1) ∧
  ∀ S12, S12 = sR S11 3 a0 (some q10) →
  (kd S12 a0 = 1) ∧
  ∀ S13, S13 = sI S12 4 a0 (1 : Int32) →
  Q S13
def wp_X0_layRight (a0 : Nat) (x1 : Int32) (x2 : Int32) (x3 : Int32) (x4 : Int32) (S : Hp) (Q : Hp → Prop) : Prop :=
  (kd S a0 = 1) ∧
  ∃ r1, gR S 0 a0 = some r1 ∧
  (kd S a0 = 1) ∧
  ∃ r2, gR S 0 a0 = some r2 ∧
  (kd S r2 = 8) ∧
  (vp_in x2 (ln S r2)) ∧
  (kd S r1 = 8) ∧
  (vp_in x1 (ln S r1)) ∧
  ∀ S3, S3 = sA S r1 (x1).toNatClampNeg ((gA S r2 (x2).toNatClampNeg) + x4) →
  (kd S3 a0 = 1) ∧
  ∃ r4, gR S3 1 a0 = some r4 ∧
  (kd S3 a0 = 1) ∧
  ∃ r5, gR S3 1 a0 = some r5 ∧
  (kd S3 r5 = 8) ∧
  (vp_in x2 (ln S3 r5)) ∧
  (kd S3 r4 = 8) ∧
  (vp_in x1 (ln S3 r4)) ∧
  ∀ S6, S6 = sA S3 r4 (x1).toNatClampNeg (gA S3 r5 (x2).toNatClampNeg) →
  (kd S6 a0 = 1) ∧
  ∃ r7, gR S6 2 a0 = some r7 ∧
  (kd S6 a0 = 1) ∧
  ∃ r8, gR S6 2 a0 = some r8 ∧
  (kd S6 r8 = 8) ∧
  (vp_in x2 (ln S6 r8)) ∧
  (kd S6 r7 = 8) ∧
  (vp_in x1 (ln S6 r7)) ∧
  ∀ S9, S9 = sA S6 r7 (x1).toNatClampNeg ((gA S6 r8 (x2).toNatClampNeg) ||| ((1 : Int32) <<< (x3 &&& 31))) →
  (kd S9 a0 = 1) ∧
  ∃ r10, gR S9 3 a0 = some r10 ∧
  (kd S9 a0 = 1) ∧
  ∃ r11, gR S9 3 a0 = some r11 ∧
  (kd S9 r11 = 8) ∧
  (vp_in x2 (ln S9 r11)) ∧
  (kd S9 r10 = 8) ∧
  (vp_in x1 (ln S9 r10)) ∧
  ∀ S12, S12 = sA S9 r10 (x1).toNatClampNeg (gA S9 r11 (x2).toNatClampNeg) →
  Q S12
def wp_X0_layLeft (a0 : Nat) (x1 : Int32) (x2 : Int32) (x3 : Int32) (x4 : Int32) (S : Hp) (Q : Hp → Prop) : Prop :=
  (kd S a0 = 1) ∧
  ∃ r1, gR S 0 a0 = some r1 ∧
  (kd S a0 = 1) ∧
  ∃ r2, gR S 0 a0 = some r2 ∧
  (kd S r2 = 8) ∧
  (vp_in x2 (ln S r2)) ∧
  (kd S r1 = 8) ∧
  (vp_in x1 (ln S r1)) ∧
  ∀ S3, S3 = sA S r1 (x1).toNatClampNeg (gA S r2 (x2).toNatClampNeg) →
  (kd S3 a0 = 1) ∧
  ∃ r4, gR S3 1 a0 = some r4 ∧
  (kd S3 a0 = 1) ∧
  ∃ r5, gR S3 1 a0 = some r5 ∧
  (kd S3 r5 = 8) ∧
  (vp_in x2 (ln S3 r5)) ∧
  (kd S3 r4 = 8) ∧
  (vp_in x1 (ln S3 r4)) ∧
  ∀ S6, S6 = sA S3 r4 (x1).toNatClampNeg ((gA S3 r5 (x2).toNatClampNeg) + x4) →
  (kd S6 a0 = 1) ∧
  ∃ r7, gR S6 2 a0 = some r7 ∧
  (kd S6 a0 = 1) ∧
  ∃ r8, gR S6 2 a0 = some r8 ∧
  (kd S6 r8 = 8) ∧
  (vp_in x2 (ln S6 r8)) ∧
  (kd S6 r7 = 8) ∧
  (vp_in x1 (ln S6 r7)) ∧
  ∀ S9, S9 = sA S6 r7 (x1).toNatClampNeg (gA S6 r8 (x2).toNatClampNeg) →
  (kd S9 a0 = 1) ∧
  ∃ r10, gR S9 3 a0 = some r10 ∧
  (kd S9 a0 = 1) ∧
  ∃ r11, gR S9 3 a0 = some r11 ∧
  (kd S9 r11 = 8) ∧
  (vp_in x2 (ln S9 r11)) ∧
  (kd S9 r10 = 8) ∧
  (vp_in x1 (ln S9 r10)) ∧
  ∀ S12, S12 = sA S9 r10 (x1).toNatClampNeg ((gA S9 r11 (x2).toNatClampNeg) ||| ((1 : Int32) <<< (x3 &&& 31))) →
  Q S12
def L_X0_layOut_17 (C7 : Nat × Nat × Int32 × Hp → Prop) (Q : Hp → Prop) (C17 : Nat × Nat × Int32 × Int32 × Hp → Prop) : Nat × Nat × Int32 × Int32 × Hp → Prop := fun (v0, v1, v2, v3, S) =>
    (kd S v0 = 1) ∧
    (((gI S 4 v0) ≤ v3 →
      (kd S v0 = 1) ∧
      (kd S v0 = 1) ∧
      ∀ S1, S1 = sI S 4 v0 ((gI S 4 v0) * (3 : Int32)) →
      ∀ y2, y2 = v2 + (1 : Int32) →
      C7 (v0, v1, y2, S1))
    ∧ (¬ ((gI S 4 v0) ≤ v3) →
      (kd S v0 = 1) ∧
      (kd S v1 = 5) ∧
      ∃ r3, gR S 40 v1 = some r3 ∧
      (kd S r3 = 8) ∧
      (vp_in v2 (ln S r3)) ∧
      (kd S v0 = 1) ∧
      wp_X0_layRight v0 ((gI S 4 v0) + v3) v3 v2 (gA S r3 (v2).toNatClampNeg) S (fun S4 =>
        (kd S4 v0 = 1) ∧
        (kd S4 v1 = 5) ∧
        ∃ r5, gR S4 40 v1 = some r5 ∧
        (kd S4 r5 = 8) ∧
        (vp_in v2 (ln S4 r5)) ∧
        (kd S4 v0 = 1) ∧
        wp_X0_layLeft v0 (((2 : Int32) * (gI S4 4 v0)) + v3) v3 v2 (gA S4 r5 (v2).toNatClampNeg) S4 (fun S6 =>
          ∀ y7, y7 = v3 + (1 : Int32) →
          C17 (v0, v1, v2, y7, S6)))))
def L_X0_layOut_7  (Q : Hp → Prop) (C7 : Nat × Nat × Int32 × Hp → Prop) : Nat × Nat × Int32 × Hp → Prop := fun (v0, v1, v2, S) =>
    (kd S v1 = 5) ∧
    (((gI S 42 v1) ≤ v2 →
      Q S)
    ∧ (¬ ((gI S 42 v1) ≤ v2) →
      ∃ n, it (L_X0_layOut_17 C7 Q) n (v0, v1, v2, (0 : Int32), S)))
def wp_X0_layOut (a0 : Nat) (a1 : Nat) (S : Hp) (Q : Hp → Prop) : Prop :=
  (kd S a0 = 1) ∧
  ∀ S1, S1 = sI S 4 a0 (1 : Int32) →
  ∃ n, it (L_X0_layOut_7  Q) n (a0, a1, (0 : Int32), S1)
def wp_X0_isLying (a0 : Nat) (x1 : Int32) (S : Hp) (Q : Int32 → Hp → Prop) : Prop :=
  ((x1 < 0 →
    Q (0 : Int32) S)
  ∧ (¬ (x1 < 0) →
    (kd S a0 = 1) ∧
    (((gI S 4 a0) ≤ x1 →
      Q (0 : Int32) S)
    ∧ (¬ ((gI S 4 a0) ≤ x1) →
      Q (1 : Int32) S))))
def wp_X0_notOff (a0 : Nat) (x1 : Int32) (S : Hp) (Q : Int32 → Hp → Prop) : Prop :=
  (kd S a0 = 1) ∧
  ∃ r1, gR S 2 a0 = some r1 ∧
  (kd S r1 = 8) ∧
  (vp_in x1 (ln S r1)) ∧
  (kd S a0 = 1) ∧
  ∃ r2, gR S 3 a0 = some r2 ∧
  (kd S r2 = 8) ∧
  (vp_in x1 (ln S r2)) ∧
  Q ((gA S r1 (x1).toNatClampNeg) ||| (gA S r2 (x1).toNatClampNeg)) S
def wp_J6_bitCount_0f7a4 (x0 : Int32) (S : Hp) (Q : Int32 → Hp → Prop) : Prop :=
  ∀ y1, y1 = (x0 - (((x0).toUInt32 >>> (((1 : Int32)).toUInt32 &&& Int32.toUInt32 31)).toInt32 &&& (1431655765 : Int32))) →
  ∀ y2, y2 = ((y1 &&& (858993459 : Int32)) + (((y1).toUInt32 >>> (((2 : Int32)).toUInt32 &&& Int32.toUInt32 31)).toInt32 &&& (858993459 : Int32))) →
  ∀ y3, y3 = ((y2 + ((y2).toUInt32 >>> (((4 : Int32)).toUInt32 &&& Int32.toUInt32 31)).toInt32) &&& (252645135 : Int32)) →
  ∀ y4, y4 = (y3 + ((y3).toUInt32 >>> (((8 : Int32)).toUInt32 &&& Int32.toUInt32 31)).toInt32) →
  ∀ y5, y5 = (y4 + ((y4).toUInt32 >>> (((16 : Int32)).toUInt32 &&& Int32.toUInt32 31)).toInt32) →
  Q (y5 &&& (63 : Int32)) S
def wp_X0_liftsOf (a0 : Nat) (x1 : Int32) (S : Hp) (Q : Int32 → Hp → Prop) : Prop :=
  (kd S a0 = 1) ∧
  wp_X0_notOff a0 x1 S (fun z2 S1 =>
    wp_J6_bitCount_0f7a4 z2 S1 (fun z4 S3 =>
      Q z4 S3))
def wp_X0_sideOf (a0 : Nat) (x1 : Int32) (x2 : Int32) (S : Hp) (Q : Int32 → Hp → Prop) : Prop :=
  (kd S a0 = 1) ∧
  ∃ r1, gR S 2 a0 = some r1 ∧
  (kd S r1 = 8) ∧
  (vp_in x1 (ln S r1)) ∧
  (kd S a0 = 1) ∧
  ∃ r2, gR S 3 a0 = some r2 ∧
  (kd S r2 = 8) ∧
  (vp_in x1 (ln S r2)) ∧
  Q ((((gA S r1 (x1).toNatClampNeg) >>> (x2 &&& 31)) &&& (1 : Int32)) - (((gA S r2 (x1).toNatClampNeg) >>> (x2 &&& 31)) &&& (1 : Int32))) S
def wp_X1_init (a0 : Nat) (x1 : Int32) (x2 : Int32) (S : Hp) (Q : Hp → Prop) : Prop :=
  (kd S a0 = 2) ∧
  ∀ S1, S1 = sI S 10 a0 x1 →
  (¬ x2 < 0 ∧ (x2).toNatClampNeg ≤ 100) ∧
  ∀ q2, fr S1 q2 → ∀ S3, S3 = nA S1 q2 8 (x2).toNatClampNeg →
  (kd S3 a0 = 2) ∧
  ∀ S4, S4 = sR S3 11 a0 (some q2) →
  Q S4
def wp_X1_isPlace (a0 : Nat) (x1 : Int32) (S : Hp) (Q : Int32 → Hp → Prop) : Prop :=
  ((x1 < 0 →
    Q (0 : Int32) S)
  ∧ (¬ (x1 < 0) →
    (kd S a0 = 2) ∧
    ∃ r1, gR S 11 a0 = some r1 ∧
    (kd S r1 = 8) ∧
    (((Int32.ofNat (ln S r1)) ≤ x1 →
      Q (0 : Int32) S)
    ∧ (¬ ((Int32.ofNat (ln S r1)) ≤ x1) →
      Q (1 : Int32) S))))
def wp_X1_isStretch (a0 : Nat) (x1 : Int32) (x2 : Int32) (S : Hp) (Q : Int32 → Hp → Prop) : Prop :=
  ((x1 < 0 →
    Q (0 : Int32) S)
  ∧ (¬ (x1 < 0) →
    (kd S a0 = 2) ∧
    ∃ r1, gR S 11 a0 = some r1 ∧
    (kd S r1 = 8) ∧
    (((Int32.ofNat (ln S r1)) < x1 →
      Q (0 : Int32) S)
    ∧ (¬ ((Int32.ofNat (ln S r1)) < x1) →
      ((x2 < 0 →
        Q (0 : Int32) S)
      ∧ (¬ (x2 < 0) →
        (kd S a0 = 2) ∧
        ∃ r2, gR S 11 a0 = some r2 ∧
        (kd S r2 = 8) ∧
        ((((Int32.ofNat (ln S r2)) - x1) < x2 →
          Q (0 : Int32) S)
        ∧ (¬ (((Int32.ofNat (ln S r2)) - x1) < x2) →
          Q (1 : Int32) S))))))))
def wp_X1_lowestBits (a0 : Nat) (x1 : Int32) (S : Hp) (Q : Int32 → Hp → Prop) : Prop :=
  (kd S a0 = 2) ∧
  ((((gI S 10 a0)).toInt = 0 →
    Q (x1).toInt8.toInt32 S)
  ∧ (((gI S 10 a0)).toInt = 1 →
    Q (x1).toInt16.toInt32 S)
  ∧ ((¬ ((gI S 10 a0)).toInt = 0 ∧ ¬ ((gI S 10 a0)).toInt = 1) →
    Q x1 S))
def J_X1_placesOf_29 (C4 : Nat × Int32 × Int32 × Int32 × Hp → Prop) (Q : Int32 → Hp → Prop) (v0 : Nat) (v1 : Int32) (v2 : Int32) (v3 : Int32) (S : Hp) : Prop :=
    ∀ y1, y1 = v3 + (1 : Int32) →
    C4 (v0, v1, v2, y1, S)
def L_X1_placesOf_4  (Q : Int32 → Hp → Prop) (C4 : Nat × Int32 × Int32 × Int32 × Hp → Prop) : Nat × Int32 × Int32 × Int32 × Hp → Prop := fun (v0, v1, v2, v3, S) =>
    (kd S v0 = 2) ∧
    ∃ r1, gR S 11 v0 = some r1 ∧
    (kd S r1 = 8) ∧
    (((Int32.ofNat (ln S r1)) ≤ v3 →
      Q v2 S)
    ∧ (¬ ((Int32.ofNat (ln S r1)) ≤ v3) →
      (kd S v0 = 2) ∧
      ∃ r2, gR S 11 v0 = some r2 ∧
      (kd S r2 = 8) ∧
      (vp_in v3 (ln S r2)) ∧
      ((¬ (gA S r2 (v3).toNatClampNeg) = v1 →
        (J_X1_placesOf_29 C4 Q v0 v1 v2 v3 S))
      ∧ ((gA S r2 (v3).toNatClampNeg) = v1 →
        ∀ y3, y3 = (v2 ||| ((1 : Int32) <<< (v3 &&& 31))) →
        J_X1_placesOf_29 C4 Q v0 v1 y3 v3 S))))
def wp_X1_placesOf (a0 : Nat) (x1 : Int32) (S : Hp) (Q : Int32 → Hp → Prop) : Prop :=
  ∃ n, it (L_X1_placesOf_4  Q) n (a0, x1, (0 : Int32), (0 : Int32), S)
def wp_X2_init (a0 : Nat) (x1 : Int32) (x2 : Int32) (S : Hp) (Q : Hp → Prop) : Prop :=
  (kd S a0 = 3) ∧
  ∀ S1, S1 = sI S 20 a0 x1 →
  (kd S1 a0 = 3) ∧
  ∀ S2, S2 = sI S1 21 a0 x2 →
  Q S2
def J_X2_allows_40  (Q : Int32 → Hp → Prop) (v1 : Nat) (v2 : Int32) (S : Hp) : Prop :=
    (kd S v1 = 1) ∧
    ∃ r1, gR S 3 v1 = some r1 ∧
    (kd S r1 = 8) ∧
    (vp_in v2 (ln S r1)) ∧
    ((¬ (gA S r1 (v2).toNatClampNeg) = 0 →
      Q (0 : Int32) S)
    ∧ ((gA S r1 (v2).toNatClampNeg) = 0 →
      Q (1 : Int32) S))
def wp_X2_allows (a0 : Nat) (a1 : Nat) (x2 : Int32) (S : Hp) (Q : Int32 → Hp → Prop) : Prop :=
  (kd S a0 = 3) ∧
  ((((gI S 20 a0)).toInt = 1 →
    (J_X2_allows_40  Q a1 x2 S))
  ∧ (((gI S 20 a0)).toInt = 4 →
    (kd S a1 = 1) ∧
    ∃ r2, gR S 2 a1 = some r2 ∧
    (kd S r2 = 8) ∧
    (vp_in x2 (ln S r2)) ∧
    wp_J6_bitCount_0f7a4 (gA S r2 (x2).toNatClampNeg) S (fun z4 S3 =>
      (((2 : Int32) < z4 →
        Q (0 : Int32) S3)
      ∧ (¬ ((2 : Int32) < z4) →
        Q (1 : Int32) S3))))
  ∧ (((gI S 20 a0)).toInt = 6 →
    (J_X2_allows_40  Q a1 x2 S))
  ∧ ((¬ ((gI S 20 a0)).toInt = 1 ∧ ¬ ((gI S 20 a0)).toInt = 4 ∧ ¬ ((gI S 20 a0)).toInt = 6) →
    Q (1 : Int32) S))
def wp_X2_weightOf (a0 : Nat) (a1 : Nat) (x2 : Int32) (S : Hp) (Q : Int32 → Hp → Prop) : Prop :=
  (kd S a1 = 1) ∧
  ∃ r1, gR S 0 a1 = some r1 ∧
  (kd S r1 = 8) ∧
  (vp_in x2 (ln S r1)) ∧
  ∀ y2, y2 = (gA S r1 (x2).toNatClampNeg) →
  (kd S a1 = 1) ∧
  ∃ r3, gR S 1 a1 = some r3 ∧
  (kd S r3 = 8) ∧
  (vp_in x2 (ln S r3)) ∧
  ∀ y4, y4 = (gA S r3 (x2).toNatClampNeg) →
  ∀ y5, y5 = (y2 - y4) →
  (kd S a0 = 3) ∧
  ∀ y6, y6 = ((((gI S 21 a0) + (1 : Int32)) * y2) - y4) →
  (kd S a0 = 3) ∧
  ((((gI S 20 a0)).toInt = 2 →
    Q y6 S)
  ∧ (((gI S 20 a0)).toInt = 3 →
    (kd S a0 = 3) ∧
    Q (y5 - (gI S 21 a0)) S)
  ∧ (((gI S 20 a0)).toInt = 4 →
    Q (y6 + y2) S)
  ∧ (((gI S 20 a0)).toInt = 5 →
    Q (if 0 ≤ y5 then y5 else 0 - y5) S)
  ∧ (((gI S 20 a0)).toInt = 6 →
    Q (y5 / (2 : Int32)) S)
  ∧ (((gI S 20 a0)).toInt = 7 →
    (kd S a0 = 3) ∧
    (kd S a1 = 1) ∧
    ∃ r7, gR S 3 a1 = some r7 ∧
    (kd S r7 = 8) ∧
    (vp_in x2 (ln S r7)) ∧
    ((¬ (gA S r7 (x2).toNatClampNeg) = 0 →
      Q ((y5 - (gI S 21 a0)) + (1 : Int32)) S)
    ∧ ((gA S r7 (x2).toNatClampNeg) = 0 →
      Q ((y5 - (gI S 21 a0)) + (0 : Int32)) S)))
  ∧ ((((gI S 20 a0)).toInt < 2 ∨ 7 < ((gI S 20 a0)).toInt) →
    Q y5 S))
def wp_X2_hits (a0 : Nat) (a1 : Nat) (x2 : Int32) (x3 : Int32) (S : Hp) (Q : Int32 → Hp → Prop) : Prop :=
  (kd S a0 = 3) ∧
  wp_X2_allows a0 a1 x2 S (fun z2 S1 =>
    ((z2 = 0 →
      Q (0 : Int32) S1)
    ∧ (¬ (z2 = 0) →
      (kd S1 a0 = 3) ∧
      wp_X2_weightOf a0 a1 x2 S1 (fun z4 S3 =>
        ((¬ z4 = x3 →
          Q (0 : Int32) S3)
        ∧ (z4 = x3 →
          Q (1 : Int32) S3))))))
def wp_X2_price (a0 : Nat) (S : Hp) (Q : Int32 → Hp → Prop) : Prop :=
  ∀ y1, y1 = ((5 : Int32) - (1 : Int32)) →
  (kd S a0 = 3) ∧
  ∀ y2, y2 = ((5 : Int32) * ((gI S 21 a0) + (1 : Int32))) →
  (kd S a0 = 3) ∧
  ∀ y3, y3 = ((5 : Int32) - (gI S 21 a0)) →
  (kd S a0 = 3) ∧
  ((((gI S 20 a0)).toInt = 1 →
    Q y1 S)
  ∧ (((gI S 20 a0)).toInt = 2 →
    Q y2 S)
  ∧ (((gI S 20 a0)).toInt = 3 →
    Q y3 S)
  ∧ (((gI S 20 a0)).toInt = 4 →
    Q (y2 + (4 : Int32)) S)
  ∧ (((gI S 20 a0)).toInt = 5 →
    Q ((2 : Int32) * (5 : Int32)) S)
  ∧ (((gI S 20 a0)).toInt = 6 →
    (kd S a0 = 3) ∧
    Q (y1 + (gI S 21 a0)) S)
  ∧ (((gI S 20 a0)).toInt = 7 →
    Q (y3 + (7 : Int32)) S)
  ∧ ((((gI S 20 a0)).toInt < 1 ∨ 7 < ((gI S 20 a0)).toInt) →
    Q (5 : Int32) S))
def wp_X4_init (a0 : Nat) (S : Hp) (Q : Hp → Prop) : Prop :=
  ∀ q1, fr S q1 → ∀ S2, S2 = nA S q1 8 6 →
  (kd S2 a0 = 5) ∧
  ∀ S3, S3 = sR S2 40 a0 (some q1) →
  ∀ q4, fr S3 q4 → ∀ S5, S5 = nA S3 q4 8 6 →
  (kd S5 a0 = 5) ∧
  ∀ S6, S6 = sR S5 41 a0 (some q4) →
  Q S6
def wp_X3_init (a0 : Nat) (S : Hp) (Q : Hp → Prop) : Prop :=
  ∀ q1, fr S q1 → ∀ S2, S2 = nO S q1 5 →
  wp_X4_init q1 S2 (fun S3 =>
    (kd S3 a0 = 4) ∧
    ∀ S4, S4 = sR S3 30 a0 (some q1) →
    Q S4)
def wp_X4_takeFrom (a0 : Nat) (a1 : Nat) (S : Hp) (Q : Hp → Prop) : Prop :=
  (kd S a1 = 5) ∧
  ∃ r1, gR S 40 a1 = some r1 ∧
  (kd S a0 = 5) ∧
  ∃ r2, gR S 40 a0 = some r2 ∧
  (kd S r1 = 8 ∧ kd S r2 = 8) ∧
  (¬ (0 : Int32) < 0 ∧ ¬ (0 : Int32) < 0 ∧ ¬ (6 : Int32) < 0) ∧
  (((0 : Int32)).toNatClampNeg + ((6 : Int32)).toNatClampNeg ≤ ln S r1 ∧ ((0 : Int32)).toNatClampNeg + ((6 : Int32)).toNatClampNeg ≤ ln S r2) ∧
  ∀ S3, S3 = sF S r2 (va_cpy (gA S r1) (gA S r2) ((0 : Int32)).toNatClampNeg ((0 : Int32)).toNatClampNeg ((6 : Int32)).toNatClampNeg) →
  (kd S3 a1 = 5) ∧
  ∃ r4, gR S3 41 a1 = some r4 ∧
  (kd S3 a0 = 5) ∧
  ∃ r5, gR S3 41 a0 = some r5 ∧
  (kd S3 r4 = 8 ∧ kd S3 r5 = 8) ∧
  (¬ (0 : Int32) < 0 ∧ ¬ (0 : Int32) < 0 ∧ ¬ (6 : Int32) < 0) ∧
  (((0 : Int32)).toNatClampNeg + ((6 : Int32)).toNatClampNeg ≤ ln S3 r4 ∧ ((0 : Int32)).toNatClampNeg + ((6 : Int32)).toNatClampNeg ≤ ln S3 r5) ∧
  ∀ S6, S6 = sF S3 r5 (va_cpy (gA S3 r4) (gA S3 r5) ((0 : Int32)).toNatClampNeg ((0 : Int32)).toNatClampNeg ((6 : Int32)).toNatClampNeg) →
  (kd S6 a1 = 5) ∧
  (kd S6 a0 = 5) ∧
  ∀ S7, S7 = sI S6 42 a0 (gI S6 42 a1) →
  Q S7
def wp_X3_readLetter (a0 : Nat) (a1 : Nat) (S : Hp) (Q : Int32 → Hp → Prop) : Prop :=
  (kd S a0 = 4) ∧
  (kd S a1 = 2) ∧
  wp_X1_isPlace a1 (gI S 31 a0) S (fun z2 S1 =>
    ((¬ z2 = 0 →
      (kd S1 a1 = 2) ∧
      ∃ r3, gR S1 11 a1 = some r3 ∧
      (kd S1 a0 = 4) ∧
      (kd S1 r3 = 8) ∧
      (vp_in (gI S1 31 a0) (ln S1 r3)) ∧
      ∀ y4, y4 = (gA S1 r3 ((gI S1 31 a0)).toNatClampNeg) →
      ((y4 = (115 : Int32) →
        (kd S1 a0 = 4) ∧
        (kd S1 a0 = 4) ∧
        ∀ S5, S5 = sI S1 31 a0 ((gI S1 31 a0) + (1 : Int32)) →
        Q y4 S5)
      ∧ (¬ (y4 = (115 : Int32)) →
        ((y4 = (119 : Int32) →
          (kd S1 a0 = 4) ∧
          (kd S1 a0 = 4) ∧
          ∀ S6, S6 = sI S1 31 a0 ((gI S1 31 a0) + (1 : Int32)) →
          Q y4 S6)
        ∧ (¬ (y4 = (119 : Int32)) →
          ((y4 = (112 : Int32) →
            (kd S1 a0 = 4) ∧
            (kd S1 a0 = 4) ∧
            ∀ S7, S7 = sI S1 31 a0 ((gI S1 31 a0) + (1 : Int32)) →
            Q y4 S7)
          ∧ (¬ (y4 = (112 : Int32)) →
            ((y4 = (120 : Int32) →
              (kd S1 a0 = 4) ∧
              (kd S1 a0 = 4) ∧
              ∀ S8, S8 = sI S1 31 a0 ((gI S1 31 a0) + (1 : Int32)) →
              Q y4 S8)
            ∧ (¬ (y4 = (120 : Int32)) →
              Q (-1 : Int32) S1)))))))))
    ∧ (z2 = 0 →
      Q (-1 : Int32) S1)))
def wp_X3_readDigit (a0 : Nat) (a1 : Nat) (S : Hp) (Q : Int32 → Hp → Prop) : Prop :=
  (kd S a0 = 4) ∧
  (kd S a1 = 2) ∧
  wp_X1_isPlace a1 (gI S 31 a0) S (fun z2 S1 =>
    ((z2 = 0 →
      Q (-1 : Int32) S1)
    ∧ (¬ (z2 = 0) →
      (kd S1 a1 = 2) ∧
      ∃ r3, gR S1 11 a1 = some r3 ∧
      (kd S1 a0 = 4) ∧
      (kd S1 r3 = 8) ∧
      (vp_in (gI S1 31 a0) (ln S1 r3)) ∧
      (((gA S1 r3 ((gI S1 31 a0)).toNatClampNeg) < (48 : Int32) →
        Q (-1 : Int32) S1)
      ∧ (¬ ((gA S1 r3 ((gI S1 31 a0)).toNatClampNeg) < (48 : Int32)) →
        (kd S1 a1 = 2) ∧
        ∃ r4, gR S1 11 a1 = some r4 ∧
        (kd S1 a0 = 4) ∧
        (kd S1 r4 = 8) ∧
        (vp_in (gI S1 31 a0) (ln S1 r4)) ∧
        (((gA S1 r4 ((gI S1 31 a0)).toNatClampNeg) ≤ (57 : Int32) →
          (kd S1 a1 = 2) ∧
          ∃ r5, gR S1 11 a1 = some r5 ∧
          (kd S1 a0 = 4) ∧
          (kd S1 r5 = 8) ∧
          (vp_in (gI S1 31 a0) (ln S1 r5)) ∧
          ∀ y6, y6 = ((gA S1 r5 ((gI S1 31 a0)).toNatClampNeg) - (48 : Int32)) →
          (kd S1 a0 = 4) ∧
          (kd S1 a0 = 4) ∧
          ∀ S7, S7 = sI S1 31 a0 ((gI S1 31 a0) + (1 : Int32)) →
          Q y6 S7)
        ∧ (¬ ((gA S1 r4 ((gI S1 31 a0)).toNatClampNeg) ≤ (57 : Int32)) →
          Q (-1 : Int32) S1)))))))
def wp_X3_readNumber (a0 : Nat) (a1 : Nat) (S : Hp) (Q : Int32 → Hp → Prop) : Prop :=
  (kd S a0 = 4) ∧
  wp_X3_readDigit a0 a1 S (fun z2 S1 =>
    ((0 < z2 →
      (kd S1 a0 = 4) ∧
      wp_X3_readDigit a0 a1 S1 (fun z4 S3 =>
        ((0 ≤ z4 →
          Q (((10 : Int32) * z2) + z4) S3)
        ∧ (¬ (0 ≤ z4) →
          Q z2 S3))))
    ∧ (¬ (0 < z2) →
      Q z2 S1)))
def wp_X3_readSign (a0 : Nat) (a1 : Nat) (x2 : Int32) (S : Hp) (Q : Int32 → Hp → Prop) : Prop :=
  (kd S a0 = 4) ∧
  (kd S a1 = 2) ∧
  wp_X1_isPlace a1 (gI S 31 a0) S (fun z2 S1 =>
    ((z2 = 0 →
      Q (0 : Int32) S1)
    ∧ (¬ (z2 = 0) →
      (kd S1 a1 = 2) ∧
      ∃ r3, gR S1 11 a1 = some r3 ∧
      (kd S1 a0 = 4) ∧
      (kd S1 r3 = 8) ∧
      (vp_in (gI S1 31 a0) (ln S1 r3)) ∧
      (((gA S1 r3 ((gI S1 31 a0)).toNatClampNeg) = x2 →
        (kd S1 a0 = 4) ∧
        (kd S1 a0 = 4) ∧
        ∀ S4, S4 = sI S1 31 a0 ((gI S1 31 a0) + (1 : Int32)) →
        Q (1 : Int32) S4)
      ∧ (¬ ((gA S1 r3 ((gI S1 31 a0)).toNatClampNeg) = x2) →
        Q (0 : Int32) S1)))))
def wp_X4_isWeight (x0 : Int32) (S : Hp) (Q : Int32 → Hp → Prop) : Prop :=
  ((x0 < (1 : Int32) →
    Q (0 : Int32) S)
  ∧ (¬ (x0 < (1 : Int32)) →
    (((99 : Int32) < x0 →
      Q (0 : Int32) S)
    ∧ (¬ ((99 : Int32) < x0) →
      Q (1 : Int32) S))))
def wp_X4_isPrice (x0 : Int32) (S : Hp) (Q : Int32 → Hp → Prop) : Prop :=
  ((x0 < 0 →
    Q (0 : Int32) S)
  ∧ (¬ (x0 < 0) →
    (((99 : Int32) < x0 →
      Q (0 : Int32) S)
    ∧ (¬ ((99 : Int32) < x0) →
      Q (1 : Int32) S))))
def wp_X4_add (a0 : Nat) (x1 : Int32) (x2 : Int32) (S : Hp) (Q : Int32 → Hp → Prop) : Prop :=
  (kd S a0 = 5) ∧
  (((6 : Int32) ≤ (gI S 42 a0) →
    Q (0 : Int32) S)
  ∧ (¬ ((6 : Int32) ≤ (gI S 42 a0)) →
    wp_X4_isWeight x1 S (fun z2 S1 =>
      ((z2 = 0 →
        Q (0 : Int32) S1)
      ∧ (¬ (z2 = 0) →
        wp_X4_isPrice x2 S1 (fun z4 S3 =>
          ((¬ z4 = 0 →
            (kd S3 a0 = 5) ∧
            ∃ r5, gR S3 40 a0 = some r5 ∧
            (kd S3 a0 = 5) ∧
            (kd S3 r5 = 8) ∧
            (vp_in (gI S3 42 a0) (ln S3 r5)) ∧
            ∀ S6, S6 = sA S3 r5 ((gI S3 42 a0)).toNatClampNeg x1 →
            (kd S6 a0 = 5) ∧
            ∃ r7, gR S6 41 a0 = some r7 ∧
            (kd S6 a0 = 5) ∧
            (kd S6 r7 = 8) ∧
            (vp_in (gI S6 42 a0) (ln S6 r7)) ∧
            ∀ S8, S8 = sA S6 r7 ((gI S6 42 a0)).toNatClampNeg x2 →
            (kd S8 a0 = 5) ∧
            (kd S8 a0 = 5) ∧
            ∀ S9, S9 = sI S8 42 a0 ((gI S8 42 a0) + (1 : Int32)) →
            Q (1 : Int32) S9)
          ∧ (z4 = 0 →
            Q (0 : Int32) S3))))))))
def wp_X4_isStone (a0 : Nat) (x1 : Int32) (S : Hp) (Q : Int32 → Hp → Prop) : Prop :=
  ((x1 < 0 →
    Q (0 : Int32) S)
  ∧ (¬ (x1 < 0) →
    (kd S a0 = 5) ∧
    (((gI S 42 a0) ≤ x1 →
      Q (0 : Int32) S)
    ∧ (¬ ((gI S 42 a0) ≤ x1) →
      Q (1 : Int32) S))))
def wp_X4_weighAnew (a0 : Nat) (x1 : Int32) (x2 : Int32) (S : Hp) (Q : Int32 → Hp → Prop) : Prop :=
  (kd S a0 = 5) ∧
  wp_X4_isStone a0 x1 S (fun z2 S1 =>
    ((z2 = 0 →
      Q (0 : Int32) S1)
    ∧ (¬ (z2 = 0) →
      wp_X4_isWeight x2 S1 (fun z4 S3 =>
        ((¬ z4 = 0 →
          (kd S3 a0 = 5) ∧
          ∃ r5, gR S3 40 a0 = some r5 ∧
          (kd S3 r5 = 8) ∧
          (vp_in x1 (ln S3 r5)) ∧
          ∀ S6, S6 = sA S3 r5 (x1).toNatClampNeg x2 →
          Q (1 : Int32) S6)
        ∧ (z4 = 0 →
          Q (0 : Int32) S3))))))
def wp_X4_priceAnew (a0 : Nat) (x1 : Int32) (x2 : Int32) (S : Hp) (Q : Int32 → Hp → Prop) : Prop :=
  (kd S a0 = 5) ∧
  wp_X4_isStone a0 x1 S (fun z2 S1 =>
    ((z2 = 0 →
      Q (0 : Int32) S1)
    ∧ (¬ (z2 = 0) →
      wp_X4_isPrice x2 S1 (fun z4 S3 =>
        ((¬ z4 = 0 →
          (kd S3 a0 = 5) ∧
          ∃ r5, gR S3 41 a0 = some r5 ∧
          (kd S3 r5 = 8) ∧
          (vp_in x1 (ln S3 r5)) ∧
          ∀ S6, S6 = sA S3 r5 (x1).toNatClampNeg x2 →
          Q (1 : Int32) S6)
        ∧ (z4 = 0 →
          Q (0 : Int32) S3))))))
def wp_X4_dropLatest (a0 : Nat) (S : Hp) (Q : Int32 → Hp → Prop) : Prop :=
  (kd S a0 = 5) ∧
  ((¬ (gI S 42 a0) = 0 →
    (kd S a0 = 5) ∧
    (kd S a0 = 5) ∧
    ∀ S1, S1 = sI S 42 a0 ((gI S 42 a0) - (1 : Int32)) →
    Q (1 : Int32) S1)
  ∧ ((gI S 42 a0) = 0 →
    Q (0 : Int32) S))
def wp_X3_isDone (a0 : Nat) (x1 : Int32) (x2 : Int32) (x3 : Int32) (S : Hp) (Q : Int32 → Hp → Prop) : Prop :=
  (((x1).toInt = 112 →
    (kd S a0 = 4) ∧
    ∃ r1, gR S 30 a0 = some r1 ∧
    (kd S r1 = 5) ∧
    wp_X4_priceAnew r1 x2 x3 S (fun z3 S2 =>
      (narrow .boolean (.int z3) = .int z3) ∧
      Q z3 S2))
  ∧ ((x1).toInt = 115 →
    (kd S a0 = 4) ∧
    ∃ r4, gR S 30 a0 = some r4 ∧
    (kd S r4 = 5) ∧
    wp_X4_add r4 x2 x3 S (fun z6 S5 =>
      (narrow .boolean (.int z6) = .int z6) ∧
      Q z6 S5))
  ∧ ((x1).toInt = 119 →
    (kd S a0 = 4) ∧
    ∃ r7, gR S 30 a0 = some r7 ∧
    (kd S r7 = 5) ∧
    wp_X4_weighAnew r7 x2 x3 S (fun z9 S8 =>
      (narrow .boolean (.int z9) = .int z9) ∧
      Q z9 S8))
  ∧ ((¬ (x1).toInt = 112 ∧ ¬ (x1).toInt = 115 ∧ ¬ (x1).toInt = 119) →
    (kd S a0 = 4) ∧
    ∃ r10, gR S 30 a0 = some r10 ∧
    (kd S r10 = 5) ∧
    wp_X4_dropLatest r10 S (fun z12 S11 =>
      (narrow .boolean (.int z12) = .int z12) ∧
      Q z12 S11)))
def J_X3_readStatement_74  (Q : Int32 → Hp → Prop) (v0 : Nat) (v1 : Nat) (v2 : Int32) (v3 : Int32) (v4 : Int32) (v5 : Int32) (S : Hp) : Prop :=
    ((v5 < 0 →
      Q (0 : Int32) S)
    ∧ (¬ (v5 < 0) →
      (kd S v0 = 4) ∧
      wp_X3_readSign v0 v1 (59 : Int32) S (fun z2 S1 =>
        ((¬ z2 = 0 →
          (kd S1 v0 = 4) ∧
          ((0 ≤ (gI S1 32 v0) →
            Q (1 : Int32) S1)
          ∧ (¬ (0 ≤ (gI S1 32 v0)) →
            (kd S1 v0 = 4) ∧
            wp_X3_isDone v0 v3 v4 v5 S1 (fun z4 S3 =>
              ((¬ z4 = 0 →
                Q (1 : Int32) S3)
              ∧ (z4 = 0 →
                (kd S3 v0 = 4) ∧
                ∀ S5, S5 = sI S3 32 v0 v2 →
                Q (1 : Int32) S5))))))
        ∧ (z2 = 0 →
          Q (0 : Int32) S1)))))
def J_X3_readStatement_48  (Q : Int32 → Hp → Prop) (v0 : Nat) (v1 : Nat) (v2 : Int32) (v3 : Int32) (w0 : Int32) (S : Hp) : Prop :=
    ((w0 < 0 →
      Q (0 : Int32) S)
    ∧ (¬ (w0 < 0) →
      (kd S v0 = 4) ∧
      wp_X3_readSign v0 v1 (32 : Int32) S (fun z2 S1 =>
        ((¬ z2 = 0 →
          (kd S1 v0 = 4) ∧
          wp_X3_readNumber v0 v1 S1 (fun z4 S3 =>
            J_X3_readStatement_74  Q v0 v1 v2 v3 w0 z4 S3))
        ∧ (z2 = 0 →
          Q (0 : Int32) S1)))))
def wp_X3_readStatement (a0 : Nat) (a1 : Nat) (S : Hp) (Q : Int32 → Hp → Prop) : Prop :=
  (kd S a0 = 4) ∧
  ∀ y5, y5 = (gI S 31 a0) →
  (kd S a0 = 4) ∧
  wp_X3_readLetter a0 a1 S (fun z7 S6 =>
    ((0 ≤ z7 →
      ((z7 = (120 : Int32) →
        (J_X3_readStatement_74  Q a0 a1 y5 z7 (0 : Int32) (0 : Int32) S6))
      ∧ (¬ (z7 = (120 : Int32)) →
        ((¬ z7 = (115 : Int32) →
          (kd S6 a0 = 4) ∧
          wp_X3_readDigit a0 a1 S6 (fun z9 S8 =>
            (J_X3_readStatement_48  Q a0 a1 y5 z7 z9 S8)))
        ∧ (z7 = (115 : Int32) →
          (kd S6 a0 = 4) ∧
          wp_X3_readNumber a0 a1 S6 (fun z11 S10 =>
            J_X3_readStatement_48  Q a0 a1 y5 z7 z11 S10))))))
    ∧ (¬ (0 ≤ z7) →
      Q (0 : Int32) S6)))
def J_X3_read_58  (Q : Int32 → Hp → Prop) (v0 : Nat) (v2 : Nat) (v3 : Int32) (S : Hp) : Prop :=
    (kd S v0 = 4) ∧
    (((gI S 32 v0) < 0 →
      (kd S v0 = 4) ∧
      ∃ r1, gR S 30 v0 = some r1 ∧
      (kd S v2 = 5) ∧
      wp_X4_takeFrom v2 r1 S (fun S2 =>
        Q v3 S2))
    ∧ (¬ ((gI S 32 v0) < 0) →
      (kd S v0 = 4) ∧
      Q ((-2000 : Int32) - (gI S 32 v0)) S))
def L_X3_read_20  (Q : Int32 → Hp → Prop) (C20 : Nat × Nat × Nat × Int32 × Hp → Prop) : Nat × Nat × Nat × Int32 × Hp → Prop := fun (v0, v1, v2, v3, S) =>
    (kd S v0 = 4) ∧
    wp_X3_readStatement v0 v1 S (fun z2 S1 =>
      ((¬ z2 = 0 →
        ∀ y3, y3 = v3 + (1 : Int32) →
        (kd S1 v0 = 4) ∧
        (kd S1 v1 = 2) ∧
        ∃ r4, gR S1 11 v1 = some r4 ∧
        (kd S1 r4 = 8) ∧
        (((Int32.ofNat (ln S1 r4)) ≤ (gI S1 31 v0) →
          (J_X3_read_58  Q v0 v2 y3 S1))
        ∧ (¬ ((Int32.ofNat (ln S1 r4)) ≤ (gI S1 31 v0)) →
          ((y3 < (100 : Int32) →
            (C20 (v0, v1, v2, y3, S1)))
          ∧ (¬ (y3 < (100 : Int32)) →
            (J_X3_read_58  Q v0 v2 y3 S1))))))
      ∧ (z2 = 0 →
        (kd S1 v0 = 4) ∧
        Q ((-1000 : Int32) - (gI S1 31 v0)) S1)))
def wp_X3_read (a0 : Nat) (a1 : Nat) (a2 : Nat) (S : Hp) (Q : Int32 → Hp → Prop) : Prop :=
  (kd S a0 = 4) ∧
  ∃ r5, gR S 30 a0 = some r5 ∧
  (kd S r5 = 5) ∧
  wp_X4_takeFrom r5 a2 S (fun S6 =>
    (kd S6 a0 = 4) ∧
    ∀ S7, S7 = sI S6 31 a0 (0 : Int32) →
    (kd S7 a0 = 4) ∧
    ∀ S8, S8 = sI S7 32 a0 (-1 : Int32) →
    ∃ n, it (L_X3_read_20  Q) n (a0, a1, a2, (0 : Int32), S8))
def wp_X4_all (a0 : Nat) (S : Hp) (Q : Int32 → Hp → Prop) : Prop :=
  (kd S a0 = 5) ∧
  Q (((1 : Int32) <<< ((gI S 42 a0) &&& 31)) - (1 : Int32)) S
def wp_X4_areStones (a0 : Nat) (x1 : Int32) (S : Hp) (Q : Int32 → Hp → Prop) : Prop :=
  ((x1 < 0 →
    Q (0 : Int32) S)
  ∧ (¬ (x1 < 0) →
    (kd S a0 = 5) ∧
    wp_X4_all a0 S (fun z2 S1 =>
      ((z2 < x1 →
        Q (0 : Int32) S1)
      ∧ (¬ (z2 < x1) →
        Q (1 : Int32) S1)))))
def J_X4_sumOf_31 (C5 : Nat × Nat × Int32 × Int32 × Int32 × Hp → Prop) (Q : Int32 → Hp → Prop) (v0 : Nat) (v1 : Nat) (v2 : Int32) (v3 : Int32) (v4 : Int32) (S : Hp) : Prop :=
    ∀ y1, y1 = v4 + (1 : Int32) →
    C5 (v0, v1, v2, v3, y1, S)
def L_X4_sumOf_5  (Q : Int32 → Hp → Prop) (C5 : Nat × Nat × Int32 × Int32 × Int32 × Hp → Prop) : Nat × Nat × Int32 × Int32 × Int32 × Hp → Prop := fun (v0, v1, v2, v3, v4, S) =>
    (kd S v0 = 5) ∧
    (((gI S 42 v0) ≤ v4 →
      Q v3 S)
    ∧ (¬ ((gI S 42 v0) ≤ v4) →
      ((¬ ((v2 >>> (v4 &&& 31)) &&& (1 : Int32)) = (1 : Int32) →
        (J_X4_sumOf_31 C5 Q v0 v1 v2 v3 v4 S))
      ∧ (((v2 >>> (v4 &&& 31)) &&& (1 : Int32)) = (1 : Int32) →
        (kd S v1 = 8) ∧
        (vp_in v4 (ln S v1)) ∧
        ∀ y1, y1 = (v3 + (gA S v1 (v4).toNatClampNeg)) →
        J_X4_sumOf_31 C5 Q v0 v1 v2 y1 v4 S))))
def wp_X4_sumOf (a0 : Nat) (a1 : Nat) (x2 : Int32) (S : Hp) (Q : Int32 → Hp → Prop) : Prop :=
  ∃ n, it (L_X4_sumOf_5  Q) n (a0, a1, x2, (0 : Int32), (0 : Int32), S)
def wp_X4_weightsOf (a0 : Nat) (x1 : Int32) (S : Hp) (Q : Int32 → Hp → Prop) : Prop :=
  (kd S a0 = 5) ∧
  ∃ r1, gR S 40 a0 = some r1 ∧
  (kd S a0 = 5) ∧
  wp_X4_sumOf a0 r1 x1 S (fun z3 S2 =>
    Q z3 S2)
def wp_X4_pricesOf (a0 : Nat) (x1 : Int32) (S : Hp) (Q : Int32 → Hp → Prop) : Prop :=
  (kd S a0 = 5) ∧
  ∃ r1, gR S 41 a0 = some r1 ∧
  (kd S a0 = 5) ∧
  wp_X4_sumOf a0 r1 x1 S (fun z3 S2 =>
    Q z3 S2)
def L_J7_fill_53178_5  (Q : Hp → Prop) (C5 : Nat × Int32 × Int32 × Int32 × Hp → Prop) : Nat × Int32 × Int32 × Int32 × Hp → Prop := fun (v0, v1, v2, v3, S) =>
    ((v3 ≤ v2 →
      Q S)
    ∧ (¬ (v3 ≤ v2) →
      (kd S v0 = 8) ∧
      (vp_in v2 (ln S v0)) ∧
      ∀ S1, S1 = sA S v0 (v2).toNatClampNeg v1 →
      ∀ y2, y2 = v2 + (1 : Int32) →
      C5 (v0, v1, y2, v3, S1)))
def wp_J7_fill_53178 (a0 : Nat) (x1 : Int32) (S : Hp) (Q : Hp → Prop) : Prop :=
  (kd S a0 = 8) ∧
  ∀ y3, y3 = (Int32.ofNat (ln S a0)) →
  ∃ n, it (L_J7_fill_53178_5  Q) n (a0, x1, (0 : Int32), y3, S)
def wp_J9_floorDiv_7cf53 (x0 : Int32) (x1 : Int32) (S : Hp) (Q : Int32 → Hp → Prop) : Prop :=
  (¬ x1 = 0) ∧
  ∀ y1, y1 = (x0 / x1) →
  ((0 ≤ (x0 ^^^ x1) →
    Q y1 S)
  ∧ (¬ (0 ≤ (x0 ^^^ x1)) →
    (((y1 * x1) = x0 →
      Q y1 S)
    ∧ (¬ ((y1 * x1) = x0) →
      Q (y1 - (1 : Int32)) S))))
def wp_J9_floorMod_7cf53 (x0 : Int32) (x1 : Int32) (S : Hp) (Q : Int32 → Hp → Prop) : Prop :=
  (¬ x1 = 0) ∧
  ∀ y1, y1 = (x0 - x0 / x1 * x1) →
  ((0 ≤ (x0 ^^^ x1) →
    Q y1 S)
  ∧ (¬ (0 ≤ (x0 ^^^ x1)) →
    ((y1 = 0 →
      Q y1 S)
    ∧ (¬ (y1 = 0) →
      Q (y1 + x1) S))))
def wp_X6_init (a0 : Nat) (S : Hp) (Q : Hp → Prop) : Prop :=
  ∀ q1, fr S q1 → ∀ S2, S2 = nA S q1 8 6 →
  (kd S2 a0 = 7) ∧
  ∀ S3, S3 = sR S2 71 a0 (some q1) →
  ∀ q4, fr S3 q4 → ∀ S5, S5 = nA S3 q4 8 6 →
  (kd S5 a0 = 7) ∧
  ∀ S6, S6 = sR S5 72 a0 (some q4) →
  ∀ q7, fr S6 q7 → ∀ S8, S8 = nA S6 q7 8 6 →
  (kd S8 a0 = 7) ∧
  ∀ S9, S9 = sR S8 75 a0 (some q7) →
  ∀ q10, fr S9 q10 → ∀ S11, S11 = nA S9 q10 8 6 →
  (kd S11 a0 = 7) ∧
  ∀ S12, S12 = sR S11 76 a0 (some q10) →
  ∀ q13, fr S12 q13 → ∀ S14, S14 = nA S12 q13 9 1001 →
  (kd S14 a0 = 7) ∧
  ∀ S15, S15 = sR S14 83 a0 (some q13) →
  ∀ q16, fr S15 q16 → ∀ S17, S17 = nA S15 q16 8 3 →
  (kd S17 a0 = 7) ∧
  ∀ S18, S18 = sR S17 86 a0 (some q16) →
  ∀ q19, fr S18 q19 → ∀ S20, S20 = nA S18 q19 8 6 →
  (kd S20 a0 = 7) ∧
  ∀ S21, S21 = sR S20 87 a0 (some q19) →
  ∀ q22, fr S21 q22 → ∀ S23, S23 = nA S21 q22 8 8 →
  (kd S23 a0 = 7) ∧
  ∀ S24, S24 = sR S23 94 a0 (some q22) →
  ∀ q25, fr S24 q25 → ∀ S26, S26 = nA S24 q25 8 8 →
  (kd S26 a0 = 7) ∧
  ∀ S27, S27 = sR S26 95 a0 (some q25) →
  ∀ q28, fr S27 q28 → ∀ S29, S29 = nA S27 q28 8 8 →
  (kd S29 a0 = 7) ∧
  ∀ S30, S30 = sR S29 96 a0 (some q28) →
  ∀ q31, fr S30 q31 → ∀ S32, S32 = nA S30 q31 8 8 →
  (kd S32 a0 = 7) ∧
  ∀ S33, S33 = sR S32 97 a0 (some q31) →
  ∀ q34, fr S33 q34 → ∀ S35, S35 = nA S33 q34 8 8 →
  (kd S35 a0 = 7) ∧
  ∀ S36, S36 = sR S35 98 a0 (some q34) →
  ∀ q37, fr S36 q37 → ∀ S38, S38 = nA S36 q37 8 800 →
  (kd S38 a0 = 7) ∧
  ∀ S39, S39 = sR S38 99 a0 (some q37) →
  ∀ q40, fr S39 q40 → ∀ S41, S41 = nA S39 q40 8 100 →
  (kd S41 a0 = 7) ∧
  ∀ S42, S42 = sR S41 100 a0 (some q40) →
  Q S42
def wp_X6_isIn (x0 : Int32) (x1 : Int32) (x2 : Int32) (S : Hp) (Q : Int32 → Hp → Prop) : Prop :=
  ((x0 < x1 →
    Q (0 : Int32) S)
  ∧ (¬ (x0 < x1) →
    ((x2 < x0 →
      Q (0 : Int32) S)
    ∧ (¬ (x2 < x0) →
      Q (1 : Int32) S))))
def L_X6_move_2  (Q : Hp → Prop) (C2 : Nat × Nat × Int32 × Hp → Prop) : Nat × Nat × Int32 × Hp → Prop := fun (v0, v1, v2, S) =>
    (kd S v0 = 8) ∧
    (((Int32.ofNat (ln S v0)) ≤ v2 →
      Q S)
    ∧ (¬ ((Int32.ofNat (ln S v0)) ≤ v2) →
      (kd S v0 = 8) ∧
      (vp_in v2 (ln S v0)) ∧
      (kd S v1 = 8) ∧
      (vp_in v2 (ln S v1)) ∧
      ∀ S1, S1 = sA S v1 (v2).toNatClampNeg (gA S v0 (v2).toNatClampNeg) →
      ∀ y2, y2 = v2 + (1 : Int32) →
      C2 (v0, v1, y2, S1)))
def wp_X6_move (a0 : Nat) (a1 : Nat) (S : Hp) (Q : Hp → Prop) : Prop :=
  ∃ n, it (L_X6_move_2  Q) n (a0, a1, (0 : Int32), S)
def wp_X6_image (a0 : Nat) (S : Hp) (Q : Int32 → Hp → Prop) : Prop :=
  (kd S a0 = 7) ∧
  ∀ S1, S1 = sI S 73 a0 (1 : Int32) →
  (kd S1 a0 = 7) ∧
  (kd S1 a0 = 7) ∧
  ∀ S2, S2 = sI S1 74 a0 (gI S1 70 a0) →
  (kd S2 a0 = 7) ∧
  ∃ r3, gR S2 71 a0 = some r3 ∧
  (kd S2 a0 = 7) ∧
  ∃ r4, gR S2 75 a0 = some r4 ∧
  wp_X6_move r3 r4 S2 (fun S5 =>
    (kd S5 a0 = 7) ∧
    ∃ r6, gR S5 72 a0 = some r6 ∧
    (kd S5 a0 = 7) ∧
    ∃ r7, gR S5 76 a0 = some r7 ∧
    wp_X6_move r6 r7 S5 (fun S8 =>
      (kd S8 a0 = 7) ∧
      Q (gI S8 70 a0) S8))
def wp_X6_restore (a0 : Nat) (S : Hp) (Q : Int32 → Hp → Prop) : Prop :=
  (kd S a0 = 7) ∧
  ((¬ (gI S 73 a0) = 0 →
    (kd S a0 = 7) ∧
    (kd S a0 = 7) ∧
    ∀ S1, S1 = sI S 70 a0 (gI S 74 a0) →
    (kd S1 a0 = 7) ∧
    ∃ r2, gR S1 75 a0 = some r2 ∧
    (kd S1 a0 = 7) ∧
    ∃ r3, gR S1 71 a0 = some r3 ∧
    wp_X6_move r2 r3 S1 (fun S4 =>
      (kd S4 a0 = 7) ∧
      ∃ r5, gR S4 76 a0 = some r5 ∧
      (kd S4 a0 = 7) ∧
      ∃ r6, gR S4 72 a0 = some r6 ∧
      wp_X6_move r5 r6 S4 (fun S7 =>
        (kd S7 a0 = 7) ∧
        Q (gI S7 70 a0) S7)))
  ∧ ((gI S 73 a0) = 0 →
    Q (-3 : Int32) S))
def wp_X6_isStone (a0 : Nat) (x1 : Int32) (S : Hp) (Q : Int32 → Hp → Prop) : Prop :=
  (kd S a0 = 7) ∧
  wp_X6_isIn x1 (0 : Int32) ((gI S 70 a0) - (1 : Int32)) S (fun z2 S1 =>
    (narrow .boolean (.int z2) = .int z2) ∧
    Q z2 S1)
def wp_X6_stone (a0 : Nat) (x1 : Int32) (x2 : Int32) (S : Hp) (Q : Int32 → Hp → Prop) : Prop :=
  (kd S a0 = 7) ∧
  wp_X6_isStone a0 x1 S (fun z2 S1 =>
    ((z2 = 0 →
      Q (-1 : Int32) S1)
    ∧ (¬ (z2 = 0) →
      wp_X6_isIn x2 (0 : Int32) (1 : Int32) S1 (fun z4 S3 =>
        ((¬ z4 = 0 →
          ((¬ x2 = 0 →
            (kd S3 a0 = 7) ∧
            ∃ r5, gR S3 72 a0 = some r5 ∧
            (kd S3 r5 = 8) ∧
            (vp_in x1 (ln S3 r5)) ∧
            Q (gA S3 r5 (x1).toNatClampNeg) S3)
          ∧ (x2 = 0 →
            (kd S3 a0 = 7) ∧
            ∃ r6, gR S3 71 a0 = some r6 ∧
            (kd S3 r6 = 8) ∧
            (vp_in x1 (ln S3 r6)) ∧
            Q (gA S3 r6 (x1).toNatClampNeg) S3)))
        ∧ (z4 = 0 →
          Q (-1 : Int32) S3))))))
def L_X6_power_4  (Q : Int32 → Hp → Prop) (C4 : Int32 × Int32 × Int32 × Hp → Prop) : Int32 × Int32 × Int32 × Hp → Prop := fun (v0, v1, v2, S) =>
    ((v0 ≤ v2 →
      Q v1 S)
    ∧ (¬ (v0 ≤ v2) →
      ∀ y1, y1 = (v1 * (3 : Int32)) →
      ∀ y2, y2 = v2 + (1 : Int32) →
      C4 (v0, y1, y2, S)))
def wp_X6_power (x0 : Int32) (S : Hp) (Q : Int32 → Hp → Prop) : Prop :=
  ∃ n, it (L_X6_power_4  Q) n (x0, (1 : Int32), (0 : Int32), S)
def wp_X6_isLying (a0 : Nat) (x1 : Int32) (S : Hp) (Q : Int32 → Hp → Prop) : Prop :=
  (kd S a0 = 7) ∧
  wp_X6_power (gI S 70 a0) S (fun z2 S1 =>
    wp_X6_isIn x1 (0 : Int32) (z2 - (1 : Int32)) S1 (fun z4 S3 =>
      (narrow .boolean (.int z4) = .int z4) ∧
      Q z4 S3))
def J_X6_look_182 (C34 : Nat × Int32 × Int32 × Hp → Prop) (Q : Hp → Prop) (v0 : Nat) (v2 : Int32) (v3 : Int32) (w0 : Nat) (w1 : Int32) (w2 : Int32) (S : Hp) : Prop :=
    (kd S w0 = 7) ∧
    ∀ S1, S1 = sI S 82 w0 (w1 ||| w2) →
    ∀ y2, y2 = v3 + (1 : Int32) →
    C34 (v0, v2, y2, S1)
def J_X6_look_161 (C34 : Nat × Int32 × Int32 × Hp → Prop) (Q : Hp → Prop) (v0 : Nat) (v2 : Int32) (v3 : Int32) (v4 : Int32) (w0 : Nat) (w1 : Int32) (w2 : Int32) (S : Hp) : Prop :=
    (kd S w0 = 7) ∧
    ∀ S1, S1 = sI S 81 w0 (w1 + w2) →
    (kd S1 v0 = 7) ∧
    ((¬ v4 = 0 →
      J_X6_look_182 C34 Q v0 v2 v3 v0 (gI S1 82 v0) ((1 : Int32) <<< (v3 &&& 31)) S1)
    ∧ (v4 = 0 →
      J_X6_look_182 C34 Q v0 v2 v3 v0 (gI S1 82 v0) (0 : Int32) S1))
def J_X6_look_137 (C34 : Nat × Int32 × Int32 × Hp → Prop) (Q : Hp → Prop) (v0 : Nat) (v2 : Int32) (v3 : Int32) (v4 : Int32) (w0 : Nat) (w1 : Int32) (w2 : Int32) (S : Hp) : Prop :=
    (kd S w0 = 7) ∧
    ∀ S1, S1 = sI S 80 w0 (w1 + w2) →
    (kd S1 v0 = 7) ∧
    ((¬ v4 = 0 →
      (kd S1 v0 = 7) ∧
      ∃ r2, gR S1 72 v0 = some r2 ∧
      (kd S1 r2 = 8) ∧
      (vp_in v3 (ln S1 r2)) ∧
      J_X6_look_161 C34 Q v0 v2 v3 v4 v0 (gI S1 81 v0) (gA S1 r2 (v3).toNatClampNeg) S1)
    ∧ (v4 = 0 →
      J_X6_look_161 C34 Q v0 v2 v3 v4 v0 (gI S1 81 v0) (0 : Int32) S1))
def J_X6_look_117 (C34 : Nat × Int32 × Int32 × Hp → Prop) (Q : Hp → Prop) (v0 : Nat) (v2 : Int32) (v3 : Int32) (v4 : Int32) (w0 : Nat) (w1 : Int32) (w2 : Int32) (S : Hp) : Prop :=
    (kd S w0 = 7) ∧
    ∀ S1, S1 = sI S 79 w0 (w1 + w2) →
    (kd S1 v0 = 7) ∧
    ((¬ v4 = (2 : Int32) →
      J_X6_look_137 C34 Q v0 v2 v3 v4 v0 (gI S1 80 v0) (0 : Int32) S1)
    ∧ (v4 = (2 : Int32) →
      J_X6_look_137 C34 Q v0 v2 v3 v4 v0 (gI S1 80 v0) (1 : Int32) S1))
def J_X6_look_97 (C34 : Nat × Int32 × Int32 × Hp → Prop) (Q : Hp → Prop) (v0 : Nat) (v2 : Int32) (v3 : Int32) (v4 : Int32) (w0 : Nat) (w1 : Int32) (w2 : Int32) (S : Hp) : Prop :=
    (kd S w0 = 7) ∧
    ∀ S1, S1 = sI S 78 w0 (w1 + w2) →
    (kd S1 v0 = 7) ∧
    ((¬ v4 = (1 : Int32) →
      J_X6_look_117 C34 Q v0 v2 v3 v4 v0 (gI S1 79 v0) (0 : Int32) S1)
    ∧ (v4 = (1 : Int32) →
      J_X6_look_117 C34 Q v0 v2 v3 v4 v0 (gI S1 79 v0) (1 : Int32) S1))
def J_X6_look_72 (C34 : Nat × Int32 × Int32 × Hp → Prop) (Q : Hp → Prop) (v0 : Nat) (v2 : Int32) (v3 : Int32) (v4 : Int32) (w0 : Nat) (w1 : Int32) (w2 : Int32) (S : Hp) : Prop :=
    (kd S w0 = 7) ∧
    ∀ S1, S1 = sI S 77 w0 (w1 + w2) →
    (kd S1 v0 = 7) ∧
    ((¬ v4 = (2 : Int32) →
      J_X6_look_97 C34 Q v0 v2 v3 v4 v0 (gI S1 78 v0) (0 : Int32) S1)
    ∧ (v4 = (2 : Int32) →
      (kd S1 v0 = 7) ∧
      ∃ r2, gR S1 71 v0 = some r2 ∧
      (kd S1 r2 = 8) ∧
      (vp_in v3 (ln S1 r2)) ∧
      J_X6_look_97 C34 Q v0 v2 v3 v4 v0 (gI S1 78 v0) (gA S1 r2 (v3).toNatClampNeg) S1))
def L_X6_look_34  (Q : Hp → Prop) (C34 : Nat × Int32 × Int32 × Hp → Prop) : Nat × Int32 × Int32 × Hp → Prop := fun (v0, v2, v3, S) =>
    (kd S v0 = 7) ∧
    (((gI S 70 v0) ≤ v3 →
      Q S)
    ∧ (¬ ((gI S 70 v0) ≤ v3) →
      ∀ y1, y1 = (v2 - v2 / (3 : Int32) * (3 : Int32)) →
      ∀ y2, y2 = (v2 / (3 : Int32)) →
      (kd S v0 = 7) ∧
      ((¬ y1 = (1 : Int32) →
        J_X6_look_72 C34 Q v0 y2 v3 y1 v0 (gI S 77 v0) (0 : Int32) S)
      ∧ (y1 = (1 : Int32) →
        (kd S v0 = 7) ∧
        ∃ r3, gR S 71 v0 = some r3 ∧
        (kd S r3 = 8) ∧
        (vp_in v3 (ln S r3)) ∧
        J_X6_look_72 C34 Q v0 y2 v3 y1 v0 (gI S 77 v0) (gA S r3 (v3).toNatClampNeg) S))))
def wp_X6_look (a0 : Nat) (x1 : Int32) (S : Hp) (Q : Hp → Prop) : Prop :=
  (kd S a0 = 7) ∧
  ∀ S4, S4 = sI S 77 a0 (0 : Int32) →
  (kd S4 a0 = 7) ∧
  ∀ S5, S5 = sI S4 78 a0 (0 : Int32) →
  (kd S5 a0 = 7) ∧
  ∀ S6, S6 = sI S5 79 a0 (0 : Int32) →
  (kd S6 a0 = 7) ∧
  ∀ S7, S7 = sI S6 80 a0 (0 : Int32) →
  (kd S7 a0 = 7) ∧
  ∀ S8, S8 = sI S7 81 a0 (0 : Int32) →
  (kd S8 a0 = 7) ∧
  ∀ S9, S9 = sI S8 82 a0 (0 : Int32) →
  ∃ n, it (L_X6_look_34  Q) n (a0, x1, (0 : Int32), S9)
def wp_X6_lying (a0 : Nat) (x1 : Int32) (x2 : Int32) (S : Hp) (Q : Int32 → Hp → Prop) : Prop :=
  (kd S a0 = 7) ∧
  wp_X6_isLying a0 x1 S (fun z2 S1 =>
    ((z2 = 0 →
      Q (-1 : Int32) S1)
    ∧ (¬ (z2 = 0) →
      wp_X6_isIn x2 (0 : Int32) (3 : Int32) S1 (fun z4 S3 =>
        ((¬ z4 = 0 →
          (kd S3 a0 = 7) ∧
          wp_X6_look a0 x1 S3 (fun S5 =>
            ((¬ x2 = 0 →
              ((¬ x2 = (1 : Int32) →
                ((¬ x2 = (2 : Int32) →
                  (kd S5 a0 = 7) ∧
                  Q (gI S5 81 a0) S5)
                ∧ (x2 = (2 : Int32) →
                  (kd S5 a0 = 7) ∧
                  (kd S5 a0 = 7) ∧
                  Q ((gI S5 79 a0) + (gI S5 80 a0)) S5)))
              ∧ (x2 = (1 : Int32) →
                (kd S5 a0 = 7) ∧
                Q (gI S5 78 a0) S5)))
            ∧ (x2 = 0 →
              (kd S5 a0 = 7) ∧
              Q (gI S5 77 a0) S5))))
        ∧ (z4 = 0 →
          Q (-1 : Int32) S3))))))
def wp_X6_readBy (x0 : Int32) (x1 : Int32) (x2 : Int32) (x3 : Int32) (S : Hp) (Q : Int32 → Hp → Prop) : Prop :=
  (((x0).toInt = 2 →
    Q (((x1 + (1 : Int32)) * x2) - x3) S)
  ∧ ((x0).toInt = 3 →
    Q ((x2 - x3) - x1) S)
  ∧ ((x0).toInt = 4 →
    Q ((((x1 + (1 : Int32)) * x2) - x3) + x2) S)
  ∧ ((x0).toInt = 5 →
    Q (if 0 ≤ (x2 - x3) then (x2 - x3) else 0 - (x2 - x3)) S)
  ∧ ((x0).toInt = 6 →
    Q ((x2 - x3) / (2 : Int32)) S)
  ∧ ((x0).toInt = 7 →
    ((x3 ≤ 0 →
      Q (((x2 - x3) - x1) + (0 : Int32)) S)
    ∧ (¬ (x3 ≤ 0) →
      Q (((x2 - x3) - x1) + (1 : Int32)) S)))
  ∧ (((x0).toInt < 2 ∨ 7 < (x0).toInt) →
    Q (x2 - x3) S))
def J_X6_mayBe_11  (Q : Int32 → Hp → Prop) (v0 : Nat) (S : Hp) : Prop :=
    (kd S v0 = 7) ∧
    ((¬ (gI S 80 v0) = 0 →
      Q (0 : Int32) S)
    ∧ ((gI S 80 v0) = 0 →
      Q (1 : Int32) S))
def wp_X6_mayBe (a0 : Nat) (x1 : Int32) (S : Hp) (Q : Int32 → Hp → Prop) : Prop :=
  ((x1 = (1 : Int32) →
    (J_X6_mayBe_11  Q a0 S))
  ∧ (¬ (x1 = (1 : Int32)) →
    ((¬ x1 = (6 : Int32) →
      ((¬ x1 = (4 : Int32) →
        Q (1 : Int32) S)
      ∧ (x1 = (4 : Int32) →
        (kd S a0 = 7) ∧
        (((2 : Int32) < (gI S 79 a0) →
          Q (0 : Int32) S)
        ∧ (¬ ((2 : Int32) < (gI S 79 a0)) →
          Q (1 : Int32) S)))))
    ∧ (x1 = (6 : Int32) →
      (J_X6_mayBe_11  Q a0 S)))))
def wp_X6_isWeight (a0 : Nat) (x1 : Int32) (x2 : Int32) (x3 : Int32) (S : Hp) (Q : Int32 → Hp → Prop) : Prop :=
  (kd S a0 = 7) ∧
  wp_X6_look a0 x2 S (fun S1 =>
    (kd S1 a0 = 7) ∧
    ∃ r2, gR S1 95 a0 = some r2 ∧
    (kd S1 r2 = 8) ∧
    (vp_in x1 (ln S1 r2)) ∧
    (kd S1 a0 = 7) ∧
    wp_X6_mayBe a0 (gA S1 r2 (x1).toNatClampNeg) S1 (fun z4 S3 =>
      ((z4 = 0 →
        Q (0 : Int32) S3)
      ∧ (¬ (z4 = 0) →
        (kd S3 a0 = 7) ∧
        ∃ r5, gR S3 95 a0 = some r5 ∧
        (kd S3 r5 = 8) ∧
        (vp_in x1 (ln S3 r5)) ∧
        (kd S3 a0 = 7) ∧
        ∃ r6, gR S3 96 a0 = some r6 ∧
        (kd S3 r6 = 8) ∧
        (vp_in x1 (ln S3 r6)) ∧
        (kd S3 a0 = 7) ∧
        (kd S3 a0 = 7) ∧
        wp_X6_readBy (gA S3 r5 (x1).toNatClampNeg) (gA S3 r6 (x1).toNatClampNeg) (gI S3 77 a0) (gI S3 78 a0) S3 (fun z8 S7 =>
          ((¬ z8 = x3 →
            Q (0 : Int32) S7)
          ∧ (z8 = x3 →
            Q (1 : Int32) S7)))))))
def wp_X6_noScale (a0 : Nat) (x1 : Int32) (S : Hp) (Q : Int32 → Hp → Prop) : Prop :=
  (kd S a0 = 7) ∧
  ∃ r1, gR S 94 a0 = some r1 ∧
  (kd S r1 = 8) ∧
  (vp_in x1 (ln S r1)) ∧
  ((¬ (gA S r1 (x1).toNatClampNeg) = 0 →
    (kd S a0 = 7) ∧
    ∃ r2, gR S 94 a0 = some r2 ∧
    (kd S r2 = 8) ∧
    (vp_in x1 (ln S r2)) ∧
    ((¬ (gA S r2 (x1).toNatClampNeg) = (2 : Int32) →
      Q (0 : Int32) S)
    ∧ ((gA S r2 (x1).toNatClampNeg) = (2 : Int32) →
      Q (-12 : Int32) S)))
  ∧ ((gA S r1 (x1).toNatClampNeg) = 0 →
    Q (-11 : Int32) S))
def wp_X6_isShelf (x0 : Int32) (S : Hp) (Q : Int32 → Hp → Prop) : Prop :=
  wp_X6_isIn x0 (0 : Int32) (7 : Int32) S (fun z2 S1 =>
    (narrow .boolean (.int z2) = .int z2) ∧
    Q z2 S1)
def wp_X6_weighs (a0 : Nat) (x1 : Int32) (x2 : Int32) (S : Hp) (Q : Int32 → Hp → Prop) : Prop :=
  wp_X6_isShelf x1 S (fun z2 S1 =>
    ((z2 = 0 →
      Q (-1000000001 : Int32) S1)
    ∧ (¬ (z2 = 0) →
      (kd S1 a0 = 7) ∧
      wp_X6_isLying a0 x2 S1 (fun z4 S3 =>
        ((¬ z4 = 0 →
          (kd S3 a0 = 7) ∧
          wp_X6_noScale a0 x1 S3 (fun z6 S5 =>
            ((z6 = 0 →
              (kd S5 a0 = 7) ∧
              wp_X6_look a0 x2 S5 (fun S7 =>
                (kd S7 a0 = 7) ∧
                ∃ r8, gR S7 95 a0 = some r8 ∧
                (kd S7 r8 = 8) ∧
                (vp_in x1 (ln S7 r8)) ∧
                (kd S7 a0 = 7) ∧
                wp_X6_mayBe a0 (gA S7 r8 (x1).toNatClampNeg) S7 (fun z10 S9 =>
                  ((z10 = 0 →
                    Q (-1000000003 : Int32) S9)
                  ∧ (¬ (z10 = 0) →
                    (kd S9 a0 = 7) ∧
                    ∃ r11, gR S9 95 a0 = some r11 ∧
                    (kd S9 r11 = 8) ∧
                    (vp_in x1 (ln S9 r11)) ∧
                    (kd S9 a0 = 7) ∧
                    ∃ r12, gR S9 96 a0 = some r12 ∧
                    (kd S9 r12 = 8) ∧
                    (vp_in x1 (ln S9 r12)) ∧
                    (kd S9 a0 = 7) ∧
                    (kd S9 a0 = 7) ∧
                    wp_X6_readBy (gA S9 r11 (x1).toNatClampNeg) (gA S9 r12 (x1).toNatClampNeg) (gI S9 77 a0) (gI S9 78 a0) S9 (fun z14 S13 =>
                      Q z14 S13))))))
            ∧ (¬ (z6 = 0) →
              (kd S5 a0 = 7) ∧
              wp_X6_noScale a0 x1 S5 (fun z16 S15 =>
                Q (z16 - (1000000000 : Int32)) S15)))))
        ∧ (z4 = 0 →
          Q (-1000000001 : Int32) S3))))))
def wp_X6_may (a0 : Nat) (x1 : Int32) (x2 : Int32) (S : Hp) (Q : Int32 → Hp → Prop) : Prop :=
  wp_X6_isShelf x1 S (fun z2 S1 =>
    ((z2 = 0 →
      Q (-1 : Int32) S1)
    ∧ (¬ (z2 = 0) →
      (kd S1 a0 = 7) ∧
      wp_X6_isLying a0 x2 S1 (fun z4 S3 =>
        ((¬ z4 = 0 →
          (kd S3 a0 = 7) ∧
          wp_X6_noScale a0 x1 S3 (fun z6 S5 =>
            ((z6 = 0 →
              (kd S5 a0 = 7) ∧
              wp_X6_look a0 x2 S5 (fun S7 =>
                (kd S7 a0 = 7) ∧
                ∃ r8, gR S7 95 a0 = some r8 ∧
                (kd S7 r8 = 8) ∧
                (vp_in x1 (ln S7 r8)) ∧
                (kd S7 a0 = 7) ∧
                wp_X6_mayBe a0 (gA S7 r8 (x1).toNatClampNeg) S7 (fun z10 S9 =>
                  ((z10 = 0 →
                    Q (0 : Int32) S9)
                  ∧ (¬ (z10 = 0) →
                    Q (1 : Int32) S9)))))
            ∧ (¬ (z6 = 0) →
              (kd S5 a0 = 7) ∧
              wp_X6_noScale a0 x1 S5 (fun z12 S11 =>
                Q z12 S11)))))
        ∧ (z4 = 0 →
          Q (-1 : Int32) S3))))))
def J_X6_ways_70 (C41 : Nat × Int32 × Int32 × Int32 × Int32 × Hp → Prop) (Q : Int32 → Hp → Prop) (v0 : Nat) (v1 : Int32) (v2 : Int32) (v4 : Int32) (w0 : Int32) (w1 : Int32) (S : Hp) : Prop :=
    ∀ y1, y1 = (w0 + w1) →
    ∀ y2, y2 = v4 + (1 : Int32) →
    C41 (v0, v1, v2, y1, y2, S)
def L_X6_ways_41  (Q : Int32 → Hp → Prop) (C41 : Nat × Int32 × Int32 × Int32 × Int32 × Hp → Prop) : Nat × Int32 × Int32 × Int32 × Int32 × Hp → Prop := fun (v0, v1, v2, v3, v4, S) =>
    (kd S v0 = 7) ∧
    wp_X6_power (gI S 70 v0) S (fun z2 S1 =>
      ((z2 ≤ v4 →
        Q v3 S1)
      ∧ (¬ (z2 ≤ v4) →
        (kd S1 v0 = 7) ∧
        wp_X6_isWeight v0 v1 v4 v2 S1 (fun z4 S3 =>
          ((z4 = 0 →
            J_X6_ways_70 C41 Q v0 v1 v2 v4 v3 (0 : Int32) S3)
          ∧ (¬ (z4 = 0) →
            J_X6_ways_70 C41 Q v0 v1 v2 v4 v3 (1 : Int32) S3))))))
def wp_X6_ways (a0 : Nat) (x1 : Int32) (x2 : Int32) (S : Hp) (Q : Int32 → Hp → Prop) : Prop :=
  wp_X6_isShelf x1 S (fun z6 S5 =>
    ((z6 = 0 →
      Q (-1 : Int32) S5)
    ∧ (¬ (z6 = 0) →
      wp_X6_isIn x2 (-9999 : Int32) (9999 : Int32) S5 (fun z8 S7 =>
        ((¬ z8 = 0 →
          (kd S7 a0 = 7) ∧
          wp_X6_noScale a0 x1 S7 (fun z10 S9 =>
            ((z10 = 0 →
              ∃ n, it (L_X6_ways_41  Q) n (a0, x1, x2, (0 : Int32), (0 : Int32), S9))
            ∧ (¬ (z10 = 0) →
              (kd S9 a0 = 7) ∧
              wp_X6_noScale a0 x1 S9 (fun z12 S11 =>
                Q z12 S11)))))
        ∧ (z8 = 0 →
          Q (-1 : Int32) S7))))))
def L_X6_first_38  (Q : Int32 → Hp → Prop) (C38 : Nat × Int32 × Int32 × Int32 × Hp → Prop) : Nat × Int32 × Int32 × Int32 × Hp → Prop := fun (v0, v1, v2, v3, S) =>
    (kd S v0 = 7) ∧
    wp_X6_power (gI S 70 v0) S (fun z2 S1 =>
      ((z2 ≤ v3 →
        Q (-4 : Int32) S1)
      ∧ (¬ (z2 ≤ v3) →
        (kd S1 v0 = 7) ∧
        wp_X6_isWeight v0 v1 v3 v2 S1 (fun z4 S3 =>
          ((z4 = 0 →
            ∀ y5, y5 = v3 + (1 : Int32) →
            C38 (v0, v1, v2, y5, S3))
          ∧ (¬ (z4 = 0) →
            Q v3 S3))))))
def wp_X6_first (a0 : Nat) (x1 : Int32) (x2 : Int32) (S : Hp) (Q : Int32 → Hp → Prop) : Prop :=
  wp_X6_isShelf x1 S (fun z7 S6 =>
    ((z7 = 0 →
      Q (-1 : Int32) S6)
    ∧ (¬ (z7 = 0) →
      wp_X6_isIn x2 (-9999 : Int32) (9999 : Int32) S6 (fun z9 S8 =>
        ((¬ z9 = 0 →
          (kd S8 a0 = 7) ∧
          wp_X6_noScale a0 x1 S8 (fun z11 S10 =>
            ((z11 = 0 →
              ∃ n, it (L_X6_first_38  Q) n (a0, x1, x2, (0 : Int32), S10))
            ∧ (¬ (z11 = 0) →
              (kd S10 a0 = 7) ∧
              wp_X6_noScale a0 x1 S10 (fun z13 S12 =>
                Q z13 S12)))))
        ∧ (z9 = 0 →
          Q (-1 : Int32) S8))))))
def J_X6_lifts_115 (C56 : Nat × Int32 × Int32 × Int32 × Int32 × Int32 × Int32 × Hp → Prop) (Q : Int32 → Hp → Prop) (v0 : Nat) (v1 : Int32) (v2 : Int32) (v3 : Int32) (v4 : Int32) (v5 : Int32) (v6 : Int32) (S : Hp) : Prop :=
    ∀ y1, y1 = v6 + (1 : Int32) →
    C56 (v0, v1, v2, v3, v4, v5, y1, S)
def J_X6_lifts_100 (C56 : Nat × Int32 × Int32 × Int32 × Int32 × Int32 × Int32 × Hp → Prop) (Q : Int32 → Hp → Prop) (v0 : Nat) (v1 : Int32) (v2 : Int32) (v3 : Int32) (v6 : Int32) (S : Hp) : Prop :=
    (kd S v0 = 7) ∧
    (kd S v0 = 7) ∧
    ∀ y1, y1 = ((gI S 79 v0) + (gI S 80 v0)) →
    J_X6_lifts_115 C56 Q v0 v1 v2 v3 y1 v6 v6 S
def L_X6_lifts_56  (Q : Int32 → Hp → Prop) (C56 : Nat × Int32 × Int32 × Int32 × Int32 × Int32 × Int32 × Hp → Prop) : Nat × Int32 × Int32 × Int32 × Int32 × Int32 × Int32 × Hp → Prop := fun (v0, v1, v2, v3, v4, v5, v6, S) =>
    (kd S v0 = 7) ∧
    wp_X6_power (gI S 70 v0) S (fun z2 S1 =>
      ((z2 ≤ v6 →
        ((¬ v3 = 0 →
          Q v5 S1)
        ∧ (v3 = 0 →
          Q v4 S1)))
      ∧ (¬ (z2 ≤ v6) →
        (kd S1 v0 = 7) ∧
        wp_X6_isWeight v0 v1 v6 v2 S1 (fun z4 S3 =>
          ((z4 = 0 →
            (J_X6_lifts_115 C56 Q v0 v1 v2 v3 v4 v5 v6 S3))
          ∧ (¬ (z4 = 0) →
            ((v5 = (-4 : Int32) →
              (J_X6_lifts_100 C56 Q v0 v1 v2 v3 v6 S3))
            ∧ (¬ (v5 = (-4 : Int32)) →
              (kd S3 v0 = 7) ∧
              (kd S3 v0 = 7) ∧
              ((v4 ≤ ((gI S3 79 v0) + (gI S3 80 v0)) →
                (J_X6_lifts_115 C56 Q v0 v1 v2 v3 v4 v5 v6 S3))
              ∧ (¬ (v4 ≤ ((gI S3 79 v0) + (gI S3 80 v0))) →
                (J_X6_lifts_100 C56 Q v0 v1 v2 v3 v6 S3)))))))))))
def wp_X6_lifts (a0 : Nat) (x1 : Int32) (x2 : Int32) (x3 : Int32) (S : Hp) (Q : Int32 → Hp → Prop) : Prop :=
  wp_X6_isShelf x1 S (fun z6 S5 =>
    ((z6 = 0 →
      Q (-1 : Int32) S5)
    ∧ (¬ (z6 = 0) →
      wp_X6_isIn x2 (-9999 : Int32) (9999 : Int32) S5 (fun z8 S7 =>
        ((z8 = 0 →
          Q (-1 : Int32) S7)
        ∧ (¬ (z8 = 0) →
          wp_X6_isIn x3 (0 : Int32) (1 : Int32) S7 (fun z10 S9 =>
            ((¬ z10 = 0 →
              (kd S9 a0 = 7) ∧
              wp_X6_noScale a0 x1 S9 (fun z12 S11 =>
                ((z12 = 0 →
                  ∃ n, it (L_X6_lifts_56  Q) n (a0, x1, x2, x3, (-4 : Int32), (-4 : Int32), (0 : Int32), S11))
                ∧ (¬ (z12 = 0) →
                  (kd S11 a0 = 7) ∧
                  wp_X6_noScale a0 x1 S11 (fun z14 S13 =>
                    Q z14 S13)))))
            ∧ (z10 = 0 →
              Q (-1 : Int32) S9)))))))))
def J_X6_have_109 (C24 : Nat × Int32 × Int32 × Int32 × Hp → Prop) (Q : Hp → Prop) (v0 : Nat) (v1 : Int32) (v2 : Int32) (v3 : Int32) (S : Hp) : Prop :=
    ∀ y1, y1 = v3 + (1 : Int32) →
    C24 (v0, v1, v2, y1, S)
def L_X6_have_24  (Q : Hp → Prop) (C24 : Nat × Int32 × Int32 × Int32 × Hp → Prop) : Nat × Int32 × Int32 × Int32 × Hp → Prop := fun (v0, v1, v2, v3, S) =>
    (kd S v0 = 7) ∧
    wp_X6_power (gI S 70 v0) S (fun z2 S1 =>
      ((z2 ≤ v3 →
        Q S1)
      ∧ (¬ (z2 ≤ v3) →
        (kd S1 v0 = 7) ∧
        wp_X6_look v0 v3 S1 (fun S3 =>
          (kd S3 v0 = 7) ∧
          ∃ r4, gR S3 95 v0 = some r4 ∧
          (kd S3 r4 = 8) ∧
          (vp_in v1 (ln S3 r4)) ∧
          (kd S3 v0 = 7) ∧
          ∃ r5, gR S3 96 v0 = some r5 ∧
          (kd S3 r5 = 8) ∧
          (vp_in v1 (ln S3 r5)) ∧
          (kd S3 v0 = 7) ∧
          (kd S3 v0 = 7) ∧
          wp_X6_readBy (gA S3 r4 (v1).toNatClampNeg) (gA S3 r5 (v1).toNatClampNeg) (gI S3 77 v0) (gI S3 78 v0) S3 (fun z7 S6 =>
            (kd S6 v0 = 7) ∧
            ∃ r8, gR S6 95 v0 = some r8 ∧
            (kd S6 r8 = 8) ∧
            (vp_in v1 (ln S6 r8)) ∧
            (kd S6 v0 = 7) ∧
            wp_X6_mayBe v0 (gA S6 r8 (v1).toNatClampNeg) S6 (fun z10 S9 =>
              ((z10 = 0 →
                (J_X6_have_109 C24 Q v0 v1 v2 v3 S9))
              ∧ (¬ (z10 = 0) →
                (kd S9 v0 = 7) ∧
                ((¬ ((gI S9 82 v0) &&& (v2 ^^^ (-1 : Int32))) = 0 →
                  (J_X6_have_109 C24 Q v0 v1 v2 v3 S9))
                ∧ (((gI S9 82 v0) &&& (v2 ^^^ (-1 : Int32))) = 0 →
                  wp_X6_isIn z7 (1 : Int32) (999 : Int32) S9 (fun z12 S11 =>
                    ((z12 = 0 →
                      (J_X6_have_109 C24 Q v0 v1 v2 v3 S11))
                    ∧ (¬ (z12 = 0) →
                      (kd S11 v0 = 7) ∧
                      ∃ r13, gR S11 83 v0 = some r13 ∧
                      (kd S11 r13 = 9) ∧
                      (vp_in z7 (ln S11 r13)) ∧
                      ∀ S14, S14 = sA S11 r13 (z7).toNatClampNeg (vp_nar .boolean (1 : Int32)) →
                      J_X6_have_109 C24 Q v0 v1 v2 v3 S14)))))))))))))
def L_X6_have_2  (Q : Hp → Prop) (C2 : Nat × Int32 × Int32 × Int32 × Hp → Prop) : Nat × Int32 × Int32 × Int32 × Hp → Prop := fun (v0, v1, v2, v3, S) =>
    (((1000 : Int32) < v3 →
      ∃ n, it (L_X6_have_24  Q) n (v0, v1, v2, (0 : Int32), S))
    ∧ (¬ ((1000 : Int32) < v3) →
      (kd S v0 = 7) ∧
      ∃ r1, gR S 83 v0 = some r1 ∧
      (kd S r1 = 9) ∧
      (vp_in v3 (ln S r1)) ∧
      ∀ S2, S2 = sA S r1 (v3).toNatClampNeg (vp_nar .boolean (0 : Int32)) →
      ∀ y3, y3 = v3 + (1 : Int32) →
      C2 (v0, v1, v2, y3, S2)))
def wp_X6_have (a0 : Nat) (x1 : Int32) (x2 : Int32) (S : Hp) (Q : Hp → Prop) : Prop :=
  ∃ n, it (L_X6_have_2  Q) n (a0, x1, x2, (0 : Int32), S)
def L_X6_reached_2  (Q : Int32 → Hp → Prop) (C2 : Nat × Int32 × Hp → Prop) : Nat × Int32 × Hp → Prop := fun (v0, v1, S) =>
    (kd S v0 = 7) ∧
    ∃ r1, gR S 83 v0 = some r1 ∧
    (kd S r1 = 9) ∧
    (vp_in (v1 + (1 : Int32)) (ln S r1)) ∧
    (((gA S r1 ((v1 + (1 : Int32))).toNatClampNeg) = 0 →
      Q v1 S)
    ∧ (¬ ((gA S r1 ((v1 + (1 : Int32))).toNatClampNeg) = 0) →
      ∀ y2, y2 = v1 + (1 : Int32) →
      C2 (v0, y2, S)))
def wp_X6_reached (a0 : Nat) (S : Hp) (Q : Int32 → Hp → Prop) : Prop :=
  ∃ n, it (L_X6_reached_2  Q) n (a0, (0 : Int32), S)
def wp_X6_reach (a0 : Nat) (x1 : Int32) (S : Hp) (Q : Int32 → Hp → Prop) : Prop :=
  wp_X6_isShelf x1 S (fun z2 S1 =>
    ((¬ z2 = 0 →
      (kd S1 a0 = 7) ∧
      wp_X6_noScale a0 x1 S1 (fun z4 S3 =>
        ((z4 = 0 →
          (kd S3 a0 = 7) ∧
          wp_X6_have a0 x1 (63 : Int32) S3 (fun S5 =>
            (kd S5 a0 = 7) ∧
            wp_X6_reached a0 S5 (fun z7 S6 =>
              Q z7 S6)))
        ∧ (¬ (z4 = 0) →
          (kd S3 a0 = 7) ∧
          wp_X6_noScale a0 x1 S3 (fun z9 S8 =>
            Q z9 S8)))))
    ∧ (z2 = 0 →
      Q (-1 : Int32) S1)))
def wp_X6_hole (a0 : Nat) (x1 : Int32) (S : Hp) (Q : Int32 → Hp → Prop) : Prop :=
  wp_X6_isShelf x1 S (fun z2 S1 =>
    ((¬ z2 = 0 →
      (kd S1 a0 = 7) ∧
      wp_X6_noScale a0 x1 S1 (fun z4 S3 =>
        ((z4 = 0 →
          (kd S3 a0 = 7) ∧
          wp_X6_have a0 x1 (63 : Int32) S3 (fun S5 =>
            (kd S5 a0 = 7) ∧
            wp_X6_reached a0 S5 (fun z7 S6 =>
              ((¬ z7 = (999 : Int32) →
                (kd S6 a0 = 7) ∧
                wp_X6_reached a0 S6 (fun z9 S8 =>
                  Q (z9 + (1 : Int32)) S8))
              ∧ (z7 = (999 : Int32) →
                Q (-4 : Int32) S6)))))
        ∧ (¬ (z4 = 0) →
          (kd S3 a0 = 7) ∧
          wp_X6_noScale a0 x1 S3 (fun z11 S10 =>
            Q z11 S10)))))
    ∧ (z2 = 0 →
      Q (-1 : Int32) S1)))
def J_X6_noList_89  (Q : Int32 → Hp → Prop) (v2 : Int32) (S : Hp) : Prop :=
    ((v2 = 0 →
      Q (-13 : Int32) S)
    ∧ (¬ (v2 = 0) →
      Q (0 : Int32) S))
def L_X6_noList_50  (Q : Int32 → Hp → Prop) (C50 : Nat × Int32 × Int32 × Int32 × Hp → Prop) : Nat × Int32 × Int32 × Int32 × Hp → Prop := fun (v0, v1, v2, v3, S) =>
    (kd S v0 = 7) ∧
    ∃ r1, gR S 98 v0 = some r1 ∧
    (kd S r1 = 8) ∧
    (vp_in v1 (ln S r1)) ∧
    (((gA S r1 (v1).toNatClampNeg) ≤ v3 →
      (J_X6_noList_89  Q v2 S))
    ∧ (¬ ((gA S r1 (v1).toNatClampNeg) ≤ v3) →
      ((v2 = 0 →
        (J_X6_noList_89  Q v2 S))
      ∧ (¬ (v2 = 0) →
        (kd S v0 = 7) ∧
        ∃ r2, gR S 99 v0 = some r2 ∧
        (kd S r2 = 8) ∧
        (vp_in (((100 : Int32) * v1) + v3) (ln S r2)) ∧
        wp_X6_isIn (gA S r2 ((((100 : Int32) * v1) + v3)).toNatClampNeg) (1 : Int32) (999 : Int32) S (fun z4 S3 =>
          ∀ y5, y5 = v3 + (1 : Int32) →
          C50 (v0, v1, z4, y5, S3))))))
def wp_X6_noList (a0 : Nat) (x1 : Int32) (S : Hp) (Q : Int32 → Hp → Prop) : Prop :=
  (kd S a0 = 7) ∧
  ∃ r6, gR S 94 a0 = some r6 ∧
  (kd S r6 = 8) ∧
  (vp_in x1 (ln S r6)) ∧
  ((¬ (gA S r6 (x1).toNatClampNeg) = 0 →
    (kd S a0 = 7) ∧
    ∃ r7, gR S 94 a0 = some r7 ∧
    (kd S r7 = 8) ∧
    (vp_in x1 (ln S r7)) ∧
    (((gA S r7 (x1).toNatClampNeg) = (1 : Int32) →
      Q (-12 : Int32) S)
    ∧ (¬ ((gA S r7 (x1).toNatClampNeg) = (1 : Int32)) →
      (kd S a0 = 7) ∧
      ∃ r8, gR S 97 a0 = some r8 ∧
      (kd S r8 = 8) ∧
      (vp_in x1 (ln S r8)) ∧
      (((gA S r8 (x1).toNatClampNeg) = (1 : Int32) →
        (kd S a0 = 7) ∧
        ∃ r9, gR S 98 a0 = some r9 ∧
        (kd S r9 = 8) ∧
        (vp_in x1 (ln S r9)) ∧
        wp_X6_isIn (gA S r9 (x1).toNatClampNeg) (1 : Int32) (8 : Int32) S (fun z11 S10 =>
          ∃ n, it (L_X6_noList_50  Q) n (a0, x1, z11, (0 : Int32), S10)))
      ∧ (¬ ((gA S r8 (x1).toNatClampNeg) = (1 : Int32)) →
        Q (-12 : Int32) S)))))
  ∧ ((gA S r6 (x1).toNatClampNeg) = 0 →
    Q (-11 : Int32) S))
def L_X6_bits_4  (Q : Int32 → Hp → Prop) (C4 : Int32 × Int32 × Int32 × Hp → Prop) : Int32 × Int32 × Int32 × Hp → Prop := fun (v0, v1, v2, S) =>
    (((6 : Int32) ≤ v2 →
      Q v1 S)
    ∧ (¬ ((6 : Int32) ≤ v2) →
      ∀ y1, y1 = (v1 + ((v0 >>> (v2 &&& 31)) &&& (1 : Int32))) →
      ∀ y2, y2 = v2 + (1 : Int32) →
      C4 (v0, y1, y2, S)))
def wp_X6_bits (x0 : Int32) (S : Hp) (Q : Int32 → Hp → Prop) : Prop :=
  ∃ n, it (L_X6_bits_4  Q) n (x0, (0 : Int32), (0 : Int32), S)
def L_X6_priceOf_4  (Q : Int32 → Hp → Prop) (C4 : Nat × Int32 × Int32 × Int32 × Hp → Prop) : Nat × Int32 × Int32 × Int32 × Hp → Prop := fun (v0, v1, v2, v3, S) =>
    (kd S v0 = 7) ∧
    (((gI S 70 v0) ≤ v3 →
      Q v2 S)
    ∧ (¬ ((gI S 70 v0) ≤ v3) →
      (kd S v0 = 7) ∧
      ∃ r1, gR S 72 v0 = some r1 ∧
      (kd S r1 = 8) ∧
      (vp_in v3 (ln S r1)) ∧
      ∀ y2, y2 = (v2 + (((v1 >>> (v3 &&& 31)) &&& (1 : Int32)) * (gA S r1 (v3).toNatClampNeg))) →
      ∀ y3, y3 = v3 + (1 : Int32) →
      C4 (v0, v1, y2, y3, S)))
def wp_X6_priceOf (a0 : Nat) (x1 : Int32) (S : Hp) (Q : Int32 → Hp → Prop) : Prop :=
  ∃ n, it (L_X6_priceOf_4  Q) n (a0, x1, (0 : Int32), (0 : Int32), S)
def J_X6_hasAll_53 (C12 : Nat × Int32 × Int32 × Int32 × Hp → Prop) (Q : Int32 → Hp → Prop) (v0 : Nat) (v2 : Int32) (v5 : Int32) (w0 : Int32) (S : Hp) : Prop :=
    ∀ y1, y1 = v5 + (1 : Int32) →
    C12 (v0, v2, w0, y1, S)
def J_X6_hasAll_52 (C12 : Nat × Int32 × Int32 × Int32 × Hp → Prop) (Q : Int32 → Hp → Prop) (v0 : Nat) (v2 : Int32) (v5 : Int32) (S : Hp) : Prop :=
    J_X6_hasAll_53 C12 Q v0 v2 v5 (0 : Int32) S
def L_X6_hasAll_12  (Q : Int32 → Hp → Prop) (C12 : Nat × Int32 × Int32 × Int32 × Hp → Prop) : Nat × Int32 × Int32 × Int32 × Hp → Prop := fun (v0, v2, v4, v5, S) =>
    (kd S v0 = 7) ∧
    ∃ r1, gR S 98 v0 = some r1 ∧
    (kd S r1 = 8) ∧
    (vp_in v2 (ln S r1)) ∧
    (((gA S r1 (v2).toNatClampNeg) ≤ v5 →
      (narrow .boolean (.int v4) = .int v4) ∧
      Q v4 S)
    ∧ (¬ ((gA S r1 (v2).toNatClampNeg) ≤ v5) →
      ((v4 = 0 →
        (J_X6_hasAll_52 C12 Q v0 v2 v5 S))
      ∧ (¬ (v4 = 0) →
        (kd S v0 = 7) ∧
        ∃ r2, gR S 83 v0 = some r2 ∧
        (kd S v0 = 7) ∧
        ∃ r3, gR S 99 v0 = some r3 ∧
        (kd S r3 = 8) ∧
        (vp_in (((100 : Int32) * v2) + v5) (ln S r3)) ∧
        (kd S r2 = 9) ∧
        (vp_in (gA S r3 ((((100 : Int32) * v2) + v5)).toNatClampNeg) (ln S r2)) ∧
        (((gA S r2 ((gA S r3 ((((100 : Int32) * v2) + v5)).toNatClampNeg)).toNatClampNeg) = 0 →
          (J_X6_hasAll_52 C12 Q v0 v2 v5 S))
        ∧ (¬ ((gA S r2 ((gA S r3 ((((100 : Int32) * v2) + v5)).toNatClampNeg)).toNatClampNeg) = 0) →
          J_X6_hasAll_53 C12 Q v0 v2 v5 (1 : Int32) S))))))
def wp_X6_hasAll (a0 : Nat) (x1 : Int32) (x2 : Int32) (x3 : Int32) (S : Hp) (Q : Int32 → Hp → Prop) : Prop :=
  (kd S a0 = 7) ∧
  wp_X6_have a0 x1 x3 S (fun S4 =>
    ∃ n, it (L_X6_hasAll_12  Q) n (a0, x2, (1 : Int32), (0 : Int32), S4))
def J_X6_bestSet_142 (C13 : Nat × Int32 × Int32 × Int32 × Int32 × Int32 × Int32 × Int32 × Int32 × Hp → Prop) (Q : Int32 → Hp → Prop) (v0 : Nat) (v1 : Int32) (v2 : Int32) (v3 : Int32) (v4 : Int32) (v5 : Int32) (v6 : Int32) (v7 : Int32) (v8 : Int32) (S : Hp) : Prop :=
    ∀ y1, y1 = v8 + (1 : Int32) →
    C13 (v0, v1, v2, v3, v4, v5, v6, v7, y1, S)
def J_X6_bestSet_104 (C13 : Nat × Int32 × Int32 × Int32 × Int32 × Int32 × Int32 × Int32 × Int32 × Hp → Prop) (Q : Int32 → Hp → Prop) (v0 : Nat) (v1 : Int32) (v2 : Int32) (v3 : Int32) (v4 : Int32) (v5 : Int32) (v6 : Int32) (v7 : Int32) (v8 : Int32) (v11 : Int32) (v12 : Int32) (w0 : Int32) (S : Hp) : Prop :=
    ((¬ (v8 &&& v3) = v3 →
      (J_X6_bestSet_142 C13 Q v0 v1 v2 v3 v4 v5 v6 v7 v8 S))
    ∧ ((v8 &&& v3) = v3 →
      ((w0 = 0 →
        (J_X6_bestSet_142 C13 Q v0 v1 v2 v3 v4 v5 v6 v7 v8 S))
      ∧ (¬ (w0 = 0) →
        (kd S v0 = 7) ∧
        wp_X6_hasAll v0 v1 v2 v8 S (fun z2 S1 =>
          ((z2 = 0 →
            (J_X6_bestSet_142 C13 Q v0 v1 v2 v3 v4 v5 v6 v7 v8 S1))
          ∧ (¬ (z2 = 0) →
            J_X6_bestSet_142 C13 Q v0 v1 v2 v3 v4 v8 v11 v12 v8 S1)))))))
def J_X6_bestSet_99 (C13 : Nat × Int32 × Int32 × Int32 × Int32 × Int32 × Int32 × Int32 × Int32 × Hp → Prop) (Q : Int32 → Hp → Prop) (v0 : Nat) (v1 : Int32) (v2 : Int32) (v3 : Int32) (v4 : Int32) (v5 : Int32) (v6 : Int32) (v7 : Int32) (v8 : Int32) (v11 : Int32) (v12 : Int32) (S : Hp) : Prop :=
    J_X6_bestSet_104 C13 Q v0 v1 v2 v3 v4 v5 v6 v7 v8 v11 v12 (1 : Int32) S
def J_X6_bestSet_103 (C13 : Nat × Int32 × Int32 × Int32 × Int32 × Int32 × Int32 × Int32 × Int32 × Hp → Prop) (Q : Int32 → Hp → Prop) (v0 : Nat) (v1 : Int32) (v2 : Int32) (v3 : Int32) (v4 : Int32) (v5 : Int32) (v6 : Int32) (v7 : Int32) (v8 : Int32) (v11 : Int32) (v12 : Int32) (S : Hp) : Prop :=
    J_X6_bestSet_104 C13 Q v0 v1 v2 v3 v4 v5 v6 v7 v8 v11 v12 (0 : Int32) S
def J_X6_bestSet_69 (C13 : Nat × Int32 × Int32 × Int32 × Int32 × Int32 × Int32 × Int32 × Int32 × Hp → Prop) (Q : Int32 → Hp → Prop) (v0 : Nat) (v1 : Int32) (v2 : Int32) (v3 : Int32) (v4 : Int32) (v5 : Int32) (v6 : Int32) (v7 : Int32) (v8 : Int32) (v11 : Int32) (w0 : Int32) (S : Hp) : Prop :=
    ((v5 = (-4 : Int32) →
      (J_X6_bestSet_99 C13 Q v0 v1 v2 v3 v4 v5 v6 v7 v8 v11 w0 S))
    ∧ (¬ (v5 = (-4 : Int32)) →
      ((v11 < v6 →
        (J_X6_bestSet_99 C13 Q v0 v1 v2 v3 v4 v5 v6 v7 v8 v11 w0 S))
      ∧ (¬ (v11 < v6) →
        ((¬ v11 = v6 →
          (J_X6_bestSet_103 C13 Q v0 v1 v2 v3 v4 v5 v6 v7 v8 v11 w0 S))
        ∧ (v11 = v6 →
          ((v7 ≤ w0 →
            (J_X6_bestSet_103 C13 Q v0 v1 v2 v3 v4 v5 v6 v7 v8 v11 w0 S))
          ∧ (¬ (v7 ≤ w0) →
            (J_X6_bestSet_99 C13 Q v0 v1 v2 v3 v4 v5 v6 v7 v8 v11 w0 S)))))))))
def J_X6_bestSet_55 (C13 : Nat × Int32 × Int32 × Int32 × Int32 × Int32 × Int32 × Int32 × Int32 × Hp → Prop) (Q : Int32 → Hp → Prop) (v0 : Nat) (v1 : Int32) (v2 : Int32) (v3 : Int32) (v4 : Int32) (v5 : Int32) (v6 : Int32) (v7 : Int32) (v8 : Int32) (v9 : Int32) (v10 : Int32) (w0 : Int32) (S : Hp) : Prop :=
    ((v4 = 0 →
      J_X6_bestSet_69 C13 Q v0 v1 v2 v3 v4 v5 v6 v7 v8 w0 v10 S)
    ∧ (¬ (v4 = 0) →
      J_X6_bestSet_69 C13 Q v0 v1 v2 v3 v4 v5 v6 v7 v8 w0 v9 S))
def L_X6_bestSet_13  (Q : Int32 → Hp → Prop) (C13 : Nat × Int32 × Int32 × Int32 × Int32 × Int32 × Int32 × Int32 × Int32 × Hp → Prop) : Nat × Int32 × Int32 × Int32 × Int32 × Int32 × Int32 × Int32 × Int32 × Hp → Prop := fun (v0, v1, v2, v3, v4, v5, v6, v7, v8, S) =>
    (kd S v0 = 7) ∧
    ((((1 : Int32) <<< ((gI S 70 v0) &&& 31)) ≤ v8 →
      Q v5 S)
    ∧ (¬ (((1 : Int32) <<< ((gI S 70 v0) &&& 31)) ≤ v8) →
      wp_X6_bits v8 S (fun z2 S1 =>
        (kd S1 v0 = 7) ∧
        wp_X6_priceOf v0 (v8 &&& (v3 ^^^ (-1 : Int32))) S1 (fun z4 S3 =>
          ((v4 = 0 →
            J_X6_bestSet_55 C13 Q v0 v1 v2 v3 v4 v5 v6 v7 v8 z2 z4 z2 S3)
          ∧ (¬ (v4 = 0) →
            J_X6_bestSet_55 C13 Q v0 v1 v2 v3 v4 v5 v6 v7 v8 z2 z4 z4 S3))))))
def wp_X6_bestSet (a0 : Nat) (x1 : Int32) (x2 : Int32) (x3 : Int32) (x4 : Int32) (S : Hp) (Q : Int32 → Hp → Prop) : Prop :=
  ∃ n, it (L_X6_bestSet_13  Q) n (a0, x1, x2, x3, x4, (-4 : Int32), (0 : Int32), (0 : Int32), (0 : Int32), S)
def wp_X6_list (a0 : Nat) (x1 : Int32) (x2 : Int32) (S : Hp) (Q : Int32 → Hp → Prop) : Prop :=
  wp_X6_isShelf x1 S (fun z2 S1 =>
    ((z2 = 0 →
      Q (-1 : Int32) S1)
    ∧ (¬ (z2 = 0) →
      wp_X6_isShelf x2 S1 (fun z4 S3 =>
        ((¬ z4 = 0 →
          (kd S3 a0 = 7) ∧
          wp_X6_noScale a0 x1 S3 (fun z6 S5 =>
            ((z6 = 0 →
              (kd S5 a0 = 7) ∧
              wp_X6_noList a0 x2 S5 (fun z8 S7 =>
                ((z8 = 0 →
                  (kd S7 a0 = 7) ∧
                  wp_X6_bestSet a0 x1 x2 (0 : Int32) (0 : Int32) S7 (fun z10 S9 =>
                    Q z10 S9))
                ∧ (¬ (z8 = 0) →
                  (kd S7 a0 = 7) ∧
                  wp_X6_noList a0 x2 S7 (fun z12 S11 =>
                    Q z12 S11)))))
            ∧ (¬ (z6 = 0) →
              (kd S5 a0 = 7) ∧
              wp_X6_noScale a0 x1 S5 (fun z14 S13 =>
                Q z14 S13)))))
        ∧ (z4 = 0 →
          Q (-1 : Int32) S3))))))
def wp_X6_cheapest (a0 : Nat) (x1 : Int32) (x2 : Int32) (x3 : Int32) (x4 : Int32) (S : Hp) (Q : Int32 → Hp → Prop) : Prop :=
  wp_X6_isShelf x1 S (fun z2 S1 =>
    ((z2 = 0 →
      Q (-1 : Int32) S1)
    ∧ (¬ (z2 = 0) →
      wp_X6_isShelf x2 S1 (fun z4 S3 =>
        ((z4 = 0 →
          Q (-1 : Int32) S3)
        ∧ (¬ (z4 = 0) →
          (kd S3 a0 = 7) ∧
          wp_X6_isIn x3 (0 : Int32) (((1 : Int32) <<< ((gI S3 70 a0) &&& 31)) - (1 : Int32)) S3 (fun z6 S5 =>
            ((z6 = 0 →
              Q (-1 : Int32) S5)
            ∧ (¬ (z6 = 0) →
              wp_X6_isIn x4 (0 : Int32) (1 : Int32) S5 (fun z8 S7 =>
                ((¬ z8 = 0 →
                  (kd S7 a0 = 7) ∧
                  wp_X6_noScale a0 x1 S7 (fun z10 S9 =>
                    ((z10 = 0 →
                      (kd S9 a0 = 7) ∧
                      wp_X6_noList a0 x2 S9 (fun z12 S11 =>
                        ((z12 = 0 →
                          (kd S11 a0 = 7) ∧
                          wp_X6_bestSet a0 x1 x2 x3 (1 : Int32) S11 (fun z14 S13 =>
                            ((z14 = (-4 : Int32) →
                              Q z14 S13)
                            ∧ (¬ (z14 = (-4 : Int32)) →
                              ((¬ x4 = 0 →
                                (kd S13 a0 = 7) ∧
                                wp_X6_priceOf a0 (z14 &&& (x3 ^^^ (-1 : Int32))) S13 (fun z16 S15 =>
                                  Q z16 S15))
                              ∧ (x4 = 0 →
                                Q z14 S13))))))
                        ∧ (¬ (z12 = 0) →
                          (kd S11 a0 = 7) ∧
                          wp_X6_noList a0 x2 S11 (fun z18 S17 =>
                            Q z18 S17)))))
                    ∧ (¬ (z10 = 0) →
                      (kd S9 a0 = 7) ∧
                      wp_X6_noScale a0 x1 S9 (fun z20 S19 =>
                        Q z20 S19)))))
                ∧ (z8 = 0 →
                  Q (-1 : Int32) S7))))))))))))
def L_X6_threes_26  (Q : Int32 → Hp → Prop) (C26 : Int32 × Int32 × Int32 × Int32 × Int32 × Hp → Prop) : Int32 × Int32 × Int32 × Int32 × Int32 × Hp → Prop := fun (v1, v2, v3, v4, v5, S) =>
    ((v1 ≤ v4 →
      ((0 ≤ v2 →
        ((v3 ≤ v2 →
          Q (-4 : Int32) S)
        ∧ (¬ (v3 ≤ v2) →
          wp_X6_power v2 S (fun z2 S1 =>
            Q z2 S1))))
      ∧ (¬ (0 ≤ v2) →
        Q v3 S)))
    ∧ (¬ (v1 ≤ v4) →
      ∀ y3, y3 = (v4 + v5) →
      ∀ y4, y4 = (v5 * (3 : Int32)) →
      ∀ y5, y5 = v3 + (1 : Int32) →
      C26 (v1, v2, y5, y3, y4, S)))
def wp_X6_threes (a0 : Nat) (x1 : Int32) (x2 : Int32) (S : Hp) (Q : Int32 → Hp → Prop) : Prop :=
  wp_X6_isIn x1 (1 : Int32) (9999 : Int32) S (fun z7 S6 =>
    ((z7 = 0 →
      Q (-1 : Int32) S6)
    ∧ (¬ (z7 = 0) →
      (((-1 : Int32) ≤ x2 →
        ∃ n, it (L_X6_threes_26  Q) n (x1, x2, (0 : Int32), (0 : Int32), (1 : Int32), S6))
      ∧ (¬ ((-1 : Int32) ≤ x2) →
        Q (-1 : Int32) S6)))))
def L_X6_doubles_20  (Q : Int32 → Hp → Prop) (C20 : Int32 × Int32 × Int32 × Hp → Prop) : Int32 × Int32 × Int32 × Hp → Prop := fun (v1, v2, v3, S) =>
    ((v1 ≤ (((1 : Int32) <<< (v3 &&& 31)) - (1 : Int32)) →
      ((0 ≤ v2 →
        ((v3 ≤ v2 →
          Q (-4 : Int32) S)
        ∧ (¬ (v3 ≤ v2) →
          Q ((1 : Int32) <<< (v2 &&& 31)) S)))
      ∧ (¬ (0 ≤ v2) →
        Q v3 S)))
    ∧ (¬ (v1 ≤ (((1 : Int32) <<< (v3 &&& 31)) - (1 : Int32))) →
      ∀ y1, y1 = v3 + (1 : Int32) →
      C20 (v1, v2, y1, S)))
def wp_X6_doubles (a0 : Nat) (x1 : Int32) (x2 : Int32) (S : Hp) (Q : Int32 → Hp → Prop) : Prop :=
  wp_X6_isIn x1 (1 : Int32) (9999 : Int32) S (fun z3 S2 =>
    ((z3 = 0 →
      Q (-1 : Int32) S2)
    ∧ (¬ (z3 = 0) →
      (((-1 : Int32) ≤ x2 →
        ∃ n, it (L_X6_doubles_20  Q) n (x1, x2, (0 : Int32), S2))
      ∧ (¬ ((-1 : Int32) ≤ x2) →
        Q (-1 : Int32) S2)))))
def wp_X6_lowest (x0 : Int32) (S : Hp) (Q : Int32 → Hp → Prop) : Prop :=
  ∀ y1, y1 = (((x0 - x0 / (3 : Int32) * (3 : Int32)) + (3 : Int32)) - ((x0 - x0 / (3 : Int32) * (3 : Int32)) + (3 : Int32)) / (3 : Int32) * (3 : Int32)) →
  ((¬ y1 = (2 : Int32) →
    Q y1 S)
  ∧ (y1 = (2 : Int32) →
    Q (-1 : Int32) S))
def J_X6_digits_51 (C28 : Int32 × Int32 × Int32 × Int32 × Hp → Prop) (Q : Int32 → Hp → Prop) (v2 : Int32) (v3 : Int32) (v4 : Int32) (v6 : Int32) (w0 : Int32) (S : Hp) : Prop :=
    ∀ y1, y1 = ((v3 - v6) / (3 : Int32)) →
    ∀ y2, y2 = v4 + (1 : Int32) →
    C28 (v2, y1, y2, w0, S)
def L_X6_digits_28  (Q : Int32 → Hp → Prop) (C28 : Int32 × Int32 × Int32 × Int32 × Hp → Prop) : Int32 × Int32 × Int32 × Int32 × Hp → Prop := fun (v2, v3, v4, v5, S) =>
    ((v3 = 0 →
      ((0 ≤ v2 →
        ((0 ≤ v5 →
          Q v5 S)
        ∧ (¬ (0 ≤ v5) →
          Q (2 : Int32) S)))
      ∧ (¬ (0 ≤ v2) →
        Q v4 S)))
    ∧ (¬ (v3 = 0) →
      wp_X6_lowest v3 S (fun z2 S1 =>
        ((¬ v4 = v2 →
          J_X6_digits_51 C28 Q v2 v3 v4 z2 v5 S1)
        ∧ (v4 = v2 →
          J_X6_digits_51 C28 Q v2 v3 v4 z2 z2 S1)))))
def wp_X6_digits (a0 : Nat) (x1 : Int32) (x2 : Int32) (S : Hp) (Q : Int32 → Hp → Prop) : Prop :=
  wp_X6_isIn x1 (-9999 : Int32) (9999 : Int32) S (fun z4 S3 =>
    ((z4 = 0 →
      Q (-1 : Int32) S3)
    ∧ (¬ (z4 = 0) →
      (((-1 : Int32) ≤ x2 →
        ∃ n, it (L_X6_digits_28  Q) n (x2, x1, (0 : Int32), (0 : Int32), S3))
      ∧ (¬ ((-1 : Int32) ≤ x2) →
        Q (-1 : Int32) S3)))))
def J_X6_added_111 (C39 : Int32 × Int32 × Int32 × Int32 × Hp → Prop) (Q : Int32 → Hp → Prop) (v3 : Int32) (v4 : Int32) (v5 : Int32) (v7 : Int32) (v8 : Int32) (w0 : Int32) (w1 : Int32) (S : Hp) : Prop :=
    ∀ y1, y1 = (w0 + w1) →
    ∀ y2, y2 = ((v3 - v7) / (3 : Int32)) →
    ∀ y3, y3 = ((v4 - v8) / (3 : Int32)) →
    C39 (y2, y3, v5, y1, S)
def J_X6_added_97 (C39 : Int32 × Int32 × Int32 × Int32 × Hp → Prop) (Q : Int32 → Hp → Prop) (v3 : Int32) (v4 : Int32) (v6 : Int32) (v7 : Int32) (v8 : Int32) (w0 : Int32) (S : Hp) : Prop :=
    ((¬ w0 = 0 →
      J_X6_added_111 C39 Q v3 v4 w0 v7 v8 v6 (1 : Int32) S)
    ∧ (w0 = 0 →
      J_X6_added_111 C39 Q v3 v4 w0 v7 v8 v6 (0 : Int32) S))
def J_X6_added_53 (C39 : Int32 × Int32 × Int32 × Int32 × Hp → Prop) (Q : Int32 → Hp → Prop) (v3 : Int32) (v4 : Int32) (v5 : Int32) (v6 : Int32) (S : Hp) : Prop :=
    wp_X6_lowest v3 S (fun z2 S1 =>
      wp_X6_lowest v4 S1 (fun z4 S3 =>
        ∀ y5, y5 = ((z2 + z4) + v5) →
        ((y5 ≤ (1 : Int32) →
          (((-1 : Int32) ≤ y5 →
            J_X6_added_97 C39 Q v3 v4 v6 z2 z4 (0 : Int32) S3)
          ∧ (¬ ((-1 : Int32) ≤ y5) →
            J_X6_added_97 C39 Q v3 v4 v6 z2 z4 (-1 : Int32) S3)))
        ∧ (¬ (y5 ≤ (1 : Int32)) →
          J_X6_added_97 C39 Q v3 v4 v6 z2 z4 (1 : Int32) S3))))
def L_X6_added_39  (Q : Int32 → Hp → Prop) (C39 : Int32 × Int32 × Int32 × Int32 × Hp → Prop) : Int32 × Int32 × Int32 × Int32 × Hp → Prop := fun (v3, v4, v5, v6, S) =>
    ((¬ v3 = 0 →
      (J_X6_added_53 C39 Q v3 v4 v5 v6 S))
    ∧ (v3 = 0 →
      ((¬ v4 = 0 →
        (J_X6_added_53 C39 Q v3 v4 v5 v6 S))
      ∧ (v4 = 0 →
        ((v5 = 0 →
          Q v6 S)
        ∧ (¬ (v5 = 0) →
          (J_X6_added_53 C39 Q v3 v4 v5 v6 S)))))))
def wp_X6_added (a0 : Nat) (x1 : Int32) (x2 : Int32) (S : Hp) (Q : Int32 → Hp → Prop) : Prop :=
  wp_X6_isIn x1 (-9999 : Int32) (9999 : Int32) S (fun z2 S1 =>
    ((z2 = 0 →
      Q (-1 : Int32) S1)
    ∧ (¬ (z2 = 0) →
      wp_X6_isIn x2 (-9999 : Int32) (9999 : Int32) S1 (fun z4 S3 =>
        ((¬ z4 = 0 →
          ∃ n, it (L_X6_added_39  Q) n (x1, x2, (0 : Int32), (0 : Int32), S3))
        ∧ (z4 = 0 →
          Q (-1 : Int32) S3))))))
def J_X6_isAllHad_86 (C2 : Nat × Int32 × Int32 × Int32 × Hp → Prop) (C13 : Nat × Int32 × Int32 × Int32 × Int32 × Int32 × Hp → Prop) (C32 : Nat × Int32 × Int32 × Int32 × Int32 × Int32 × Int32 × Int32 × Int32 × Hp → Prop) (Q : Int32 → Hp → Prop) (v0 : Nat) (v1 : Int32) (v2 : Int32) (v3 : Int32) (v4 : Int32) (v5 : Int32) (v7 : Int32) (v8 : Int32) (w0 : Int32) (w1 : Int32) (S : Hp) : Prop :=
    ∀ y1, y1 = (w0 + w1) →
    ∀ y2, y2 = v8 + (1 : Int32) →
    C32 (v0, v1, v2, v3, v4, v5, y1, v7, y2, S)
def J_X6_isAllHad_111 (C2 : Nat × Int32 × Int32 × Int32 × Hp → Prop) (C13 : Nat × Int32 × Int32 × Int32 × Int32 × Int32 × Hp → Prop) (Q : Int32 → Hp → Prop) (v0 : Nat) (v1 : Int32) (v2 : Int32) (v3 : Int32) (v5 : Int32) (w0 : Int32) (S : Hp) : Prop :=
    ∀ y1, y1 = v5 + (1 : Int32) →
    C13 (v0, v1, v2, v3, w0, y1, S)
def J_X6_isAllHad_106 (C2 : Nat × Int32 × Int32 × Int32 × Hp → Prop) (C13 : Nat × Int32 × Int32 × Int32 × Int32 × Int32 × Hp → Prop) (Q : Int32 → Hp → Prop) (v0 : Nat) (v1 : Int32) (v2 : Int32) (v3 : Int32) (v5 : Int32) (S : Hp) : Prop :=
    J_X6_isAllHad_111 C2 C13 Q v0 v1 v2 v3 v5 (1 : Int32) S
def L_X6_isAllHad_32 (C2 : Nat × Int32 × Int32 × Int32 × Hp → Prop) (C13 : Nat × Int32 × Int32 × Int32 × Int32 × Int32 × Hp → Prop) (Q : Int32 → Hp → Prop) (C32 : Nat × Int32 × Int32 × Int32 × Int32 × Int32 × Int32 × Int32 × Int32 × Hp → Prop) : Nat × Int32 × Int32 × Int32 × Int32 × Int32 × Int32 × Int32 × Int32 × Hp → Prop := fun (v0, v1, v2, v3, v4, v5, v6, v7, v8, S) =>
    ((v1 ≤ v8 →
      ((¬ v4 = 0 →
        (J_X6_isAllHad_106 C2 C13 Q v0 v1 v2 v3 v5 S))
      ∧ (v4 = 0 →
        ((¬ v6 = v3 →
          J_X6_isAllHad_111 C2 C13 Q v0 v1 v2 v3 v5 (0 : Int32) S)
        ∧ (v6 = v3 →
          (J_X6_isAllHad_106 C2 C13 Q v0 v1 v2 v3 v5 S))))))
    ∧ (¬ (v1 ≤ v8) →
      ∀ y1, y1 = (v7 - v7 / (3 : Int32) * (3 : Int32)) →
      ∀ y2, y2 = (v7 / (3 : Int32)) →
      ((¬ y1 = (1 : Int32) →
        ((¬ y1 = (2 : Int32) →
          J_X6_isAllHad_86 C2 C13 C32 Q v0 v1 v2 v3 v4 v5 y2 v8 v6 (0 : Int32) S)
        ∧ (y1 = (2 : Int32) →
          (kd S v0 = 7) ∧
          ∃ r3, gR S 86 v0 = some r3 ∧
          (kd S r3 = 8) ∧
          (vp_in v8 (ln S r3)) ∧
          J_X6_isAllHad_86 C2 C13 C32 Q v0 v1 v2 v3 v4 v5 y2 v8 v6 (-(gA S r3 (v8).toNatClampNeg)) S)))
      ∧ (y1 = (1 : Int32) →
        (kd S v0 = 7) ∧
        ∃ r4, gR S 86 v0 = some r4 ∧
        (kd S r4 = 8) ∧
        (vp_in v8 (ln S r4)) ∧
        J_X6_isAllHad_86 C2 C13 C32 Q v0 v1 v2 v3 v4 v5 y2 v8 v6 (gA S r4 (v8).toNatClampNeg) S))))
def L_X6_isAllHad_13 (C2 : Nat × Int32 × Int32 × Int32 × Hp → Prop) (Q : Int32 → Hp → Prop) (C13 : Nat × Int32 × Int32 × Int32 × Int32 × Int32 × Hp → Prop) : Nat × Int32 × Int32 × Int32 × Int32 × Int32 × Hp → Prop := fun (v0, v1, v2, v3, v4, v5, S) =>
    wp_X6_power v1 S (fun z2 S1 =>
      ((z2 ≤ v5 →
        ((¬ v4 = 0 →
          ∀ y3, y3 = v3 + (1 : Int32) →
          C2 (v0, v1, v2, y3, S1))
        ∧ (v4 = 0 →
          Q (0 : Int32) S1)))
      ∧ (¬ (z2 ≤ v5) →
        ∃ n, it (L_X6_isAllHad_32 C2 C13 Q) n (v0, v1, v2, v3, v4, v5, (0 : Int32), v5, (0 : Int32), S1))))
def L_X6_isAllHad_2  (Q : Int32 → Hp → Prop) (C2 : Nat × Int32 × Int32 × Int32 × Hp → Prop) : Nat × Int32 × Int32 × Int32 × Hp → Prop := fun (v0, v1, v2, v3, S) =>
    ((v2 < v3 →
      Q (1 : Int32) S)
    ∧ (¬ (v2 < v3) →
      ∃ n, it (L_X6_isAllHad_13 C2 Q) n (v0, v1, v2, v3, (0 : Int32), (0 : Int32), S)))
def wp_X6_isAllHad (a0 : Nat) (x1 : Int32) (x2 : Int32) (S : Hp) (Q : Int32 → Hp → Prop) : Prop :=
  ∃ n, it (L_X6_isAllHad_2  Q) n (a0, x1, x2, (1 : Int32), S)
def wp_X6_choose_bot (a0 : Nat) (x1 x2 x3 x4 : Int32) (S : Hp) (Q : Hp → Prop) : Prop := False
def L_X6_choose_0_30  (Q : Hp → Prop) (C30 : Nat × Int32 × Int32 × Hp → Prop) : Nat × Int32 × Int32 × Hp → Prop := fun (v0, v2, v5, S) =>
    ((v2 ≤ v5 →
      (kd S v0 = 7) ∧
      (kd S v0 = 7) ∧
      ∀ S1, S1 = sI S 84 v0 ((gI S 84 v0) + (1 : Int32)) →
      Q S1)
    ∧ (¬ (v2 ≤ v5) →
      (kd S v0 = 7) ∧
      (kd S v0 = 7) ∧
      ∃ r2, gR S 86 v0 = some r2 ∧
      (kd S r2 = 8) ∧
      (vp_in v5 (ln S r2)) ∧
      (kd S v0 = 7) ∧
      ∀ S3, S3 = sI S 85 v0 (((100 : Int32) * (gI S 85 v0)) + (gA S r2 (v5).toNatClampNeg)) →
      ∀ y4, y4 = v5 + (1 : Int32) →
      C30 (v0, v2, y4, S3)))
def L_X6_choose_0_92  (Q : Hp → Prop) (C92 : Nat × Int32 × Int32 × Int32 × Int32 × Int32 × Hp → Prop) : Nat × Int32 × Int32 × Int32 × Int32 × Int32 × Hp → Prop := fun (v0, v1, v2, v3, v4, v5, S) =>
    ((v3 < v5 →
      Q S)
    ∧ (¬ (v3 < v5) →
      (kd S v0 = 7) ∧
      ∃ r1, gR S 86 v0 = some r1 ∧
      (kd S r1 = 8) ∧
      (vp_in v1 (ln S r1)) ∧
      ∀ S2, S2 = sA S r1 (v1).toNatClampNeg v5 →
      (kd S2 v0 = 7) ∧
      wp_X6_choose_bot v0 (v1 + (1 : Int32)) v2 v3 v4 S2 (fun S3 =>
        ∀ y4, y4 = v5 + (1 : Int32) →
        C92 (v0, v1, v2, v3, v4, y4, S3))))
def J_X6_choose_0_90  (Q : Hp → Prop) (v0 : Nat) (v1 : Int32) (v2 : Int32) (v3 : Int32) (v4 : Int32) (w0 : Int32) (S : Hp) : Prop :=
    ∃ n, it (L_X6_choose_0_92  Q) n (v0, v1, v2, v3, v4, w0, S)
def wp_X6_choose_0 (a0 : Nat) (x1 : Int32) (x2 : Int32) (x3 : Int32) (x4 : Int32) (S : Hp) (Q : Hp → Prop) : Prop :=
  ((¬ x1 = x2 →
    ((¬ x1 = 0 →
      (kd S a0 = 7) ∧
      ∃ r1, gR S 86 a0 = some r1 ∧
      (kd S r1 = 8) ∧
      (vp_in (x1 - (1 : Int32)) (ln S r1)) ∧
      J_X6_choose_0_90  Q a0 x1 x2 x3 x4 ((gA S r1 ((x1 - (1 : Int32))).toNatClampNeg) + (1 : Int32)) S)
    ∧ (x1 = 0 →
      J_X6_choose_0_90  Q a0 x1 x2 x3 x4 (1 : Int32) S)))
  ∧ (x1 = x2 →
    (kd S a0 = 7) ∧
    wp_X6_isAllHad a0 x2 x4 S (fun z3 S2 =>
      ((z3 = 0 →
        Q S2)
      ∧ (¬ (z3 = 0) →
        (kd S2 a0 = 7) ∧
        ((¬ (gI S2 84 a0) = 0 →
          (kd S2 a0 = 7) ∧
          (kd S2 a0 = 7) ∧
          ∀ S4, S4 = sI S2 84 a0 ((gI S2 84 a0) + (1 : Int32)) →
          Q S4)
        ∧ ((gI S2 84 a0) = 0 →
          (kd S2 a0 = 7) ∧
          ∀ S5, S5 = sI S2 85 a0 (0 : Int32) →
          ∃ n, it (L_X6_choose_0_30  Q) n (a0, x2, (0 : Int32), S5))))))))
def L_X6_choose_1_30  (Q : Hp → Prop) (C30 : Nat × Int32 × Int32 × Hp → Prop) : Nat × Int32 × Int32 × Hp → Prop := fun (v0, v2, v5, S) =>
    ((v2 ≤ v5 →
      (kd S v0 = 7) ∧
      (kd S v0 = 7) ∧
      ∀ S1, S1 = sI S 84 v0 ((gI S 84 v0) + (1 : Int32)) →
      Q S1)
    ∧ (¬ (v2 ≤ v5) →
      (kd S v0 = 7) ∧
      (kd S v0 = 7) ∧
      ∃ r2, gR S 86 v0 = some r2 ∧
      (kd S r2 = 8) ∧
      (vp_in v5 (ln S r2)) ∧
      (kd S v0 = 7) ∧
      ∀ S3, S3 = sI S 85 v0 (((100 : Int32) * (gI S 85 v0)) + (gA S r2 (v5).toNatClampNeg)) →
      ∀ y4, y4 = v5 + (1 : Int32) →
      C30 (v0, v2, y4, S3)))
def L_X6_choose_1_92  (Q : Hp → Prop) (C92 : Nat × Int32 × Int32 × Int32 × Int32 × Int32 × Hp → Prop) : Nat × Int32 × Int32 × Int32 × Int32 × Int32 × Hp → Prop := fun (v0, v1, v2, v3, v4, v5, S) =>
    ((v3 < v5 →
      Q S)
    ∧ (¬ (v3 < v5) →
      (kd S v0 = 7) ∧
      ∃ r1, gR S 86 v0 = some r1 ∧
      (kd S r1 = 8) ∧
      (vp_in v1 (ln S r1)) ∧
      ∀ S2, S2 = sA S r1 (v1).toNatClampNeg v5 →
      (kd S2 v0 = 7) ∧
      wp_X6_choose_0 v0 (v1 + (1 : Int32)) v2 v3 v4 S2 (fun S3 =>
        ∀ y4, y4 = v5 + (1 : Int32) →
        C92 (v0, v1, v2, v3, v4, y4, S3))))
def J_X6_choose_1_90  (Q : Hp → Prop) (v0 : Nat) (v1 : Int32) (v2 : Int32) (v3 : Int32) (v4 : Int32) (w0 : Int32) (S : Hp) : Prop :=
    ∃ n, it (L_X6_choose_1_92  Q) n (v0, v1, v2, v3, v4, w0, S)
def wp_X6_choose_1 (a0 : Nat) (x1 : Int32) (x2 : Int32) (x3 : Int32) (x4 : Int32) (S : Hp) (Q : Hp → Prop) : Prop :=
  ((¬ x1 = x2 →
    ((¬ x1 = 0 →
      (kd S a0 = 7) ∧
      ∃ r1, gR S 86 a0 = some r1 ∧
      (kd S r1 = 8) ∧
      (vp_in (x1 - (1 : Int32)) (ln S r1)) ∧
      J_X6_choose_1_90  Q a0 x1 x2 x3 x4 ((gA S r1 ((x1 - (1 : Int32))).toNatClampNeg) + (1 : Int32)) S)
    ∧ (x1 = 0 →
      J_X6_choose_1_90  Q a0 x1 x2 x3 x4 (1 : Int32) S)))
  ∧ (x1 = x2 →
    (kd S a0 = 7) ∧
    wp_X6_isAllHad a0 x2 x4 S (fun z3 S2 =>
      ((z3 = 0 →
        Q S2)
      ∧ (¬ (z3 = 0) →
        (kd S2 a0 = 7) ∧
        ((¬ (gI S2 84 a0) = 0 →
          (kd S2 a0 = 7) ∧
          (kd S2 a0 = 7) ∧
          ∀ S4, S4 = sI S2 84 a0 ((gI S2 84 a0) + (1 : Int32)) →
          Q S4)
        ∧ ((gI S2 84 a0) = 0 →
          (kd S2 a0 = 7) ∧
          ∀ S5, S5 = sI S2 85 a0 (0 : Int32) →
          ∃ n, it (L_X6_choose_1_30  Q) n (a0, x2, (0 : Int32), S5))))))))
def L_X6_choose_2_30  (Q : Hp → Prop) (C30 : Nat × Int32 × Int32 × Hp → Prop) : Nat × Int32 × Int32 × Hp → Prop := fun (v0, v2, v5, S) =>
    ((v2 ≤ v5 →
      (kd S v0 = 7) ∧
      (kd S v0 = 7) ∧
      ∀ S1, S1 = sI S 84 v0 ((gI S 84 v0) + (1 : Int32)) →
      Q S1)
    ∧ (¬ (v2 ≤ v5) →
      (kd S v0 = 7) ∧
      (kd S v0 = 7) ∧
      ∃ r2, gR S 86 v0 = some r2 ∧
      (kd S r2 = 8) ∧
      (vp_in v5 (ln S r2)) ∧
      (kd S v0 = 7) ∧
      ∀ S3, S3 = sI S 85 v0 (((100 : Int32) * (gI S 85 v0)) + (gA S r2 (v5).toNatClampNeg)) →
      ∀ y4, y4 = v5 + (1 : Int32) →
      C30 (v0, v2, y4, S3)))
def L_X6_choose_2_92  (Q : Hp → Prop) (C92 : Nat × Int32 × Int32 × Int32 × Int32 × Int32 × Hp → Prop) : Nat × Int32 × Int32 × Int32 × Int32 × Int32 × Hp → Prop := fun (v0, v1, v2, v3, v4, v5, S) =>
    ((v3 < v5 →
      Q S)
    ∧ (¬ (v3 < v5) →
      (kd S v0 = 7) ∧
      ∃ r1, gR S 86 v0 = some r1 ∧
      (kd S r1 = 8) ∧
      (vp_in v1 (ln S r1)) ∧
      ∀ S2, S2 = sA S r1 (v1).toNatClampNeg v5 →
      (kd S2 v0 = 7) ∧
      wp_X6_choose_1 v0 (v1 + (1 : Int32)) v2 v3 v4 S2 (fun S3 =>
        ∀ y4, y4 = v5 + (1 : Int32) →
        C92 (v0, v1, v2, v3, v4, y4, S3))))
def J_X6_choose_2_90  (Q : Hp → Prop) (v0 : Nat) (v1 : Int32) (v2 : Int32) (v3 : Int32) (v4 : Int32) (w0 : Int32) (S : Hp) : Prop :=
    ∃ n, it (L_X6_choose_2_92  Q) n (v0, v1, v2, v3, v4, w0, S)
def wp_X6_choose_2 (a0 : Nat) (x1 : Int32) (x2 : Int32) (x3 : Int32) (x4 : Int32) (S : Hp) (Q : Hp → Prop) : Prop :=
  ((¬ x1 = x2 →
    ((¬ x1 = 0 →
      (kd S a0 = 7) ∧
      ∃ r1, gR S 86 a0 = some r1 ∧
      (kd S r1 = 8) ∧
      (vp_in (x1 - (1 : Int32)) (ln S r1)) ∧
      J_X6_choose_2_90  Q a0 x1 x2 x3 x4 ((gA S r1 ((x1 - (1 : Int32))).toNatClampNeg) + (1 : Int32)) S)
    ∧ (x1 = 0 →
      J_X6_choose_2_90  Q a0 x1 x2 x3 x4 (1 : Int32) S)))
  ∧ (x1 = x2 →
    (kd S a0 = 7) ∧
    wp_X6_isAllHad a0 x2 x4 S (fun z3 S2 =>
      ((z3 = 0 →
        Q S2)
      ∧ (¬ (z3 = 0) →
        (kd S2 a0 = 7) ∧
        ((¬ (gI S2 84 a0) = 0 →
          (kd S2 a0 = 7) ∧
          (kd S2 a0 = 7) ∧
          ∀ S4, S4 = sI S2 84 a0 ((gI S2 84 a0) + (1 : Int32)) →
          Q S4)
        ∧ ((gI S2 84 a0) = 0 →
          (kd S2 a0 = 7) ∧
          ∀ S5, S5 = sI S2 85 a0 (0 : Int32) →
          ∃ n, it (L_X6_choose_2_30  Q) n (a0, x2, (0 : Int32), S5))))))))
def L_X6_choose_3_30  (Q : Hp → Prop) (C30 : Nat × Int32 × Int32 × Hp → Prop) : Nat × Int32 × Int32 × Hp → Prop := fun (v0, v2, v5, S) =>
    ((v2 ≤ v5 →
      (kd S v0 = 7) ∧
      (kd S v0 = 7) ∧
      ∀ S1, S1 = sI S 84 v0 ((gI S 84 v0) + (1 : Int32)) →
      Q S1)
    ∧ (¬ (v2 ≤ v5) →
      (kd S v0 = 7) ∧
      (kd S v0 = 7) ∧
      ∃ r2, gR S 86 v0 = some r2 ∧
      (kd S r2 = 8) ∧
      (vp_in v5 (ln S r2)) ∧
      (kd S v0 = 7) ∧
      ∀ S3, S3 = sI S 85 v0 (((100 : Int32) * (gI S 85 v0)) + (gA S r2 (v5).toNatClampNeg)) →
      ∀ y4, y4 = v5 + (1 : Int32) →
      C30 (v0, v2, y4, S3)))
def L_X6_choose_3_92  (Q : Hp → Prop) (C92 : Nat × Int32 × Int32 × Int32 × Int32 × Int32 × Hp → Prop) : Nat × Int32 × Int32 × Int32 × Int32 × Int32 × Hp → Prop := fun (v0, v1, v2, v3, v4, v5, S) =>
    ((v3 < v5 →
      Q S)
    ∧ (¬ (v3 < v5) →
      (kd S v0 = 7) ∧
      ∃ r1, gR S 86 v0 = some r1 ∧
      (kd S r1 = 8) ∧
      (vp_in v1 (ln S r1)) ∧
      ∀ S2, S2 = sA S r1 (v1).toNatClampNeg v5 →
      (kd S2 v0 = 7) ∧
      wp_X6_choose_2 v0 (v1 + (1 : Int32)) v2 v3 v4 S2 (fun S3 =>
        ∀ y4, y4 = v5 + (1 : Int32) →
        C92 (v0, v1, v2, v3, v4, y4, S3))))
def J_X6_choose_3_90  (Q : Hp → Prop) (v0 : Nat) (v1 : Int32) (v2 : Int32) (v3 : Int32) (v4 : Int32) (w0 : Int32) (S : Hp) : Prop :=
    ∃ n, it (L_X6_choose_3_92  Q) n (v0, v1, v2, v3, v4, w0, S)
def wp_X6_choose_3 (a0 : Nat) (x1 : Int32) (x2 : Int32) (x3 : Int32) (x4 : Int32) (S : Hp) (Q : Hp → Prop) : Prop :=
  ((¬ x1 = x2 →
    ((¬ x1 = 0 →
      (kd S a0 = 7) ∧
      ∃ r1, gR S 86 a0 = some r1 ∧
      (kd S r1 = 8) ∧
      (vp_in (x1 - (1 : Int32)) (ln S r1)) ∧
      J_X6_choose_3_90  Q a0 x1 x2 x3 x4 ((gA S r1 ((x1 - (1 : Int32))).toNatClampNeg) + (1 : Int32)) S)
    ∧ (x1 = 0 →
      J_X6_choose_3_90  Q a0 x1 x2 x3 x4 (1 : Int32) S)))
  ∧ (x1 = x2 →
    (kd S a0 = 7) ∧
    wp_X6_isAllHad a0 x2 x4 S (fun z3 S2 =>
      ((z3 = 0 →
        Q S2)
      ∧ (¬ (z3 = 0) →
        (kd S2 a0 = 7) ∧
        ((¬ (gI S2 84 a0) = 0 →
          (kd S2 a0 = 7) ∧
          (kd S2 a0 = 7) ∧
          ∀ S4, S4 = sI S2 84 a0 ((gI S2 84 a0) + (1 : Int32)) →
          Q S4)
        ∧ ((gI S2 84 a0) = 0 →
          (kd S2 a0 = 7) ∧
          ∀ S5, S5 = sI S2 85 a0 (0 : Int32) →
          ∃ n, it (L_X6_choose_3_30  Q) n (a0, x2, (0 : Int32), S5))))))))
def wp_X6_sets (a0 : Nat) (x1 : Int32) (x2 : Int32) (x3 : Int32) (x4 : Int32) (S : Hp) (Q : Int32 → Hp → Prop) : Prop :=
  wp_X6_isIn x1 (1 : Int32) (3 : Int32) S (fun z2 S1 =>
    ((z2 = 0 →
      Q (-1 : Int32) S1)
    ∧ (¬ (z2 = 0) →
      wp_X6_isIn x2 (1 : Int32) (30 : Int32) S1 (fun z4 S3 =>
        ((z4 = 0 →
          Q (-1 : Int32) S3)
        ∧ (¬ (z4 = 0) →
          wp_X6_isIn x3 (1 : Int32) (13 : Int32) S3 (fun z6 S5 =>
            ((z6 = 0 →
              Q (-1 : Int32) S5)
            ∧ (¬ (z6 = 0) →
              wp_X6_isIn x4 (0 : Int32) (1 : Int32) S5 (fun z8 S7 =>
                ((¬ z8 = 0 →
                  (kd S7 a0 = 7) ∧
                  ∀ S9, S9 = sI S7 84 a0 (0 : Int32) →
                  (kd S9 a0 = 7) ∧
                  ∀ S10, S10 = sI S9 85 a0 (-4 : Int32) →
                  (kd S10 a0 = 7) ∧
                  wp_X6_choose_3 a0 (0 : Int32) x1 x2 x3 S10 (fun S11 =>
                    ((¬ x4 = 0 →
                      (kd S11 a0 = 7) ∧
                      Q (gI S11 85 a0) S11)
                    ∧ (x4 = 0 →
                      (kd S11 a0 = 7) ∧
                      Q (gI S11 84 a0) S11))))
                ∧ (z8 = 0 →
                  Q (-1 : Int32) S7))))))))))))
def J_X6_lostBy_54 (C31 : Nat × Int32 × Int32 × Int32 × Hp → Prop) (Q : Int32 → Hp → Prop) (v0 : Nat) (v3 : Int32) (v5 : Int32) (w0 : Int32) (w1 : Int32) (S : Hp) : Prop :=
    ∀ y1, y1 = (w0 + w1) →
    ∀ y2, y2 = v5 + (1 : Int32) →
    C31 (v0, v3, y1, y2, S)
def L_X6_lostBy_31  (Q : Int32 → Hp → Prop) (C31 : Nat × Int32 × Int32 × Int32 × Hp → Prop) : Nat × Int32 × Int32 × Int32 × Hp → Prop := fun (v0, v3, v4, v5, S) =>
    ((v3 < v5 →
      Q v4 S)
    ∧ (¬ (v3 < v5) →
      (kd S v0 = 7) ∧
      ∃ r1, gR S 83 v0 = some r1 ∧
      (kd S r1 = 9) ∧
      (vp_in v5 (ln S r1)) ∧
      (((gA S r1 (v5).toNatClampNeg) = 0 →
        J_X6_lostBy_54 C31 Q v0 v3 v5 v4 (1 : Int32) S)
      ∧ (¬ ((gA S r1 (v5).toNatClampNeg) = 0) →
        J_X6_lostBy_54 C31 Q v0 v3 v5 v4 (0 : Int32) S))))
def wp_X6_lostBy (a0 : Nat) (x1 : Int32) (x2 : Int32) (S : Hp) (Q : Int32 → Hp → Prop) : Prop :=
  (kd S a0 = 7) ∧
  wp_X6_have a0 x1 (63 : Int32) S (fun S2 =>
    (kd S2 a0 = 7) ∧
    wp_X6_reached a0 S2 (fun z4 S3 =>
      (kd S3 a0 = 7) ∧
      wp_X6_have a0 x1 ((63 : Int32) &&& (((1 : Int32) <<< (x2 &&& 31)) ^^^ (-1 : Int32))) S3 (fun S5 =>
        ∃ n, it (L_X6_lostBy_31  Q) n (a0, z4, (0 : Int32), (1 : Int32), S5))))
def wp_X6_lost (a0 : Nat) (x1 : Int32) (x2 : Int32) (S : Hp) (Q : Int32 → Hp → Prop) : Prop :=
  wp_X6_isShelf x1 S (fun z2 S1 =>
    ((z2 = 0 →
      Q (-1 : Int32) S1)
    ∧ (¬ (z2 = 0) →
      (kd S1 a0 = 7) ∧
      wp_X6_isStone a0 x2 S1 (fun z4 S3 =>
        ((¬ z4 = 0 →
          (kd S3 a0 = 7) ∧
          wp_X6_noScale a0 x1 S3 (fun z6 S5 =>
            ((z6 = 0 →
              (kd S5 a0 = 7) ∧
              wp_X6_lostBy a0 x1 x2 S5 (fun z8 S7 =>
                Q z8 S7))
            ∧ (¬ (z6 = 0) →
              (kd S5 a0 = 7) ∧
              wp_X6_noScale a0 x1 S5 (fun z10 S9 =>
                Q z10 S9)))))
        ∧ (z4 = 0 →
          Q (-1 : Int32) S3))))))
def J_X6_harmsLeast_67 (C31 : Nat × Int32 × Int32 × Int32 × Int32 × Hp → Prop) (Q : Int32 → Hp → Prop) (v0 : Nat) (v1 : Int32) (v2 : Int32) (v3 : Int32) (v4 : Int32) (S : Hp) : Prop :=
    ∀ y1, y1 = v4 + (1 : Int32) →
    C31 (v0, v1, v2, v3, y1, S)
def J_X6_harmsLeast_61 (C31 : Nat × Int32 × Int32 × Int32 × Int32 × Hp → Prop) (Q : Int32 → Hp → Prop) (v0 : Nat) (v1 : Int32) (v4 : Int32) (v5 : Int32) (S : Hp) : Prop :=
    J_X6_harmsLeast_67 C31 Q v0 v1 v4 v5 v4 S
def L_X6_harmsLeast_31  (Q : Int32 → Hp → Prop) (C31 : Nat × Int32 × Int32 × Int32 × Int32 × Hp → Prop) : Nat × Int32 × Int32 × Int32 × Int32 × Hp → Prop := fun (v0, v1, v2, v3, v4, S) =>
    (kd S v0 = 7) ∧
    (((gI S 70 v0) ≤ v4 →
      Q v2 S)
    ∧ (¬ ((gI S 70 v0) ≤ v4) →
      (kd S v0 = 7) ∧
      wp_X6_lostBy v0 v1 v4 S (fun z2 S1 =>
        ((v2 = (-4 : Int32) →
          (J_X6_harmsLeast_61 C31 Q v0 v1 v4 z2 S1))
        ∧ (¬ (v2 = (-4 : Int32)) →
          ((v3 ≤ z2 →
            (J_X6_harmsLeast_67 C31 Q v0 v1 v2 v3 v4 S1))
          ∧ (¬ (v3 ≤ z2) →
            (J_X6_harmsLeast_61 C31 Q v0 v1 v4 z2 S1))))))))
def wp_X6_harmsLeast (a0 : Nat) (x1 : Int32) (S : Hp) (Q : Int32 → Hp → Prop) : Prop :=
  wp_X6_isShelf x1 S (fun z4 S3 =>
    ((¬ z4 = 0 →
      (kd S3 a0 = 7) ∧
      wp_X6_noScale a0 x1 S3 (fun z6 S5 =>
        ((z6 = 0 →
          ∃ n, it (L_X6_harmsLeast_31  Q) n (a0, x1, (-4 : Int32), (0 : Int32), (0 : Int32), S5))
        ∧ (¬ (z6 = 0) →
          (kd S5 a0 = 7) ∧
          wp_X6_noScale a0 x1 S5 (fun z8 S7 =>
            Q z8 S7)))))
    ∧ (z4 = 0 →
      Q (-1 : Int32) S3)))
def L_X6_trials_26  (Q : Int32 → Hp → Prop) (C26 : Int32 × Int32 × Hp → Prop) : Int32 × Int32 × Hp → Prop := fun (v1, v2, S) =>
    wp_X6_power v2 S (fun z2 S1 =>
      wp_X6_bits v1 S1 (fun z4 S3 =>
        ((z4 ≤ z2 →
          Q v2 S3)
        ∧ (¬ (z4 ≤ z2) →
          ∀ y5, y5 = v2 + (1 : Int32) →
          C26 (v1, y5, S3)))))
def wp_X6_trials (a0 : Nat) (x1 : Int32) (S : Hp) (Q : Int32 → Hp → Prop) : Prop :=
  ((x1 < 0 →
    Q (-1 : Int32) S)
  ∧ (¬ (x1 < 0) →
    (kd S a0 = 7) ∧
    ((((1 : Int32) <<< ((gI S 70 a0) &&& 31)) ≤ x1 →
      Q (-1 : Int32) S)
    ∧ (¬ (((1 : Int32) <<< ((gI S 70 a0) &&& 31)) ≤ x1) →
      wp_X6_bits x1 S (fun z7 S6 =>
        (((2 : Int32) ≤ z7 →
          ∃ n, it (L_X6_trials_26  Q) n (x1, (1 : Int32), S6))
        ∧ (¬ ((2 : Int32) ≤ z7) →
          Q (-1 : Int32) S6)))))))
def J_X6_found_124 (C62 : Nat × Int32 × Int32 × Int32 × Hp → Prop) (Q : Int32 → Hp → Prop) (v0 : Nat) (v1 : Int32) (v3 : Int32) (w0 : Int32) (S : Hp) : Prop :=
    ∀ y1, y1 = v3 + (2 : Int32) →
    C62 (v0, v1, w0, y1, S)
def J_X6_found_123 (C62 : Nat × Int32 × Int32 × Int32 × Hp → Prop) (Q : Int32 → Hp → Prop) (v0 : Nat) (v1 : Int32) (v3 : Int32) (S : Hp) : Prop :=
    J_X6_found_124 C62 Q v0 v1 v3 (0 : Int32) S
def J_X6_found_213 (C143 : Nat × Int32 × Int32 × Int32 × Hp → Prop) (C155 : Nat × Int32 × Int32 × Int32 × Int32 × Int32 × Hp → Prop) (Q : Int32 → Hp → Prop) (v0 : Nat) (v1 : Int32) (v3 : Int32) (v4 : Int32) (v6 : Int32) (w0 : Int32) (S : Hp) : Prop :=
    ∀ y1, y1 = v6 + (2 : Int32) →
    C155 (v0, v1, v3, v4, w0, y1, S)
def J_X6_found_212 (C143 : Nat × Int32 × Int32 × Int32 × Hp → Prop) (C155 : Nat × Int32 × Int32 × Int32 × Int32 × Int32 × Hp → Prop) (Q : Int32 → Hp → Prop) (v0 : Nat) (v1 : Int32) (v3 : Int32) (v4 : Int32) (v6 : Int32) (S : Hp) : Prop :=
    J_X6_found_213 C143 C155 Q v0 v1 v3 v4 v6 (0 : Int32) S
def J_X6_found_235 (C143 : Nat × Int32 × Int32 × Int32 × Hp → Prop) (Q : Int32 → Hp → Prop) (v0 : Nat) (v1 : Int32) (v4 : Int32) (w0 : Int32) (w1 : Int32) (S : Hp) : Prop :=
    ∀ y1, y1 = (w0 ||| w1) →
    ∀ y2, y2 = v4 + (1 : Int32) →
    C143 (v0, v1, y1, y2, S)
def L_X6_found_155 (C143 : Nat × Int32 × Int32 × Int32 × Hp → Prop) (Q : Int32 → Hp → Prop) (C155 : Nat × Int32 × Int32 × Int32 × Int32 × Int32 × Hp → Prop) : Nat × Int32 × Int32 × Int32 × Int32 × Int32 × Hp → Prop := fun (v0, v1, v3, v4, v5, v6, S) =>
    (kd S v0 = 7) ∧
    ∃ r1, gR S 98 v0 = some r1 ∧
    (kd S r1 = 8) ∧
    (vp_in v1 (ln S r1)) ∧
    (((gA S r1 (v1).toNatClampNeg) ≤ v6 →
      ((v5 = 0 →
        J_X6_found_235 C143 Q v0 v1 v4 v3 (0 : Int32) S)
      ∧ (¬ (v5 = 0) →
        J_X6_found_235 C143 Q v0 v1 v4 v3 ((1 : Int32) <<< (v4 &&& 31)) S)))
    ∧ (¬ ((gA S r1 (v1).toNatClampNeg) ≤ v6) →
      ((v5 = 0 →
        (J_X6_found_212 C143 C155 Q v0 v1 v3 v4 v6 S))
      ∧ (¬ (v5 = 0) →
        (kd S v0 = 7) ∧
        ∃ r2, gR S 99 v0 = some r2 ∧
        (kd S r2 = 8) ∧
        (vp_in (((100 : Int32) * v1) + v6) (ln S r2)) ∧
        wp_X6_power v4 S (fun z4 S3 =>
          (¬ z4 = 0) ∧
          (kd S3 v0 = 7) ∧
          ∃ r5, gR S3 99 v0 = some r5 ∧
          (kd S3 r5 = 8) ∧
          (vp_in ((((100 : Int32) * v1) + v6) + (1 : Int32)) (ln S3 r5)) ∧
          ((¬ (((gA S r2 ((((100 : Int32) * v1) + v6)).toNatClampNeg) / z4) - ((gA S r2 ((((100 : Int32) * v1) + v6)).toNatClampNeg) / z4) / (3 : Int32) * (3 : Int32)) = (gA S3 r5 (((((100 : Int32) * v1) + v6) + (1 : Int32))).toNatClampNeg) →
            (J_X6_found_212 C143 C155 Q v0 v1 v3 v4 v6 S3))
          ∧ ((((gA S r2 ((((100 : Int32) * v1) + v6)).toNatClampNeg) / z4) - ((gA S r2 ((((100 : Int32) * v1) + v6)).toNatClampNeg) / z4) / (3 : Int32) * (3 : Int32)) = (gA S3 r5 (((((100 : Int32) * v1) + v6) + (1 : Int32))).toNatClampNeg) →
            J_X6_found_213 C143 C155 Q v0 v1 v3 v4 v6 (1 : Int32) S3)))))))
def L_X6_found_143  (Q : Int32 → Hp → Prop) (C143 : Nat × Int32 × Int32 × Int32 × Hp → Prop) : Nat × Int32 × Int32 × Int32 × Hp → Prop := fun (v0, v1, v3, v4, S) =>
    (((4 : Int32) ≤ v4 →
      Q v3 S)
    ∧ (¬ ((4 : Int32) ≤ v4) →
      ∃ n, it (L_X6_found_155 C143 Q) n (v0, v1, v3, v4, (1 : Int32), (0 : Int32), S)))
def J_X6_found_131  (Q : Int32 → Hp → Prop) (v0 : Nat) (v1 : Int32) (v2 : Int32) (S : Hp) : Prop :=
    ((¬ v2 = 0 →
      ∃ n, it (L_X6_found_143  Q) n (v0, v1, (0 : Int32), (0 : Int32), S))
    ∧ (v2 = 0 →
      Q (-13 : Int32) S))
def L_X6_found_62  (Q : Int32 → Hp → Prop) (C62 : Nat × Int32 × Int32 × Int32 × Hp → Prop) : Nat × Int32 × Int32 × Int32 × Hp → Prop := fun (v0, v1, v2, v3, S) =>
    (kd S v0 = 7) ∧
    ∃ r1, gR S 98 v0 = some r1 ∧
    (kd S r1 = 8) ∧
    (vp_in v1 (ln S r1)) ∧
    (((gA S r1 (v1).toNatClampNeg) ≤ (v3 + (1 : Int32)) →
      (J_X6_found_131  Q v0 v1 v2 S))
    ∧ (¬ ((gA S r1 (v1).toNatClampNeg) ≤ (v3 + (1 : Int32))) →
      ((v2 = 0 →
        (J_X6_found_131  Q v0 v1 v2 S))
      ∧ (¬ (v2 = 0) →
        (kd S v0 = 7) ∧
        ∃ r2, gR S 99 v0 = some r2 ∧
        (kd S r2 = 8) ∧
        (vp_in (((100 : Int32) * v1) + v3) (ln S r2)) ∧
        wp_X6_isIn (gA S r2 ((((100 : Int32) * v1) + v3)).toNatClampNeg) (0 : Int32) (80 : Int32) S (fun z4 S3 =>
          ((z4 = 0 →
            (J_X6_found_123 C62 Q v0 v1 v3 S3))
          ∧ (¬ (z4 = 0) →
            (kd S3 v0 = 7) ∧
            ∃ r5, gR S3 99 v0 = some r5 ∧
            (kd S3 r5 = 8) ∧
            (vp_in ((((100 : Int32) * v1) + v3) + (1 : Int32)) (ln S3 r5)) ∧
            wp_X6_isIn (gA S3 r5 (((((100 : Int32) * v1) + v3) + (1 : Int32))).toNatClampNeg) (0 : Int32) (2 : Int32) S3 (fun z7 S6 =>
              ((z7 = 0 →
                (J_X6_found_123 C62 Q v0 v1 v3 S6))
              ∧ (¬ (z7 = 0) →
                J_X6_found_124 C62 Q v0 v1 v3 (1 : Int32) S6))))))))))
def J_X6_found_59  (Q : Int32 → Hp → Prop) (v0 : Nat) (v1 : Int32) (w0 : Int32) (S : Hp) : Prop :=
    ∃ n, it (L_X6_found_62  Q) n (v0, v1, w0, (0 : Int32), S)
def wp_X6_found (a0 : Nat) (x1 : Int32) (S : Hp) (Q : Int32 → Hp → Prop) : Prop :=
  wp_X6_isShelf x1 S (fun z2 S1 =>
    ((¬ z2 = 0 →
      (kd S1 a0 = 7) ∧
      ∃ r3, gR S1 94 a0 = some r3 ∧
      (kd S1 r3 = 8) ∧
      (vp_in x1 (ln S1 r3)) ∧
      ((¬ (gA S1 r3 (x1).toNatClampNeg) = 0 →
        (kd S1 a0 = 7) ∧
        ∃ r4, gR S1 94 a0 = some r4 ∧
        (kd S1 r4 = 8) ∧
        (vp_in x1 (ln S1 r4)) ∧
        (((gA S1 r4 (x1).toNatClampNeg) = (1 : Int32) →
          Q (-12 : Int32) S1)
        ∧ (¬ ((gA S1 r4 (x1).toNatClampNeg) = (1 : Int32)) →
          (kd S1 a0 = 7) ∧
          ∃ r5, gR S1 97 a0 = some r5 ∧
          (kd S1 r5 = 8) ∧
          (vp_in x1 (ln S1 r5)) ∧
          (((gA S1 r5 (x1).toNatClampNeg) = 0 →
            (kd S1 a0 = 7) ∧
            ∃ r6, gR S1 98 a0 = some r6 ∧
            (kd S1 r6 = 8) ∧
            (vp_in x1 (ln S1 r6)) ∧
            ((¬ ((gA S1 r6 (x1).toNatClampNeg) - (gA S1 r6 (x1).toNatClampNeg) / (2 : Int32) * (2 : Int32)) = 0 →
              J_X6_found_59  Q a0 x1 (0 : Int32) S1)
            ∧ (((gA S1 r6 (x1).toNatClampNeg) - (gA S1 r6 (x1).toNatClampNeg) / (2 : Int32) * (2 : Int32)) = 0 →
              J_X6_found_59  Q a0 x1 (1 : Int32) S1)))
          ∧ (¬ ((gA S1 r5 (x1).toNatClampNeg) = 0) →
            Q (-12 : Int32) S1)))))
      ∧ ((gA S1 r3 (x1).toNatClampNeg) = 0 →
        Q (-11 : Int32) S1)))
    ∧ (z2 = 0 →
      Q (-1 : Int32) S1)))
def J_X6_twice_11  (Q : Int32 → Hp → Prop) (v1 : Int32) (v2 : Int32) (v3 : Int32) (w0 : Int32) (S : Hp) : Prop :=
    wp_X6_isIn v1 (0 : Int32) (999 : Int32) S (fun z2 S1 =>
      ((z2 = 0 →
        Q ((-1 : Int32) - w0) S1)
      ∧ (¬ (z2 = 0) →
        wp_X6_isIn v2 (0 : Int32) (999 : Int32) S1 (fun z4 S3 =>
          ((z4 = 0 →
            Q ((-1 : Int32) - w0) S3)
          ∧ (¬ (z4 = 0) →
            wp_X6_isIn v3 (0 : Int32) (1 : Int32) S3 (fun z6 S5 =>
              ((¬ z6 = 0 →
                ((¬ ((v1 + v2) - (v1 + v2) / (2 : Int32) * (2 : Int32)) = (1 : Int32) →
                  ((¬ v3 = 0 →
                    Q (v1 - ((v1 + v2) / (2 : Int32))) S5)
                  ∧ (v3 = 0 →
                    Q ((v1 + v2) / (2 : Int32)) S5)))
                ∧ (((v1 + v2) - (v1 + v2) / (2 : Int32) * (2 : Int32)) = (1 : Int32) →
                  Q ((-4 : Int32) - w0) S5)))
              ∧ (z6 = 0 →
                Q ((-1 : Int32) - w0) S5)))))))))
def wp_X6_twice (a0 : Nat) (x1 : Int32) (x2 : Int32) (x3 : Int32) (S : Hp) (Q : Int32 → Hp → Prop) : Prop :=
  ((¬ x3 = (1 : Int32) →
    J_X6_twice_11  Q x1 x2 x3 (0 : Int32) S)
  ∧ (x3 = (1 : Int32) →
    J_X6_twice_11  Q x1 x2 x3 (1000000000 : Int32) S))
def J_X6_customers_159 (C47 : Nat × Int32 × Int32 × Int32 × Int32 × Int32 × Int32 × Int32 × Hp → Prop) (C87 : Nat × Int32 × Int32 × Int32 × Int32 × Int32 × Int32 × Int32 × Int32 × Int32 × Hp → Prop) (Q : Int32 → Hp → Prop) (v0 : Nat) (v1 : Int32) (v2 : Int32) (v3 : Int32) (v4 : Int32) (v5 : Int32) (v6 : Int32) (v7 : Int32) (v8 : Int32) (v9 : Int32) (S : Hp) : Prop :=
    ∀ y1, y1 = v9 + (1 : Int32) →
    C87 (v0, v1, v2, v3, v4, v5, v6, v7, v8, y1, S)
def J_X6_customers_154 (C47 : Nat × Int32 × Int32 × Int32 × Int32 × Int32 × Int32 × Int32 × Hp → Prop) (C87 : Nat × Int32 × Int32 × Int32 × Int32 × Int32 × Int32 × Int32 × Int32 × Int32 × Hp → Prop) (Q : Int32 → Hp → Prop) (v0 : Nat) (v1 : Int32) (v2 : Int32) (v3 : Int32) (v4 : Int32) (v5 : Int32) (v7 : Int32) (v8 : Int32) (v9 : Int32) (w0 : Int32) (S : Hp) : Prop :=
    ∀ y1, y1 = v4 + (1 : Int32) →
    J_X6_customers_159 C47 C87 Q v0 v1 v2 v3 y1 v5 w0 v7 v8 v9 S
def J_X6_customers_140 (C47 : Nat × Int32 × Int32 × Int32 × Int32 × Int32 × Int32 × Int32 × Hp → Prop) (C87 : Nat × Int32 × Int32 × Int32 × Int32 × Int32 × Int32 × Int32 × Int32 × Int32 × Hp → Prop) (Q : Int32 → Hp → Prop) (v0 : Nat) (v1 : Int32) (v2 : Int32) (v3 : Int32) (v4 : Int32) (v6 : Int32) (v7 : Int32) (v8 : Int32) (v9 : Int32) (w0 : Int32) (S : Hp) : Prop :=
    ((¬ v4 = 0 →
      J_X6_customers_154 C47 C87 Q v0 v1 v2 v3 v4 w0 v7 v8 v9 v6 S)
    ∧ (v4 = 0 →
      J_X6_customers_154 C47 C87 Q v0 v1 v2 v3 v4 w0 v7 v8 v9 v9 S))
def J_X6_customers_165 (C47 : Nat × Int32 × Int32 × Int32 × Int32 × Int32 × Int32 × Int32 × Hp → Prop) (Q : Int32 → Hp → Prop) (v0 : Nat) (v1 : Int32) (v2 : Int32) (v3 : Int32) (v4 : Int32) (v5 : Int32) (v6 : Int32) (v7 : Int32) (S : Hp) : Prop :=
    ∀ y1, y1 = v7 + (1 : Int32) →
    C47 (v0, v1, v2, v3, v4, v5, v6, y1, S)
def L_X6_customers_87 (C47 : Nat × Int32 × Int32 × Int32 × Int32 × Int32 × Int32 × Int32 × Hp → Prop) (Q : Int32 → Hp → Prop) (C87 : Nat × Int32 × Int32 × Int32 × Int32 × Int32 × Int32 × Int32 × Int32 × Int32 × Hp → Prop) : Nat × Int32 × Int32 × Int32 × Int32 × Int32 × Int32 × Int32 × Int32 × Int32 × Hp → Prop := fun (v0, v1, v2, v3, v4, v5, v6, v7, v8, v9, S) =>
    (kd S v0 = 7) ∧
    wp_X6_power (gI S 70 v0) S (fun z2 S1 =>
      ((z2 ≤ v9 →
        (J_X6_customers_165 C47 Q v0 v1 v2 v3 v4 v5 v6 v7 S1))
      ∧ (¬ (z2 ≤ v9) →
        (kd S1 v0 = 7) ∧
        wp_X6_look v0 v9 S1 (fun S3 =>
          (kd S3 v0 = 7) ∧
          (kd S3 v0 = 7) ∧
          ((¬ ((gI S3 77 v0) - (gI S3 78 v0)) = v2 →
            (J_X6_customers_159 C47 C87 Q v0 v1 v2 v3 v4 v5 v6 v7 v8 v9 S3))
          ∧ (((gI S3 77 v0) - (gI S3 78 v0)) = v2 →
            (kd S3 v0 = 7) ∧
            ((¬ ((gI S3 82 v0) &&& v8) = 0 →
              (J_X6_customers_159 C47 C87 Q v0 v1 v2 v3 v4 v5 v6 v7 v8 v9 S3))
            ∧ (((gI S3 82 v0) &&& v8) = 0 →
              ((¬ v4 = 0 →
                J_X6_customers_140 C47 C87 Q v0 v1 v2 v3 v4 v6 v7 v8 v9 v5 S3)
              ∧ (v4 = 0 →
                J_X6_customers_140 C47 C87 Q v0 v1 v2 v3 v4 v6 v7 v8 v9 v7 S3))))))))))
def L_X6_customers_47  (Q : Int32 → Hp → Prop) (C47 : Nat × Int32 × Int32 × Int32 × Int32 × Int32 × Int32 × Int32 × Hp → Prop) : Nat × Int32 × Int32 × Int32 × Int32 × Int32 × Int32 × Int32 × Hp → Prop := fun (v0, v1, v2, v3, v4, v5, v6, v7, S) =>
    (kd S v0 = 7) ∧
    wp_X6_power (gI S 70 v0) S (fun z2 S1 =>
      ((z2 ≤ v7 →
        ((¬ v3 = 0 →
          ((¬ v3 = (1 : Int32) →
            Q v6 S1)
          ∧ (v3 = (1 : Int32) →
            Q v5 S1)))
        ∧ (v3 = 0 →
          Q v4 S1)))
      ∧ (¬ (z2 ≤ v7) →
        (kd S1 v0 = 7) ∧
        wp_X6_look v0 v7 S1 (fun S3 =>
          (kd S3 v0 = 7) ∧
          (kd S3 v0 = 7) ∧
          ((¬ ((gI S3 77 v0) - (gI S3 78 v0)) = v1 →
            (J_X6_customers_165 C47 Q v0 v1 v2 v3 v4 v5 v6 v7 S3))
          ∧ (((gI S3 77 v0) - (gI S3 78 v0)) = v1 →
            (kd S3 v0 = 7) ∧
            ∀ y4, y4 = (gI S3 82 v0) →
            ∃ n, it (L_X6_customers_87 C47 Q) n (v0, v1, v2, v3, v4, v5, v6, v7, y4, (0 : Int32), S3)))))))
def wp_X6_customers (a0 : Nat) (x1 : Int32) (x2 : Int32) (x3 : Int32) (S : Hp) (Q : Int32 → Hp → Prop) : Prop :=
  wp_X6_isIn x1 (1 : Int32) (999 : Int32) S (fun z6 S5 =>
    ((z6 = 0 →
      Q (-1 : Int32) S5)
    ∧ (¬ (z6 = 0) →
      wp_X6_isIn x2 (1 : Int32) (999 : Int32) S5 (fun z8 S7 =>
        ((z8 = 0 →
          Q (-1 : Int32) S7)
        ∧ (¬ (z8 = 0) →
          wp_X6_isIn x3 (0 : Int32) (2 : Int32) S7 (fun z10 S9 =>
            ((¬ z10 = 0 →
              ∃ n, it (L_X6_customers_47  Q) n (a0, x1, x2, x3, (0 : Int32), (-4 : Int32), (-4 : Int32), (0 : Int32), S9))
            ∧ (z10 = 0 →
              Q (-1 : Int32) S9)))))))))
def J_X6_unknown_232 (C148 : Nat × Int32 × Int32 × Int32 × Int32 × Int32 × Int32 × Int32 × Hp → Prop) (C169 : Nat × Int32 × Int32 × Int32 × Int32 × Int32 × Int32 × Int32 × Int32 × Int32 × Hp → Prop) (Q : Int32 → Hp → Prop) (v0 : Nat) (v1 : Int32) (v2 : Int32) (v3 : Int32) (v5 : Int32) (v6 : Int32) (v7 : Int32) (v8 : Int32) (v10 : Int32) (w0 : Int32) (S : Hp) : Prop :=
    ∀ y1, y1 = v10 + (2 : Int32) →
    C169 (v0, v1, v2, v3, v5, v6, v7, v8, w0, y1, S)
def J_X6_unknown_231 (C148 : Nat × Int32 × Int32 × Int32 × Int32 × Int32 × Int32 × Int32 × Hp → Prop) (C169 : Nat × Int32 × Int32 × Int32 × Int32 × Int32 × Int32 × Int32 × Int32 × Int32 × Hp → Prop) (Q : Int32 → Hp → Prop) (v0 : Nat) (v1 : Int32) (v2 : Int32) (v3 : Int32) (v5 : Int32) (v6 : Int32) (v7 : Int32) (v8 : Int32) (v10 : Int32) (S : Hp) : Prop :=
    J_X6_unknown_232 C148 C169 Q v0 v1 v2 v3 v5 v6 v7 v8 v10 (0 : Int32) S
def J_X6_unknown_262 (C148 : Nat × Int32 × Int32 × Int32 × Int32 × Int32 × Int32 × Int32 × Hp → Prop) (Q : Int32 → Hp → Prop) (v0 : Nat) (v1 : Int32) (v2 : Int32) (v3 : Int32) (v5 : Int32) (v6 : Int32) (v7 : Int32) (v8 : Int32) (S : Hp) : Prop :=
    ∀ y1, y1 = v8 + (1 : Int32) →
    C148 (v0, v1, v2, v3, v5, v6, v7, y1, S)
def J_X6_unknown_257 (C148 : Nat × Int32 × Int32 × Int32 × Int32 × Int32 × Int32 × Int32 × Hp → Prop) (Q : Int32 → Hp → Prop) (v0 : Nat) (v1 : Int32) (v2 : Int32) (v3 : Int32) (v5 : Int32) (v6 : Int32) (v8 : Int32) (w0 : Int32) (S : Hp) : Prop :=
    ∀ y1, y1 = v6 + (1 : Int32) →
    J_X6_unknown_262 C148 Q v0 v1 v2 v3 v5 y1 w0 v8 S
def L_X6_unknown_169 (C148 : Nat × Int32 × Int32 × Int32 × Int32 × Int32 × Int32 × Int32 × Hp → Prop) (Q : Int32 → Hp → Prop) (C169 : Nat × Int32 × Int32 × Int32 × Int32 × Int32 × Int32 × Int32 × Int32 × Int32 × Hp → Prop) : Nat × Int32 × Int32 × Int32 × Int32 × Int32 × Int32 × Int32 × Int32 × Int32 × Hp → Prop := fun (v0, v1, v2, v3, v5, v6, v7, v8, v9, v10, S) =>
    (kd S v0 = 7) ∧
    ∃ r1, gR S 98 v0 = some r1 ∧
    (kd S r1 = 8) ∧
    (vp_in v2 (ln S r1)) ∧
    (((gA S r1 (v2).toNatClampNeg) ≤ v10 →
      ((v9 = 0 →
        (J_X6_unknown_262 C148 Q v0 v1 v2 v3 v5 v6 v7 v8 S))
      ∧ (¬ (v9 = 0) →
        ((¬ v6 = 0 →
          J_X6_unknown_257 C148 Q v0 v1 v2 v3 v5 v6 v8 v7 S)
        ∧ (v6 = 0 →
          J_X6_unknown_257 C148 Q v0 v1 v2 v3 v5 v6 v8 v8 S)))))
    ∧ (¬ ((gA S r1 (v2).toNatClampNeg) ≤ v10) →
      (kd S v0 = 7) ∧
      ∃ r2, gR S 99 v0 = some r2 ∧
      (kd S r2 = 8) ∧
      (vp_in (((100 : Int32) * v2) + v10) (ln S r2)) ∧
      (kd S v0 = 7) ∧
      wp_X6_look v0 (gA S r2 ((((100 : Int32) * v2) + v10)).toNatClampNeg) S (fun S3 =>
        ((v9 = 0 →
          (J_X6_unknown_231 C148 C169 Q v0 v1 v2 v3 v5 v6 v7 v8 v10 S3))
        ∧ (¬ (v9 = 0) →
          (kd S3 v0 = 7) ∧
          (kd S3 v0 = 7) ∧
          (kd S3 v0 = 7) ∧
          ∃ r4, gR S3 99 v0 = some r4 ∧
          (kd S3 r4 = 8) ∧
          (vp_in ((((100 : Int32) * v2) + v10) + (1 : Int32)) (ln S3 r4)) ∧
          ((¬ ((gI S3 77 v0) - (gI S3 78 v0)) = (gA S3 r4 (((((100 : Int32) * v2) + v10) + (1 : Int32))).toNatClampNeg) →
            (J_X6_unknown_231 C148 C169 Q v0 v1 v2 v3 v5 v6 v7 v8 v10 S3))
          ∧ (((gI S3 77 v0) - (gI S3 78 v0)) = (gA S3 r4 (((((100 : Int32) * v2) + v10) + (1 : Int32))).toNatClampNeg) →
            J_X6_unknown_232 C148 C169 Q v0 v1 v2 v3 v5 v6 v7 v8 v10 (1 : Int32) S3)))))))
def L_X6_unknown_148  (Q : Int32 → Hp → Prop) (C148 : Nat × Int32 × Int32 × Int32 × Int32 × Int32 × Int32 × Int32 × Hp → Prop) : Nat × Int32 × Int32 × Int32 × Int32 × Int32 × Int32 × Int32 × Hp → Prop := fun (v0, v1, v2, v3, v5, v6, v7, v8, S) =>
    (((100 : Int32) ≤ v8 →
      (kd S v0 = 7) ∧
      ∃ r1, gR S 71 v0 = some r1 ∧
      (kd S r1 = 8) ∧
      (vp_in v1 (ln S r1)) ∧
      ∀ S2, S2 = sA S r1 (v1).toNatClampNeg v5 →
      ((¬ v3 = 0 →
        Q v7 S2)
      ∧ (v3 = 0 →
        Q v6 S2)))
    ∧ (¬ ((100 : Int32) ≤ v8) →
      (kd S v0 = 7) ∧
      ∃ r3, gR S 71 v0 = some r3 ∧
      (kd S r3 = 8) ∧
      (vp_in v1 (ln S r3)) ∧
      ∀ S4, S4 = sA S r3 (v1).toNatClampNeg v8 →
      ∃ n, it (L_X6_unknown_169 C148 Q) n (v0, v1, v2, v3, v5, v6, v7, v8, (1 : Int32), (0 : Int32), S4)))
def J_X6_unknown_122  (Q : Int32 → Hp → Prop) (v0 : Nat) (v1 : Int32) (v2 : Int32) (v3 : Int32) (v4 : Int32) (S : Hp) : Prop :=
    ((¬ v4 = 0 →
      (kd S v0 = 7) ∧
      ∃ r1, gR S 71 v0 = some r1 ∧
      (kd S r1 = 8) ∧
      (vp_in v1 (ln S r1)) ∧
      ∀ y2, y2 = (gA S r1 (v1).toNatClampNeg) →
      ∃ n, it (L_X6_unknown_148  Q) n (v0, v1, v2, v3, y2, (0 : Int32), (-4 : Int32), (1 : Int32), S))
    ∧ (v4 = 0 →
      Q (-13 : Int32) S))
def L_X6_unknown_82  (Q : Int32 → Hp → Prop) (C82 : Nat × Int32 × Int32 × Int32 × Int32 × Int32 × Hp → Prop) : Nat × Int32 × Int32 × Int32 × Int32 × Int32 × Hp → Prop := fun (v0, v1, v2, v3, v4, v5, S) =>
    (kd S v0 = 7) ∧
    ∃ r1, gR S 98 v0 = some r1 ∧
    (kd S r1 = 8) ∧
    (vp_in v2 (ln S r1)) ∧
    (((gA S r1 (v2).toNatClampNeg) ≤ v5 →
      (J_X6_unknown_122  Q v0 v1 v2 v3 v4 S))
    ∧ (¬ ((gA S r1 (v2).toNatClampNeg) ≤ v5) →
      ((v4 = 0 →
        (J_X6_unknown_122  Q v0 v1 v2 v3 v4 S))
      ∧ (¬ (v4 = 0) →
        (kd S v0 = 7) ∧
        ∃ r2, gR S 99 v0 = some r2 ∧
        (kd S r2 = 8) ∧
        (vp_in (((100 : Int32) * v2) + v5) (ln S r2)) ∧
        (kd S v0 = 7) ∧
        wp_X6_isLying v0 (gA S r2 ((((100 : Int32) * v2) + v5)).toNatClampNeg) S (fun z4 S3 =>
          ∀ y5, y5 = v5 + (2 : Int32) →
          C82 (v0, v1, v2, v3, z4, y5, S3))))))
def J_X6_unknown_77  (Q : Int32 → Hp → Prop) (v0 : Nat) (v1 : Int32) (v2 : Int32) (v3 : Int32) (w0 : Int32) (S : Hp) : Prop :=
    ∃ n, it (L_X6_unknown_82  Q) n (v0, v1, v2, v3, w0, (0 : Int32), S)
def wp_X6_unknown (a0 : Nat) (x1 : Int32) (x2 : Int32) (x3 : Int32) (S : Hp) (Q : Int32 → Hp → Prop) : Prop :=
  (kd S a0 = 7) ∧
  wp_X6_isStone a0 x1 S (fun z2 S1 =>
    ((z2 = 0 →
      Q (-1 : Int32) S1)
    ∧ (¬ (z2 = 0) →
      wp_X6_isShelf x2 S1 (fun z4 S3 =>
        ((z4 = 0 →
          Q (-1 : Int32) S3)
        ∧ (¬ (z4 = 0) →
          wp_X6_isIn x3 (0 : Int32) (1 : Int32) S3 (fun z6 S5 =>
            ((¬ z6 = 0 →
              (kd S5 a0 = 7) ∧
              ∃ r7, gR S5 94 a0 = some r7 ∧
              (kd S5 r7 = 8) ∧
              (vp_in x2 (ln S5 r7)) ∧
              ((¬ (gA S5 r7 (x2).toNatClampNeg) = 0 →
                (kd S5 a0 = 7) ∧
                ∃ r8, gR S5 94 a0 = some r8 ∧
                (kd S5 r8 = 8) ∧
                (vp_in x2 (ln S5 r8)) ∧
                (((gA S5 r8 (x2).toNatClampNeg) = (1 : Int32) →
                  Q (-12 : Int32) S5)
                ∧ (¬ ((gA S5 r8 (x2).toNatClampNeg) = (1 : Int32)) →
                  (kd S5 a0 = 7) ∧
                  ∃ r9, gR S5 97 a0 = some r9 ∧
                  (kd S5 r9 = 8) ∧
                  (vp_in x2 (ln S5 r9)) ∧
                  (((gA S5 r9 (x2).toNatClampNeg) = (2 : Int32) →
                    (kd S5 a0 = 7) ∧
                    ∃ r10, gR S5 98 a0 = some r10 ∧
                    (kd S5 r10 = 8) ∧
                    (vp_in x2 (ln S5 r10)) ∧
                    ((¬ ((gA S5 r10 (x2).toNatClampNeg) - (gA S5 r10 (x2).toNatClampNeg) / (2 : Int32) * (2 : Int32)) = 0 →
                      J_X6_unknown_77  Q a0 x1 x2 x3 (0 : Int32) S5)
                    ∧ (((gA S5 r10 (x2).toNatClampNeg) - (gA S5 r10 (x2).toNatClampNeg) / (2 : Int32) * (2 : Int32)) = 0 →
                      J_X6_unknown_77  Q a0 x1 x2 x3 (1 : Int32) S5)))
                  ∧ (¬ ((gA S5 r9 (x2).toNatClampNeg) = (2 : Int32)) →
                    Q (-12 : Int32) S5)))))
              ∧ ((gA S5 r7 (x2).toNatClampNeg) = 0 →
                Q (-11 : Int32) S5)))
            ∧ (z6 = 0 →
              Q (-1 : Int32) S5)))))))))
def L_X6_seeded_61  (Q : Int32 → Hp → Prop) (C61 : Nat × Int32 × Int32 × Int32 × Int32 × Int32 × Hp → Prop) : Nat × Int32 × Int32 × Int32 × Int32 × Int32 × Hp → Prop := fun (v0, v1, v2, v4, v5, v6, S) =>
    ((v2 ≤ v6 →
      (kd S v0 = 7) ∧
      wp_X6_have v0 v1 (63 : Int32) S (fun S1 =>
        (kd S1 v0 = 7) ∧
        ∀ S2, S2 = sI S1 70 v0 v4 →
        (kd S2 v0 = 7) ∧
        ∃ r3, gR S2 87 v0 = some r3 ∧
        (kd S2 v0 = 7) ∧
        ∃ r4, gR S2 71 v0 = some r4 ∧
        wp_X6_move r3 r4 S2 (fun S5 =>
          (kd S5 v0 = 7) ∧
          wp_X6_reached v0 S5 (fun z7 S6 =>
            Q z7 S6))))
    ∧ (¬ (v2 ≤ v6) →
      ∀ y8, y8 = ((v5 * (1103515245 : Int32)) + (12345 : Int32)) →
      (kd S v0 = 7) ∧
      ∃ r9, gR S 71 v0 = some r9 ∧
      (kd S r9 = 8) ∧
      (vp_in v6 (ln S r9)) ∧
      ∀ S10, S10 = sA S r9 (v6).toNatClampNeg ((1 : Int32) + (((y8 &&& (2147483647 : Int32)) / (65536 : Int32)) - ((y8 &&& (2147483647 : Int32)) / (65536 : Int32)) / (40 : Int32) * (40 : Int32))) →
      ∀ y11, y11 = v6 + (1 : Int32) →
      C61 (v0, v1, v2, v4, y8, y11, S10)))
def wp_X6_seeded (a0 : Nat) (x1 : Int32) (x2 : Int32) (x3 : Int32) (S : Hp) (Q : Int32 → Hp → Prop) : Prop :=
  wp_X6_isShelf x1 S (fun z13 S12 =>
    ((z13 = 0 →
      Q (-1 : Int32) S12)
    ∧ (¬ (z13 = 0) →
      wp_X6_isIn x2 (1 : Int32) (6 : Int32) S12 (fun z15 S14 =>
        ((¬ z15 = 0 →
          (kd S14 a0 = 7) ∧
          wp_X6_noScale a0 x1 S14 (fun z17 S16 =>
            ((z17 = 0 →
              (kd S16 a0 = 7) ∧
              ∀ y18, y18 = (gI S16 70 a0) →
              (kd S16 a0 = 7) ∧
              ∃ r19, gR S16 71 a0 = some r19 ∧
              (kd S16 a0 = 7) ∧
              ∃ r20, gR S16 87 a0 = some r20 ∧
              wp_X6_move r19 r20 S16 (fun S21 =>
                (kd S21 a0 = 7) ∧
                ∀ S22, S22 = sI S21 70 a0 x2 →
                ∃ n, it (L_X6_seeded_61  Q) n (a0, x1, x2, y18, x3, (0 : Int32), S22)))
            ∧ (¬ (z17 = 0) →
              (kd S16 a0 = 7) ∧
              wp_X6_noScale a0 x1 S16 (fun z24 S23 =>
                Q z24 S23)))))
        ∧ (z15 = 0 →
          Q (-1 : Int32) S14))))))
def L_X6_judge_59  (Q : Int32 → Hp → Prop) (C59 : Nat × Int32 × Int32 × Int32 × Hp → Prop) : Nat × Int32 × Int32 × Int32 × Hp → Prop := fun (v0, v1, v2, v3, S) =>
    (kd S v0 = 7) ∧
    ∃ r1, gR S 98 v0 = some r1 ∧
    (kd S r1 = 8) ∧
    (vp_in v2 (ln S r1)) ∧
    (((gA S r1 (v2).toNatClampNeg) ≤ (v3 + (1 : Int32)) →
      (kd S v0 = 7) ∧
      ∃ r2, gR S 98 v0 = some r2 ∧
      (kd S r2 = 8) ∧
      (vp_in v2 (ln S r2)) ∧
      ((¬ ((gA S r2 (v2).toNatClampNeg) - (gA S r2 (v2).toNatClampNeg) / (2 : Int32) * (2 : Int32)) = (1 : Int32) →
        Q (-4 : Int32) S)
      ∧ (((gA S r2 (v2).toNatClampNeg) - (gA S r2 (v2).toNatClampNeg) / (2 : Int32) * (2 : Int32)) = (1 : Int32) →
        (kd S v0 = 7) ∧
        ∃ r3, gR S 98 v0 = some r3 ∧
        (kd S r3 = 8) ∧
        (vp_in v2 (ln S r3)) ∧
        Q (gA S r3 (v2).toNatClampNeg) S)))
    ∧ (¬ ((gA S r1 (v2).toNatClampNeg) ≤ (v3 + (1 : Int32))) →
      (kd S v0 = 7) ∧
      ∃ r4, gR S 99 v0 = some r4 ∧
      (kd S r4 = 8) ∧
      (vp_in (((100 : Int32) * v2) + v3) (ln S r4)) ∧
      ∀ y5, y5 = (gA S r4 ((((100 : Int32) * v2) + v3)).toNatClampNeg) →
      (kd S v0 = 7) ∧
      wp_X6_isLying v0 y5 S (fun z7 S6 =>
        ((z7 = 0 →
          Q v3 S6)
        ∧ (¬ (z7 = 0) →
          (kd S6 v0 = 7) ∧
          ∃ r8, gR S6 99 v0 = some r8 ∧
          (kd S6 r8 = 8) ∧
          (vp_in ((((100 : Int32) * v2) + v3) + (1 : Int32)) (ln S6 r8)) ∧
          (kd S6 v0 = 7) ∧
          wp_X6_isWeight v0 v1 y5 (gA S6 r8 (((((100 : Int32) * v2) + v3) + (1 : Int32))).toNatClampNeg) S6 (fun z10 S9 =>
            ((¬ z10 = 0 →
              ∀ y11, y11 = v3 + (2 : Int32) →
              C59 (v0, v1, v2, y11, S9))
            ∧ (z10 = 0 →
              Q v3 S9))))))))
def wp_X6_judge (a0 : Nat) (x1 : Int32) (x2 : Int32) (S : Hp) (Q : Int32 → Hp → Prop) : Prop :=
  wp_X6_isShelf x1 S (fun z13 S12 =>
    ((z13 = 0 →
      Q (-1 : Int32) S12)
    ∧ (¬ (z13 = 0) →
      wp_X6_isShelf x2 S12 (fun z15 S14 =>
        ((¬ z15 = 0 →
          (kd S14 a0 = 7) ∧
          wp_X6_noScale a0 x1 S14 (fun z17 S16 =>
            ((z17 = 0 →
              (kd S16 a0 = 7) ∧
              ∃ r18, gR S16 94 a0 = some r18 ∧
              (kd S16 r18 = 8) ∧
              (vp_in x2 (ln S16 r18)) ∧
              (((gA S16 r18 (x2).toNatClampNeg) = (2 : Int32) →
                ∃ n, it (L_X6_judge_59  Q) n (a0, x1, x2, (0 : Int32), S16))
              ∧ (¬ ((gA S16 r18 (x2).toNatClampNeg) = (2 : Int32)) →
                (kd S16 a0 = 7) ∧
                ∃ r19, gR S16 94 a0 = some r19 ∧
                (kd S16 r19 = 8) ∧
                (vp_in x2 (ln S16 r19)) ∧
                ((¬ (gA S16 r19 (x2).toNatClampNeg) = 0 →
                  Q (-12 : Int32) S16)
                ∧ ((gA S16 r19 (x2).toNatClampNeg) = 0 →
                  Q (-11 : Int32) S16)))))
            ∧ (¬ (z17 = 0) →
              (kd S16 a0 = 7) ∧
              wp_X6_noScale a0 x1 S16 (fun z21 S20 =>
                Q z21 S20)))))
        ∧ (z15 = 0 →
          Q (-1 : Int32) S14))))))
def L_X6_count_39  (Q : Int32 → Hp → Prop) (C39 : Nat × Int32 × Int32 × Hp → Prop) : Nat × Int32 × Int32 × Hp → Prop := fun (v0, v2, v3, S) =>
    (kd S v0 = 7) ∧
    (((gI S 70 v0) ≤ v3 →
      Q v2 S)
    ∧ (¬ ((gI S 70 v0) ≤ v3) →
      (kd S v0 = 7) ∧
      ∃ r1, gR S 71 v0 = some r1 ∧
      (kd S r1 = 8) ∧
      (vp_in v3 (ln S r1)) ∧
      ∀ y2, y2 = (v2 + (gA S r1 (v3).toNatClampNeg)) →
      ∀ y3, y3 = v3 + (1 : Int32) →
      C39 (v0, y2, y3, S)))
def wp_X6_count (a0 : Nat) (x1 : Int32) (S : Hp) (Q : Int32 → Hp → Prop) : Prop :=
  (((x1).toInt = 0 →
    (kd S a0 = 7) ∧
    Q (gI S 70 a0) S)
  ∧ ((x1).toInt = 1 →
    ∃ n, it (L_X6_count_39  Q) n (a0, (0 : Int32), (0 : Int32), S))
  ∧ ((x1).toInt = 2 →
    (kd S a0 = 7) ∧
    wp_X6_priceOf a0 (63 : Int32) S (fun z5 S4 =>
      Q z5 S4))
  ∧ ((x1).toInt = 3 →
    (kd S a0 = 7) ∧
    wp_X6_power (gI S 70 a0) S (fun z7 S6 =>
      Q z7 S6))
  ∧ (((x1).toInt < 0 ∨ 3 < (x1).toInt) →
    Q (-1 : Int32) S))
def wp_X6_comes (a0 : Nat) (x1 : Int32) (S : Hp) (Q : Int32 → Hp → Prop) : Prop :=
  (kd S a0 = 7) ∧
  (kd S a0 = 7) ∧
  (((gI S 89 a0) ≤ (gI S 90 a0) →
    Q (0 : Int32) S)
  ∧ (¬ ((gI S 89 a0) ≤ (gI S 90 a0)) →
    (kd S a0 = 7) ∧
    ∃ r1, gR S 99 a0 = some r1 ∧
    (kd S a0 = 7) ∧
    (kd S a0 = 7) ∧
    (kd S r1 = 8) ∧
    (vp_in ((gI S 88 a0) + (gI S 90 a0)) (ln S r1)) ∧
    ((¬ (gA S r1 (((gI S 88 a0) + (gI S 90 a0))).toNatClampNeg) = x1 →
      Q (0 : Int32) S)
    ∧ ((gA S r1 (((gI S 88 a0) + (gI S 90 a0))).toNatClampNeg) = x1 →
      Q (1 : Int32) S))))
def wp_X6_expect (a0 : Nat) (x1 : Int32) (S : Hp) (Q : Hp → Prop) : Prop :=
  (kd S a0 = 7) ∧
  (((gI S 91 a0) = 0 →
    (kd S a0 = 7) ∧
    ∀ S1, S1 = sI S 91 a0 (0 : Int32) →
    Q S1)
  ∧ (¬ ((gI S 91 a0) = 0) →
    (kd S a0 = 7) ∧
    wp_X6_comes a0 x1 S (fun z3 S2 =>
      ((z3 = 0 →
        (kd S2 a0 = 7) ∧
        ∀ S4, S4 = sI S2 91 a0 (0 : Int32) →
        Q S4)
      ∧ (¬ (z3 = 0) →
        (kd S2 a0 = 7) ∧
        (kd S2 a0 = 7) ∧
        ∀ S5, S5 = sI S2 90 a0 ((gI S2 90 a0) + (1 : Int32)) →
        Q S5)))))
def wp_X6_isDigit (a0 : Nat) (S : Hp) (Q : Int32 → Hp → Prop) : Prop :=
  (kd S a0 = 7) ∧
  (kd S a0 = 7) ∧
  (((gI S 89 a0) ≤ (gI S 90 a0) →
    Q (0 : Int32) S)
  ∧ (¬ ((gI S 89 a0) ≤ (gI S 90 a0)) →
    (kd S a0 = 7) ∧
    ∃ r1, gR S 99 a0 = some r1 ∧
    (kd S a0 = 7) ∧
    (kd S a0 = 7) ∧
    (kd S r1 = 8) ∧
    (vp_in ((gI S 88 a0) + (gI S 90 a0)) (ln S r1)) ∧
    (((gA S r1 (((gI S 88 a0) + (gI S 90 a0))).toNatClampNeg) < (48 : Int32) →
      Q (0 : Int32) S)
    ∧ (¬ ((gA S r1 (((gI S 88 a0) + (gI S 90 a0))).toNatClampNeg) < (48 : Int32)) →
      (kd S a0 = 7) ∧
      ∃ r2, gR S 99 a0 = some r2 ∧
      (kd S a0 = 7) ∧
      (kd S a0 = 7) ∧
      (kd S r2 = 8) ∧
      (vp_in ((gI S 88 a0) + (gI S 90 a0)) (ln S r2)) ∧
      (((57 : Int32) < (gA S r2 (((gI S 88 a0) + (gI S 90 a0))).toNatClampNeg) →
        Q (0 : Int32) S)
      ∧ (¬ ((57 : Int32) < (gA S r2 (((gI S 88 a0) + (gI S 90 a0))).toNatClampNeg)) →
        Q (1 : Int32) S))))))
def L_X6_figures_51  (Q : Int32 → Hp → Prop) (C51 : Nat × Int32 × Int32 × Int32 × Hp → Prop) : Nat × Int32 × Int32 × Int32 × Hp → Prop := fun (v0, v1, v2, v3, S) =>
    ((v1 ≤ v3 →
      Q v2 S)
    ∧ (¬ (v1 ≤ v3) →
      ((v2 ≤ 0 →
        Q v2 S)
      ∧ (¬ (v2 ≤ 0) →
        (kd S v0 = 7) ∧
        wp_X6_isDigit v0 S (fun z2 S1 =>
          ((z2 = 0 →
            Q v2 S1)
          ∧ (¬ (z2 = 0) →
            (kd S1 v0 = 7) ∧
            ∃ r3, gR S1 99 v0 = some r3 ∧
            (kd S1 v0 = 7) ∧
            (kd S1 v0 = 7) ∧
            (kd S1 r3 = 8) ∧
            (vp_in ((gI S1 88 v0) + (gI S1 90 v0)) (ln S1 r3)) ∧
            ∀ y4, y4 = ((((10 : Int32) * v2) + (gA S1 r3 (((gI S1 88 v0) + (gI S1 90 v0))).toNatClampNeg)) - (48 : Int32)) →
            (kd S1 v0 = 7) ∧
            (kd S1 v0 = 7) ∧
            ∀ S5, S5 = sI S1 90 v0 ((gI S1 90 v0) + (1 : Int32)) →
            ∀ y6, y6 = v3 + (1 : Int32) →
            C51 (v0, v1, y4, y6, S5))))))))
def wp_X6_figures (a0 : Nat) (x1 : Int32) (S : Hp) (Q : Int32 → Hp → Prop) : Prop :=
  (kd S a0 = 7) ∧
  (((gI S 91 a0) = 0 →
    (kd S a0 = 7) ∧
    ∀ S7, S7 = sI S 91 a0 (0 : Int32) →
    Q (0 : Int32) S7)
  ∧ (¬ ((gI S 91 a0) = 0) →
    (kd S a0 = 7) ∧
    wp_X6_isDigit a0 S (fun z9 S8 =>
      ((¬ z9 = 0 →
        (kd S8 a0 = 7) ∧
        ∃ r10, gR S8 99 a0 = some r10 ∧
        (kd S8 a0 = 7) ∧
        (kd S8 a0 = 7) ∧
        (kd S8 r10 = 8) ∧
        (vp_in ((gI S8 88 a0) + (gI S8 90 a0)) (ln S8 r10)) ∧
        ∀ y11, y11 = ((gA S8 r10 (((gI S8 88 a0) + (gI S8 90 a0))).toNatClampNeg) - (48 : Int32)) →
        (kd S8 a0 = 7) ∧
        (kd S8 a0 = 7) ∧
        ∀ S12, S12 = sI S8 90 a0 ((gI S8 90 a0) + (1 : Int32)) →
        ∃ n, it (L_X6_figures_51  Q) n (a0, x1, y11, (1 : Int32), S12))
      ∧ (z9 = 0 →
        (kd S8 a0 = 7) ∧
        ∀ S13, S13 = sI S8 91 a0 (0 : Int32) →
        Q (0 : Int32) S13)))))
def J_X6_statement_116  (Q : Int32 → Hp → Prop) (v0 : Nat) (v1 : Int32) (S : Hp) : Prop :=
    (kd S v0 = 7) ∧
    wp_X6_expect v0 (59 : Int32) S (fun S1 =>
      Q v1 S1)
def J_X6_statement_71  (Q : Int32 → Hp → Prop) (v0 : Nat) (v1 : Int32) (w0 : Nat) (w1 : Nat) (w2 : Int32) (S : Hp) : Prop :=
    (kd S w1 = 7) ∧
    wp_X6_figures w1 w2 S (fun z2 S1 =>
      (kd S1 w0 = 7) ∧
      ∀ S3, S3 = sI S1 92 w0 z2 →
      (kd S3 v0 = 7) ∧
      wp_X6_expect v0 (32 : Int32) S3 (fun S4 =>
        (kd S4 v0 = 7) ∧
        wp_X6_figures v0 (2 : Int32) S4 (fun z6 S5 =>
          (kd S5 v0 = 7) ∧
          ∀ S7, S7 = sI S5 93 v0 z6 →
          J_X6_statement_116  Q v0 v1 S7)))
def J_X6_statement_58  (Q : Int32 → Hp → Prop) (v0 : Nat) (v1 : Int32) (S : Hp) : Prop :=
    ((¬ v1 = (115 : Int32) →
      J_X6_statement_71  Q v0 v1 v0 v0 (1 : Int32) S)
    ∧ (v1 = (115 : Int32) →
      J_X6_statement_71  Q v0 v1 v0 v0 (2 : Int32) S))
def J_X6_statement_29  (Q : Int32 → Hp → Prop) (v0 : Nat) (w0 : Int32) (S : Hp) : Prop :=
    (kd S v0 = 7) ∧
    (kd S v0 = 7) ∧
    ∀ S1, S1 = sI S 90 v0 ((gI S 90 v0) + (1 : Int32)) →
    ((w0 = (115 : Int32) →
      (J_X6_statement_58  Q v0 w0 S1))
    ∧ (¬ (w0 = (115 : Int32)) →
      ((w0 = (119 : Int32) →
        (J_X6_statement_58  Q v0 w0 S1))
      ∧ (¬ (w0 = (119 : Int32)) →
        ((¬ w0 = (112 : Int32) →
          ((w0 = (120 : Int32) →
            (J_X6_statement_116  Q v0 w0 S1))
          ∧ (¬ (w0 = (120 : Int32)) →
            (kd S1 v0 = 7) ∧
            (kd S1 v0 = 7) ∧
            ∀ S2, S2 = sI S1 90 v0 ((gI S1 90 v0) - (1 : Int32)) →
            (kd S2 v0 = 7) ∧
            ∀ S3, S3 = sI S2 91 v0 (0 : Int32) →
            J_X6_statement_116  Q v0 w0 S3)))
        ∧ (w0 = (112 : Int32) →
          (J_X6_statement_58  Q v0 w0 S1)))))))
def wp_X6_statement (a0 : Nat) (S : Hp) (Q : Int32 → Hp → Prop) : Prop :=
  (kd S a0 = 7) ∧
  (kd S a0 = 7) ∧
  (((gI S 89 a0) ≤ (gI S 90 a0) →
    J_X6_statement_29  Q a0 (0 : Int32) S)
  ∧ (¬ ((gI S 89 a0) ≤ (gI S 90 a0)) →
    (kd S a0 = 7) ∧
    ∃ r4, gR S 99 a0 = some r4 ∧
    (kd S a0 = 7) ∧
    (kd S a0 = 7) ∧
    (kd S r4 = 8) ∧
    (vp_in ((gI S 88 a0) + (gI S 90 a0)) (ln S r4)) ∧
    J_X6_statement_29  Q a0 (gA S r4 (((gI S 88 a0) + (gI S 90 a0))).toNatClampNeg) S))
def wp_X6_isAsTold (x0 : Int32) (x1 : Int32) (x2 : Int32) (x3 : Int32) (S : Hp) (Q : Int32 → Hp → Prop) : Prop :=
  (((x0).toInt = 112 →
    ((x3 ≤ x1 →
      Q (0 : Int32) S)
    ∧ (¬ (x3 ≤ x1) →
      Q (1 : Int32) S)))
  ∧ ((x0).toInt = 115 →
    ((x1 < (1 : Int32) →
      Q (0 : Int32) S)
    ∧ (¬ (x1 < (1 : Int32)) →
      (((6 : Int32) ≤ x3 →
        Q (0 : Int32) S)
      ∧ (¬ ((6 : Int32) ≤ x3) →
        Q (1 : Int32) S)))))
  ∧ ((x0).toInt = 119 →
    ((x3 ≤ x1 →
      Q (0 : Int32) S)
    ∧ (¬ (x3 ≤ x1) →
      ((x2 < (1 : Int32) →
        Q (0 : Int32) S)
      ∧ (¬ (x2 < (1 : Int32)) →
        Q (1 : Int32) S)))))
  ∧ ((¬ (x0).toInt = 112 ∧ ¬ (x0).toInt = 115 ∧ ¬ (x0).toInt = 119) →
    ((x3 ≤ 0 →
      Q (0 : Int32) S)
    ∧ (¬ (x3 ≤ 0) →
      Q (1 : Int32) S))))
def wp_X6_come (a0 : Nat) (x1 : Int32) (S : Hp) (Q : Hp → Prop) : Prop :=
  (((x1).toInt = 112 →
    (kd S a0 = 7) ∧
    ∃ r1, gR S 72 a0 = some r1 ∧
    (kd S a0 = 7) ∧
    (kd S a0 = 7) ∧
    (kd S r1 = 8) ∧
    (vp_in (gI S 92 a0) (ln S r1)) ∧
    ∀ S2, S2 = sA S r1 ((gI S 92 a0)).toNatClampNeg (gI S 93 a0) →
    Q S2)
  ∧ ((x1).toInt = 115 →
    (kd S a0 = 7) ∧
    ∃ r3, gR S 71 a0 = some r3 ∧
    (kd S a0 = 7) ∧
    (kd S a0 = 7) ∧
    (kd S r3 = 8) ∧
    (vp_in (gI S 70 a0) (ln S r3)) ∧
    ∀ S4, S4 = sA S r3 ((gI S 70 a0)).toNatClampNeg (gI S 92 a0) →
    (kd S4 a0 = 7) ∧
    ∃ r5, gR S4 72 a0 = some r5 ∧
    (kd S4 a0 = 7) ∧
    (kd S4 a0 = 7) ∧
    (kd S4 r5 = 8) ∧
    (vp_in (gI S4 70 a0) (ln S4 r5)) ∧
    ∀ S6, S6 = sA S4 r5 ((gI S4 70 a0)).toNatClampNeg (gI S4 93 a0) →
    (kd S6 a0 = 7) ∧
    (kd S6 a0 = 7) ∧
    ∀ S7, S7 = sI S6 70 a0 ((gI S6 70 a0) + (1 : Int32)) →
    Q S7)
  ∧ ((x1).toInt = 119 →
    (kd S a0 = 7) ∧
    ∃ r8, gR S 71 a0 = some r8 ∧
    (kd S a0 = 7) ∧
    (kd S a0 = 7) ∧
    (kd S r8 = 8) ∧
    (vp_in (gI S 92 a0) (ln S r8)) ∧
    ∀ S9, S9 = sA S r8 ((gI S 92 a0)).toNatClampNeg (gI S 93 a0) →
    Q S9)
  ∧ ((¬ (x1).toInt = 112 ∧ ¬ (x1).toInt = 115 ∧ ¬ (x1).toInt = 119) →
    (kd S a0 = 7) ∧
    (kd S a0 = 7) ∧
    ∀ S10, S10 = sI S 70 a0 ((gI S 70 a0) - (1 : Int32)) →
    Q S10))
def J_X6_read_133 (C64 : Nat × Int32 × Int32 × Hp → Prop) (Q : Int32 → Hp → Prop) (v0 : Nat) (v1 : Int32) (w0 : Int32) (w1 : Int32) (S : Hp) : Prop :=
    ∀ y1, y1 = (w0 + w1) →
    C64 (v0, v1, y1, S)
def L_X6_read_143  (Q : Int32 → Hp → Prop) (C143 : Nat × Int32 × Hp → Prop) : Nat × Int32 × Hp → Prop := fun (v0, v1, S) =>
    (kd S v0 = 7) ∧
    (kd S v0 = 7) ∧
    (((gI S 89 v0) ≤ (gI S 90 v0) →
      Q v1 S)
    ∧ (¬ ((gI S 89 v0) ≤ (gI S 90 v0)) →
      (kd S v0 = 7) ∧
      wp_X6_statement v0 S (fun z2 S1 =>
        (kd S1 v0 = 7) ∧
        wp_X6_come v0 z2 S1 (fun S3 =>
          C143 (v0, v1, S3)))))
def L_X6_read_64  (Q : Int32 → Hp → Prop) (C64 : Nat × Int32 × Int32 × Hp → Prop) : Nat × Int32 × Int32 × Hp → Prop := fun (v0, v1, v2, S) =>
    (kd S v0 = 7) ∧
    (kd S v0 = 7) ∧
    (((gI S 89 v0) ≤ (gI S 90 v0) →
      (kd S v0 = 7) ∧
      ∀ S1, S1 = sI S 90 v0 (0 : Int32) →
      ∃ n, it (L_X6_read_143  Q) n (v0, v1, S1))
    ∧ (¬ ((gI S 89 v0) ≤ (gI S 90 v0)) →
      (kd S v0 = 7) ∧
      ∀ y2, y2 = (gI S 90 v0) →
      (kd S v0 = 7) ∧
      wp_X6_statement v0 S (fun z4 S3 =>
        (kd S3 v0 = 7) ∧
        (kd S3 v0 = 7) ∧
        wp_X6_isAsTold z4 (gI S3 92 v0) (gI S3 93 v0) v2 S3 (fun z6 S5 =>
          ((¬ z6 = 0 →
            ((¬ z4 = (115 : Int32) →
              ((¬ z4 = (120 : Int32) →
                J_X6_read_133 C64 Q v0 v1 v2 (0 : Int32) S5)
              ∧ (z4 = (120 : Int32) →
                J_X6_read_133 C64 Q v0 v1 v2 (-1 : Int32) S5)))
            ∧ (z4 = (115 : Int32) →
              J_X6_read_133 C64 Q v0 v1 v2 (1 : Int32) S5)))
          ∧ (z6 = 0 →
            Q ((-2000 : Int32) - y2) S5))))))
def J_X6_read_38  (Q : Int32 → Hp → Prop) (v0 : Nat) (v1 : Int32) (S : Hp) : Prop :=
    (kd S v0 = 7) ∧
    ((¬ (gI S 91 v0) = 0 →
      (kd S v0 = 7) ∧
      ∀ y1, y1 = (gI S 70 v0) →
      (kd S v0 = 7) ∧
      ∀ S2, S2 = sI S 90 v0 (0 : Int32) →
      ∃ n, it (L_X6_read_64  Q) n (v0, v1, y1, S2))
    ∧ ((gI S 91 v0) = 0 →
      (kd S v0 = 7) ∧
      Q ((-1000 : Int32) - (gI S 90 v0)) S))
def L_X6_read_12  (Q : Int32 → Hp → Prop) (C12 : Nat × Int32 × Hp → Prop) : Nat × Int32 × Hp → Prop := fun (v0, v1, S) =>
    (kd S v0 = 7) ∧
    wp_X6_statement v0 S (fun z2 S1 =>
      ∀ y3, y3 = v1 + (1 : Int32) →
      (kd S1 v0 = 7) ∧
      (((gI S1 91 v0) = 0 →
        (J_X6_read_38  Q v0 y3 S1))
      ∧ (¬ ((gI S1 91 v0) = 0) →
        (kd S1 v0 = 7) ∧
        (kd S1 v0 = 7) ∧
        (((gI S1 90 v0) < (gI S1 89 v0) →
          (C12 (v0, y3, S1)))
        ∧ (¬ ((gI S1 90 v0) < (gI S1 89 v0)) →
          (J_X6_read_38  Q v0 y3 S1))))))
def wp_X6_read (a0 : Nat) (S : Hp) (Q : Int32 → Hp → Prop) : Prop :=
  (kd S a0 = 7) ∧
  ∀ S4, S4 = sI S 90 a0 (0 : Int32) →
  (kd S4 a0 = 7) ∧
  ∀ S5, S5 = sI S4 91 a0 (1 : Int32) →
  ∃ n, it (L_X6_read_12  Q) n (a0, (0 : Int32), S5)
def wp_X6_shop (a0 : Nat) (x1 : Int32) (S : Hp) (Q : Int32 → Hp → Prop) : Prop :=
  wp_X6_isShelf x1 S (fun z2 S1 =>
    ((¬ z2 = 0 →
      (kd S1 a0 = 7) ∧
      ∃ r3, gR S1 94 a0 = some r3 ∧
      (kd S1 r3 = 8) ∧
      (vp_in x1 (ln S1 r3)) ∧
      ((¬ (gA S1 r3 (x1).toNatClampNeg) = 0 →
        (kd S1 a0 = 7) ∧
        ∃ r4, gR S1 94 a0 = some r4 ∧
        (kd S1 r4 = 8) ∧
        (vp_in x1 (ln S1 r4)) ∧
        (((gA S1 r4 (x1).toNatClampNeg) = (1 : Int32) →
          Q (-12 : Int32) S1)
        ∧ (¬ ((gA S1 r4 (x1).toNatClampNeg) = (1 : Int32)) →
          (kd S1 a0 = 7) ∧
          ∃ r5, gR S1 97 a0 = some r5 ∧
          (kd S1 r5 = 8) ∧
          (vp_in x1 (ln S1 r5)) ∧
          (((gA S1 r5 (x1).toNatClampNeg) = 0 →
            (kd S1 a0 = 7) ∧
            ∀ S6, S6 = sI S1 88 a0 ((100 : Int32) * x1) →
            (kd S6 a0 = 7) ∧
            ∃ r7, gR S6 98 a0 = some r7 ∧
            (kd S6 r7 = 8) ∧
            (vp_in x1 (ln S6 r7)) ∧
            (kd S6 a0 = 7) ∧
            ∀ S8, S8 = sI S6 89 a0 (gA S6 r7 (x1).toNatClampNeg) →
            (kd S8 a0 = 7) ∧
            wp_X6_read a0 S8 (fun z10 S9 =>
              Q z10 S9))
          ∧ (¬ ((gA S1 r5 (x1).toNatClampNeg) = 0) →
            Q (-12 : Int32) S1)))))
      ∧ ((gA S1 r3 (x1).toNatClampNeg) = 0 →
        Q (-11 : Int32) S1)))
    ∧ (z2 = 0 →
      Q (-1 : Int32) S1)))
def J_X6_keep_66  (Q : Int32 → Hp → Prop) (v0 : Nat) (v1 : Int32) (v2 : Int32) (v4 : Int32) (w0 : Nat) (w1 : Int32) (w2 : Int32) (S : Hp) : Prop :=
    (kd S w0 = 8) ∧
    (vp_in w1 (ln S w0)) ∧
    ∀ S1, S1 = sA S w0 (w1).toNatClampNeg w2 →
    (kd S1 v0 = 7) ∧
    ∃ r2, gR S1 96 v0 = some r2 ∧
    ((¬ v2 = (1 : Int32) →
      (kd S1 r2 = 8) ∧
      (vp_in v1 (ln S1 r2)) ∧
      ∀ S3, S3 = sA S1 r2 (v1).toNatClampNeg (0 : Int32) →
      Q (0 : Int32) S3)
    ∧ (v2 = (1 : Int32) →
      (kd S1 r2 = 8) ∧
      (vp_in v1 (ln S1 r2)) ∧
      ∀ S4, S4 = sA S1 r2 (v1).toNatClampNeg v4 →
      Q (0 : Int32) S4))
def J_X6_keep_44  (Q : Int32 → Hp → Prop) (v0 : Nat) (v1 : Int32) (v2 : Int32) (v3 : Int32) (v4 : Int32) (S : Hp) : Prop :=
    (kd S v0 = 7) ∧
    ∃ r1, gR S 94 v0 = some r1 ∧
    (kd S r1 = 8) ∧
    (vp_in v1 (ln S r1)) ∧
    ∀ S2, S2 = sA S r1 (v1).toNatClampNeg v2 →
    (kd S2 v0 = 7) ∧
    ∃ r3, gR S2 95 v0 = some r3 ∧
    ((¬ v2 = (1 : Int32) →
      J_X6_keep_66  Q v0 v1 v2 v4 r3 v1 (0 : Int32) S2)
    ∧ (v2 = (1 : Int32) →
      J_X6_keep_66  Q v0 v1 v2 v4 r3 v1 v3 S2))
def wp_X6_keep (a0 : Nat) (x1 : Int32) (x2 : Int32) (x3 : Int32) (x4 : Int32) (S : Hp) (Q : Int32 → Hp → Prop) : Prop :=
  wp_X6_isShelf x1 S (fun z5 S4 =>
    ((z5 = 0 →
      Q (-1 : Int32) S4)
    ∧ (¬ (z5 = 0) →
      wp_X6_isIn x2 (0 : Int32) (1 : Int32) S4 (fun z7 S6 =>
        ((z7 = 0 →
          Q (-1 : Int32) S6)
        ∧ (¬ (z7 = 0) →
          ((¬ x2 = (1 : Int32) →
            (J_X6_keep_44  Q a0 x1 x2 x3 x4 S6))
          ∧ (x2 = (1 : Int32) →
            wp_X6_isIn x3 (0 : Int32) (7 : Int32) S6 (fun z9 S8 =>
              ((z9 = 0 →
                Q (-1 : Int32) S8)
              ∧ (¬ (z9 = 0) →
                wp_X6_isIn x4 (0 : Int32) (9 : Int32) S8 (fun z11 S10 =>
                  ((¬ z11 = 0 →
                    (J_X6_keep_44  Q a0 x1 x2 x3 x4 S10))
                  ∧ (z11 = 0 →
                    Q (-1 : Int32) S10))))))))))))))
def L_X6_row_55  (Q : Int32 → Hp → Prop) (C55 : Nat × Int32 × Int32 × Hp → Prop) : Nat × Int32 × Int32 × Hp → Prop := fun (v0, v1, v4, S) =>
    (((100 : Int32) ≤ v4 →
      Q (0 : Int32) S)
    ∧ (¬ ((100 : Int32) ≤ v4) →
      (kd S v0 = 7) ∧
      ∃ r1, gR S 99 v0 = some r1 ∧
      (kd S r1 = 8) ∧
      (vp_in (((100 : Int32) * v1) + v4) (ln S r1)) ∧
      ∀ S2, S2 = sA S r1 ((((100 : Int32) * v1) + v4)).toNatClampNeg (0 : Int32) →
      ∀ y3, y3 = v4 + (1 : Int32) →
      C55 (v0, v1, y3, S2)))
def wp_X6_row (a0 : Nat) (x1 : Int32) (x2 : Int32) (x3 : Int32) (S : Hp) (Q : Int32 → Hp → Prop) : Prop :=
  wp_X6_isShelf x1 S (fun z5 S4 =>
    ((z5 = 0 →
      Q (-1 : Int32) S4)
    ∧ (¬ (z5 = 0) →
      wp_X6_isIn x2 (0 : Int32) (2 : Int32) S4 (fun z7 S6 =>
        ((z7 = 0 →
          Q (-1 : Int32) S6)
        ∧ (¬ (z7 = 0) →
          ((x3 ≤ (100 : Int32) →
            ((0 ≤ x3 →
              (kd S6 a0 = 7) ∧
              ∃ r8, gR S6 94 a0 = some r8 ∧
              (kd S6 r8 = 8) ∧
              (vp_in x1 (ln S6 r8)) ∧
              ∀ S9, S9 = sA S6 r8 (x1).toNatClampNeg (2 : Int32) →
              (kd S9 a0 = 7) ∧
              ∃ r10, gR S9 97 a0 = some r10 ∧
              (kd S9 r10 = 8) ∧
              (vp_in x1 (ln S9 r10)) ∧
              ∀ S11, S11 = sA S9 r10 (x1).toNatClampNeg x2 →
              (kd S11 a0 = 7) ∧
              ∃ r12, gR S11 98 a0 = some r12 ∧
              (kd S11 r12 = 8) ∧
              (vp_in x1 (ln S11 r12)) ∧
              ∀ S13, S13 = sA S11 r12 (x1).toNatClampNeg x3 →
              ∃ n, it (L_X6_row_55  Q) n (a0, x1, (0 : Int32), S13))
            ∧ (¬ (0 ≤ x3) →
              Q (-14 : Int32) S6)))
          ∧ (¬ (x3 ≤ (100 : Int32)) →
            Q (-1 : Int32) S6))))))))
def wp_X6_put (a0 : Nat) (x1 : Int32) (x2 : Int32) (x3 : Int32) (S : Hp) (Q : Int32 → Hp → Prop) : Prop :=
  wp_X6_isShelf x1 S (fun z2 S1 =>
    ((¬ z2 = 0 →
      (kd S1 a0 = 7) ∧
      ∃ r3, gR S1 94 a0 = some r3 ∧
      (kd S1 r3 = 8) ∧
      (vp_in x1 (ln S1 r3)) ∧
      (((gA S1 r3 (x1).toNatClampNeg) = (2 : Int32) →
        (kd S1 a0 = 7) ∧
        ∃ r4, gR S1 98 a0 = some r4 ∧
        (kd S1 r4 = 8) ∧
        (vp_in x1 (ln S1 r4)) ∧
        wp_X6_isIn x2 (0 : Int32) ((gA S1 r4 (x1).toNatClampNeg) - (1 : Int32)) S1 (fun z6 S5 =>
          ((¬ z6 = 0 →
            (kd S5 a0 = 7) ∧
            ∃ r7, gR S5 99 a0 = some r7 ∧
            (kd S5 a0 = 7) ∧
            ∃ r8, gR S5 97 a0 = some r8 ∧
            (kd S5 r8 = 8) ∧
            (vp_in x1 (ln S5 r8)) ∧
            ((¬ (gA S5 r8 (x1).toNatClampNeg) = 0 →
              (kd S5 a0 = 7) ∧
              ∃ r9, gR S5 97 a0 = some r9 ∧
              (kd S5 r9 = 8) ∧
              (vp_in x1 (ln S5 r9)) ∧
              ((¬ (gA S5 r9 (x1).toNatClampNeg) = (1 : Int32) →
                (kd S5 r7 = 8) ∧
                (vp_in (((100 : Int32) * x1) + x2) (ln S5 r7)) ∧
                ∀ S10, S10 = sA S5 r7 ((((100 : Int32) * x1) + x2)).toNatClampNeg x3 →
                Q (0 : Int32) S10)
              ∧ ((gA S5 r9 (x1).toNatClampNeg) = (1 : Int32) →
                (kd S5 r7 = 8) ∧
                (vp_in (((100 : Int32) * x1) + x2) (ln S5 r7)) ∧
                ∀ S11, S11 = sA S5 r7 ((((100 : Int32) * x1) + x2)).toNatClampNeg (x3).toInt16.toInt32 →
                Q (0 : Int32) S11)))
            ∧ ((gA S5 r8 (x1).toNatClampNeg) = 0 →
              (kd S5 r7 = 8) ∧
              (vp_in (((100 : Int32) * x1) + x2) (ln S5 r7)) ∧
              ∀ S12, S12 = sA S5 r7 ((((100 : Int32) * x1) + x2)).toNatClampNeg (x3).toInt8.toInt32 →
              Q (0 : Int32) S12)))
          ∧ (z6 = 0 →
            Q (-13 : Int32) S5))))
      ∧ (¬ ((gA S1 r3 (x1).toNatClampNeg) = (2 : Int32)) →
        (kd S1 a0 = 7) ∧
        ∃ r13, gR S1 94 a0 = some r13 ∧
        (kd S1 r13 = 8) ∧
        (vp_in x1 (ln S1 r13)) ∧
        ((¬ (gA S1 r13 (x1).toNatClampNeg) = 0 →
          Q (-12 : Int32) S1)
        ∧ ((gA S1 r13 (x1).toNatClampNeg) = 0 →
          Q (-11 : Int32) S1)))))
    ∧ (z2 = 0 →
      Q (-1 : Int32) S1)))
def J_X6_element_43  (Q : Int64 → Hp → Prop) (v0 : Nat) (v1 : Int32) (v2 : Int32) (w0 : Nat) (w1 : Int32) (S : Hp) : Prop :=
    (kd S w0 = 7) ∧
    ∀ S1, S1 = sI S 101 w0 w1 →
    (kd S1 v0 = 7) ∧
    ((¬ (gI S1 101 v0) = 0 →
      Q (0 : Int64) S1)
    ∧ ((gI S1 101 v0) = 0 →
      (kd S1 v0 = 7) ∧
      ∃ r2, gR S1 99 v0 = some r2 ∧
      (kd S1 r2 = 8) ∧
      (vp_in (((100 : Int32) * v1) + v2) (ln S1 r2)) ∧
      Q ((gA S1 r2 ((((100 : Int32) * v1) + v2)).toNatClampNeg)).toInt64 S1))
def J_X6_element_38  (Q : Int64 → Hp → Prop) (v0 : Nat) (v1 : Int32) (v2 : Int32) (w0 : Nat) (S : Hp) : Prop :=
    J_X6_element_43  Q v0 v1 v2 w0 (2 : Int32) S
def wp_X6_element (a0 : Nat) (x1 : Int32) (x2 : Int32) (S : Hp) (Q : Int64 → Hp → Prop) : Prop :=
  wp_X6_isShelf x1 S (fun z2 S1 =>
    ((¬ z2 = 0 →
      (kd S1 a0 = 7) ∧
      ∃ r3, gR S1 94 a0 = some r3 ∧
      (kd S1 r3 = 8) ∧
      (vp_in x1 (ln S1 r3)) ∧
      ((¬ (gA S1 r3 (x1).toNatClampNeg) = (2 : Int32) →
        (J_X6_element_38  Q a0 x1 x2 a0 S1))
      ∧ ((gA S1 r3 (x1).toNatClampNeg) = (2 : Int32) →
        (kd S1 a0 = 7) ∧
        ∃ r4, gR S1 98 a0 = some r4 ∧
        (kd S1 r4 = 8) ∧
        (vp_in x1 (ln S1 r4)) ∧
        wp_X6_isIn x2 (0 : Int32) ((gA S1 r4 (x1).toNatClampNeg) - (1 : Int32)) S1 (fun z6 S5 =>
          ((¬ z6 = 0 →
            J_X6_element_43  Q a0 x1 x2 a0 (0 : Int32) S5)
          ∧ (z6 = 0 →
            (J_X6_element_38  Q a0 x1 x2 a0 S5)))))))
    ∧ (z2 = 0 →
      J_X6_element_43  Q a0 x1 x2 a0 (1 : Int32) S1)))
def wp_X6_thrown (a0 : Nat) (S : Hp) (Q : Int32 → Hp → Prop) : Prop :=
  (kd S a0 = 7) ∧
  Q (gI S 101 a0) S
def L_X6_copy_159  (Q : Int32 → Hp → Prop) (C159 : Nat × Int32 × Int32 × Int32 × Int32 × Hp → Prop) : Nat × Int32 × Int32 × Int32 × Int32 × Hp → Prop := fun (v0, v3, v4, v5, v6, S) =>
    ((v5 ≤ v6 →
      Q v5 S)
    ∧ (¬ (v5 ≤ v6) →
      (kd S v0 = 7) ∧
      ∃ r1, gR S 99 v0 = some r1 ∧
      (kd S v0 = 7) ∧
      ∃ r2, gR S 100 v0 = some r2 ∧
      (kd S r2 = 8) ∧
      (vp_in v6 (ln S r2)) ∧
      (kd S r1 = 8) ∧
      (vp_in ((((100 : Int32) * v3) + v4) + v6) (ln S r1)) ∧
      ∀ S3, S3 = sA S r1 (((((100 : Int32) * v3) + v4) + v6)).toNatClampNeg (gA S r2 (v6).toNatClampNeg) →
      ∀ y4, y4 = v6 + (1 : Int32) →
      C159 (v0, v3, v4, v5, y4, S3)))
def L_X6_copy_122  (Q : Int32 → Hp → Prop) (C122 : Nat × Int32 × Int32 × Int32 × Int32 × Int32 × Int32 × Hp → Prop) : Nat × Int32 × Int32 × Int32 × Int32 × Int32 × Int32 × Hp → Prop := fun (v0, v1, v2, v3, v4, v5, v6, S) =>
    ((v5 ≤ v6 →
      ∃ n, it (L_X6_copy_159  Q) n (v0, v3, v4, v5, (0 : Int32), S))
    ∧ (¬ (v5 ≤ v6) →
      (kd S v0 = 7) ∧
      ∃ r1, gR S 100 v0 = some r1 ∧
      (kd S v0 = 7) ∧
      ∃ r2, gR S 99 v0 = some r2 ∧
      (kd S r2 = 8) ∧
      (vp_in ((((100 : Int32) * v1) + v2) + v6) (ln S r2)) ∧
      (kd S r1 = 8) ∧
      (vp_in v6 (ln S r1)) ∧
      ∀ S3, S3 = sA S r1 (v6).toNatClampNeg (gA S r2 (((((100 : Int32) * v1) + v2) + v6)).toNatClampNeg) →
      ∀ y4, y4 = v6 + (1 : Int32) →
      C122 (v0, v1, v2, v3, v4, v5, y4, S3)))
def wp_X6_copy (a0 : Nat) (x1 : Int32) (x2 : Int32) (x3 : Int32) (x4 : Int32) (x5 : Int32) (S : Hp) (Q : Int32 → Hp → Prop) : Prop :=
  wp_X6_isShelf x1 S (fun z6 S5 =>
    ((z6 = 0 →
      Q (-1 : Int32) S5)
    ∧ (¬ (z6 = 0) →
      wp_X6_isShelf x3 S5 (fun z8 S7 =>
        ((¬ z8 = 0 →
          (kd S7 a0 = 7) ∧
          ∃ r9, gR S7 94 a0 = some r9 ∧
          (kd S7 r9 = 8) ∧
          (vp_in x1 (ln S7 r9)) ∧
          (((gA S7 r9 (x1).toNatClampNeg) = 0 →
            Q (-11 : Int32) S7)
          ∧ (¬ ((gA S7 r9 (x1).toNatClampNeg) = 0) →
            (kd S7 a0 = 7) ∧
            ∃ r10, gR S7 94 a0 = some r10 ∧
            (kd S7 r10 = 8) ∧
            (vp_in x3 (ln S7 r10)) ∧
            ((¬ (gA S7 r10 (x3).toNatClampNeg) = 0 →
              (kd S7 a0 = 7) ∧
              ∃ r11, gR S7 94 a0 = some r11 ∧
              (kd S7 r11 = 8) ∧
              (vp_in x1 (ln S7 r11)) ∧
              (((gA S7 r11 (x1).toNatClampNeg) = (1 : Int32) →
                Q (-12 : Int32) S7)
              ∧ (¬ ((gA S7 r11 (x1).toNatClampNeg) = (1 : Int32)) →
                (kd S7 a0 = 7) ∧
                ∃ r12, gR S7 94 a0 = some r12 ∧
                (kd S7 r12 = 8) ∧
                (vp_in x3 (ln S7 r12)) ∧
                (((gA S7 r12 (x3).toNatClampNeg) = (1 : Int32) →
                  Q (-12 : Int32) S7)
                ∧ (¬ ((gA S7 r12 (x3).toNatClampNeg) = (1 : Int32)) →
                  (kd S7 a0 = 7) ∧
                  ∃ r13, gR S7 97 a0 = some r13 ∧
                  (kd S7 r13 = 8) ∧
                  (vp_in x1 (ln S7 r13)) ∧
                  (kd S7 a0 = 7) ∧
                  ∃ r14, gR S7 97 a0 = some r14 ∧
                  (kd S7 r14 = 8) ∧
                  (vp_in x3 (ln S7 r14)) ∧
                  (((gA S7 r13 (x1).toNatClampNeg) = (gA S7 r14 (x3).toNatClampNeg) →
                    ((x5 < 0 →
                      Q (-13 : Int32) S7)
                    ∧ (¬ (x5 < 0) →
                      ((x2 < 0 →
                        Q (-13 : Int32) S7)
                      ∧ (¬ (x2 < 0) →
                        ((x4 < 0 →
                          Q (-13 : Int32) S7)
                        ∧ (¬ (x4 < 0) →
                          (kd S7 a0 = 7) ∧
                          ∃ r15, gR S7 98 a0 = some r15 ∧
                          (kd S7 r15 = 8) ∧
                          (vp_in x1 (ln S7 r15)) ∧
                          ((((gA S7 r15 (x1).toNatClampNeg) - x2) < x5 →
                            Q (-13 : Int32) S7)
                          ∧ (¬ (((gA S7 r15 (x1).toNatClampNeg) - x2) < x5) →
                            (kd S7 a0 = 7) ∧
                            ∃ r16, gR S7 98 a0 = some r16 ∧
                            (kd S7 r16 = 8) ∧
                            (vp_in x3 (ln S7 r16)) ∧
                            ((x5 ≤ ((gA S7 r16 (x3).toNatClampNeg) - x4) →
                              ∃ n, it (L_X6_copy_122  Q) n (a0, x1, x2, x3, x4, x5, (0 : Int32), S7))
                            ∧ (¬ (x5 ≤ ((gA S7 r16 (x3).toNatClampNeg) - x4)) →
                              Q (-13 : Int32) S7)))))))))))
                  ∧ (¬ ((gA S7 r13 (x1).toNatClampNeg) = (gA S7 r14 (x3).toNatClampNeg)) →
                    Q (-12 : Int32) S7)))))))
            ∧ ((gA S7 r10 (x3).toNatClampNeg) = 0 →
              Q (-11 : Int32) S7)))))
        ∧ (z8 = 0 →
          Q (-1 : Int32) S7))))))
def wp_X6_costOf (a0 : Nat) (x1 : Int32) (S : Hp) (Q : Int32 → Hp → Prop) : Prop :=
  (kd S a0 = 7) ∧
  ∃ r1, gR S 96 a0 = some r1 ∧
  (kd S r1 = 8) ∧
  (vp_in x1 (ln S r1)) ∧
  ∀ y2, y2 = (gA S r1 (x1).toNatClampNeg) →
  (kd S a0 = 7) ∧
  ∃ r3, gR S 95 a0 = some r3 ∧
  (kd S r3 = 8) ∧
  (vp_in x1 (ln S r3)) ∧
  ((((gA S r3 (x1).toNatClampNeg)).toInt = 1 →
    Q (4 : Int32) S)
  ∧ (((gA S r3 (x1).toNatClampNeg)).toInt = 2 →
    Q ((5 : Int32) * (y2 + (1 : Int32))) S)
  ∧ (((gA S r3 (x1).toNatClampNeg)).toInt = 3 →
    Q ((5 : Int32) - y2) S)
  ∧ (((gA S r3 (x1).toNatClampNeg)).toInt = 4 →
    Q (((5 : Int32) * (y2 + (1 : Int32))) + (4 : Int32)) S)
  ∧ (((gA S r3 (x1).toNatClampNeg)).toInt = 5 →
    Q (10 : Int32) S)
  ∧ (((gA S r3 (x1).toNatClampNeg)).toInt = 6 →
    Q ((4 : Int32) + y2) S)
  ∧ (((gA S r3 (x1).toNatClampNeg)).toInt = 7 →
    Q ((12 : Int32) - y2) S)
  ∧ ((((gA S r3 (x1).toNatClampNeg)).toInt < 1 ∨ 7 < ((gA S r3 (x1).toNatClampNeg)).toInt) →
    Q (5 : Int32) S))
def wp_X6_cost (a0 : Nat) (x1 : Int32) (S : Hp) (Q : Int32 → Hp → Prop) : Prop :=
  wp_X6_isShelf x1 S (fun z2 S1 =>
    ((¬ z2 = 0 →
      (kd S1 a0 = 7) ∧
      wp_X6_noScale a0 x1 S1 (fun z4 S3 =>
        ((z4 = 0 →
          (kd S3 a0 = 7) ∧
          wp_X6_costOf a0 x1 S3 (fun z6 S5 =>
            Q z6 S5))
        ∧ (¬ (z4 = 0) →
          (kd S3 a0 = 7) ∧
          wp_X6_noScale a0 x1 S3 (fun z8 S7 =>
            Q z8 S7)))))
    ∧ (z2 = 0 →
      Q (-1 : Int32) S1)))
def wp_X6_toss (a0 : Nat) (x1 : Int32) (S : Hp) (Q : Int32 → Hp → Prop) : Prop :=
  wp_X6_isShelf x1 S (fun z2 S1 =>
    ((¬ z2 = 0 →
      (kd S1 a0 = 7) ∧
      wp_X6_noScale a0 x1 S1 (fun z4 S3 =>
        ((z4 = 0 →
          (kd S3 a0 = 7) ∧
          ∃ r5, gR S3 96 a0 = some r5 ∧
          (kd S3 r5 = 8) ∧
          (vp_in x1 (ln S3 r5)) ∧
          ∀ y6, y6 = (gA S3 r5 (x1).toNatClampNeg) →
          (kd S3 a0 = 7) ∧
          ∃ r7, gR S3 95 a0 = some r7 ∧
          (kd S3 r7 = 8) ∧
          (vp_in x1 (ln S3 r7)) ∧
          (((gA S3 r7 (x1).toNatClampNeg) = (5 : Int32) →
            Q (-15 : Int32) S3)
          ∧ (¬ ((gA S3 r7 (x1).toNatClampNeg) = (5 : Int32)) →
            ((¬ y6 = 0 →
              (kd S3 a0 = 7) ∧
              ∃ r8, gR S3 95 a0 = some r8 ∧
              (kd S3 r8 = 8) ∧
              (vp_in x1 (ln S3 r8)) ∧
              ((¬ (gA S3 r8 (x1).toNatClampNeg) = (6 : Int32) →
                (kd S3 a0 = 7) ∧
                ∃ r9, gR S3 95 a0 = some r9 ∧
                (kd S3 r9 = 8) ∧
                (vp_in x1 (ln S3 r9)) ∧
                ((¬ (gA S3 r9 (x1).toNatClampNeg) = (7 : Int32) →
                  Q y6 S3)
                ∧ ((gA S3 r9 (x1).toNatClampNeg) = (7 : Int32) →
                  (kd S3 a0 = 7) ∧
                  wp_X6_costOf a0 x1 S3 (fun z11 S10 =>
                    Q ((200 : Int32) + z11) S10))))
              ∧ ((gA S3 r8 (x1).toNatClampNeg) = (6 : Int32) →
                Q ((100 : Int32) + y6) S3)))
            ∧ (y6 = 0 →
              Q (-15 : Int32) S3)))))
        ∧ (¬ (z4 = 0) →
          (kd S3 a0 = 7) ∧
          wp_X6_noScale a0 x1 S3 (fun z13 S12 =>
            Q z13 S12)))))
    ∧ (z2 = 0 →
      Q (-1 : Int32) S1)))
def wp_X5_init (a0 : Nat) (S : Hp) (Q : Hp → Prop) : Prop :=
  ∀ q1, fr S q1 → ∀ S2, S2 = nO S q1 5 →
  wp_X4_init q1 S2 (fun S3 =>
    (kd S3 a0 = 6) ∧
    ∀ S4, S4 = sR S3 50 a0 (some q1) →
    ∀ q5, fr S4 q5 → ∀ S6, S6 = nO S4 q5 1 →
    wp_X0_init q5 S6 (fun S7 =>
      (kd S7 a0 = 6) ∧
      ∀ S8, S8 = sR S7 51 a0 (some q5) →
      ∀ q9, fr S8 q9 → ∀ S10, S10 = nO S8 q9 5 →
      wp_X4_init q9 S10 (fun S11 =>
        (kd S11 a0 = 6) ∧
        ∀ S12, S12 = sR S11 52 a0 (some q9) →
        ∀ q13, fr S12 q13 → ∀ S14, S14 = nO S12 q13 5 →
        wp_X4_init q13 S14 (fun S15 =>
          (kd S15 a0 = 6) ∧
          ∀ S16, S16 = sR S15 54 a0 (some q13) →
          ∀ q17, fr S16 q17 → ∀ S18, S18 = nO S16 q17 1 →
          wp_X0_init q17 S18 (fun S19 =>
            (kd S19 a0 = 6) ∧
            ∀ S20, S20 = sR S19 55 a0 (some q17) →
            ∀ q21, fr S20 q21 → ∀ S22, S22 = nA S20 q21 11 8 →
            (kd S22 a0 = 6) ∧
            ∀ S23, S23 = sR S22 56 a0 (some q21) →
            ∀ q24, fr S23 q24 → ∀ S25, S25 = nA S23 q24 10 8 →
            (kd S25 a0 = 6) ∧
            ∀ S26, S26 = sR S25 57 a0 (some q24) →
            ∀ q27, fr S26 q27 → ∀ S28, S28 = nO S26 q27 3 →
            wp_X2_init q27 (0 : Int32) (0 : Int32) S28 (fun S29 =>
              (kd S29 a0 = 6) ∧
              ∀ S30, S30 = sR S29 58 a0 (some q27) →
              ∀ q31, fr S30 q31 → ∀ S32, S32 = nO S30 q31 4 →
              wp_X3_init q31 S32 (fun S33 =>
                (kd S33 a0 = 6) ∧
                ∀ S34, S34 = sR S33 59 a0 (some q31) →
                ∀ q35, fr S34 q35 → ∀ S36, S36 = nA S34 q35 8 1000 →
                (kd S36 a0 = 6) ∧
                ∀ S37, S37 = sR S36 60 a0 (some q35) →
                ∀ q38, fr S37 q38 → ∀ S39, S39 = nA S37 q38 8 64 →
                (kd S39 a0 = 6) ∧
                ∀ S40, S40 = sR S39 61 a0 (some q38) →
                ∀ q41, fr S40 q41 → ∀ S42, S42 = nA S40 q41 8 729 →
                (kd S42 a0 = 6) ∧
                ∀ S43, S43 = sR S42 62 a0 (some q41) →
                Q S43)))))))
def wp_X5_isShelf (x0 : Int32) (S : Hp) (Q : Int32 → Hp → Prop) : Prop :=
  ((x0 < 0 →
    Q (0 : Int32) S)
  ∧ (¬ (x0 < 0) →
    (((8 : Int32) ≤ x0 →
      Q (0 : Int32) S)
    ∧ (¬ ((8 : Int32) ≤ x0) →
      Q (1 : Int32) S))))
def wp_X5_rowOfSort (a0 : Nat) (x1 : Int32) (x2 : Int32) (S : Hp) (Q : Option Nat → Hp → Prop) : Prop :=
  (kd S a0 = 6) ∧
  ∃ r1, gR S 57 a0 = some r1 ∧
  (kd S r1 = 10 ∨ kd S r1 = 11) ∧
  (vp_in x1 (ln S r1)) ∧
  ((gQ S r1 (x1).toNatClampNeg = none →
    Q none S)
  ∧ (∀ r2, gQ S r1 (x1).toNatClampNeg = some r2 →
    (kd S r2 = 2) ∧
    ((¬ (gI S 10 r2) = x2 →
      Q none S)
    ∧ ((gI S 10 r2) = x2 →
      Q (some r2) S))))
def wp_X5_holdsNothing (a0 : Nat) (x1 : Int32) (S : Hp) (Q : Int32 → Hp → Prop) : Prop :=
  (kd S a0 = 6) ∧
  ∃ r1, gR S 56 a0 = some r1 ∧
  (kd S r1 = 10 ∨ kd S r1 = 11) ∧
  (vp_in x1 (ln S r1)) ∧
  ((gQ S r1 (x1).toNatClampNeg = none →
    (kd S a0 = 6) ∧
    ∃ r3, gR S 57 a0 = some r3 ∧
    (kd S r3 = 10 ∨ kd S r3 = 11) ∧
    (vp_in x1 (ln S r3)) ∧
    ((gQ S r3 (x1).toNatClampNeg = none →
      Q (1 : Int32) S)
    ∧ (∀ r4, gQ S r3 (x1).toNatClampNeg = some r4 →
      Q (0 : Int32) S)))
  ∧ (∀ r2, gQ S r1 (x1).toNatClampNeg = some r2 →
    Q (0 : Int32) S))
def wp_X5_notHeld (a0 : Nat) (x1 : Int32) (S : Hp) (Q : Int32 → Hp → Prop) : Prop :=
  (kd S a0 = 6) ∧
  wp_X5_holdsNothing a0 x1 S (fun z2 S1 =>
    ((z2 = 0 →
      Q (-12 : Int32) S1)
    ∧ (¬ (z2 = 0) →
      Q (-11 : Int32) S1)))
def wp_X5_shop (a0 : Nat) (x1 : Int32) (S : Hp) (Q : Int32 → Hp → Prop) : Prop :=
  wp_X5_isShelf x1 S (fun z2 S1 =>
    ((¬ z2 = 0 →
      (kd S1 a0 = 6) ∧
      wp_X5_rowOfSort a0 x1 (0 : Int32) S1 (fun z4 S3 =>
        ((z4 = none →
          (kd S3 a0 = 6) ∧
          wp_X5_notHeld a0 x1 S3 (fun z7 S6 =>
            Q z7 S6))
        ∧ (∀ r5, z4 = some r5 →
          (kd S3 a0 = 6) ∧
          ∃ r8, gR S3 59 a0 = some r8 ∧
          (kd S3 a0 = 6) ∧
          ∃ r9, gR S3 50 a0 = some r9 ∧
          (kd S3 r8 = 4) ∧
          wp_X3_read r8 r5 r9 S3 (fun z11 S10 =>
            (kd S10 a0 = 6) ∧
            ∃ r12, gR S10 51 a0 = some r12 ∧
            (kd S10 a0 = 6) ∧
            ∃ r13, gR S10 50 a0 = some r13 ∧
            (kd S10 r12 = 1) ∧
            wp_X0_layOut r12 r13 S10 (fun S14 =>
              Q z11 S14))))))
    ∧ (z2 = 0 →
      Q (-1 : Int32) S1)))
def wp_X5_stone (a0 : Nat) (x1 : Int32) (x2 : Int32) (S : Hp) (Q : Int32 → Hp → Prop) : Prop :=
  (kd S a0 = 6) ∧
  ∃ r1, gR S 50 a0 = some r1 ∧
  (kd S r1 = 5) ∧
  wp_X4_isStone r1 x1 S (fun z3 S2 =>
    ((z3 = 0 →
      Q (-1 : Int32) S2)
    ∧ (¬ (z3 = 0) →
      ((x2 < 0 →
        Q (-1 : Int32) S2)
      ∧ (¬ (x2 < 0) →
        ((x2 ≤ (1 : Int32) →
          ((¬ x2 = 0 →
            (kd S2 a0 = 6) ∧
            ∃ r4, gR S2 50 a0 = some r4 ∧
            (kd S2 r4 = 5) ∧
            ∃ r5, gR S2 41 r4 = some r5 ∧
            (kd S2 r5 = 8) ∧
            (vp_in x1 (ln S2 r5)) ∧
            Q (gA S2 r5 (x1).toNatClampNeg) S2)
          ∧ (x2 = 0 →
            (kd S2 a0 = 6) ∧
            ∃ r6, gR S2 50 a0 = some r6 ∧
            (kd S2 r6 = 5) ∧
            ∃ r7, gR S2 40 r6 = some r7 ∧
            (kd S2 r7 = 8) ∧
            (vp_in x1 (ln S2 r7)) ∧
            Q (gA S2 r7 (x1).toNatClampNeg) S2)))
        ∧ (¬ (x2 ≤ (1 : Int32)) →
          Q (-1 : Int32) S2)))))))
def wp_X5_lying (a0 : Nat) (x1 : Int32) (x2 : Int32) (S : Hp) (Q : Int32 → Hp → Prop) : Prop :=
  (kd S a0 = 6) ∧
  ∃ r1, gR S 51 a0 = some r1 ∧
  (kd S r1 = 1) ∧
  wp_X0_isLying r1 x1 S (fun z3 S2 =>
    ((¬ z3 = 0 →
      (((x2).toInt = 0 →
        (kd S2 a0 = 6) ∧
        ∃ r4, gR S2 51 a0 = some r4 ∧
        (kd S2 r4 = 1) ∧
        ∃ r5, gR S2 0 r4 = some r5 ∧
        (kd S2 r5 = 8) ∧
        (vp_in x1 (ln S2 r5)) ∧
        Q (gA S2 r5 (x1).toNatClampNeg) S2)
      ∧ ((x2).toInt = 1 →
        (kd S2 a0 = 6) ∧
        ∃ r6, gR S2 51 a0 = some r6 ∧
        (kd S2 r6 = 1) ∧
        ∃ r7, gR S2 1 r6 = some r7 ∧
        (kd S2 r7 = 8) ∧
        (vp_in x1 (ln S2 r7)) ∧
        Q (gA S2 r7 (x1).toNatClampNeg) S2)
      ∧ ((x2).toInt = 2 →
        (kd S2 a0 = 6) ∧
        ∃ r8, gR S2 51 a0 = some r8 ∧
        (kd S2 r8 = 1) ∧
        wp_X0_liftsOf r8 x1 S2 (fun z10 S9 =>
          Q z10 S9))
      ∧ ((x2).toInt = 3 →
        (kd S2 a0 = 6) ∧
        ∃ r11, gR S2 50 a0 = some r11 ∧
        (kd S2 a0 = 6) ∧
        ∃ r12, gR S2 51 a0 = some r12 ∧
        (kd S2 r12 = 1) ∧
        wp_X0_notOff r12 x1 S2 (fun z14 S13 =>
          (kd S13 r11 = 5) ∧
          wp_X4_pricesOf r11 z14 S13 (fun z16 S15 =>
            Q z16 S15)))
      ∧ (((x2).toInt < 0 ∨ 3 < (x2).toInt) →
        Q (-1 : Int32) S2)))
    ∧ (z3 = 0 →
      Q (-1 : Int32) S2)))
def wp_X5_weighs (a0 : Nat) (x1 : Int32) (x2 : Int32) (S : Hp) (Q : Int32 → Hp → Prop) : Prop :=
  wp_X5_isShelf x1 S (fun z2 S1 =>
    ((z2 = 0 →
      Q (-1000000001 : Int32) S1)
    ∧ (¬ (z2 = 0) →
      (kd S1 a0 = 6) ∧
      ∃ r3, gR S1 51 a0 = some r3 ∧
      (kd S1 r3 = 1) ∧
      wp_X0_isLying r3 x2 S1 (fun z5 S4 =>
        ((¬ z5 = 0 →
          (kd S4 a0 = 6) ∧
          ∃ r6, gR S4 56 a0 = some r6 ∧
          (kd S4 r6 = 10 ∨ kd S4 r6 = 11) ∧
          (vp_in x1 (ln S4 r6)) ∧
          ((gQ S4 r6 (x1).toNatClampNeg = none →
            (kd S4 a0 = 6) ∧
            wp_X5_notHeld a0 x1 S4 (fun z9 S8 =>
              Q ((-1000000000 : Int32) + z9) S8))
          ∧ (∀ r7, gQ S4 r6 (x1).toNatClampNeg = some r7 →
            (kd S4 a0 = 6) ∧
            ∃ r10, gR S4 51 a0 = some r10 ∧
            (kd S4 r7 = 3) ∧
            wp_X2_allows r7 r10 x2 S4 (fun z12 S11 =>
              ((z12 = 0 →
                Q (-1000000003 : Int32) S11)
              ∧ (¬ (z12 = 0) →
                (kd S11 a0 = 6) ∧
                ∃ r13, gR S11 51 a0 = some r13 ∧
                (kd S11 r7 = 3) ∧
                wp_X2_weightOf r7 r13 x2 S11 (fun z15 S14 =>
                  Q z15 S14)))))))
        ∧ (z5 = 0 →
          Q (-1000000001 : Int32) S4))))))
def wp_X5_may (a0 : Nat) (x1 : Int32) (x2 : Int32) (S : Hp) (Q : Int32 → Hp → Prop) : Prop :=
  wp_X5_isShelf x1 S (fun z2 S1 =>
    ((z2 = 0 →
      Q (-1 : Int32) S1)
    ∧ (¬ (z2 = 0) →
      (kd S1 a0 = 6) ∧
      ∃ r3, gR S1 51 a0 = some r3 ∧
      (kd S1 r3 = 1) ∧
      wp_X0_isLying r3 x2 S1 (fun z5 S4 =>
        ((¬ z5 = 0 →
          (kd S4 a0 = 6) ∧
          ∃ r6, gR S4 56 a0 = some r6 ∧
          (kd S4 r6 = 10 ∨ kd S4 r6 = 11) ∧
          (vp_in x1 (ln S4 r6)) ∧
          ((gQ S4 r6 (x1).toNatClampNeg = none →
            (kd S4 a0 = 6) ∧
            wp_X5_notHeld a0 x1 S4 (fun z9 S8 =>
              Q z9 S8))
          ∧ (∀ r7, gQ S4 r6 (x1).toNatClampNeg = some r7 →
            (kd S4 a0 = 6) ∧
            ∃ r10, gR S4 51 a0 = some r10 ∧
            (kd S4 r7 = 3) ∧
            wp_X2_allows r7 r10 x2 S4 (fun z12 S11 =>
              ((z12 = 0 →
                Q (0 : Int32) S11)
              ∧ (¬ (z12 = 0) →
                Q (1 : Int32) S11))))))
        ∧ (z5 = 0 →
          Q (-1 : Int32) S4))))))
def wp_X5_isNumber (x0 : Int32) (S : Hp) (Q : Int32 → Hp → Prop) : Prop :=
  ((x0 < (-9999 : Int32) →
    Q (0 : Int32) S)
  ∧ (¬ (x0 < (-9999 : Int32)) →
    (((9999 : Int32) < x0 →
      Q (0 : Int32) S)
    ∧ (¬ ((9999 : Int32) < x0) →
      Q (1 : Int32) S))))
def J_X5_ways_68 (C39 : Nat × Int32 × Nat × Int32 × Int32 × Hp → Prop) (Q : Int32 → Hp → Prop) (v0 : Nat) (v2 : Int32) (v3 : Nat) (v4 : Int32) (v5 : Int32) (S : Hp) : Prop :=
    ∀ y1, y1 = v5 + (1 : Int32) →
    C39 (v0, v2, v3, v4, y1, S)
def L_X5_ways_39  (Q : Int32 → Hp → Prop) (C39 : Nat × Int32 × Nat × Int32 × Int32 × Hp → Prop) : Nat × Int32 × Nat × Int32 × Int32 × Hp → Prop := fun (v0, v2, v3, v4, v5, S) =>
    (kd S v0 = 6) ∧
    ∃ r1, gR S 51 v0 = some r1 ∧
    (kd S r1 = 1) ∧
    (((gI S 4 r1) ≤ v5 →
      Q v4 S)
    ∧ (¬ ((gI S 4 r1) ≤ v5) →
      (kd S v0 = 6) ∧
      ∃ r2, gR S 51 v0 = some r2 ∧
      (kd S v3 = 3) ∧
      wp_X2_hits v3 r2 v5 v2 S (fun z4 S3 =>
        ((z4 = 0 →
          (J_X5_ways_68 C39 Q v0 v2 v3 v4 v5 S3))
        ∧ (¬ (z4 = 0) →
          ∀ y5, y5 = v4 + (1 : Int32) →
          J_X5_ways_68 C39 Q v0 v2 v3 y5 v5 S3)))))
def wp_X5_ways (a0 : Nat) (x1 : Int32) (x2 : Int32) (S : Hp) (Q : Int32 → Hp → Prop) : Prop :=
  wp_X5_isShelf x1 S (fun z7 S6 =>
    ((z7 = 0 →
      Q (-1 : Int32) S6)
    ∧ (¬ (z7 = 0) →
      wp_X5_isNumber x2 S6 (fun z9 S8 =>
        ((¬ z9 = 0 →
          (kd S8 a0 = 6) ∧
          ∃ r10, gR S8 56 a0 = some r10 ∧
          (kd S8 r10 = 10 ∨ kd S8 r10 = 11) ∧
          (vp_in x1 (ln S8 r10)) ∧
          ((gQ S8 r10 (x1).toNatClampNeg = none →
            (kd S8 a0 = 6) ∧
            wp_X5_notHeld a0 x1 S8 (fun z13 S12 =>
              Q z13 S12))
          ∧ (∀ r11, gQ S8 r10 (x1).toNatClampNeg = some r11 →
            ∃ n, it (L_X5_ways_39  Q) n (a0, x2, r11, (0 : Int32), (0 : Int32), S8))))
        ∧ (z9 = 0 →
          Q (-1 : Int32) S8))))))
def L_X5_first_36  (Q : Int32 → Hp → Prop) (C36 : Nat × Int32 × Nat × Int32 × Hp → Prop) : Nat × Int32 × Nat × Int32 × Hp → Prop := fun (v0, v2, v3, v4, S) =>
    (kd S v0 = 6) ∧
    ∃ r1, gR S 51 v0 = some r1 ∧
    (kd S r1 = 1) ∧
    (((gI S 4 r1) ≤ v4 →
      Q (-4 : Int32) S)
    ∧ (¬ ((gI S 4 r1) ≤ v4) →
      (kd S v0 = 6) ∧
      ∃ r2, gR S 51 v0 = some r2 ∧
      (kd S v3 = 3) ∧
      wp_X2_hits v3 r2 v4 v2 S (fun z4 S3 =>
        ((z4 = 0 →
          ∀ y5, y5 = v4 + (1 : Int32) →
          C36 (v0, v2, v3, y5, S3))
        ∧ (¬ (z4 = 0) →
          Q v4 S3)))))
def wp_X5_first (a0 : Nat) (x1 : Int32) (x2 : Int32) (S : Hp) (Q : Int32 → Hp → Prop) : Prop :=
  wp_X5_isShelf x1 S (fun z7 S6 =>
    ((z7 = 0 →
      Q (-1 : Int32) S6)
    ∧ (¬ (z7 = 0) →
      wp_X5_isNumber x2 S6 (fun z9 S8 =>
        ((¬ z9 = 0 →
          (kd S8 a0 = 6) ∧
          ∃ r10, gR S8 56 a0 = some r10 ∧
          (kd S8 r10 = 10 ∨ kd S8 r10 = 11) ∧
          (vp_in x1 (ln S8 r10)) ∧
          ((gQ S8 r10 (x1).toNatClampNeg = none →
            (kd S8 a0 = 6) ∧
            wp_X5_notHeld a0 x1 S8 (fun z13 S12 =>
              Q z13 S12))
          ∧ (∀ r11, gQ S8 r10 (x1).toNatClampNeg = some r11 →
            ∃ n, it (L_X5_first_36  Q) n (a0, x2, r11, (0 : Int32), S8))))
        ∧ (z9 = 0 →
          Q (-1 : Int32) S8))))))
def J_X5_leastLifted_64 (C9 : Nat × Nat × Int32 × Int32 × Int32 × Int32 × Hp → Prop) (Q : Int32 → Hp → Prop) (v0 : Nat) (v1 : Nat) (v2 : Int32) (v3 : Int32) (v4 : Int32) (v5 : Int32) (S : Hp) : Prop :=
    ∀ y1, y1 = v5 + (1 : Int32) →
    C9 (v0, v1, v2, v3, v4, y1, S)
def J_X5_leastLifted_57 (C9 : Nat × Nat × Int32 × Int32 × Int32 × Int32 × Hp → Prop) (Q : Int32 → Hp → Prop) (v0 : Nat) (v1 : Nat) (v2 : Int32) (v5 : Int32) (v6 : Int32) (S : Hp) : Prop :=
    J_X5_leastLifted_64 C9 Q v0 v1 v2 v5 v6 v5 S
def L_X5_leastLifted_9  (Q : Int32 → Hp → Prop) (C9 : Nat × Nat × Int32 × Int32 × Int32 × Int32 × Hp → Prop) : Nat × Nat × Int32 × Int32 × Int32 × Int32 × Hp → Prop := fun (v0, v1, v2, v3, v4, v5, S) =>
    (kd S v0 = 6) ∧
    ∃ r1, gR S 51 v0 = some r1 ∧
    (kd S r1 = 1) ∧
    (((gI S 4 r1) ≤ v5 →
      Q v3 S)
    ∧ (¬ ((gI S 4 r1) ≤ v5) →
      (kd S v0 = 6) ∧
      ∃ r2, gR S 51 v0 = some r2 ∧
      (kd S v1 = 3) ∧
      wp_X2_hits v1 r2 v5 v2 S (fun z4 S3 =>
        ((z4 = 0 →
          (J_X5_leastLifted_64 C9 Q v0 v1 v2 v3 v4 v5 S3))
        ∧ (¬ (z4 = 0) →
          (kd S3 v0 = 6) ∧
          ∃ r5, gR S3 51 v0 = some r5 ∧
          (kd S3 r5 = 1) ∧
          wp_X0_liftsOf r5 v5 S3 (fun z7 S6 =>
            ((v3 < 0 →
              (J_X5_leastLifted_57 C9 Q v0 v1 v2 v5 z7 S6))
            ∧ (¬ (v3 < 0) →
              ((v4 ≤ z7 →
                (J_X5_leastLifted_64 C9 Q v0 v1 v2 v3 v4 v5 S6))
              ∧ (¬ (v4 ≤ z7) →
                (J_X5_leastLifted_57 C9 Q v0 v1 v2 v5 z7 S6)))))))))))
def wp_X5_leastLifted (a0 : Nat) (a1 : Nat) (x2 : Int32) (S : Hp) (Q : Int32 → Hp → Prop) : Prop :=
  ∃ n, it (L_X5_leastLifted_9  Q) n (a0, a1, x2, (-4 : Int32), (0 : Int32), (0 : Int32), S)
def wp_X5_lifts (a0 : Nat) (x1 : Int32) (x2 : Int32) (x3 : Int32) (S : Hp) (Q : Int32 → Hp → Prop) : Prop :=
  wp_X5_isShelf x1 S (fun z2 S1 =>
    ((z2 = 0 →
      Q (-1 : Int32) S1)
    ∧ (¬ (z2 = 0) →
      wp_X5_isNumber x2 S1 (fun z4 S3 =>
        ((z4 = 0 →
          Q (-1 : Int32) S3)
        ∧ (¬ (z4 = 0) →
          ((x3 < 0 →
            Q (-1 : Int32) S3)
          ∧ (¬ (x3 < 0) →
            ((x3 ≤ (1 : Int32) →
              (kd S3 a0 = 6) ∧
              ∃ r5, gR S3 56 a0 = some r5 ∧
              (kd S3 r5 = 10 ∨ kd S3 r5 = 11) ∧
              (vp_in x1 (ln S3 r5)) ∧
              ((gQ S3 r5 (x1).toNatClampNeg = none →
                (kd S3 a0 = 6) ∧
                wp_X5_notHeld a0 x1 S3 (fun z8 S7 =>
                  Q z8 S7))
              ∧ (∀ r6, gQ S3 r5 (x1).toNatClampNeg = some r6 →
                (kd S3 a0 = 6) ∧
                wp_X5_leastLifted a0 r6 x2 S3 (fun z10 S9 =>
                  ((z10 < 0 →
                    Q z10 S9)
                  ∧ (¬ (z10 < 0) →
                    ((¬ x3 = (1 : Int32) →
                      (kd S9 a0 = 6) ∧
                      ∃ r11, gR S9 51 a0 = some r11 ∧
                      (kd S9 r11 = 1) ∧
                      wp_X0_liftsOf r11 z10 S9 (fun z13 S12 =>
                        Q z13 S12))
                    ∧ (x3 = (1 : Int32) →
                      Q z10 S9))))))))
            ∧ (¬ (x3 ≤ (1 : Int32)) →
              Q (-1 : Int32) S3))))))))))
def wp_X5_canBeHad (x0 : Int32) (S : Hp) (Q : Int32 → Hp → Prop) : Prop :=
  ((x0 < (1 : Int32) →
    Q (0 : Int32) S)
  ∧ (¬ (x0 < (1 : Int32)) →
    (((999 : Int32) < x0 →
      Q (0 : Int32) S)
    ∧ (¬ ((999 : Int32) < x0) →
      Q (1 : Int32) S))))
def J_X5_markHad_66 (C11 : Nat × Nat × Nat × Int32 × Int32 × Hp → Prop) (Q : Hp → Prop) (v0 : Nat) (v1 : Nat) (v2 : Nat) (v3 : Int32) (v4 : Int32) (S : Hp) : Prop :=
    ∀ y1, y1 = v4 + (1 : Int32) →
    C11 (v0, v1, v2, v3, y1, S)
def L_X5_markHad_11  (Q : Hp → Prop) (C11 : Nat × Nat × Nat × Int32 × Int32 × Hp → Prop) : Nat × Nat × Nat × Int32 × Int32 × Hp → Prop := fun (v0, v1, v2, v3, v4, S) =>
    (kd S v2 = 1) ∧
    (((gI S 4 v2) ≤ v4 →
      Q S)
    ∧ (¬ ((gI S 4 v2) ≤ v4) →
      (kd S v2 = 1) ∧
      wp_X0_notOff v2 v4 S (fun z2 S1 =>
        ((¬ (z2 &&& v3) = 0 →
          (J_X5_markHad_66 C11 Q v0 v1 v2 v3 v4 S1))
        ∧ ((z2 &&& v3) = 0 →
          (kd S1 v1 = 3) ∧
          wp_X2_allows v1 v2 v4 S1 (fun z4 S3 =>
            ((z4 = 0 →
              (J_X5_markHad_66 C11 Q v0 v1 v2 v3 v4 S3))
            ∧ (¬ (z4 = 0) →
              (kd S3 v1 = 3) ∧
              wp_X2_weightOf v1 v2 v4 S3 (fun z6 S5 =>
                wp_X5_canBeHad z6 S5 (fun z8 S7 =>
                  ((z8 = 0 →
                    (J_X5_markHad_66 C11 Q v0 v1 v2 v3 v4 S7))
                  ∧ (¬ (z8 = 0) →
                    (kd S7 v0 = 6) ∧
                    ∃ r9, gR S7 60 v0 = some r9 ∧
                    (kd S7 r9 = 8) ∧
                    (vp_in z6 (ln S7 r9)) ∧
                    ∀ S10, S10 = sA S7 r9 (z6).toNatClampNeg (1 : Int32) →
                    J_X5_markHad_66 C11 Q v0 v1 v2 v3 v4 S10))))))))))))
def wp_X5_markHad (a0 : Nat) (a1 : Nat) (a2 : Nat) (x3 : Int32) (S : Hp) (Q : Hp → Prop) : Prop :=
  (kd S a0 = 6) ∧
  ∃ r11, gR S 60 a0 = some r11 ∧
  wp_J7_fill_53178 r11 (0 : Int32) S (fun S12 =>
    ∃ n, it (L_X5_markHad_11  Q) n (a0, a1, a2, x3, (0 : Int32), S12))
def L_X5_firstNotHad_9  (Q : Int32 → Hp → Prop) (C9 : Nat × Int32 × Hp → Prop) : Nat × Int32 × Hp → Prop := fun (v0, v3, S) =>
    (((999 : Int32) < v3 →
      Q v3 S)
    ∧ (¬ ((999 : Int32) < v3) →
      (kd S v0 = 6) ∧
      ∃ r1, gR S 60 v0 = some r1 ∧
      (kd S r1 = 8) ∧
      (vp_in v3 (ln S r1)) ∧
      ((¬ (gA S r1 (v3).toNatClampNeg) = (1 : Int32) →
        Q v3 S)
      ∧ ((gA S r1 (v3).toNatClampNeg) = (1 : Int32) →
        ∀ y2, y2 = v3 + (1 : Int32) →
        C9 (v0, y2, S)))))
def wp_X5_firstNotHad (a0 : Nat) (a1 : Nat) (a2 : Nat) (S : Hp) (Q : Int32 → Hp → Prop) : Prop :=
  (kd S a0 = 6) ∧
  wp_X5_markHad a0 a1 a2 (0 : Int32) S (fun S3 =>
    ∃ n, it (L_X5_firstNotHad_9  Q) n (a0, (1 : Int32), S3))
def wp_X5_reach (a0 : Nat) (x1 : Int32) (S : Hp) (Q : Int32 → Hp → Prop) : Prop :=
  wp_X5_isShelf x1 S (fun z2 S1 =>
    ((¬ z2 = 0 →
      (kd S1 a0 = 6) ∧
      ∃ r3, gR S1 56 a0 = some r3 ∧
      (kd S1 r3 = 10 ∨ kd S1 r3 = 11) ∧
      (vp_in x1 (ln S1 r3)) ∧
      ((gQ S1 r3 (x1).toNatClampNeg = none →
        (kd S1 a0 = 6) ∧
        wp_X5_notHeld a0 x1 S1 (fun z6 S5 =>
          Q z6 S5))
      ∧ (∀ r4, gQ S1 r3 (x1).toNatClampNeg = some r4 →
        (kd S1 a0 = 6) ∧
        ∃ r7, gR S1 51 a0 = some r7 ∧
        (kd S1 a0 = 6) ∧
        wp_X5_firstNotHad a0 r4 r7 S1 (fun z9 S8 =>
          Q (z9 - (1 : Int32)) S8))))
    ∧ (z2 = 0 →
      Q (-1 : Int32) S1)))
def wp_X5_hole (a0 : Nat) (x1 : Int32) (S : Hp) (Q : Int32 → Hp → Prop) : Prop :=
  wp_X5_isShelf x1 S (fun z2 S1 =>
    ((¬ z2 = 0 →
      (kd S1 a0 = 6) ∧
      ∃ r3, gR S1 56 a0 = some r3 ∧
      (kd S1 r3 = 10 ∨ kd S1 r3 = 11) ∧
      (vp_in x1 (ln S1 r3)) ∧
      ((gQ S1 r3 (x1).toNatClampNeg = none →
        (kd S1 a0 = 6) ∧
        wp_X5_notHeld a0 x1 S1 (fun z6 S5 =>
          Q z6 S5))
      ∧ (∀ r4, gQ S1 r3 (x1).toNatClampNeg = some r4 →
        (kd S1 a0 = 6) ∧
        ∃ r7, gR S1 51 a0 = some r7 ∧
        (kd S1 a0 = 6) ∧
        wp_X5_firstNotHad a0 r4 r7 S1 (fun z9 S8 =>
          (((999 : Int32) < z9 →
            Q (-4 : Int32) S8)
          ∧ (¬ ((999 : Int32) < z9) →
            Q z9 S8))))))
    ∧ (z2 = 0 →
      Q (-1 : Int32) S1)))
def L_X5_isList_21  (Q : Int32 → Hp → Prop) (C21 : Nat × Int32 × Int32 × Hp → Prop) : Nat × Int32 × Int32 × Hp → Prop := fun (v0, v1, v2, S) =>
    ((v1 ≤ v2 →
      Q (1 : Int32) S)
    ∧ (¬ (v1 ≤ v2) →
      (kd S v0 = 2) ∧
      ∃ r1, gR S 11 v0 = some r1 ∧
      (kd S r1 = 8) ∧
      (vp_in v2 (ln S r1)) ∧
      wp_X5_canBeHad (gA S r1 (v2).toNatClampNeg) S (fun z3 S2 =>
        ((¬ z3 = 0 →
          ∀ y4, y4 = v2 + (1 : Int32) →
          C21 (v0, v1, y4, S2))
        ∧ (z3 = 0 →
          Q (0 : Int32) S2)))))
def wp_X5_isList (a0 : Nat) (S : Hp) (Q : Int32 → Hp → Prop) : Prop :=
  (kd S a0 = 2) ∧
  ∃ r5, gR S 11 a0 = some r5 ∧
  (kd S r5 = 8) ∧
  ∀ y6, y6 = (Int32.ofNat (ln S r5)) →
  ((y6 < (1 : Int32) →
    Q (0 : Int32) S)
  ∧ (¬ (y6 < (1 : Int32)) →
    ((y6 ≤ (8 : Int32) →
      ∃ n, it (L_X5_isList_21  Q) n (a0, y6, (0 : Int32), S))
    ∧ (¬ (y6 ≤ (8 : Int32)) →
      Q (0 : Int32) S))))
def J_X5_markListed_66 (C10 : Nat × Nat × Nat × Int32 × Hp → Prop) (Q : Hp → Prop) (v0 : Nat) (v1 : Nat) (v2 : Nat) (v3 : Int32) (S : Hp) : Prop :=
    ∀ y1, y1 = v3 + (1 : Int32) →
    C10 (v0, v1, v2, y1, S)
def L_X5_markListed_10  (Q : Hp → Prop) (C10 : Nat × Nat × Nat × Int32 × Hp → Prop) : Nat × Nat × Nat × Int32 × Hp → Prop := fun (v0, v1, v2, v3, S) =>
    (kd S v0 = 6) ∧
    ∃ r1, gR S 51 v0 = some r1 ∧
    (kd S r1 = 1) ∧
    (((gI S 4 r1) ≤ v3 →
      Q S)
    ∧ (¬ ((gI S 4 r1) ≤ v3) →
      (kd S v0 = 6) ∧
      ∃ r2, gR S 51 v0 = some r2 ∧
      (kd S v1 = 3) ∧
      wp_X2_allows v1 r2 v3 S (fun z4 S3 =>
        ((z4 = 0 →
          (J_X5_markListed_66 C10 Q v0 v1 v2 v3 S3))
        ∧ (¬ (z4 = 0) →
          (kd S3 v0 = 6) ∧
          ∃ r5, gR S3 51 v0 = some r5 ∧
          (kd S3 v1 = 3) ∧
          wp_X2_weightOf v1 r5 v3 S3 (fun z7 S6 =>
            (kd S6 v2 = 2) ∧
            wp_X1_placesOf v2 z7 S6 (fun z9 S8 =>
              (kd S8 v0 = 6) ∧
              ∃ r10, gR S8 61 v0 = some r10 ∧
              (kd S8 v0 = 6) ∧
              ∃ r11, gR S8 51 v0 = some r11 ∧
              (kd S8 r11 = 1) ∧
              wp_X0_notOff r11 v3 S8 (fun z13 S12 =>
                (kd S12 r10 = 8) ∧
                (vp_in z13 (ln S12 r10)) ∧
                (kd S12 r10 = 8) ∧
                (vp_in z13 (ln S12 r10)) ∧
                ∀ S14, S14 = sA S12 r10 (z13).toNatClampNeg ((gA S12 r10 (z13).toNatClampNeg) ||| z9) →
                J_X5_markListed_66 C10 Q v0 v1 v2 v3 S14))))))))
def wp_X5_markListed (a0 : Nat) (a1 : Nat) (a2 : Nat) (S : Hp) (Q : Hp → Prop) : Prop :=
  (kd S a0 = 6) ∧
  ∃ r15, gR S 61 a0 = some r15 ∧
  wp_J7_fill_53178 r15 (0 : Int32) S (fun S16 =>
    ∃ n, it (L_X5_markListed_10  Q) n (a0, a1, a2, (0 : Int32), S16))
def J_X5_listedWithin_26 (C4 : Nat × Int32 × Int32 × Int32 × Hp → Prop) (Q : Int32 → Hp → Prop) (v0 : Nat) (v1 : Int32) (v2 : Int32) (v3 : Int32) (S : Hp) : Prop :=
    ∀ y1, y1 = v3 + (1 : Int32) →
    C4 (v0, v1, v2, y1, S)
def L_X5_listedWithin_4  (Q : Int32 → Hp → Prop) (C4 : Nat × Int32 × Int32 × Int32 × Hp → Prop) : Nat × Int32 × Int32 × Int32 × Hp → Prop := fun (v0, v1, v2, v3, S) =>
    ((v1 < v3 →
      Q v2 S)
    ∧ (¬ (v1 < v3) →
      ((¬ (v3 &&& (v1 ^^^ (-1 : Int32))) = 0 →
        (J_X5_listedWithin_26 C4 Q v0 v1 v2 v3 S))
      ∧ ((v3 &&& (v1 ^^^ (-1 : Int32))) = 0 →
        (kd S v0 = 6) ∧
        ∃ r1, gR S 61 v0 = some r1 ∧
        (kd S r1 = 8) ∧
        (vp_in v3 (ln S r1)) ∧
        ∀ y2, y2 = (v2 ||| (gA S r1 (v3).toNatClampNeg)) →
        J_X5_listedWithin_26 C4 Q v0 v1 y2 v3 S))))
def wp_X5_listedWithin (a0 : Nat) (x1 : Int32) (S : Hp) (Q : Int32 → Hp → Prop) : Prop :=
  ∃ n, it (L_X5_listedWithin_4  Q) n (a0, x1, (0 : Int32), (0 : Int32), S)
def wp_X5_rankOf (a0 : Nat) (x1 : Int32) (x2 : Int32) (x3 : Int32) (S : Hp) (Q : Int32 → Hp → Prop) : Prop :=
  wp_J6_bitCount_0f7a4 x1 S (fun z2 S1 =>
    (kd S1 a0 = 6) ∧
    ∃ r3, gR S1 50 a0 = some r3 ∧
    (kd S1 r3 = 5) ∧
    wp_X4_pricesOf r3 (x1 &&& (x2 ^^^ (-1 : Int32))) S1 (fun z5 S4 =>
      ((x3 = 0 →
        Q ((z5 * (1000 : Int32)) + z2) S4)
      ∧ (¬ (x3 = 0) →
        Q ((z2 * (1000 : Int32)) + z5) S4))))
def J_X5_bestSet_141 (C79 : Nat × Int32 × Int32 × Int32 × Int32 × Int32 × Int32 × Hp → Prop) (Q : Int32 → Hp → Prop) (v0 : Nat) (v3 : Int32) (v4 : Int32) (v7 : Int32) (v8 : Int32) (v9 : Int32) (v10 : Int32) (S : Hp) : Prop :=
    ∀ y1, y1 = v10 + (1 : Int32) →
    C79 (v0, v3, v4, v7, v8, v9, y1, S)
def J_X5_bestSet_133 (C79 : Nat × Int32 × Int32 × Int32 × Int32 × Int32 × Int32 × Hp → Prop) (Q : Int32 → Hp → Prop) (v0 : Nat) (v3 : Int32) (v4 : Int32) (v7 : Int32) (v10 : Int32) (v11 : Int32) (S : Hp) : Prop :=
    J_X5_bestSet_141 C79 Q v0 v3 v4 v7 v10 v11 v10 S
def L_X5_bestSet_79  (Q : Int32 → Hp → Prop) (C79 : Nat × Int32 × Int32 × Int32 × Int32 × Int32 × Int32 × Hp → Prop) : Nat × Int32 × Int32 × Int32 × Int32 × Int32 × Int32 × Hp → Prop := fun (v0, v3, v4, v7, v8, v9, v10, S) =>
    (kd S v0 = 6) ∧
    ∃ r1, gR S 50 v0 = some r1 ∧
    (kd S r1 = 5) ∧
    wp_X4_all r1 S (fun z3 S2 =>
      ((z3 < v10 →
        Q v8 S2)
      ∧ (¬ (z3 < v10) →
        ((¬ (v10 &&& v3) = v3 →
          (J_X5_bestSet_141 C79 Q v0 v3 v4 v7 v8 v9 v10 S2))
        ∧ ((v10 &&& v3) = v3 →
          (kd S2 v0 = 6) ∧
          wp_X5_listedWithin v0 v10 S2 (fun z5 S4 =>
            ((¬ z5 = v7 →
              (J_X5_bestSet_141 C79 Q v0 v3 v4 v7 v8 v9 v10 S4))
            ∧ (z5 = v7 →
              (kd S4 v0 = 6) ∧
              wp_X5_rankOf v0 v10 v3 v4 S4 (fun z7 S6 =>
                ((v8 < 0 →
                  (J_X5_bestSet_133 C79 Q v0 v3 v4 v7 v10 z7 S6))
                ∧ (¬ (v8 < 0) →
                  ((v9 ≤ z7 →
                    (J_X5_bestSet_141 C79 Q v0 v3 v4 v7 v8 v9 v10 S6))
                  ∧ (¬ (v9 ≤ z7) →
                    (J_X5_bestSet_133 C79 Q v0 v3 v4 v7 v10 z7 S6))))))))))))))
def wp_X5_bestSet (a0 : Nat) (x1 : Int32) (x2 : Int32) (x3 : Int32) (x4 : Int32) (S : Hp) (Q : Int32 → Hp → Prop) : Prop :=
  (kd S a0 = 6) ∧
  ∃ r8, gR S 56 a0 = some r8 ∧
  (kd S r8 = 10 ∨ kd S r8 = 11) ∧
  (vp_in x1 (ln S r8)) ∧
  ((gQ S r8 (x1).toNatClampNeg = none →
    (kd S a0 = 6) ∧
    wp_X5_notHeld a0 x1 S (fun z11 S10 =>
      Q z11 S10))
  ∧ (∀ r9, gQ S r8 (x1).toNatClampNeg = some r9 →
    (kd S a0 = 6) ∧
    wp_X5_rowOfSort a0 x2 (1 : Int32) S (fun z13 S12 =>
      ((z13 = none →
        (kd S12 a0 = 6) ∧
        wp_X5_notHeld a0 x2 S12 (fun z16 S15 =>
          Q z16 S15))
      ∧ (∀ r14, z13 = some r14 →
        wp_X5_isList r14 S12 (fun z18 S17 =>
          ((¬ z18 = 0 →
            (kd S17 a0 = 6) ∧
            wp_X5_markListed a0 r9 r14 S17 (fun S19 =>
              (kd S19 r14 = 2) ∧
              ∃ r20, gR S19 11 r14 = some r20 ∧
              (kd S19 r20 = 8) ∧
              ∀ y21, y21 = (((1 : Int32) <<< ((Int32.ofNat (ln S19 r20)) &&& 31)) - (1 : Int32)) →
              ∃ n, it (L_X5_bestSet_79  Q) n (a0, x3, x4, y21, (-4 : Int32), (0 : Int32), (0 : Int32), S19)))
          ∧ (z18 = 0 →
            Q (-13 : Int32) S17))))))))
def wp_X5_list (a0 : Nat) (x1 : Int32) (x2 : Int32) (S : Hp) (Q : Int32 → Hp → Prop) : Prop :=
  wp_X5_isShelf x1 S (fun z2 S1 =>
    ((z2 = 0 →
      Q (-1 : Int32) S1)
    ∧ (¬ (z2 = 0) →
      wp_X5_isShelf x2 S1 (fun z4 S3 =>
        ((¬ z4 = 0 →
          (kd S3 a0 = 6) ∧
          wp_X5_bestSet a0 x1 x2 (0 : Int32) (1 : Int32) S3 (fun z6 S5 =>
            Q z6 S5))
        ∧ (z4 = 0 →
          Q (-1 : Int32) S3))))))
def wp_X5_cheapest (a0 : Nat) (x1 : Int32) (x2 : Int32) (x3 : Int32) (x4 : Int32) (S : Hp) (Q : Int32 → Hp → Prop) : Prop :=
  wp_X5_isShelf x1 S (fun z2 S1 =>
    ((z2 = 0 →
      Q (-1 : Int32) S1)
    ∧ (¬ (z2 = 0) →
      wp_X5_isShelf x2 S1 (fun z4 S3 =>
        ((z4 = 0 →
          Q (-1 : Int32) S3)
        ∧ (¬ (z4 = 0) →
          (kd S3 a0 = 6) ∧
          ∃ r5, gR S3 50 a0 = some r5 ∧
          (kd S3 r5 = 5) ∧
          wp_X4_areStones r5 x3 S3 (fun z7 S6 =>
            ((z7 = 0 →
              Q (-1 : Int32) S6)
            ∧ (¬ (z7 = 0) →
              ((x4 < 0 →
                Q (-1 : Int32) S6)
              ∧ (¬ (x4 < 0) →
                ((x4 ≤ (1 : Int32) →
                  (kd S6 a0 = 6) ∧
                  wp_X5_bestSet a0 x1 x2 x3 (0 : Int32) S6 (fun z9 S8 =>
                    ((z9 < 0 →
                      Q z9 S8)
                    ∧ (¬ (z9 < 0) →
                      ((¬ x4 = 0 →
                        (kd S8 a0 = 6) ∧
                        ∃ r10, gR S8 50 a0 = some r10 ∧
                        (kd S8 r10 = 5) ∧
                        wp_X4_pricesOf r10 (z9 &&& (x3 ^^^ (-1 : Int32))) S8 (fun z12 S11 =>
                          Q z12 S11))
                      ∧ (x4 = 0 →
                        Q z9 S8))))))
                ∧ (¬ (x4 ≤ (1 : Int32)) →
                  Q (-1 : Int32) S6)))))))))))))
def J_X5_ofSeries_55  (Q : Int32 → Hp → Prop) (v2 : Int32) (v3 : Int32) (v5 : Int32) (S : Hp) : Prop :=
    ((¬ v2 = (-1 : Int32) →
      ((¬ v5 = v2 →
        Q (-4 : Int32) S)
      ∧ (v5 = v2 →
        Q v3 S)))
    ∧ (v2 = (-1 : Int32) →
      Q (v5 + (1 : Int32)) S))
def L_X5_ofSeries_27  (Q : Int32 → Hp → Prop) (C27 : Int32 × Int32 × Int32 × Int32 × Int32 × Int32 × Hp → Prop) : Int32 × Int32 × Int32 × Int32 × Int32 × Int32 × Hp → Prop := fun (v0, v1, v2, v3, v4, v5, S) =>
    ((v1 ≤ v4 →
      (J_X5_ofSeries_55  Q v2 v3 v5 S))
    ∧ (¬ (v1 ≤ v4) →
      ((v5 = v2 →
        (J_X5_ofSeries_55  Q v2 v3 v5 S))
      ∧ (¬ (v5 = v2) →
        ∀ y1, y1 = (v3 * v0) →
        ∀ y2, y2 = (v4 + y1) →
        ∀ y3, y3 = v5 + (1 : Int32) →
        C27 (v0, v1, v2, y1, y2, y3, S)))))
def wp_X5_ofSeries (x0 : Int32) (x1 : Int32) (x2 : Int32) (S : Hp) (Q : Int32 → Hp → Prop) : Prop :=
  ((x1 < (1 : Int32) →
    Q (-1 : Int32) S)
  ∧ (¬ (x1 < (1 : Int32)) →
    (((9999 : Int32) < x1 →
      Q (-1 : Int32) S)
    ∧ (¬ ((9999 : Int32) < x1) →
      (((-1 : Int32) ≤ x2 →
        ∃ n, it (L_X5_ofSeries_27  Q) n (x0, x1, x2, (1 : Int32), (1 : Int32), (0 : Int32), S))
      ∧ (¬ ((-1 : Int32) ≤ x2) →
        Q (-1 : Int32) S))))))
def wp_X5_threes (a0 : Nat) (x1 : Int32) (x2 : Int32) (S : Hp) (Q : Int32 → Hp → Prop) : Prop :=
  wp_X5_ofSeries (3 : Int32) x1 x2 S (fun z2 S1 =>
    Q z2 S1)
def wp_X5_doubles (a0 : Nat) (x1 : Int32) (x2 : Int32) (S : Hp) (Q : Int32 → Hp → Prop) : Prop :=
  wp_X5_ofSeries (2 : Int32) x1 x2 S (fun z2 S1 =>
    Q z2 S1)
def wp_X5_withoutLowest (x0 : Int32) (S : Hp) (Q : Int32 → Hp → Prop) : Prop :=
  wp_J9_floorDiv_7cf53 (x0 + (1 : Int32)) (3 : Int32) S (fun z2 S1 =>
    Q z2 S1)
def wp_X5_lowestDigit (x0 : Int32) (S : Hp) (Q : Int32 → Hp → Prop) : Prop :=
  wp_J9_floorMod_7cf53 (x0 + (1 : Int32)) (3 : Int32) S (fun z2 S1 =>
    Q (z2 - (1 : Int32)) S1)
def J_X5_digits_47  (Q : Int32 → Hp → Prop) (v2 : Int32) (v3 : Int32) (v4 : Int32) (S : Hp) : Prop :=
    ((¬ v2 = (-1 : Int32) →
      wp_X5_lowestDigit v3 S (fun z2 S1 =>
        wp_J9_floorMod_7cf53 z2 (3 : Int32) S1 (fun z4 S3 =>
          Q z4 S3)))
    ∧ (v2 = (-1 : Int32) →
      Q v4 S))
def L_X5_digits_19  (Q : Int32 → Hp → Prop) (C19 : Int32 × Int32 × Int32 × Hp → Prop) : Int32 × Int32 × Int32 × Hp → Prop := fun (v2, v3, v4, S) =>
    ((v3 = 0 →
      (J_X5_digits_47  Q v2 v3 v4 S))
    ∧ (¬ (v3 = 0) →
      ((v4 = v2 →
        (J_X5_digits_47  Q v2 v3 v4 S))
      ∧ (¬ (v4 = v2) →
        (((10 : Int32) ≤ v4 →
          (J_X5_digits_47  Q v2 v3 v4 S))
        ∧ (¬ ((10 : Int32) ≤ v4) →
          wp_X5_withoutLowest v3 S (fun z2 S1 =>
            ∀ y3, y3 = v4 + (1 : Int32) →
            C19 (v2, z2, y3, S1))))))))
def wp_X5_digits (a0 : Nat) (x1 : Int32) (x2 : Int32) (S : Hp) (Q : Int32 → Hp → Prop) : Prop :=
  wp_X5_isNumber x1 S (fun z5 S4 =>
    ((z5 = 0 →
      Q (-1 : Int32) S4)
    ∧ (¬ (z5 = 0) →
      (((-1 : Int32) ≤ x2 →
        ∃ n, it (L_X5_digits_19  Q) n (x2, x1, (0 : Int32), S4))
      ∧ (¬ ((-1 : Int32) ≤ x2) →
        Q (-1 : Int32) S4)))))
def J_X5_added_67 (C30 : Int32 × Int32 × Int32 × Int32 × Int32 × Hp → Prop) (Q : Int32 → Hp → Prop) (v3 : Int32) (v4 : Int32) (v5 : Int32) (v6 : Int32) (v7 : Int32) (S : Hp) : Prop :=
    wp_X5_withoutLowest v3 S (fun z2 S1 =>
      wp_X5_withoutLowest v4 S1 (fun z4 S3 =>
        ∀ y5, y5 = v7 + (1 : Int32) →
        C30 (z2, z4, v5, v6, y5, S3)))
def L_X5_added_30  (Q : Int32 → Hp → Prop) (C30 : Int32 × Int32 × Int32 × Int32 × Int32 × Hp → Prop) : Int32 × Int32 × Int32 × Int32 × Int32 × Hp → Prop := fun (v3, v4, v5, v6, v7, S) =>
    (((10 : Int32) ≤ v7 →
      Q v6 S)
    ∧ (¬ ((10 : Int32) ≤ v7) →
      wp_X5_lowestDigit v3 S (fun z2 S1 =>
        wp_X5_lowestDigit v4 S1 (fun z4 S3 =>
          ∀ y5, y5 = ((z2 + z4) + v5) →
          wp_X5_withoutLowest y5 S3 (fun z7 S6 =>
            ((z7 = 0 →
              (J_X5_added_67 C30 Q v3 v4 z7 v6 v7 S6))
            ∧ (¬ (z7 = 0) →
              ∀ y8, y8 = v6 + (1 : Int32) →
              J_X5_added_67 C30 Q v3 v4 z7 y8 v7 S6)))))))
def wp_X5_added (a0 : Nat) (x1 : Int32) (x2 : Int32) (S : Hp) (Q : Int32 → Hp → Prop) : Prop :=
  wp_X5_isNumber x1 S (fun z10 S9 =>
    ((z10 = 0 →
      Q (-1 : Int32) S9)
    ∧ (¬ (z10 = 0) →
      wp_X5_isNumber x2 S9 (fun z12 S11 =>
        ((¬ z12 = 0 →
          ∃ n, it (L_X5_added_30  Q) n (x1, x2, (0 : Int32), (0 : Int32), (0 : Int32), S11))
        ∧ (z12 = 0 →
          Q (-1 : Int32) S11))))))
def L_X5_haveAll_26  (Q : Int32 → Hp → Prop) (C26 : Int32 × Int32 × Int64 × Int32 × Hp → Prop) : Int32 × Int32 × Int64 × Int32 × Hp → Prop := fun (v2, v3, v4, v6, S) =>
    ((v3 < v6 →
      Q (1 : Int32) S)
    ∧ (¬ (v3 < v6) →
      ∀ y1, y1 = (((v4 >>> ((v6).toInt64 &&& 63)) ||| (v4 >>> (((if 0 ≤ (v6 - v2) then (v6 - v2) else 0 - (v6 - v2))).toInt64 &&& 63))) ||| (v4 >>> (((v6 + v2)).toInt64 &&& 63))) →
      ((¬ (lg_cmp (y1 &&& (1 : Int64)) (0 : Int64)) = 0 →
        ∀ y2, y2 = v6 + (1 : Int32) →
        C26 (v2, v3, v4, y2, S))
      ∧ ((lg_cmp (y1 &&& (1 : Int64)) (0 : Int64)) = 0 →
        Q (0 : Int32) S))))
def wp_X5_haveAll (x0 : Int32) (x1 : Int32) (x2 : Int32) (x3 : Int32) (S : Hp) (Q : Int32 → Hp → Prop) : Prop :=
  ∀ y3, y3 = (((((1 : Int64) ||| ((1 : Int64) <<< ((x0).toInt64 &&& 63))) ||| ((1 : Int64) <<< ((x1).toInt64 &&& 63))) ||| ((1 : Int64) <<< (((x1 - x0)).toInt64 &&& 63))) ||| ((1 : Int64) <<< (((x1 + x0)).toInt64 &&& 63))) →
  ∃ n, it (L_X5_haveAll_26  Q) n (x2, x3, y3, (1 : Int32), S)
def J_X5_searchSets_119 (C39 : Int32 × Int32 × Int32 × Int32 × Int32 × Int32 × Int32 × Int32 × Hp → Prop) (C61 : Int32 × Int32 × Int32 × Int32 × Int32 × Int32 × Int32 × Int32 × Int32 × Hp → Prop) (C74 : Int32 × Int32 × Int32 × Int32 × Int32 × Int32 × Int32 × Int32 × Int32 × Int32 × Hp → Prop) (Q : Int32 → Hp → Prop) (v0 : Int32) (v1 : Int32) (v2 : Int32) (v3 : Int32) (v4 : Int32) (v5 : Int32) (v6 : Int32) (v7 : Int32) (v8 : Int32) (v9 : Int32) (S : Hp) : Prop :=
    ∀ y1, y1 = v9 + (1 : Int32) →
    C74 (v0, v1, v2, v3, v4, v5, v6, v7, v8, y1, S)
def L_X5_searchSets_74 (C39 : Int32 × Int32 × Int32 × Int32 × Int32 × Int32 × Int32 × Int32 × Hp → Prop) (C61 : Int32 × Int32 × Int32 × Int32 × Int32 × Int32 × Int32 × Int32 × Int32 × Hp → Prop) (Q : Int32 → Hp → Prop) (C74 : Int32 × Int32 × Int32 × Int32 × Int32 × Int32 × Int32 × Int32 × Int32 × Int32 × Hp → Prop) : Int32 × Int32 × Int32 × Int32 × Int32 × Int32 × Int32 × Int32 × Int32 × Int32 × Hp → Prop := fun (v0, v1, v2, v3, v4, v5, v6, v7, v8, v9, S) =>
    ((v1 < v9 →
      ∀ y1, y1 = v8 + (1 : Int32) →
      C61 (v0, v1, v2, v3, v4, v5, v6, v7, y1, S))
    ∧ (¬ (v1 < v9) →
      wp_X5_haveAll v7 v8 v9 v2 S (fun z3 S2 =>
        ((¬ z3 = 0 →
          ((v3 = 0 →
            ∀ y4, y4 = v4 + (1 : Int32) →
            J_X5_searchSets_119 C39 C61 C74 Q v0 v1 v2 v3 y4 v5 v6 v7 v8 v9 S2)
          ∧ (¬ (v3 = 0) →
            Q (((v7 * (10000 : Int32)) + (v8 * (100 : Int32))) + v9) S2)))
        ∧ (z3 = 0 →
          J_X5_searchSets_119 C39 C61 C74 Q v0 v1 v2 v3 v4 v5 v6 v7 v8 v9 S2)))))
def L_X5_searchSets_61 (C39 : Int32 × Int32 × Int32 × Int32 × Int32 × Int32 × Int32 × Int32 × Hp → Prop) (Q : Int32 → Hp → Prop) (C61 : Int32 × Int32 × Int32 × Int32 × Int32 × Int32 × Int32 × Int32 × Int32 × Hp → Prop) : Int32 × Int32 × Int32 × Int32 × Int32 × Int32 × Int32 × Int32 × Int32 × Hp → Prop := fun (v0, v1, v2, v3, v4, v5, v6, v7, v8, S) =>
    ((v6 < v8 →
      ∀ y1, y1 = v7 + (1 : Int32) →
      C39 (v0, v1, v2, v3, v4, v5, v6, y1, S))
    ∧ (¬ (v6 < v8) →
      ∀ y2, y2 = (v8 + (1 : Int32)) →
      ∃ n, it (L_X5_searchSets_74 C39 C61 Q) n (v0, v1, v2, v3, v4, v5, v6, v7, v8, y2, S)))
def J_X5_searchSets_59 (C39 : Int32 × Int32 × Int32 × Int32 × Int32 × Int32 × Int32 × Int32 × Hp → Prop) (Q : Int32 → Hp → Prop) (v0 : Int32) (v1 : Int32) (v2 : Int32) (v3 : Int32) (v4 : Int32) (v5 : Int32) (v6 : Int32) (v7 : Int32) (w0 : Int32) (S : Hp) : Prop :=
    ∃ n, it (L_X5_searchSets_61 C39 Q) n (v0, v1, v2, v3, v4, v5, v6, v7, w0, S)
def L_X5_searchSets_39  (Q : Int32 → Hp → Prop) (C39 : Int32 × Int32 × Int32 × Int32 × Int32 × Int32 × Int32 × Int32 × Hp → Prop) : Int32 × Int32 × Int32 × Int32 × Int32 × Int32 × Int32 × Int32 × Hp → Prop := fun (v0, v1, v2, v3, v4, v5, v6, v7, S) =>
    ((v5 < v7 →
      ((v3 = 0 →
        Q v4 S)
      ∧ (¬ (v3 = 0) →
        Q (-4 : Int32) S)))
    ∧ (¬ (v5 < v7) →
      ((v0 < (2 : Int32) →
        J_X5_searchSets_59 C39 Q v0 v1 v2 v3 v4 v5 v6 v7 (0 : Int32) S)
      ∧ (¬ (v0 < (2 : Int32)) →
        J_X5_searchSets_59 C39 Q v0 v1 v2 v3 v4 v5 v6 v7 (v7 + (1 : Int32)) S))))
def J_X5_searchSets_37  (Q : Int32 → Hp → Prop) (v0 : Int32) (v1 : Int32) (v2 : Int32) (v3 : Int32) (v4 : Int32) (v5 : Int32) (v6 : Int32) (w0 : Int32) (S : Hp) : Prop :=
    ∃ n, it (L_X5_searchSets_39  Q) n (v0, v1, v2, v3, v4, v5, v6, w0, S)
def J_X5_searchSets_25  (Q : Int32 → Hp → Prop) (v0 : Int32) (v1 : Int32) (v2 : Int32) (v3 : Int32) (v4 : Int32) (v5 : Int32) (w0 : Int32) (S : Hp) : Prop :=
    ((¬ v0 = (3 : Int32) →
      J_X5_searchSets_37  Q v0 v1 v2 v3 v4 v5 w0 (0 : Int32) S)
    ∧ (v0 = (3 : Int32) →
      J_X5_searchSets_37  Q v0 v1 v2 v3 v4 v5 w0 (1 : Int32) S))
def J_X5_searchSets_13  (Q : Int32 → Hp → Prop) (v0 : Int32) (v1 : Int32) (v2 : Int32) (v3 : Int32) (v4 : Int32) (w0 : Int32) (S : Hp) : Prop :=
    ((v0 < (2 : Int32) →
      J_X5_searchSets_25  Q v0 v1 v2 v3 v4 w0 (0 : Int32) S)
    ∧ (¬ (v0 < (2 : Int32)) →
      J_X5_searchSets_25  Q v0 v1 v2 v3 v4 w0 v1 S))
def wp_X5_searchSets (x0 : Int32) (x1 : Int32) (x2 : Int32) (x3 : Int32) (S : Hp) (Q : Int32 → Hp → Prop) : Prop :=
  ((¬ x0 = (3 : Int32) →
    J_X5_searchSets_13  Q x0 x1 x2 x3 (0 : Int32) (0 : Int32) S)
  ∧ (x0 = (3 : Int32) →
    J_X5_searchSets_13  Q x0 x1 x2 x3 (0 : Int32) x1 S))
def J_X5_sets_59  (Q : Int32 → Hp → Prop) (w0 : Int32) (w1 : Int32) (w2 : Int32) (w3 : Int32) (S : Hp) : Prop :=
    wp_X5_searchSets w0 w1 w2 w3 S (fun z2 S1 =>
      Q z2 S1)
def wp_X5_sets (a0 : Nat) (x1 : Int32) (x2 : Int32) (x3 : Int32) (x4 : Int32) (S : Hp) (Q : Int32 → Hp → Prop) : Prop :=
  ((x1 < (1 : Int32) →
    Q (-1 : Int32) S)
  ∧ (¬ (x1 < (1 : Int32)) →
    (((3 : Int32) < x1 →
      Q (-1 : Int32) S)
    ∧ (¬ ((3 : Int32) < x1) →
      ((x2 < (1 : Int32) →
        Q (-1 : Int32) S)
      ∧ (¬ (x2 < (1 : Int32)) →
        (((30 : Int32) < x2 →
          Q (-1 : Int32) S)
        ∧ (¬ ((30 : Int32) < x2) →
          ((x3 < (1 : Int32) →
            Q (-1 : Int32) S)
          ∧ (¬ (x3 < (1 : Int32)) →
            (((13 : Int32) < x3 →
              Q (-1 : Int32) S)
            ∧ (¬ ((13 : Int32) < x3) →
              ((x4 < 0 →
                Q (-1 : Int32) S)
              ∧ (¬ (x4 < 0) →
                ((x4 ≤ (1 : Int32) →
                  ((¬ x4 = (1 : Int32) →
                    J_X5_sets_59  Q x1 x2 x3 (0 : Int32) S)
                  ∧ (x4 = (1 : Int32) →
                    J_X5_sets_59  Q x1 x2 x3 (1 : Int32) S)))
                ∧ (¬ (x4 ≤ (1 : Int32)) →
                  Q (-1 : Int32) S))))))))))))))))
def J_X5_lostWithout_37 (C18 : Nat × Int32 × Int32 × Int32 × Hp → Prop) (Q : Int32 → Hp → Prop) (v0 : Nat) (v3 : Int32) (v4 : Int32) (v5 : Int32) (S : Hp) : Prop :=
    ∀ y1, y1 = v5 + (1 : Int32) →
    C18 (v0, v3, v4, y1, S)
def L_X5_lostWithout_18  (Q : Int32 → Hp → Prop) (C18 : Nat × Int32 × Int32 × Int32 × Hp → Prop) : Nat × Int32 × Int32 × Int32 × Hp → Prop := fun (v0, v3, v4, v5, S) =>
    ((v3 < v5 →
      Q v4 S)
    ∧ (¬ (v3 < v5) →
      (kd S v0 = 6) ∧
      ∃ r1, gR S 60 v0 = some r1 ∧
      (kd S r1 = 8) ∧
      (vp_in v5 (ln S r1)) ∧
      ((¬ (gA S r1 (v5).toNatClampNeg) = 0 →
        (J_X5_lostWithout_37 C18 Q v0 v3 v4 v5 S))
      ∧ ((gA S r1 (v5).toNatClampNeg) = 0 →
        ∀ y2, y2 = v4 + (1 : Int32) →
        J_X5_lostWithout_37 C18 Q v0 v3 y2 v5 S))))
def wp_X5_lostWithout (a0 : Nat) (a1 : Nat) (x2 : Int32) (x3 : Int32) (S : Hp) (Q : Int32 → Hp → Prop) : Prop :=
  (kd S a0 = 6) ∧
  ∃ r3, gR S 51 a0 = some r3 ∧
  (kd S a0 = 6) ∧
  wp_X5_markHad a0 a1 r3 ((1 : Int32) <<< (x2 &&& 31)) S (fun S4 =>
    ∃ n, it (L_X5_lostWithout_18  Q) n (a0, x3, (0 : Int32), (1 : Int32), S4))
def wp_X5_lost (a0 : Nat) (x1 : Int32) (x2 : Int32) (S : Hp) (Q : Int32 → Hp → Prop) : Prop :=
  wp_X5_isShelf x1 S (fun z2 S1 =>
    ((z2 = 0 →
      Q (-1 : Int32) S1)
    ∧ (¬ (z2 = 0) →
      (kd S1 a0 = 6) ∧
      ∃ r3, gR S1 50 a0 = some r3 ∧
      (kd S1 r3 = 5) ∧
      wp_X4_isStone r3 x2 S1 (fun z5 S4 =>
        ((¬ z5 = 0 →
          (kd S4 a0 = 6) ∧
          ∃ r6, gR S4 56 a0 = some r6 ∧
          (kd S4 r6 = 10 ∨ kd S4 r6 = 11) ∧
          (vp_in x1 (ln S4 r6)) ∧
          ((gQ S4 r6 (x1).toNatClampNeg = none →
            (kd S4 a0 = 6) ∧
            wp_X5_notHeld a0 x1 S4 (fun z9 S8 =>
              Q z9 S8))
          ∧ (∀ r7, gQ S4 r6 (x1).toNatClampNeg = some r7 →
            (kd S4 a0 = 6) ∧
            ∃ r10, gR S4 51 a0 = some r10 ∧
            (kd S4 a0 = 6) ∧
            wp_X5_firstNotHad a0 r7 r10 S4 (fun z12 S11 =>
              (kd S11 a0 = 6) ∧
              wp_X5_lostWithout a0 r7 x2 (z12 - (1 : Int32)) S11 (fun z14 S13 =>
                Q z14 S13)))))
        ∧ (z5 = 0 →
          Q (-1 : Int32) S4))))))
def J_X5_harmsLeast_90 (C48 : Nat × Nat × Int32 × Int32 × Int32 × Int32 × Hp → Prop) (Q : Int32 → Hp → Prop) (v0 : Nat) (v2 : Nat) (v3 : Int32) (v4 : Int32) (v5 : Int32) (v6 : Int32) (S : Hp) : Prop :=
    ∀ y1, y1 = v6 + (1 : Int32) →
    C48 (v0, v2, v3, v4, v5, y1, S)
def J_X5_harmsLeast_82 (C48 : Nat × Nat × Int32 × Int32 × Int32 × Int32 × Hp → Prop) (Q : Int32 → Hp → Prop) (v0 : Nat) (v2 : Nat) (v3 : Int32) (v6 : Int32) (v7 : Int32) (S : Hp) : Prop :=
    J_X5_harmsLeast_90 C48 Q v0 v2 v3 v6 v7 v6 S
def L_X5_harmsLeast_48  (Q : Int32 → Hp → Prop) (C48 : Nat × Nat × Int32 × Int32 × Int32 × Int32 × Hp → Prop) : Nat × Nat × Int32 × Int32 × Int32 × Int32 × Hp → Prop := fun (v0, v2, v3, v4, v5, v6, S) =>
    (kd S v0 = 6) ∧
    ∃ r1, gR S 50 v0 = some r1 ∧
    (kd S r1 = 5) ∧
    (((gI S 42 r1) ≤ v6 →
      Q v4 S)
    ∧ (¬ ((gI S 42 r1) ≤ v6) →
      (kd S v0 = 6) ∧
      wp_X5_lostWithout v0 v2 v6 v3 S (fun z3 S2 =>
        ((v4 < 0 →
          (J_X5_harmsLeast_82 C48 Q v0 v2 v3 v6 z3 S2))
        ∧ (¬ (v4 < 0) →
          ((v5 ≤ z3 →
            (J_X5_harmsLeast_90 C48 Q v0 v2 v3 v4 v5 v6 S2))
          ∧ (¬ (v5 ≤ z3) →
            (J_X5_harmsLeast_82 C48 Q v0 v2 v3 v6 z3 S2))))))))
def wp_X5_harmsLeast (a0 : Nat) (x1 : Int32) (S : Hp) (Q : Int32 → Hp → Prop) : Prop :=
  wp_X5_isShelf x1 S (fun z5 S4 =>
    ((¬ z5 = 0 →
      (kd S4 a0 = 6) ∧
      ∃ r6, gR S4 56 a0 = some r6 ∧
      (kd S4 r6 = 10 ∨ kd S4 r6 = 11) ∧
      (vp_in x1 (ln S4 r6)) ∧
      ((gQ S4 r6 (x1).toNatClampNeg = none →
        (kd S4 a0 = 6) ∧
        wp_X5_notHeld a0 x1 S4 (fun z9 S8 =>
          Q z9 S8))
      ∧ (∀ r7, gQ S4 r6 (x1).toNatClampNeg = some r7 →
        (kd S4 a0 = 6) ∧
        ∃ r10, gR S4 51 a0 = some r10 ∧
        (kd S4 a0 = 6) ∧
        wp_X5_firstNotHad a0 r7 r10 S4 (fun z12 S11 =>
          ∀ y13, y13 = (z12 - (1 : Int32)) →
          ∃ n, it (L_X5_harmsLeast_48  Q) n (a0, r7, y13, (-4 : Int32), (0 : Int32), (0 : Int32), S11)))))
    ∧ (z5 = 0 →
      Q (-1 : Int32) S4)))
def L_X5_trials_28  (Q : Int32 → Hp → Prop) (C28 : Int32 × Int32 × Int32 × Hp → Prop) : Int32 × Int32 × Int32 × Hp → Prop := fun (v2, v3, v4, S) =>
    ((v2 ≤ v4 →
      Q v3 S)
    ∧ (¬ (v2 ≤ v4) →
      ∀ y1, y1 = v3 + (1 : Int32) →
      ∀ y2, y2 = (v4 * (3 : Int32)) →
      C28 (v2, y1, y2, S)))
def wp_X5_trials (a0 : Nat) (x1 : Int32) (S : Hp) (Q : Int32 → Hp → Prop) : Prop :=
  wp_J6_bitCount_0f7a4 x1 S (fun z4 S3 =>
    (kd S3 a0 = 6) ∧
    ∃ r5, gR S3 50 a0 = some r5 ∧
    (kd S3 r5 = 5) ∧
    wp_X4_areStones r5 x1 S3 (fun z7 S6 =>
      ((z7 = 0 →
        Q (-1 : Int32) S6)
      ∧ (¬ (z7 = 0) →
        (((2 : Int32) ≤ z4 →
          ∃ n, it (L_X5_trials_28  Q) n (z4, (0 : Int32), (1 : Int32), S6))
        ∧ (¬ ((2 : Int32) ≤ z4) →
          Q (-1 : Int32) S6))))))
def L_X5_areTrials_16  (Q : Int32 → Hp → Prop) (C16 : Nat × Int32 × Int32 × Hp → Prop) : Nat × Int32 × Int32 × Hp → Prop := fun (v0, v1, v2, S) =>
    ((v1 ≤ (v2 + (1 : Int32)) →
      Q (1 : Int32) S)
    ∧ (¬ (v1 ≤ (v2 + (1 : Int32))) →
      (kd S v0 = 2) ∧
      ∃ r1, gR S 11 v0 = some r1 ∧
      (kd S r1 = 8) ∧
      (vp_in v2 (ln S r1)) ∧
      ∀ y2, y2 = (gA S r1 (v2).toNatClampNeg) →
      (kd S v0 = 2) ∧
      ∃ r3, gR S 11 v0 = some r3 ∧
      (kd S r3 = 8) ∧
      (vp_in (v2 + (1 : Int32)) (ln S r3)) ∧
      ∀ y4, y4 = (gA S r3 ((v2 + (1 : Int32))).toNatClampNeg) →
      ((y2 < 0 →
        Q (0 : Int32) S)
      ∧ (¬ (y2 < 0) →
        (((81 : Int32) ≤ y2 →
          Q (0 : Int32) S)
        ∧ (¬ ((81 : Int32) ≤ y2) →
          ((y4 < 0 →
            Q (0 : Int32) S)
          ∧ (¬ (y4 < 0) →
            ((y4 ≤ (2 : Int32) →
              ∀ y5, y5 = v2 + (2 : Int32) →
              C16 (v0, v1, y5, S))
            ∧ (¬ (y4 ≤ (2 : Int32)) →
              Q (0 : Int32) S))))))))))
def wp_X5_areTrials (a0 : Nat) (S : Hp) (Q : Int32 → Hp → Prop) : Prop :=
  (kd S a0 = 2) ∧
  ∃ r6, gR S 11 a0 = some r6 ∧
  (kd S r6 = 8) ∧
  ∀ y7, y7 = (Int32.ofNat (ln S r6)) →
  (((y7 - y7 / (2 : Int32) * (2 : Int32)) = 0 →
    ∃ n, it (L_X5_areTrials_16  Q) n (a0, y7, (0 : Int32), S))
  ∧ (¬ ((y7 - y7 / (2 : Int32) * (2 : Int32)) = 0) →
    Q (0 : Int32) S))
def L_X5_isLighterBy_26 (C8 : Nat × Int32 × Int32 × Int32 × Hp → Prop) (Q : Int32 → Hp → Prop) (C26 : Nat × Int32 × Int32 × Int32 × Int32 × Int32 × Hp → Prop) : Nat × Int32 × Int32 × Int32 × Int32 × Int32 × Hp → Prop := fun (v0, v1, v2, v3, v4, v5, S) =>
    ((v1 ≤ v5 →
      (kd S v0 = 2) ∧
      ∃ r1, gR S 11 v0 = some r1 ∧
      (kd S r1 = 8) ∧
      (vp_in (v3 + (1 : Int32)) (ln S r1)) ∧
      (((v4 - v4 / (3 : Int32) * (3 : Int32)) = (gA S r1 ((v3 + (1 : Int32))).toNatClampNeg) →
        ∀ y2, y2 = v3 + (2 : Int32) →
        C8 (v0, v1, v2, y2, S))
      ∧ (¬ ((v4 - v4 / (3 : Int32) * (3 : Int32)) = (gA S r1 ((v3 + (1 : Int32))).toNatClampNeg)) →
        Q (0 : Int32) S)))
    ∧ (¬ (v1 ≤ v5) →
      ∀ y3, y3 = (v4 / (3 : Int32)) →
      ∀ y4, y4 = v5 + (1 : Int32) →
      C26 (v0, v1, v2, v3, y3, y4, S)))
def L_X5_isLighterBy_8  (Q : Int32 → Hp → Prop) (C8 : Nat × Int32 × Int32 × Int32 × Hp → Prop) : Nat × Int32 × Int32 × Int32 × Hp → Prop := fun (v0, v1, v2, v3, S) =>
    ((v2 ≤ (v3 + (1 : Int32)) →
      Q (1 : Int32) S)
    ∧ (¬ (v2 ≤ (v3 + (1 : Int32))) →
      (kd S v0 = 2) ∧
      ∃ r1, gR S 11 v0 = some r1 ∧
      (kd S r1 = 8) ∧
      (vp_in v3 (ln S r1)) ∧
      ∀ y2, y2 = (gA S r1 (v3).toNatClampNeg) →
      ∃ n, it (L_X5_isLighterBy_26 C8 Q) n (v0, v1, v2, v3, y2, (0 : Int32), S)))
def wp_X5_isLighterBy (a0 : Nat) (x1 : Int32) (S : Hp) (Q : Int32 → Hp → Prop) : Prop :=
  (kd S a0 = 2) ∧
  ∃ r3, gR S 11 a0 = some r3 ∧
  (kd S r3 = 8) ∧
  ∀ y4, y4 = (Int32.ofNat (ln S r3)) →
  ∃ n, it (L_X5_isLighterBy_8  Q) n (a0, x1, y4, (0 : Int32), S)
def J_X5_found_63 (C41 : Nat × Int32 × Int32 × Hp → Prop) (Q : Int32 → Hp → Prop) (v2 : Nat) (v3 : Int32) (v4 : Int32) (S : Hp) : Prop :=
    ∀ y1, y1 = v4 + (1 : Int32) →
    C41 (v2, v3, y1, S)
def L_X5_found_41  (Q : Int32 → Hp → Prop) (C41 : Nat × Int32 × Int32 × Hp → Prop) : Nat × Int32 × Int32 × Hp → Prop := fun (v2, v3, v4, S) =>
    (((4 : Int32) ≤ v4 →
      Q v3 S)
    ∧ (¬ ((4 : Int32) ≤ v4) →
      wp_X5_isLighterBy v2 v4 S (fun z2 S1 =>
        ((z2 = 0 →
          (J_X5_found_63 C41 Q v2 v3 v4 S1))
        ∧ (¬ (z2 = 0) →
          ∀ y3, y3 = (v3 ||| ((1 : Int32) <<< (v4 &&& 31))) →
          J_X5_found_63 C41 Q v2 y3 v4 S1)))))
def wp_X5_found (a0 : Nat) (x1 : Int32) (S : Hp) (Q : Int32 → Hp → Prop) : Prop :=
  wp_X5_isShelf x1 S (fun z5 S4 =>
    ((¬ z5 = 0 →
      (kd S4 a0 = 6) ∧
      wp_X5_rowOfSort a0 x1 (0 : Int32) S4 (fun z7 S6 =>
        ((z7 = none →
          (kd S6 a0 = 6) ∧
          wp_X5_notHeld a0 x1 S6 (fun z10 S9 =>
            Q z10 S9))
        ∧ (∀ r8, z7 = some r8 →
          wp_X5_areTrials r8 S6 (fun z12 S11 =>
            ((¬ z12 = 0 →
              ∃ n, it (L_X5_found_41  Q) n (r8, (0 : Int32), (0 : Int32), S11))
            ∧ (z12 = 0 →
              Q (-13 : Int32) S11)))))))
    ∧ (z5 = 0 →
      Q (-1 : Int32) S4)))
def J_X5_twice_11  (Q : Int32 → Hp → Prop) (v1 : Int32) (v2 : Int32) (v3 : Int32) (w0 : Int32) (S : Hp) : Prop :=
    ((v1 < 0 →
      Q (w0 + (-1 : Int32)) S)
    ∧ (¬ (v1 < 0) →
      (((999 : Int32) < v1 →
        Q (w0 + (-1 : Int32)) S)
      ∧ (¬ ((999 : Int32) < v1) →
        ((v2 < 0 →
          Q (w0 + (-1 : Int32)) S)
        ∧ (¬ (v2 < 0) →
          (((999 : Int32) < v2 →
            Q (w0 + (-1 : Int32)) S)
          ∧ (¬ ((999 : Int32) < v2) →
            ((v3 < 0 →
              Q (w0 + (-1 : Int32)) S)
            ∧ (¬ (v3 < 0) →
              ((v3 ≤ (1 : Int32) →
                ((((v1 + v2) - (v1 + v2) / (2 : Int32) * (2 : Int32)) = 0 →
                  ∀ y1, y1 = ((v1 + v2) / (2 : Int32)) →
                  ((¬ v3 = 0 →
                    Q (v1 - y1) S)
                  ∧ (v3 = 0 →
                    Q y1 S)))
                ∧ (¬ (((v1 + v2) - (v1 + v2) / (2 : Int32) * (2 : Int32)) = 0) →
                  Q (w0 + (-4 : Int32)) S)))
              ∧ (¬ (v3 ≤ (1 : Int32)) →
                Q (w0 + (-1 : Int32)) S))))))))))))
def wp_X5_twice (a0 : Nat) (x1 : Int32) (x2 : Int32) (x3 : Int32) (S : Hp) (Q : Int32 → Hp → Prop) : Prop :=
  ((¬ x3 = (1 : Int32) →
    J_X5_twice_11  Q x1 x2 x3 (0 : Int32) S)
  ∧ (x3 = (1 : Int32) →
    J_X5_twice_11  Q x1 x2 x3 (-1000000000 : Int32) S))
def J_X5_collectOtherLyings_41 (C4 : Nat × Int32 × Int32 × Int32 × Hp → Prop) (Q : Int32 → Hp → Prop) (v0 : Nat) (v1 : Int32) (v2 : Int32) (v3 : Int32) (S : Hp) : Prop :=
    ∀ y1, y1 = v3 + (1 : Int32) →
    C4 (v0, v1, v2, y1, S)
def L_X5_collectOtherLyings_4  (Q : Int32 → Hp → Prop) (C4 : Nat × Int32 × Int32 × Int32 × Hp → Prop) : Nat × Int32 × Int32 × Int32 × Hp → Prop := fun (v0, v1, v2, v3, S) =>
    (kd S v0 = 6) ∧
    ∃ r1, gR S 51 v0 = some r1 ∧
    (kd S r1 = 1) ∧
    (((gI S 4 r1) ≤ v3 →
      Q v2 S)
    ∧ (¬ ((gI S 4 r1) ≤ v3) →
      (kd S v0 = 6) ∧
      ∃ r2, gR S 58 v0 = some r2 ∧
      (kd S v0 = 6) ∧
      ∃ r3, gR S 51 v0 = some r3 ∧
      (kd S r2 = 3) ∧
      wp_X2_hits r2 r3 v3 v1 S (fun z5 S4 =>
        ((z5 = 0 →
          (J_X5_collectOtherLyings_41 C4 Q v0 v1 v2 v3 S4))
        ∧ (¬ (z5 = 0) →
          (kd S4 v0 = 6) ∧
          ∃ r6, gR S4 62 v0 = some r6 ∧
          (kd S4 r6 = 8) ∧
          (vp_in v2 (ln S4 r6)) ∧
          ∀ S7, S7 = sA S4 r6 (v2).toNatClampNeg v3 →
          ∀ y8, y8 = v2 + (1 : Int32) →
          J_X5_collectOtherLyings_41 C4 Q v0 v1 y8 v3 S7)))))
def wp_X5_collectOtherLyings (a0 : Nat) (x1 : Int32) (S : Hp) (Q : Int32 → Hp → Prop) : Prop :=
  ∃ n, it (L_X5_collectOtherLyings_4  Q) n (a0, x1, (0 : Int32), (0 : Int32), S)
def J_X5_customers_141 (C38 : Nat × Int32 × Int32 × Int32 × Int32 × Int32 × Hp → Prop) (Q : Int32 → Hp → Prop) (v0 : Nat) (v1 : Int32) (v3 : Int32) (v4 : Int32) (v5 : Int32) (v6 : Int32) (S : Hp) : Prop :=
    ∀ y1, y1 = v6 + (1 : Int32) →
    C38 (v0, v1, v3, v4, v5, y1, S)
def J_X5_customers_135 (C38 : Nat × Int32 × Int32 × Int32 × Int32 × Int32 × Hp → Prop) (C73 : Nat × Int32 × Int32 × Int32 × Int32 × Int32 × Int32 × Hp → Prop) (Q : Int32 → Hp → Prop) (v0 : Nat) (v1 : Int32) (v3 : Int32) (v4 : Int32) (v5 : Int32) (v6 : Int32) (v7 : Int32) (S : Hp) : Prop :=
    ∀ y1, y1 = v7 + (1 : Int32) →
    C73 (v0, v1, v3, v4, v5, v6, y1, S)
def L_X5_customers_73 (C38 : Nat × Int32 × Int32 × Int32 × Int32 × Int32 × Hp → Prop) (Q : Int32 → Hp → Prop) (C73 : Nat × Int32 × Int32 × Int32 × Int32 × Int32 × Int32 × Hp → Prop) : Nat × Int32 × Int32 × Int32 × Int32 × Int32 × Int32 × Hp → Prop := fun (v0, v1, v3, v4, v5, v6, v7, S) =>
    ((v4 ≤ v7 →
      (J_X5_customers_141 C38 Q v0 v1 v3 v4 v5 v6 S))
    ∧ (¬ (v4 ≤ v7) →
      (kd S v0 = 6) ∧
      ∃ r1, gR S 51 v0 = some r1 ∧
      (kd S r1 = 1) ∧
      wp_X0_notOff r1 v6 S (fun z3 S2 =>
        (kd S2 v0 = 6) ∧
        ∃ r4, gR S2 51 v0 = some r4 ∧
        (kd S2 v0 = 6) ∧
        ∃ r5, gR S2 62 v0 = some r5 ∧
        (kd S2 r5 = 8) ∧
        (vp_in v7 (ln S2 r5)) ∧
        (kd S2 r4 = 1) ∧
        wp_X0_notOff r4 (gA S2 r5 (v7).toNatClampNeg) S2 (fun z7 S6 =>
          (((z3 &&& z7) = 0 →
            ((v3 ≤ 0 →
              ∀ y8, y8 = v5 + (1 : Int32) →
              J_X5_customers_135 C38 C73 Q v0 v1 v3 v4 y8 v6 v7 S6)
            ∧ (¬ (v3 ≤ 0) →
              ((¬ v3 = (1 : Int32) →
                (kd S6 v0 = 6) ∧
                ∃ r9, gR S6 62 v0 = some r9 ∧
                (kd S6 r9 = 8) ∧
                (vp_in v7 (ln S6 r9)) ∧
                Q (gA S6 r9 (v7).toNatClampNeg) S6)
              ∧ (v3 = (1 : Int32) →
                Q v6 S6)))))
          ∧ (¬ ((z3 &&& z7) = 0) →
            J_X5_customers_135 C38 C73 Q v0 v1 v3 v4 v5 v6 v7 S6))))))
def L_X5_customers_38  (Q : Int32 → Hp → Prop) (C38 : Nat × Int32 × Int32 × Int32 × Int32 × Int32 × Hp → Prop) : Nat × Int32 × Int32 × Int32 × Int32 × Int32 × Hp → Prop := fun (v0, v1, v3, v4, v5, v6, S) =>
    (kd S v0 = 6) ∧
    ∃ r1, gR S 51 v0 = some r1 ∧
    (kd S r1 = 1) ∧
    (((gI S 4 r1) ≤ v6 →
      ((¬ v3 = 0 →
        Q (-4 : Int32) S)
      ∧ (v3 = 0 →
        Q v5 S)))
    ∧ (¬ ((gI S 4 r1) ≤ v6) →
      (kd S v0 = 6) ∧
      ∃ r2, gR S 58 v0 = some r2 ∧
      (kd S v0 = 6) ∧
      ∃ r3, gR S 51 v0 = some r3 ∧
      (kd S r2 = 3) ∧
      wp_X2_hits r2 r3 v6 v1 S (fun z5 S4 =>
        ((¬ z5 = 0 →
          ∃ n, it (L_X5_customers_73 C38 Q) n (v0, v1, v3, v4, v5, v6, (0 : Int32), S4))
        ∧ (z5 = 0 →
          J_X5_customers_141 C38 Q v0 v1 v3 v4 v5 v6 S4)))))
def wp_X5_customers (a0 : Nat) (x1 : Int32) (x2 : Int32) (x3 : Int32) (S : Hp) (Q : Int32 → Hp → Prop) : Prop :=
  wp_X5_canBeHad x1 S (fun z7 S6 =>
    ((z7 = 0 →
      Q (-1 : Int32) S6)
    ∧ (¬ (z7 = 0) →
      wp_X5_canBeHad x2 S6 (fun z9 S8 =>
        ((z9 = 0 →
          Q (-1 : Int32) S8)
        ∧ (¬ (z9 = 0) →
          ((x3 < 0 →
            Q (-1 : Int32) S8)
          ∧ (¬ (x3 < 0) →
            ((x3 ≤ (2 : Int32) →
              (kd S8 a0 = 6) ∧
              wp_X5_collectOtherLyings a0 x2 S8 (fun z11 S10 =>
                ∃ n, it (L_X5_customers_38  Q) n (a0, x1, x3, z11, (0 : Int32), (0 : Int32), S10)))
            ∧ (¬ (x3 ≤ (2 : Int32)) →
              Q (-1 : Int32) S8))))))))))
def L_X5_areWeighings_16  (Q : Int32 → Hp → Prop) (C16 : Nat × Nat × Int32 × Int32 × Hp → Prop) : Nat × Nat × Int32 × Int32 × Hp → Prop := fun (v0, v1, v2, v3, S) =>
    ((v2 ≤ (v3 + (1 : Int32)) →
      Q (1 : Int32) S)
    ∧ (¬ (v2 ≤ (v3 + (1 : Int32))) →
      (kd S v0 = 6) ∧
      ∃ r1, gR S 51 v0 = some r1 ∧
      (kd S v1 = 2) ∧
      ∃ r2, gR S 11 v1 = some r2 ∧
      (kd S r2 = 8) ∧
      (vp_in v3 (ln S r2)) ∧
      (kd S r1 = 1) ∧
      wp_X0_isLying r1 (gA S r2 (v3).toNatClampNeg) S (fun z4 S3 =>
        ((¬ z4 = 0 →
          ∀ y5, y5 = v3 + (2 : Int32) →
          C16 (v0, v1, v2, y5, S3))
        ∧ (z4 = 0 →
          Q (0 : Int32) S3)))))
def wp_X5_areWeighings (a0 : Nat) (a1 : Nat) (S : Hp) (Q : Int32 → Hp → Prop) : Prop :=
  (kd S a1 = 2) ∧
  ∃ r6, gR S 11 a1 = some r6 ∧
  (kd S r6 = 8) ∧
  ∀ y7, y7 = (Int32.ofNat (ln S r6)) →
  (((y7 - y7 / (2 : Int32) * (2 : Int32)) = 0 →
    ∃ n, it (L_X5_areWeighings_16  Q) n (a0, a1, y7, (0 : Int32), S))
  ∧ (¬ ((y7 - y7 / (2 : Int32) * (2 : Int32)) = 0) →
    Q (0 : Int32) S))
def L_X5_isWeightBy_23  (Q : Int32 → Hp → Prop) (C23 : Nat × Nat × Int32 × Int32 × Int32 × Int32 × Hp → Prop) : Nat × Nat × Int32 × Int32 × Int32 × Int32 × Hp → Prop := fun (v0, v1, v2, v4, v5, v6, S) =>
    ((v5 ≤ (v6 + (1 : Int32)) →
      Q (1 : Int32) S)
    ∧ (¬ (v5 ≤ (v6 + (1 : Int32))) →
      (kd S v1 = 2) ∧
      ∃ r1, gR S 11 v1 = some r1 ∧
      (kd S r1 = 8) ∧
      (vp_in v6 (ln S r1)) ∧
      ∀ y2, y2 = (gA S r1 (v6).toNatClampNeg) →
      (kd S v0 = 6) ∧
      ∃ r3, gR S 51 v0 = some r3 ∧
      (kd S r3 = 1) ∧
      wp_X0_sideOf r3 y2 v2 S (fun z5 S4 =>
        (kd S4 v0 = 6) ∧
        ∃ r6, gR S4 58 v0 = some r6 ∧
        (kd S4 v0 = 6) ∧
        ∃ r7, gR S4 51 v0 = some r7 ∧
        (kd S4 r6 = 3) ∧
        wp_X2_weightOf r6 r7 y2 S4 (fun z9 S8 =>
          (kd S8 v1 = 2) ∧
          ∃ r10, gR S8 11 v1 = some r10 ∧
          (kd S8 r10 = 8) ∧
          (vp_in (v6 + (1 : Int32)) (ln S8 r10)) ∧
          (((z9 + (z5 * v4)) = (gA S8 r10 ((v6 + (1 : Int32))).toNatClampNeg) →
            ∀ y11, y11 = v6 + (2 : Int32) →
            C23 (v0, v1, v2, v4, v5, y11, S8))
          ∧ (¬ ((z9 + (z5 * v4)) = (gA S8 r10 ((v6 + (1 : Int32))).toNatClampNeg)) →
            Q (0 : Int32) S8))))))
def wp_X5_isWeightBy (a0 : Nat) (a1 : Nat) (x2 : Int32) (x3 : Int32) (S : Hp) (Q : Int32 → Hp → Prop) : Prop :=
  (kd S a0 = 6) ∧
  ∃ r12, gR S 50 a0 = some r12 ∧
  (kd S r12 = 5) ∧
  ∃ r13, gR S 40 r12 = some r13 ∧
  (kd S r13 = 8) ∧
  (vp_in x2 (ln S r13)) ∧
  ∀ y14, y14 = (x3 - (gA S r13 (x2).toNatClampNeg)) →
  (kd S a1 = 2) ∧
  ∃ r15, gR S 11 a1 = some r15 ∧
  (kd S r15 = 8) ∧
  ∀ y16, y16 = (Int32.ofNat (ln S r15)) →
  ∃ n, it (L_X5_isWeightBy_23  Q) n (a0, a1, x2, y14, y16, (0 : Int32), S)
def J_X5_unknown_96 (C66 : Nat × Int32 × Int32 × Nat × Int32 × Int32 × Hp → Prop) (Q : Int32 → Hp → Prop) (v0 : Nat) (v1 : Int32) (v3 : Int32) (v4 : Nat) (v5 : Int32) (v6 : Int32) (S : Hp) : Prop :=
    ∀ y1, y1 = v6 + (1 : Int32) →
    C66 (v0, v1, v3, v4, v5, y1, S)
def L_X5_unknown_66  (Q : Int32 → Hp → Prop) (C66 : Nat × Int32 × Int32 × Nat × Int32 × Int32 × Hp → Prop) : Nat × Int32 × Int32 × Nat × Int32 × Int32 × Hp → Prop := fun (v0, v1, v3, v4, v5, v6, S) =>
    (((99 : Int32) < v6 →
      ((¬ v3 = 0 →
        Q (-4 : Int32) S)
      ∧ (v3 = 0 →
        Q v5 S)))
    ∧ (¬ ((99 : Int32) < v6) →
      (kd S v0 = 6) ∧
      wp_X5_isWeightBy v0 v4 v1 v6 S (fun z2 S1 =>
        ((z2 = 0 →
          (J_X5_unknown_96 C66 Q v0 v1 v3 v4 v5 v6 S1))
        ∧ (¬ (z2 = 0) →
          ((¬ v3 = (1 : Int32) →
            ∀ y3, y3 = v5 + (1 : Int32) →
            J_X5_unknown_96 C66 Q v0 v1 v3 v4 y3 v6 S1)
          ∧ (v3 = (1 : Int32) →
            Q v6 S1)))))))
def wp_X5_unknown (a0 : Nat) (x1 : Int32) (x2 : Int32) (x3 : Int32) (S : Hp) (Q : Int32 → Hp → Prop) : Prop :=
  (kd S a0 = 6) ∧
  ∃ r4, gR S 50 a0 = some r4 ∧
  (kd S r4 = 5) ∧
  wp_X4_isStone r4 x1 S (fun z6 S5 =>
    ((z6 = 0 →
      Q (-1 : Int32) S5)
    ∧ (¬ (z6 = 0) →
      wp_X5_isShelf x2 S5 (fun z8 S7 =>
        ((z8 = 0 →
          Q (-1 : Int32) S7)
        ∧ (¬ (z8 = 0) →
          ((x3 < 0 →
            Q (-1 : Int32) S7)
          ∧ (¬ (x3 < 0) →
            ((x3 ≤ (1 : Int32) →
              (kd S7 a0 = 6) ∧
              wp_X5_rowOfSort a0 x2 (2 : Int32) S7 (fun z10 S9 =>
                ((z10 = none →
                  (kd S9 a0 = 6) ∧
                  wp_X5_notHeld a0 x2 S9 (fun z13 S12 =>
                    Q z13 S12))
                ∧ (∀ r11, z10 = some r11 →
                  (kd S9 a0 = 6) ∧
                  wp_X5_areWeighings a0 r11 S9 (fun z15 S14 =>
                    ((¬ z15 = 0 →
                      ∃ n, it (L_X5_unknown_66  Q) n (a0, x1, x3, r11, (0 : Int32), (1 : Int32), S14))
                    ∧ (z15 = 0 →
                      Q (-13 : Int32) S14)))))))
            ∧ (¬ (x3 ≤ (1 : Int32)) →
              Q (-1 : Int32) S7))))))))))
def L_X5_seeded_53  (Q : Int32 → Hp → Prop) (C53 : Nat × Int32 × Nat × Int32 × Int32 × Hp → Prop) : Nat × Int32 × Nat × Int32 × Int32 × Hp → Prop := fun (v0, v2, v4, v5, v6, S) =>
    ((v2 ≤ v6 →
      (kd S v0 = 6) ∧
      ∃ r1, gR S 55 v0 = some r1 ∧
      (kd S v0 = 6) ∧
      ∃ r2, gR S 54 v0 = some r2 ∧
      (kd S r1 = 1) ∧
      wp_X0_layOut r1 r2 S (fun S3 =>
        (kd S3 v0 = 6) ∧
        ∃ r4, gR S3 55 v0 = some r4 ∧
        (kd S3 v0 = 6) ∧
        wp_X5_firstNotHad v0 v4 r4 S3 (fun z6 S5 =>
          Q (z6 - (1 : Int32)) S5)))
    ∧ (¬ (v2 ≤ v6) →
      ∀ y7, y7 = ((v5 * (1103515245 : Int32)) + (12345 : Int32)) →
      (kd S v0 = 6) ∧
      ∃ r8, gR S 54 v0 = some r8 ∧
      (kd S r8 = 5) ∧
      wp_X4_add r8 ((1 : Int32) + (((y7 &&& (2147483647 : Int32)) / (65536 : Int32)) - ((y7 &&& (2147483647 : Int32)) / (65536 : Int32)) / (40 : Int32) * (40 : Int32))) (0 : Int32) S (fun z10 S9 =>
        ∀ y11, y11 = v6 + (1 : Int32) →
        C53 (v0, v2, v4, y7, y11, S9))))
def wp_X5_seeded (a0 : Nat) (x1 : Int32) (x2 : Int32) (x3 : Int32) (S : Hp) (Q : Int32 → Hp → Prop) : Prop :=
  wp_X5_isShelf x1 S (fun z13 S12 =>
    ((z13 = 0 →
      Q (-1 : Int32) S12)
    ∧ (¬ (z13 = 0) →
      ((x2 < (1 : Int32) →
        Q (-1 : Int32) S12)
      ∧ (¬ (x2 < (1 : Int32)) →
        ((x2 ≤ (6 : Int32) →
          (kd S12 a0 = 6) ∧
          ∃ r14, gR S12 56 a0 = some r14 ∧
          (kd S12 r14 = 10 ∨ kd S12 r14 = 11) ∧
          (vp_in x1 (ln S12 r14)) ∧
          ((gQ S12 r14 (x1).toNatClampNeg = none →
            (kd S12 a0 = 6) ∧
            wp_X5_notHeld a0 x1 S12 (fun z17 S16 =>
              Q z17 S16))
          ∧ (∀ r15, gQ S12 r14 (x1).toNatClampNeg = some r15 →
            (kd S12 a0 = 6) ∧
            ∃ r18, gR S12 54 a0 = some r18 ∧
            (kd S12 r18 = 5) ∧
            ∀ S19, S19 = sI S12 42 r18 (0 : Int32) →
            ∃ n, it (L_X5_seeded_53  Q) n (a0, x2, r15, x3, (0 : Int32), S19))))
        ∧ (¬ (x2 ≤ (6 : Int32)) →
          Q (-1 : Int32) S12)))))))
def L_X5_judge_63  (Q : Int32 → Hp → Prop) (C63 : Nat × Nat × Nat × Int32 × Int32 × Hp → Prop) : Nat × Nat × Nat × Int32 × Int32 × Hp → Prop := fun (v0, v3, v4, v5, v6, S) =>
    ((v5 ≤ (v6 + (1 : Int32)) →
      ((¬ (v5 - v5 / (2 : Int32) * (2 : Int32)) = (1 : Int32) →
        Q (-4 : Int32) S)
      ∧ ((v5 - v5 / (2 : Int32) * (2 : Int32)) = (1 : Int32) →
        Q v5 S)))
    ∧ (¬ (v5 ≤ (v6 + (1 : Int32))) →
      (kd S v4 = 2) ∧
      ∃ r1, gR S 11 v4 = some r1 ∧
      (kd S r1 = 8) ∧
      (vp_in v6 (ln S r1)) ∧
      ∀ y2, y2 = (gA S r1 (v6).toNatClampNeg) →
      (kd S v0 = 6) ∧
      ∃ r3, gR S 51 v0 = some r3 ∧
      (kd S r3 = 1) ∧
      wp_X0_isLying r3 y2 S (fun z5 S4 =>
        ((z5 = 0 →
          Q v6 S4)
        ∧ (¬ (z5 = 0) →
          (kd S4 v0 = 6) ∧
          ∃ r6, gR S4 51 v0 = some r6 ∧
          (kd S4 v4 = 2) ∧
          ∃ r7, gR S4 11 v4 = some r7 ∧
          (kd S4 r7 = 8) ∧
          (vp_in (v6 + (1 : Int32)) (ln S4 r7)) ∧
          (kd S4 v3 = 3) ∧
          wp_X2_hits v3 r6 y2 (gA S4 r7 ((v6 + (1 : Int32))).toNatClampNeg) S4 (fun z9 S8 =>
            ((¬ z9 = 0 →
              ∀ y10, y10 = v6 + (2 : Int32) →
              C63 (v0, v3, v4, v5, y10, S8))
            ∧ (z9 = 0 →
              Q v6 S8))))))))
def wp_X5_judge (a0 : Nat) (x1 : Int32) (x2 : Int32) (S : Hp) (Q : Int32 → Hp → Prop) : Prop :=
  wp_X5_isShelf x1 S (fun z12 S11 =>
    ((z12 = 0 →
      Q (-1 : Int32) S11)
    ∧ (¬ (z12 = 0) →
      wp_X5_isShelf x2 S11 (fun z14 S13 =>
        ((¬ z14 = 0 →
          (kd S13 a0 = 6) ∧
          ∃ r15, gR S13 56 a0 = some r15 ∧
          (kd S13 r15 = 10 ∨ kd S13 r15 = 11) ∧
          (vp_in x1 (ln S13 r15)) ∧
          ((gQ S13 r15 (x1).toNatClampNeg = none →
            (kd S13 a0 = 6) ∧
            wp_X5_notHeld a0 x1 S13 (fun z18 S17 =>
              Q z18 S17))
          ∧ (∀ r16, gQ S13 r15 (x1).toNatClampNeg = some r16 →
            (kd S13 a0 = 6) ∧
            ∃ r19, gR S13 57 a0 = some r19 ∧
            (kd S13 r19 = 10 ∨ kd S13 r19 = 11) ∧
            (vp_in x2 (ln S13 r19)) ∧
            ((gQ S13 r19 (x2).toNatClampNeg = none →
              (kd S13 a0 = 6) ∧
              wp_X5_notHeld a0 x2 S13 (fun z22 S21 =>
                Q z22 S21))
            ∧ (∀ r20, gQ S13 r19 (x2).toNatClampNeg = some r20 →
              (kd S13 r20 = 2) ∧
              ∃ r23, gR S13 11 r20 = some r23 ∧
              (kd S13 r23 = 8) ∧
              ∀ y24, y24 = (Int32.ofNat (ln S13 r23)) →
              ∃ n, it (L_X5_judge_63  Q) n (a0, r16, r20, y24, (0 : Int32), S13))))))
        ∧ (z14 = 0 →
          Q (-1 : Int32) S13))))))
def wp_X5_image (a0 : Nat) (S : Hp) (Q : Int32 → Hp → Prop) : Prop :=
  (kd S a0 = 6) ∧
  ∃ r1, gR S 52 a0 = some r1 ∧
  (kd S a0 = 6) ∧
  ∃ r2, gR S 50 a0 = some r2 ∧
  (kd S r1 = 5) ∧
  wp_X4_takeFrom r1 r2 S (fun S3 =>
    (kd S3 a0 = 6) ∧
    ∀ S4, S4 = sI S3 53 a0 (1 : Int32) →
    (kd S4 a0 = 6) ∧
    ∃ r5, gR S4 50 a0 = some r5 ∧
    (kd S4 r5 = 5) ∧
    Q (gI S4 42 r5) S4)
def wp_X5_restore (a0 : Nat) (S : Hp) (Q : Int32 → Hp → Prop) : Prop :=
  (kd S a0 = 6) ∧
  ((¬ (gI S 53 a0) = 0 →
    (kd S a0 = 6) ∧
    ∃ r1, gR S 50 a0 = some r1 ∧
    (kd S a0 = 6) ∧
    ∃ r2, gR S 52 a0 = some r2 ∧
    (kd S r1 = 5) ∧
    wp_X4_takeFrom r1 r2 S (fun S3 =>
      (kd S3 a0 = 6) ∧
      ∃ r4, gR S3 51 a0 = some r4 ∧
      (kd S3 a0 = 6) ∧
      ∃ r5, gR S3 50 a0 = some r5 ∧
      (kd S3 r4 = 1) ∧
      wp_X0_layOut r4 r5 S3 (fun S6 =>
        (kd S6 a0 = 6) ∧
        ∃ r7, gR S6 50 a0 = some r7 ∧
        (kd S6 r7 = 5) ∧
        Q (gI S6 42 r7) S6)))
  ∧ ((gI S 53 a0) = 0 →
    Q (-3 : Int32) S))
def wp_X5_count (a0 : Nat) (x1 : Int32) (S : Hp) (Q : Int32 → Hp → Prop) : Prop :=
  (((x1).toInt = 0 →
    (kd S a0 = 6) ∧
    ∃ r1, gR S 50 a0 = some r1 ∧
    (kd S r1 = 5) ∧
    Q (gI S 42 r1) S)
  ∧ ((x1).toInt = 1 →
    (kd S a0 = 6) ∧
    ∃ r2, gR S 50 a0 = some r2 ∧
    (kd S a0 = 6) ∧
    ∃ r3, gR S 50 a0 = some r3 ∧
    (kd S r3 = 5) ∧
    wp_X4_all r3 S (fun z5 S4 =>
      (kd S4 r2 = 5) ∧
      wp_X4_weightsOf r2 z5 S4 (fun z7 S6 =>
        Q z7 S6)))
  ∧ ((x1).toInt = 2 →
    (kd S a0 = 6) ∧
    ∃ r8, gR S 50 a0 = some r8 ∧
    (kd S a0 = 6) ∧
    ∃ r9, gR S 50 a0 = some r9 ∧
    (kd S r9 = 5) ∧
    wp_X4_all r9 S (fun z11 S10 =>
      (kd S10 r8 = 5) ∧
      wp_X4_pricesOf r8 z11 S10 (fun z13 S12 =>
        Q z13 S12)))
  ∧ ((x1).toInt = 3 →
    (kd S a0 = 6) ∧
    ∃ r14, gR S 51 a0 = some r14 ∧
    (kd S r14 = 1) ∧
    Q (gI S 4 r14) S)
  ∧ (((x1).toInt < 0 ∨ 3 < (x1).toInt) →
    Q (-1 : Int32) S))
def J_X5_keep_47  (Q : Int32 → Hp → Prop) (v0 : Nat) (v1 : Int32) (v2 : Int32) (v3 : Int32) (v4 : Int32) (S : Hp) : Prop :=
    (kd S v0 = 6) ∧
    ∃ r1, gR S 56 v0 = some r1 ∧
    ((¬ v2 = (1 : Int32) →
      (vp_in v1 (ln S r1)) ∧
      (kd S r1 = 10 ∨ kd S r1 = 11) ∧
      ∀ S2, S2 = sQ S r1 (v1).toNatClampNeg (none) →
      (kd S2 v0 = 6) ∧
      ∃ r3, gR S2 57 v0 = some r3 ∧
      (vp_in v1 (ln S2 r3)) ∧
      (kd S2 r3 = 10 ∨ kd S2 r3 = 11) ∧
      ∀ S4, S4 = sQ S2 r3 (v1).toNatClampNeg (none) →
      Q (0 : Int32) S4)
    ∧ (v2 = (1 : Int32) →
      ∀ q5, fr S q5 → ∀ S6, S6 = nO S q5 3 →
      wp_X2_init q5 v3 v4 S6 (fun S7 =>
        (vp_in v1 (ln S7 r1)) ∧
        ((kd S7 r1 = 10 ∧ kd S7 q5 = 2) ∨ (kd S7 r1 = 11 ∧ kd S7 q5 = 3)) ∧
        ∀ S8, S8 = sQ S7 r1 (v1).toNatClampNeg (some q5) →
        (kd S8 v0 = 6) ∧
        ∃ r9, gR S8 57 v0 = some r9 ∧
        (vp_in v1 (ln S8 r9)) ∧
        (kd S8 r9 = 10 ∨ kd S8 r9 = 11) ∧
        ∀ S10, S10 = sQ S8 r9 (v1).toNatClampNeg (none) →
        Q (0 : Int32) S10)))
def wp_X5_keep (a0 : Nat) (x1 : Int32) (x2 : Int32) (x3 : Int32) (x4 : Int32) (S : Hp) (Q : Int32 → Hp → Prop) : Prop :=
  wp_X5_isShelf x1 S (fun z12 S11 =>
    ((z12 = 0 →
      Q (-1 : Int32) S11)
    ∧ (¬ (z12 = 0) →
      ((x2 < 0 →
        Q (-1 : Int32) S11)
      ∧ (¬ (x2 < 0) →
        ((x2 ≤ (1 : Int32) →
          ((¬ x2 = (1 : Int32) →
            (J_X5_keep_47  Q a0 x1 x2 x3 x4 S11))
          ∧ (x2 = (1 : Int32) →
            ((x3 < 0 →
              Q (-1 : Int32) S11)
            ∧ (¬ (x3 < 0) →
              (((7 : Int32) < x3 →
                Q (-1 : Int32) S11)
              ∧ (¬ ((7 : Int32) < x3) →
                ((x4 < 0 →
                  Q (-1 : Int32) S11)
                ∧ (¬ (x4 < 0) →
                  ((x4 ≤ (9 : Int32) →
                    (J_X5_keep_47  Q a0 x1 x2 x3 x4 S11))
                  ∧ (¬ (x4 ≤ (9 : Int32)) →
                    Q (-1 : Int32) S11)))))))))))
        ∧ (¬ (x2 ≤ (1 : Int32)) →
          Q (-1 : Int32) S11)))))))
def wp_X5_row (a0 : Nat) (x1 : Int32) (x2 : Int32) (x3 : Int32) (S : Hp) (Q : Int32 → Hp → Prop) : Prop :=
  wp_X5_isShelf x1 S (fun z2 S1 =>
    ((z2 = 0 →
      Q (-1 : Int32) S1)
    ∧ (¬ (z2 = 0) →
      ((x2 < 0 →
        Q (-1 : Int32) S1)
      ∧ (¬ (x2 < 0) →
        (((2 : Int32) < x2 →
          Q (-1 : Int32) S1)
        ∧ (¬ ((2 : Int32) < x2) →
          ((x3 ≤ (100 : Int32) →
            ((0 ≤ x3 →
              (kd S1 a0 = 6) ∧
              ∃ r3, gR S1 56 a0 = some r3 ∧
              (vp_in x1 (ln S1 r3)) ∧
              (kd S1 r3 = 10 ∨ kd S1 r3 = 11) ∧
              ∀ S4, S4 = sQ S1 r3 (x1).toNatClampNeg (none) →
              (kd S4 a0 = 6) ∧
              ∃ r5, gR S4 57 a0 = some r5 ∧
              ∀ q6, fr S4 q6 → ∀ S7, S7 = nO S4 q6 2 →
              wp_X1_init q6 x2 x3 S7 (fun S8 =>
                (vp_in x1 (ln S8 r5)) ∧
                ((kd S8 r5 = 10 ∧ kd S8 q6 = 2) ∨ (kd S8 r5 = 11 ∧ kd S8 q6 = 3)) ∧
                ∀ S9, S9 = sQ S8 r5 (x1).toNatClampNeg (some q6) →
                Q (0 : Int32) S9))
            ∧ (¬ (0 ≤ x3) →
              Q (-14 : Int32) S1)))
          ∧ (¬ (x3 ≤ (100 : Int32)) →
            Q (-1 : Int32) S1)))))))))
def wp_X5_put (a0 : Nat) (x1 : Int32) (x2 : Int32) (x3 : Int32) (S : Hp) (Q : Int32 → Hp → Prop) : Prop :=
  wp_X5_isShelf x1 S (fun z2 S1 =>
    ((¬ z2 = 0 →
      (kd S1 a0 = 6) ∧
      ∃ r3, gR S1 57 a0 = some r3 ∧
      (kd S1 r3 = 10 ∨ kd S1 r3 = 11) ∧
      (vp_in x1 (ln S1 r3)) ∧
      ((gQ S1 r3 (x1).toNatClampNeg = none →
        (kd S1 a0 = 6) ∧
        wp_X5_notHeld a0 x1 S1 (fun z6 S5 =>
          Q z6 S5))
      ∧ (∀ r4, gQ S1 r3 (x1).toNatClampNeg = some r4 →
        (kd S1 r4 = 2) ∧
        wp_X1_isPlace r4 x2 S1 (fun z8 S7 =>
          ((¬ z8 = 0 →
            (kd S7 r4 = 2) ∧
            ∃ r9, gR S7 11 r4 = some r9 ∧
            (kd S7 r4 = 2) ∧
            wp_X1_lowestBits r4 x3 S7 (fun z11 S10 =>
              (kd S10 r9 = 8) ∧
              (vp_in x2 (ln S10 r9)) ∧
              ∀ S12, S12 = sA S10 r9 (x2).toNatClampNeg z11 →
              Q (0 : Int32) S12))
          ∧ (z8 = 0 →
            Q (-13 : Int32) S7))))))
    ∧ (z2 = 0 →
      Q (-1 : Int32) S1)))
def wp_X5_copy (a0 : Nat) (x1 : Int32) (x2 : Int32) (x3 : Int32) (x4 : Int32) (x5 : Int32) (S : Hp) (Q : Int32 → Hp → Prop) : Prop :=
  wp_X5_isShelf x1 S (fun z2 S1 =>
    ((z2 = 0 →
      Q (-1 : Int32) S1)
    ∧ (¬ (z2 = 0) →
      wp_X5_isShelf x3 S1 (fun z4 S3 =>
        ((¬ z4 = 0 →
          (kd S3 a0 = 6) ∧
          wp_X5_holdsNothing a0 x1 S3 (fun z6 S5 =>
            ((¬ z6 = 0 →
              Q (-11 : Int32) S5)
            ∧ (z6 = 0 →
              (kd S5 a0 = 6) ∧
              wp_X5_holdsNothing a0 x3 S5 (fun z8 S7 =>
                ((z8 = 0 →
                  (kd S7 a0 = 6) ∧
                  ∃ r9, gR S7 57 a0 = some r9 ∧
                  (kd S7 r9 = 10 ∨ kd S7 r9 = 11) ∧
                  (vp_in x1 (ln S7 r9)) ∧
                  ((gQ S7 r9 (x1).toNatClampNeg = none →
                    (kd S7 a0 = 6) ∧
                    ∃ r11, gR S7 57 a0 = some r11 ∧
                    (kd S7 r11 = 10 ∨ kd S7 r11 = 11) ∧
                    (vp_in x3 (ln S7 r11)) ∧
                    ((gQ S7 r11 (x3).toNatClampNeg = none →
                      Q (-12 : Int32) S7)
                    ∧ (∀ r12, gQ S7 r11 (x3).toNatClampNeg = some r12 →
                      Q (-12 : Int32) S7)))
                  ∧ (∀ r10, gQ S7 r9 (x1).toNatClampNeg = some r10 →
                    (kd S7 a0 = 6) ∧
                    ∃ r13, gR S7 57 a0 = some r13 ∧
                    (kd S7 r13 = 10 ∨ kd S7 r13 = 11) ∧
                    (vp_in x3 (ln S7 r13)) ∧
                    ((gQ S7 r13 (x3).toNatClampNeg = none →
                      Q (-12 : Int32) S7)
                    ∧ (∀ r14, gQ S7 r13 (x3).toNatClampNeg = some r14 →
                      (kd S7 r10 = 2) ∧
                      (kd S7 r14 = 2) ∧
                      (((gI S7 10 r10) = (gI S7 10 r14) →
                        (kd S7 r10 = 2) ∧
                        wp_X1_isStretch r10 x2 x5 S7 (fun z16 S15 =>
                          ((z16 = 0 →
                            Q (-13 : Int32) S15)
                          ∧ (¬ (z16 = 0) →
                            (kd S15 r14 = 2) ∧
                            wp_X1_isStretch r14 x4 x5 S15 (fun z18 S17 =>
                              ((¬ z18 = 0 →
                                (kd S17 r10 = 2) ∧
                                ∃ r19, gR S17 11 r10 = some r19 ∧
                                (kd S17 r14 = 2) ∧
                                ∃ r20, gR S17 11 r14 = some r20 ∧
                                (kd S17 r19 = 8 ∧ kd S17 r20 = 8) ∧
                                (¬ x2 < 0 ∧ ¬ x4 < 0 ∧ ¬ x5 < 0) ∧
                                ((x2).toNatClampNeg + (x5).toNatClampNeg ≤ ln S17 r19 ∧ (x4).toNatClampNeg + (x5).toNatClampNeg ≤ ln S17 r20) ∧
                                ∀ S21, S21 = sF S17 r20 (va_cpy (gA S17 r19) (gA S17 r20) (x2).toNatClampNeg (x4).toNatClampNeg (x5).toNatClampNeg) →
                                Q x5 S21)
                              ∧ (z18 = 0 →
                                Q (-13 : Int32) S17)))))))
                      ∧ (¬ ((gI S7 10 r10) = (gI S7 10 r14)) →
                        Q (-12 : Int32) S7)))))))
                ∧ (¬ (z8 = 0) →
                  Q (-11 : Int32) S7)))))))
        ∧ (z4 = 0 →
          Q (-1 : Int32) S3))))))
def wp_X5_cost (a0 : Nat) (x1 : Int32) (S : Hp) (Q : Int32 → Hp → Prop) : Prop :=
  wp_X5_isShelf x1 S (fun z2 S1 =>
    ((¬ z2 = 0 →
      (kd S1 a0 = 6) ∧
      ∃ r3, gR S1 56 a0 = some r3 ∧
      (kd S1 r3 = 10 ∨ kd S1 r3 = 11) ∧
      (vp_in x1 (ln S1 r3)) ∧
      ((gQ S1 r3 (x1).toNatClampNeg = none →
        (kd S1 a0 = 6) ∧
        wp_X5_notHeld a0 x1 S1 (fun z6 S5 =>
          Q z6 S5))
      ∧ (∀ r4, gQ S1 r3 (x1).toNatClampNeg = some r4 →
        (kd S1 r4 = 3) ∧
        wp_X2_price r4 S1 (fun z8 S7 =>
          Q z8 S7))))
    ∧ (z2 = 0 →
      Q (-1 : Int32) S1)))
