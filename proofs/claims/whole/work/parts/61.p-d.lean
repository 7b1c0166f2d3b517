/-! digits by threes, carryings, trials -/
def remD (x : Int32) : Int32 := ((x - x / 3 * 3) + 3) - ((x - x / 3 * 3) + 3) / 3 * 3
def lowD (x : Int32) : Int32 := if remD x = 2 then -1 else remD x
def nxt (x : Int32) : Int32 := (x - lowD x) / 3
def fmD (x : Int32) : Int32 := if 0 ≤ (x ^^^ 3) then x - x / 3 * 3 else if x - x / 3 * 3 = 0 then x - x / 3 * 3 else x - x / 3 * 3 + 3
def fdD (x : Int32) : Int32 := if 0 ≤ (x ^^^ 3) then x / 3 else if x / 3 * 3 = x then x / 3 else x / 3 - 1
theorem xor_s (x : Int32) : 0 ≤ (x ^^^ 3) ↔ 0 ≤ x := by
  have h1 := BitVec.msb_eq_toInt (x := (x ^^^ 3).toBitVec)
  have h2 := BitVec.msb_eq_toInt (x := x.toBitVec)
  have h3 : (x ^^^ 3).toBitVec.msb = x.toBitVec.msb := by
    rw [Int32.toBitVec_xor, BitVec.msb_xor, show (3 : Int32).toBitVec.msb = false by decide, Bool.xor_false]
  rw [h1, h2] at h3
  have h4 := decide_eq_decide.mp h3
  rw [p_le, p_le, show (0 : Int32).toInt = 0 from rfl]
  show 0 ≤ (x ^^^ 3).toBitVec.toInt ↔ 0 ≤ x.toBitVec.toInt
  omega
theorem t3 {x : Int32} (h : -20000 ≤ x.toInt ∧ x.toInt ≤ 20000) : (x / 3).toInt = if 0 ≤ x.toInt then x.toInt / 3 else -((-x.toInt) / 3) := by
  have e : x.toInt.tdiv 3 = if 0 ≤ x.toInt then x.toInt / 3 else -((-x.toInt) / 3) := by
    split
    · rename_i h0
      rw [Int.tdiv_eq_ediv_of_nonneg h0]
    · rename_i h0
      have h5 := Int.neg_tdiv (a := -x.toInt) (b := 3)
      rw [Int.neg_neg, Int.tdiv_eq_ediv_of_nonneg (show 0 ≤ -x.toInt by omega)] at h5
      exact h5
  rw [Int32.toInt_div, show (3 : Int32).toInt = 3 from rfl, e, p_bm]
  · split <;> omega
  · split <;> omega
theorem r3 {x : Int32} (h : -20000 ≤ x.toInt ∧ x.toInt ≤ 20000) : (x / 3 * 3).toInt = 3 * (x / 3).toInt ∧ (x - x / 3 * 3).toInt = x.toInt - 3 * (x / 3).toInt := by
  have h1 := t3 h
  have l : (3 : Int32).toInt = 3 := rfl
  have hb : -7000 ≤ (x / 3).toInt ∧ (x / 3).toInt ≤ 7000 := by rw [h1]; split <;> omega
  have hm : (x / 3 * 3).toInt = 3 * (x / 3).toInt := by rw [p_mul (by rw [l]; omega) (by rw [l]; omega), l]; omega
  refine ⟨hm, ?_⟩
  rw [p_sub (by rw [hm]; split at h1 <;> omega) (by rw [hm]; split at h1 <;> omega), hm]
theorem fm_v {x : Int32} (h : -10002 ≤ x.toInt ∧ x.toInt ≤ 10002) : (fmD x).toInt = x.toInt % 3 := by
  have h1 := t3 (x := x) ⟨by omega, by omega⟩
  have h2 := (r3 (x := x) ⟨by omega, by omega⟩).2
  unfold fmD
  have hx := xor_s x
  rw [p_le 0 x, show (0 : Int32).toInt = 0 from rfl] at hx
  by_cases h0 : 0 ≤ x.toInt
  · rw [if_pos (hx.mpr h0), h2, h1, if_pos h0]; omega
  · rw [if_neg (fun z => h0 (hx.mp z))]
    rw [if_neg h0] at h1
    by_cases hz : x - x / 3 * 3 = 0
    · rw [if_pos hz, h2]
      rw [p_eq, h2, show (0 : Int32).toInt = 0 from rfl] at hz
      omega
    · rw [if_neg hz]
      rw [p_eq, h2, show (0 : Int32).toInt = 0 from rfl] at hz
      have l : (3 : Int32).toInt = 3 := rfl
      rw [p_add (by rw [h2, l]; omega) (by rw [h2, l]; omega), h2, l]; omega
theorem fd_v {x : Int32} (h : -10002 ≤ x.toInt ∧ x.toInt ≤ 10002) : (fdD x).toInt = x.toInt / 3 := by
  have h1 := t3 (x := x) ⟨by omega, by omega⟩
  have h2 := (r3 (x := x) ⟨by omega, by omega⟩).1
  unfold fdD
  have hx := xor_s x
  rw [p_le 0 x, show (0 : Int32).toInt = 0 from rfl] at hx
  by_cases h0 : 0 ≤ x.toInt
  · rw [if_pos (hx.mpr h0), h1, if_pos h0]
  · rw [if_neg (fun z => h0 (hx.mp z))]
    rw [if_neg h0] at h1
    by_cases hz : x / 3 * 3 = x
    · rw [if_pos hz, h1]
      rw [p_eq, h2] at hz
      omega
    · rw [if_neg hz]
      rw [p_eq, h2] at hz
      have l : (1 : Int32).toInt = 1 := rfl
      rw [p_sub (by rw [l]; omega) (by rw [l]; omega), l]; omega
theorem rem_v {x : Int32} (h : -10002 ≤ x.toInt ∧ x.toInt ≤ 10002) : (remD x).toInt = x.toInt % 3 := by
  have h1 := t3 (x := x) ⟨by omega, by omega⟩
  have h2 := (r3 (x := x) ⟨by omega, by omega⟩).2
  have l : (3 : Int32).toInt = 3 := rfl
  have hy : (x - x / 3 * 3 + 3).toInt = (x - x / 3 * 3).toInt + 3 := by
    rw [p_add (by rw [h2, l]; split at h1 <;> omega) (by rw [h2, l]; split at h1 <;> omega), l]
  unfold remD
  generalize x - x / 3 * 3 + 3 = y at hy
  have hyb : 1 ≤ y.toInt ∧ y.toInt ≤ 5 := by rw [hy, h2]; split at h1 <;> omega
  rw [(r3 (x := y) ⟨by omega, by omega⟩).2, t3 (x := y) ⟨by omega, by omega⟩, if_pos (by omega), hy, h2]
  split at h1 <;> omega
theorem low_v {x : Int32} (h : -10002 ≤ x.toInt ∧ x.toInt ≤ 10002) : (lowD x).toInt = (x.toInt + 1) % 3 - 1 := by
  have h1 := rem_v h
  unfold lowD
  have e : remD x = 2 ↔ (remD x).toInt = 2 := p_eq _ _
  by_cases h2 : remD x = 2
  · rw [if_pos h2]; rw [e] at h2
    show (-1 : Int) = _
    omega
  · rw [if_neg h2]; rw [e] at h2; omega
theorem d_ok {x : Int32} (h : -10000 ≤ x.toInt ∧ x.toInt ≤ 10000) : fmD (x + 1) - 1 = lowD x ∧ fdD (x + 1) = nxt x ∧ 3 * (nxt x).toInt + (lowD x).toInt = x.toInt ∧ -1 ≤ (lowD x).toInt ∧ (lowD x).toInt ≤ 1 := by
  have l : (1 : Int32).toInt = 1 := rfl
  have h1 := low_v (x := x) ⟨by omega, by omega⟩
  have hp : (x + 1).toInt = x.toInt + 1 := by rw [p_add (by rw [l]; omega) (by rw [l]; omega), l]
  have h2 := fm_v (x := x + 1) ⟨by omega, by omega⟩
  have h3 := fd_v (x := x + 1) ⟨by omega, by omega⟩
  have h4 : (x - lowD x).toInt = x.toInt - (lowD x).toInt := p_sub (by omega) (by omega)
  have h5 : (nxt x).toInt = (x.toInt + 1) / 3 := by
    unfold nxt
    rw [t3 ⟨by omega, by omega⟩, h4, h1]
    split <;> omega
  refine ⟨?_, ?_, by omega, by omega, by omega⟩
  · rw [p_eq, p_sub (by rw [l]; omega) (by rw [l]; omega), l]; omega
  · rw [p_eq]; omega
theorem e_fm (x : Int32) (S : Hp) (Q : Int32 → Hp → Prop) : wp_J9_floorMod_7cf53 x 3 S Q ↔ Q (fmD x) S := by
  unfold wp_J9_floorMod_7cf53 fmD
  simp only [forall_eq, show ¬ ((3 : Int32) = 0) by decide, not_false_eq_true, true_and]
  by_cases h1 : 0 ≤ (x ^^^ 3)
  · simp [h1]
  · by_cases h2 : x - x / 3 * 3 = 0
    · simp [h1, h2]
    · simp [h1, h2]
theorem e_fd (x : Int32) (S : Hp) (Q : Int32 → Hp → Prop) : wp_J9_floorDiv_7cf53 x 3 S Q ↔ Q (fdD x) S := by
  unfold wp_J9_floorDiv_7cf53 fdD
  simp only [forall_eq, show ¬ ((3 : Int32) = 0) by decide, not_false_eq_true, true_and]
  by_cases h1 : 0 ≤ (x ^^^ 3)
  · simp [h1]
  · by_cases h2 : x / 3 * 3 = x
    · simp [h1, h2]
    · simp [h1, h2]
abbrev dR (x : Int32) : Prop := -10000 ≤ x.toInt ∧ x.toInt ≤ 10000
theorem t_low {x : Int32} (h : dR x) (S : Hp) (Q : Int32 → Hp → Prop) : wp_X5_lowestDigit x S Q ↔ Q (lowD x) S := by
  unfold wp_X5_lowestDigit
  rw [e_fm, (d_ok h).1]
theorem t_wit {x : Int32} (h : dR x) (S : Hp) (Q : Int32 → Hp → Prop) : wp_X5_withoutLowest x S Q ↔ Q (nxt x) S := by
  unfold wp_X5_withoutLowest
  rw [e_fd, (d_ok h).2.1]
theorem e_lowest (x : Int32) (S : Hp) (Q : Int32 → Hp → Prop) : wp_X6_lowest x S Q ↔ Q (lowD x) S := by
  unfold wp_X6_lowest lowD
  simp only [forall_eq]
  show ((¬ remD x = 2 → Q (remD x) S) ∧ (remD x = 2 → Q (-1) S)) ↔ _
  by_cases h : remD x = 2 <;> simp [h]
def rs (x : Int32) : Nat → Int32
  | 0 => x
  | k + 1 => nxt (rs x k)
theorem rs_R {x : Int32} (h : dR x) : ∀ k, dR (rs x k)
  | 0 => h
  | k + 1 => by
    have h1 := rs_R h k
    have h2 := d_ok h1
    show -10000 ≤ (nxt (rs x k)).toInt ∧ (nxt (rs x k)).toInt ≤ 10000
    omega
theorem rs_b {x : Int32} (h : dR x) (k : Nat) {B C : Int} (hB : -B ≤ (rs x k).toInt ∧ (rs x k).toInt ≤ B) (hC : C = (B + 1) / 3) : -C ≤ (rs x (k + 1)).toInt ∧ (rs x (k + 1)).toInt ≤ C := by
  have h2 := d_ok (rs_R h k)
  show -C ≤ (nxt (rs x k)).toInt ∧ (nxt (rs x k)).toInt ≤ C
  omega
theorem rs_10 {x : Int32} (h : isW x) : rs x 10 = 0 := by
  have hR : dR x := ⟨by have := h.1; omega, by have := h.2; omega⟩
  have h0 : -9999 ≤ (rs x 0).toInt ∧ (rs x 0).toInt ≤ 9999 := h
  have h1 := rs_b hR 0 h0 (C := 3333) (by decide)
  have h2 := rs_b hR 1 h1 (C := 1111) (by decide)
  have h3 := rs_b hR 2 h2 (C := 370) (by decide)
  have h4 := rs_b hR 3 h3 (C := 123) (by decide)
  have h5 := rs_b hR 4 h4 (C := 41) (by decide)
  have h6 := rs_b hR 5 h5 (C := 14) (by decide)
  have h7 := rs_b hR 6 h6 (C := 5) (by decide)
  have h8 := rs_b hR 7 h7 (C := 2) (by decide)
  have h9 := rs_b hR 8 h8 (C := 1) (by decide)
  have h10 := rs_b hR 9 h9 (C := 0) (by decide)
  rw [p_eq]
  show (rs x 10).toInt = 0
  have : -0 ≤ (rs x 10).toInt ∧ (rs x 10).toInt ≤ 0 := h10
  omega
theorem rs_0 {x : Int32} : ∀ {k j : Nat}, rs x k = 0 → k ≤ j → rs x j = 0
  | k, 0, h, hj => by rw [show k = 0 by omega] at h; exact h
  | k, j + 1, h, hj => by
    by_cases e : k = j + 1
    · rw [← e]; exact h
    · show nxt (rs x j) = 0
      rw [rs_0 h (show k ≤ j by omega)]; decide
def dP (x : Int32) (k : Nat) : Bool := decide (rs x k = 0)
def dN (x : Int32) : Nat := (fsq (dP x) 11).getD 0
def told3 (x : Int32) : Int32 := if 0 ≤ x then x else 2
def sp_digits (x i : Int32) : Int32 := if isW x then (if -1 ≤ i.toInt then (if i.toInt = -1 then nI (dN x) else if i.toInt < dN x then told3 (lowD (rs x (ix i))) else 0) else -1) else -1
theorem told_fm {x : Int32} (h : -1 ≤ (lowD x).toInt ∧ (lowD x).toInt ≤ 1) : fmD (lowD x) = told3 (lowD x) := by
  generalize lowD x = y at h
  have : y = -1 ∨ y = 0 ∨ y = 1 := by
    rw [p_eq, p_eq, p_eq, show (-1 : Int32).toInt = -1 from rfl, show (0 : Int32).toInt = 0 from rfl, show (1 : Int32).toInt = 1 from rfl]
    omega
  rcases this with rfl | rfl | rfl <;> decide
theorem dN_at {x : Int32} {k : Nat} (h : ∀ j, j < k → ¬ rs x j = 0) (h0 : rs x k = 0) (hk : k ≤ 10) : dN x = k := by
  unfold dN
  rw [fsq_at (P := dP x) (k := k) (fun j hj => fun z => h j hj (of_decide_eq_true z)) (decide_eq_true h0) (by omega)]
  rfl
theorem dN_gt {x : Int32} (hx : isW x) {k : Nat} (h : ∀ j, j < k + 1 → ¬ rs x j = 0) : k < dN x := by
  unfold dN
  cases hf : fsq (dP x) 11 with
  | none => exact absurd (decide_eq_true (rs_10 hx)) (fsq_none.mp hf 10 (by decide))
  | some q =>
    show k < q
    have key : ∀ m, fsq (dP x) m = some q → rs x q = 0 := by
      intro m
      induction m with
      | zero => intro z; cases z
      | succ m ih =>
        intro z
        rw [fsq] at z
        cases h5 : fsq (dP x) m with
        | some r => rw [h5] at z; cases z; exact ih h5
        | none =>
          rw [h5] at z
          by_cases h6 : dP x m = true
          · simp only [h6, if_true] at z; cases z; exact of_decide_eq_true h6
          · simp [h6] at z
    have h0 := key 11 hf
    exact Nat.lt_of_not_le fun z => h q (by omega) h0
theorem x_digits (m : Nat) {x i : Int32} {S : Hp} {Q : Int32 → Hp → Prop} (hQ : Q (sp_digits x i) S) : wp_X5_digits m x i S Q := by
  unfold sp_digits at hQ
  unfold wp_X5_digits
  rw [e_xNum]
  refine br0 (fun hx => ?_) (fun hx => ?_)
  · have hR : dR x := ⟨by omega, by omega⟩
    rw [if_pos hx] at hQ
    rw [p_le, show (-1 : Int32).toInt = -1 from rfl]
    refine ⟨fun h3 => ?_, fun h3 => ?_⟩
    · rw [if_pos h3] at hQ
      refine it_up 10 (fun k y => y = (i, rs x k, nI k, S) ∧ (∀ j, j < k → ¬ rs x j = 0) ∧ (i.toInt = -1 ∨ (k : Int) ≤ i.toInt)) ?_ _ ⟨rfl, fun j hj => absurd hj (Nat.not_lt_zero j), by omega⟩
      rintro C k y hk ⟨rfl, hP, hi⟩ hC
      have hRk := rs_R hR k
      have hd := d_ok hRk
      have hi1 : i = -1 ↔ i.toInt = -1 := p_eq _ _
      have hki : nI k = i ↔ (k : Int) = i.toInt := by rw [p_eq, nI_toInt (by omega)]
      simp only [L_X5_digits_19, J_X5_digits_47, hi1, hki, t_low hRk, t_wit hRk, e_fm, told_fm ⟨hd.2.2.2.1, hd.2.2.2.2⟩, forall_eq]
      refine ⟨fun e => ⟨fun e2 => ?_, fun e2 => ?_⟩, fun e => ⟨fun e2 => ⟨fun e3 => ?_, fun e3 => absurd e3 (by omega)⟩, fun e2 => ⟨fun e3 => ?_, fun e3 => ?_⟩⟩⟩
      · rw [if_neg e2, dN_at hP e hk, if_neg (by omega)] at hQ
        rw [e]; exact hQ
      · rw [if_pos e2, dN_at hP e hk] at hQ; exact hQ
      · rw [if_neg e3, if_pos (by
          have := dN_gt hx (k := k) (fun j hj => by
            by_cases e4 : j = k
            · subst e4; exact e
            · exact hP j (by omega))
          omega), show ix i = k by unfold ix; omega] at hQ
        exact hQ
      · rw [show (10 : Int32) = nI 10 from rfl, nI_leI (by decide) (by omega)] at e3
        rw [show k = 10 by omega] at e
        exact absurd (rs_10 hx) e
      · rw [show (10 : Int32) = nI 10 from rfl, nI_leI (by decide) (by omega)] at e3
        refine hC (by omega) _ ⟨by rw [nI_1]; rfl, fun j hj => ?_, by omega⟩
        by_cases e4 : j = k
        · subst e4; exact e
        · exact hP j (by omega)
    · rw [if_neg h3] at hQ; exact hQ
  · rw [if_neg hx] at hQ; exact hQ
theorem m_digits (m : Nat) {x i : Int32} {S : Hp} {Q : Int32 → Hp → Prop} (hQ : Q (sp_digits x i) S) : wp_X6_digits m x i S Q := by
  unfold sp_digits at hQ
  unfold wp_X6_digits
  rw [e_isInL (lo := -9999) (hi := 9999) rfl rfl]
  refine br0 (fun hx => ?_) (fun hx => ?_)
  · rw [if_pos hx] at hQ
    rw [p_le, show (-1 : Int32).toInt = -1 from rfl]
    refine ⟨fun h3 => ?_, fun h3 => ?_⟩
    · rw [if_pos h3] at hQ
      refine it_up 10 (fun k y => y = (i, rs x k, nI k, if 0 ≤ i.toInt ∧ i.toInt < k then lowD (rs x (ix i)) else 0, S) ∧ (∀ j, j < k → ¬ rs x j = 0)) ?_ _ ⟨by rw [if_neg (by omega)]; rfl, fun j hj => absurd hj (Nat.not_lt_zero j)⟩
      rintro C k y hk ⟨rfl, hP⟩ hC
      have hki : nI k = i ↔ (k : Int) = i.toInt := by rw [p_eq, nI_toInt (by omega)]
      simp only [L_X6_digits_28, J_X6_digits_51, hki, e_lowest, forall_eq]
      refine ⟨fun e => ?_, fun e => ?_⟩
      · rw [dN_at hP e hk] at hQ
        rw [p_le 0 i, show (0 : Int32).toInt = 0 from rfl]
        refine ⟨fun e2 => ?_, fun e2 => ?_⟩
        · rw [if_neg (by omega)] at hQ
          by_cases e3 : i.toInt < k
          · rw [if_pos e3] at hQ
            rw [if_pos ⟨e2, e3⟩]
            unfold told3 at hQ
            refine ⟨fun e4 => ?_, fun e4 => ?_⟩
            · rw [if_pos e4] at hQ; exact hQ
            · rw [if_neg e4] at hQ; exact hQ
          · rw [if_neg e3] at hQ
            rw [if_neg (by omega)]
            exact ⟨fun _ => hQ, fun z => absurd (by decide) z⟩
        · rw [if_pos (by omega)] at hQ; exact hQ
      · have hk10 : k < 10 := by
          by_cases e4 : k = 10
          · rw [e4] at e; exact absurd (rs_10 hx) e
          · omega
        have hP' : ∀ j, j < k + 1 → ¬ rs x j = 0 := fun j hj => by
          by_cases e4 : j = k
          · subst e4; exact e
          · exact hP j (by omega)
        refine ⟨fun e2 => hC hk10 _ ⟨?_, hP'⟩, fun e2 => hC hk10 _ ⟨?_, hP'⟩⟩
        · rw [nI_1]
          show (i, nxt (rs x k), nI (k + 1), _, S) = (i, nxt (rs x k), nI (k + 1), _, S)
          by_cases e3 : 0 ≤ i.toInt ∧ i.toInt < k
          · rw [if_pos e3, if_pos ⟨e3.1, by omega⟩]
          · rw [if_neg e3, if_neg (by omega)]
        · rw [nI_1]
          show (i, nxt (rs x k), nI (k + 1), _, S) = (i, nxt (rs x k), nI (k + 1), _, S)
          rw [if_pos ⟨by omega, by omega⟩, show ix i = k by unfold ix; omega]
    · rw [if_neg h3] at hQ; exact hQ
  · rw [if_neg hx] at hQ; exact hQ
-- carryings
def cry (x y : Int32) : Nat → Int32
  | 0 => 0
  | k + 1 => nxt (lowD (rs x k) + lowD (rs y k) + cry x y k)
def ncr (x y : Int32) : Nat → Nat
  | 0 => 0
  | k + 1 => ncr x y k + (if cry x y (k + 1) = 0 then 0 else 1)
def sp_added (x y : Int32) : Int32 := if isW x then (if isW y then nI (ncr x y 10) else -1) else -1
theorem sum3 {x y z : Int32} (hx : -1 ≤ x.toInt ∧ x.toInt ≤ 1) (hy : -1 ≤ y.toInt ∧ y.toInt ≤ 1) (hz : -1 ≤ z.toInt ∧ z.toInt ≤ 1) : (x + y + z).toInt = x.toInt + y.toInt + z.toInt := by
  have h1 : (x + y).toInt = x.toInt + y.toInt := p_add (by omega) (by omega)
  rw [p_add (by omega) (by omega), h1]
theorem cry_b {x y : Int32} (hx : dR x) (hy : dR y) : ∀ k, -1 ≤ (cry x y k).toInt ∧ (cry x y k).toInt ≤ 1
  | 0 => ⟨by show (-1 : Int) ≤ 0; decide, by show (0 : Int) ≤ 1; decide⟩
  | k + 1 => by
    have h1 := d_ok (rs_R hx k)
    have h2 := d_ok (rs_R hy k)
    have h3 := cry_b hx hy k
    have hs := sum3 ⟨h1.2.2.2.1, h1.2.2.2.2⟩ ⟨h2.2.2.2.1, h2.2.2.2.2⟩ h3
    have h4 := d_ok (x := lowD (rs x k) + lowD (rs y k) + cry x y k) ⟨by omega, by omega⟩
    show -1 ≤ (nxt _).toInt ∧ (nxt _).toInt ≤ 1
    omega
/-- what is still to be told, with what is carried -/
def vv (x y : Int32) (k : Nat) : Int := (rs x k).toInt + (rs y k).toInt + (cry x y k).toInt
theorem vv_b {x y : Int32} (hx : dR x) (hy : dR y) (k : Nat) {B C : Int} (hB : -B ≤ vv x y k ∧ vv x y k ≤ B) (hC : C = (B + 1) / 3) : -C ≤ vv x y (k + 1) ∧ vv x y (k + 1) ≤ C := by
  have h1 := d_ok (rs_R hx k)
  have h2 := d_ok (rs_R hy k)
  have h3 := cry_b hx hy k
  have hs := sum3 ⟨h1.2.2.2.1, h1.2.2.2.2⟩ ⟨h2.2.2.2.1, h2.2.2.2.2⟩ h3
  have h4 := d_ok (x := lowD (rs x k) + lowD (rs y k) + cry x y k) ⟨by omega, by omega⟩
  unfold vv at hB ⊢
  show -C ≤ (nxt (rs x k)).toInt + (nxt (rs y k)).toInt + (nxt (lowD (rs x k) + lowD (rs y k) + cry x y k)).toInt ∧ (nxt (rs x k)).toInt + (nxt (rs y k)).toInt + (nxt (lowD (rs x k) + lowD (rs y k) + cry x y k)).toInt ≤ C
  omega
theorem cry_10 {x y : Int32} (hx : isW x) (hy : isW y) : cry x y 10 = 0 := by
  have hxR : dR x := ⟨by have := hx.1; omega, by have := hx.2; omega⟩
  have hyR : dR y := ⟨by have := hy.1; omega, by have := hy.2; omega⟩
  have h0 : -19998 ≤ vv x y 0 ∧ vv x y 0 ≤ 19998 := by
    show -19998 ≤ x.toInt + y.toInt + (0 : Int) ∧ x.toInt + y.toInt + (0 : Int) ≤ 19998
    have := hx.1; have := hx.2; have := hy.1; have := hy.2
    omega
  have h1 := vv_b hxR hyR 0 h0 (C := 6666) (by decide)
  have h2 := vv_b hxR hyR 1 h1 (C := 2222) (by decide)
  have h3 := vv_b hxR hyR 2 h2 (C := 741) (by decide)
  have h4 := vv_b hxR hyR 3 h3 (C := 247) (by decide)
  have h5 := vv_b hxR hyR 4 h4 (C := 82) (by decide)
  have h6 := vv_b hxR hyR 5 h5 (C := 27) (by decide)
  have h7 := vv_b hxR hyR 6 h6 (C := 9) (by decide)
  have h8 := vv_b hxR hyR 7 h7 (C := 3) (by decide)
  have h9 := vv_b hxR hyR 8 h8 (C := 1) (by decide)
  have h10 := vv_b hxR hyR 9 h9 (C := 0) (by decide)
  have e : -0 ≤ vv x y 10 ∧ vv x y 10 ≤ 0 := h10
  unfold vv at e
  rw [rs_10 hx, rs_10 hy, show (0 : Int32).toInt = 0 from rfl] at e
  rw [p_eq, show (0 : Int32).toInt = 0 from rfl]
  omega
theorem x_added (m : Nat) {x y : Int32} {S : Hp} {Q : Int32 → Hp → Prop} (hQ : Q (sp_added x y) S) : wp_X5_added m x y S Q := by
  unfold sp_added at hQ
  unfold wp_X5_added
  rw [e_xNum]
  refine br0 (fun hx => ?_) (fun hx => ?_)
  · have hxR : dR x := ⟨by omega, by omega⟩
    rw [if_pos hx] at hQ
    rw [e_xNum]
    refine br1 (fun hy => ?_) (fun hy => ?_)
    · have hyR : dR y := ⟨by omega, by omega⟩
      rw [if_pos hy] at hQ
      refine it_up 10 (fun k z => z = (rs x k, rs y k, cry x y k, nI (ncr x y k), nI k, S)) ?_ _ rfl
      rintro C k z hk rfl hC
      have h1 := d_ok (rs_R hxR k)
      have h2 := d_ok (rs_R hyR k)
      have h3 := cry_b hxR hyR k
      have hs := sum3 ⟨h1.2.2.2.1, h1.2.2.2.2⟩ ⟨h2.2.2.2.1, h2.2.2.2.2⟩ h3
      have h4 : dR (lowD (rs x k) + lowD (rs y k) + cry x y k) := ⟨by omega, by omega⟩
      simp only [L_X5_added_30, J_X5_added_67, t_low (rs_R hxR k), t_low (rs_R hyR k), t_wit (rs_R hxR k), t_wit (rs_R hyR k), t_wit h4, forall_eq]
      rw [show (10 : Int32) = nI 10 from rfl, nI_leI (by decide) (by omega)]
      refine ⟨fun e => ?_, fun e => ⟨fun e2 => hC (by omega) _ ?_, fun e2 => hC (by omega) _ ?_⟩⟩
      · rw [show k = 10 by omega]; exact hQ
      · rw [nI_1, ncr, if_pos (show cry x y (k + 1) = 0 from e2)]; rfl
      · rw [nI_1, nI_1, ncr, if_neg (show ¬ cry x y (k + 1) = 0 from e2)]; rfl
    · rw [if_neg hy] at hQ; exact hQ
  · rw [if_neg hx] at hQ; exact hQ
theorem nxt3 {s : Int32} (h : -3 ≤ s.toInt ∧ s.toInt ≤ 3) : nxt s = (if s ≤ 1 then (if -1 ≤ s then 0 else -1) else 1) := by
  have : ∀ k, k < 7 → nxt (nI k - 3) = (if nI k - 3 ≤ 1 then (if -1 ≤ nI k - 3 then 0 else -1) else 1) := by decide +kernel
  have h1 := this (s.toInt + 3).toNat (by omega)
  have e : nI (s.toInt + 3).toNat - 3 = s := by
    have l : (3 : Int32).toInt = 3 := rfl
    rw [p_eq, p_sub (by rw [nI_toInt (by omega), l]; omega) (by rw [nI_toInt (by omega), l]; omega), nI_toInt (by omega), l]
    omega
  rw [e] at h1
  exact h1
theorem ncr_0 {x y : Int32} {k : Nat} (h1 : rs x k = 0) (h2 : rs y k = 0) (h3 : cry x y k = 0) : ∀ j, cry x y (k + j) = 0 ∧ ncr x y (k + j) = ncr x y k
  | 0 => ⟨h3, rfl⟩
  | j + 1 => by
    obtain ⟨h4, h5⟩ := ncr_0 h1 h2 h3 j
    have e : cry x y (k + j + 1) = 0 := by
      show nxt (lowD (rs x (k + j)) + lowD (rs y (k + j)) + cry x y (k + j)) = 0
      rw [rs_0 h1 (by omega), rs_0 h2 (by omega), h4]; decide
    refine ⟨e, ?_⟩
    show ncr x y (k + j) + (if cry x y (k + j + 1) = 0 then 0 else 1) = _
    rw [if_pos e, h5]; rfl
theorem m_added (m : Nat) {x y : Int32} {S : Hp} {Q : Int32 → Hp → Prop} (hQ : Q (sp_added x y) S) : wp_X6_added m x y S Q := by
  unfold sp_added at hQ
  unfold wp_X6_added
  rw [e_isInL (lo := -9999) (hi := 9999) rfl rfl]
  refine br0 (fun hx => ?_) (fun hx => ?_)
  · have hxR : dR x := ⟨by omega, by omega⟩
    rw [if_pos hx] at hQ
    rw [e_isInL (lo := -9999) (hi := 9999) rfl rfl]
    refine br1 (fun hy => ?_) (fun hy => ?_)
    · have hyR : dR y := ⟨by omega, by omega⟩
      rw [if_pos hy] at hQ
      refine it_up 10 (fun k z => z = (rs x k, rs y k, cry x y k, nI (ncr x y k), S)) ?_ _ rfl
      rintro C k z hk rfl hC
      have h1 := d_ok (rs_R hxR k)
      have h2 := d_ok (rs_R hyR k)
      have h3 := cry_b hxR hyR k
      have hs := sum3 ⟨h1.2.2.2.1, h1.2.2.2.2⟩ ⟨h2.2.2.2.1, h2.2.2.2.2⟩ h3
      have h4 := nxt3 (s := lowD (rs x k) + lowD (rs y k) + cry x y k) ⟨by omega, by omega⟩
      have go : k < 10 → J_X6_added_53 C Q (rs x k) (rs y k) (cry x y k) (nI (ncr x y k)) S := by
        intro hk10
        have hstep := hC hk10
        have hc1 : cry x y (k + 1) = nxt (lowD (rs x k) + lowD (rs y k) + cry x y k) := rfl
        simp only [J_X6_added_53, J_X6_added_97, J_X6_added_111, e_lowest, forall_eq]
        rw [← hc1] at h4
        refine ⟨fun e => ⟨fun e2 => ⟨fun z => absurd trivial z, fun _ => hstep _ ?_⟩, fun e2 => ⟨fun _ => hstep _ ?_, fun z => absurd z (by decide)⟩⟩, fun e => ⟨fun _ => hstep _ ?_, fun z => absurd z (by decide)⟩⟩
        · rw [if_pos e, if_pos e2] at h4
          rw [h4, ncr, if_pos h4, Int32.add_zero]; rfl
        · rw [if_pos e, if_neg e2] at h4
          rw [h4, ncr, if_neg (by rw [h4]; decide), nI_1]; rfl
        · rw [if_neg e] at h4
          rw [h4, ncr, if_neg (by rw [h4]; decide), nI_1]; rfl
      have h10 : ¬ k < 10 → rs x k = 0 ∧ rs y k = 0 ∧ cry x y k = 0 := fun e => by
        rw [show k = 10 by omega]; exact ⟨rs_10 hx, rs_10 hy, cry_10 hx hy⟩
      simp only [L_X6_added_39]
      refine ⟨fun e => go (Decidable.byContradiction fun z => e (h10 z).1), fun e1 => ⟨fun e => go (Decidable.byContradiction fun z => e (h10 z).2.1), fun e2 => ⟨fun e3 => ?_, fun e => go (Decidable.byContradiction fun z => e (h10 z).2.2)⟩⟩⟩
      have := (ncr_0 e1 e2 e3 (10 - k)).2
      rw [show k + (10 - k) = 10 by omega] at this
      rw [this] at hQ
      exact hQ
    · rw [if_neg hy] at hQ; exact hQ
  · rw [if_neg hx] at hQ; exact hQ
