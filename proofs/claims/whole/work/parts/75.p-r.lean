/-! sets of weights by which all is had: what the class and the reference ask -/
theorem l_oa (x y z : Int64) : (x ||| y) &&& z = (x &&& z) ||| (y &&& z) := by
  rw [← Int64.toBitVec_inj, Int64.toBitVec_and, Int64.toBitVec_or, Int64.toBitVec_or, Int64.toBitVec_and, Int64.toBitVec_and]
  ext i hi
  simp [Bool.and_or_distrib_right]
theorem l_bt : ∀ i, i < 61 → ∀ p, p < 64 → ((((1 : Int64) <<< ((lN i) &&& 63)) >>> ((lN p) &&& 63)) &&& (1 : Int64) = 0 ↔ i ≠ p) := by decide +kernel
theorem nI_subN {a b : Nat} (h : a ≤ b) (hb : b < 2 ^ 31) : nI b - nI a = nI (b - a) := by
  rw [p_eq, p_sub (by rw [nI_toInt hb, nI_toInt (by omega)]; omega) (by rw [nI_toInt hb, nI_toInt (by omega)]; omega), nI_toInt hb, nI_toInt (by omega), nI_toInt (by omega)]
  omega
def ad (w c : Nat) : Nat := if c ≤ w then w - c else c - w
theorem abs_nI {w c : Nat} (hw : w < 1000) (hc : c < 1000) : (if 0 ≤ (nI w - nI c) then (nI w - nI c) else 0 - (nI w - nI c)) = nI (ad w c) := by
  have e : (nI w - nI c).toInt = (w : Int) - c := by
    rw [p_sub (by rw [nI_toInt (by omega), nI_toInt (by omega)]; omega) (by rw [nI_toInt (by omega), nI_toInt (by omega)]; omega), nI_toInt (by omega), nI_toInt (by omega)]
  have z0 : (0 : Int32).toInt = 0 := rfl
  unfold ad
  by_cases h : c ≤ w
  · rw [if_pos (by rw [p_le, e, z0]; omega), if_pos h, p_eq, e, nI_toInt (by omega)]; omega
  · rw [if_neg (by rw [p_le, e, z0]; omega), if_neg h, p_eq, p_sub (by rw [e, z0]; omega) (by rw [e, z0]; omega), e, z0, nI_toInt (by omega)]; omega
abbrev inB (a b p : Nat) : Prop := p = 0 ∨ p = a ∨ p = b ∨ p = b - a ∨ p = b + a
def hvW (a b c w : Nat) : Bool := decide (inB a b w ∨ inB a b (ad w c) ∨ inB a b (w + c))
def hvP (a b c n : Nat) : Bool := allB (fun w => hvW a b c (w + 1)) n
theorem x_haveAll {S : Hp} {a b c n : Nat} {Q : Int32 → Hp → Prop} (ha : a ≤ b) (hb : b ≤ 30) (hc : c ≤ 30) (hn : n ≤ 13) (h : Q (b2 (hvP a b c n = true)) S) : wp_X5_haveAll (nI a) (nI b) (nI c) (nI n) S Q := by
  unfold wp_X5_haveAll
  intro y3 e3
  rw [nI_subN ha (by omega), nI_add, nI_l (by omega), nI_l (by omega), nI_l (by omega), nI_l (by omega)] at e3
  have key : ∀ p, p < 64 → ((y3 >>> (lN p &&& 63)) &&& (1 : Int64) = 0 ↔ ¬ inB a b p) := fun p hp => by
    rw [e3, show ((1 : Int64) ||| ((1 : Int64) <<< (lN a &&& 63))) = (((1 : Int64) <<< (lN 0 &&& 63)) ||| ((1 : Int64) <<< (lN a &&& 63))) from congrArg (fun z => z ||| ((1 : Int64) <<< (lN a &&& 63))) (by decide)]
    rw [Int64.shiftRight_or, Int64.shiftRight_or, Int64.shiftRight_or, Int64.shiftRight_or, l_oa, l_oa, l_oa, l_oa, Int64.or_eq_zero_iff, Int64.or_eq_zero_iff, Int64.or_eq_zero_iff, Int64.or_eq_zero_iff, l_bt 0 (by decide) p hp, l_bt a (by omega) p hp, l_bt b (by omega) p hp, l_bt (b - a) (by omega) p hp, l_bt (b + a) (by omega) p hp]
    unfold inB
    omega
  clear e3
  refine it_up n (fun k x => x = (nI c, nI n, y3, nI (k + 1), S) ∧ hvP a b c k = true) ?_ _ ⟨rfl, rfl⟩
  rintro C k x hk ⟨rfl, hP⟩ hC
  simp only [L_X5_haveAll_26, forall_eq]
  rw [nI_ltI (by omega) (by omega)]
  refine ⟨fun e => ?_, fun e => ?_⟩
  · rw [show k = n by omega] at hP
    rw [b2_t hP] at h
    exact h
  · have had : ad (k + 1) c < 64 := by unfold ad; split <;> omega
    rw [lg_cmp_eq, abs_nI (by omega) (by omega), nI_add (k + 1) c, nI_l (by omega), nI_l (by omega), nI_l (by omega), l_oa, l_oa, Int64.or_eq_zero_iff, Int64.or_eq_zero_iff, key (k + 1) (by omega), key _ had, key (k + 1 + c) (by omega), nI_1]
    have hiff : hvP a b c (k + 1) = true ↔ (inB a b (k + 1) ∨ inB a b (ad (k + 1) c) ∨ inB a b (k + 1 + c)) := by
      unfold hvP allB
      rw [Bool.and_eq_true]
      unfold hvW
      rw [decide_eq_true_iff]
      exact ⟨fun w => w.2, fun w => ⟨hP, w⟩⟩
    refine ⟨fun e2 => hC (by omega) _ ⟨rfl, hiff.mpr (Classical.byContradiction fun w => e2 ⟨⟨fun y => w (Or.inl y), fun y => w (Or.inr (Or.inl y))⟩, fun y => w (Or.inr (Or.inr y))⟩)⟩, fun e2 => ?_⟩
    have hno : ¬ hvP a b c n = true := fun w => by
      have h5 : hvP a b c (k + 1) = true := allB_iff.mpr (fun j hj => allB_iff.mp w j (by omega))
      rcases hiff.mp h5 with y | y | y
      · exact e2.1.1 y
      · exact e2.1.2 y
      · exact e2.2 y
    rw [b2_f hno] at h
    exact h
-- the reference
def exB (P : Nat → Bool) : Nat → Bool
  | 0 => false
  | n + 1 => exB P n || P n
theorem exB_iff {P : Nat → Bool} : ∀ {n : Nat}, exB P n = true ↔ ∃ j, j < n ∧ P j = true
  | 0 => ⟨fun z => (by cases z), fun ⟨j, hj, _⟩ => absurd hj (Nat.not_lt_zero j)⟩
  | n + 1 => by
    unfold exB
    rw [Bool.or_eq_true, exB_iff]
    refine ⟨fun h => ?_, fun ⟨j, hj, h⟩ => ?_⟩
    · rcases h with ⟨j, hj, h⟩ | h
      · exact ⟨j, by omega, h⟩
      · exact ⟨n, by omega, h⟩
    · by_cases e : j = n
      · subst e; exact Or.inr h
      · exact Or.inl ⟨j, by omega, h⟩
def sgS (f : Nat → Int32) : Nat → Nat → Int32
  | 0, _ => 0
  | k + 1, v => sgS f k v + (if dg k v = 1 then f k else if dg k v = 2 then -(f k) else 0)
def rhP (f : Nat → Int32) (k n : Nat) : Bool := allB (fun w => exB (fun v => decide (sgS f k v = nI (w + 1))) (3 ^ k)) n
theorem t_isAllHad {S : Hp} {m b k n : Nat} {f : Nat → Int32} {Q : Int32 → Hp → Prop} (hk : k ≤ 3) (hn : n ≤ 13) (k0 : kd S m = 7) (r6 : gR S 86 m = some b) (k6 : kd S b = 8) (l6 : ln S b = 3) (hf : ∀ j, j < k → gA S b j = f j) (h : Q (b2 (rhP f k n = true)) S) : wp_X6_isAllHad m (nI k) (nI n) S Q := by
  have h3 : 3 ^ k ≤ 27 := Nat.pow_le_pow_right (n := 3) (by decide) hk
  unfold wp_X6_isAllHad
  refine it_up n (fun w x => x = (m, nI k, nI n, nI (w + 1), S) ∧ rhP f k w = true) ?_ _ ⟨rfl, rfl⟩
  rintro C w x hw ⟨rfl, hP⟩ hC
  simp only [L_X6_isAllHad_2]
  rw [nI_ltI (by omega) (by omega)]
  refine ⟨fun e => ?_, fun e => ?_⟩
  · rw [show w = n by omega] at hP
    rw [b2_t hP] at h
    exact h
  · have hst := hC (by omega)
    have hiff : rhP f k (w + 1) = true ↔ exB (fun v => decide (sgS f k v = nI (w + 1))) (3 ^ k) = true := by
      unfold rhP allB
      rw [Bool.and_eq_true]
      exact ⟨fun y => y.2, fun y => ⟨hP, y⟩⟩
    refine it_up (3 ^ k) (fun v x => x = (m, nI k, nI n, nI (w + 1), b2 (exB (fun v => decide (sgS f k v = nI (w + 1))) v = true), nI v, S)) ?_ _ rfl
    rintro C2 v x hv rfl hC2
    simp only [L_X6_isAllHad_13]
    refine t_power (by omega) ?_
    rw [nI_leI (by omega) (by omega)]
    refine ⟨fun e2 => ?_, fun e2 => ?_⟩
    · rw [show v = 3 ^ k by omega]
      simp only [forall_eq]
      refine br1 (fun y => ?_) (fun y => ?_)
      · rw [nI_1]; exact hst _ ⟨rfl, hiff.mpr y⟩
      · have hno : ¬ rhP f k n = true := fun z => y (hiff.mp (allB_iff.mpr (fun j hj => allB_iff.mp z j (by omega))))
        rw [b2_f hno] at h
        exact h
    · have hst2 := hC2 (by omega)
      refine it_up k (fun i x => x = (m, nI k, nI n, nI (w + 1), b2 (exB (fun v => decide (sgS f k v = nI (w + 1))) v = true), nI v, sgS f i v, nI (v / 3 ^ i), nI i, S)) ?_ _ (by rw [Nat.pow_zero, Nat.div_one]; rfl)
      rintro C3 i x hi rfl hC3
      simp only [L_X6_isAllHad_32, J_X6_isAllHad_86, J_X6_isAllHad_106, J_X6_isAllHad_111, forall_eq]
      rw [nI_leI (by omega) (by omega)]
      refine ⟨fun e3 => ?_, fun e3 => ?_⟩
      · have hik : i = k := by omega
        subst hik
        rw [nI_1]
        refine br1 (fun y => hst2 _ ?_) (fun y => ⟨fun e4 => hst2 _ ?_, fun e4 => hst2 _ ?_⟩)
        · have hh : exB (fun v => decide (sgS f i v = nI (w + 1))) (v + 1) = true := (Bool.or_eq_true _ _).mpr (Or.inl y)
          rw [b2_t hh]
        · have hh : ¬ exB (fun v => decide (sgS f i v = nI (w + 1))) (v + 1) = true := fun z => by
            rcases (Bool.or_eq_true _ _).mp z with z | z
            · exact y z
            · exact e4 (of_decide_eq_true z)
          rw [b2_f hh]
        · have hh : exB (fun v => decide (sgS f i v = nI (w + 1))) (v + 1) = true := (Bool.or_eq_true _ _).mpr (Or.inr (decide_eq_true e4))
          rw [b2_t hh]
      · have hst3 := hC3 (by omega)
        have hlt : v / 3 ^ i < 2 ^ 31 := Nat.lt_of_le_of_lt (Nat.div_le_self _ _) (by omega)
        have hdd : nI (v / 3 ^ i) / (3 : Int32) = nI (v / 3 ^ (i + 1)) := by
          rw [show (3 : Int32) = nI 3 from rfl, pk_div hlt (by decide) (by decide), Nat.pow_succ, Nat.div_div_eq_div_mul]
        have hdm : nI (v / 3 ^ i) - nI (v / 3 ^ i) / (3 : Int32) * (3 : Int32) = nI (dg i v) := by
          rw [show (3 : Int32) = nI 3 from rfl, pk_rem hlt (by decide) (by decide)]; rfl
        have hd3 := dg_lt i v
        have hin : vp_in (nI i) (ln S b) := by rw [l6]; exact vp_in_nI (by omega) (by decide)
        rw [hdm, hdd, nI_1, nI_clamp (show i < 2 ^ 31 by omega), show (1 : Int32) = nI 1 from rfl, show (2 : Int32) = nI 2 from rfl, nI_eq (by omega) (by decide), nI_eq (by omega) (by decide)]
        refine ⟨fun e4 => ⟨fun e5 => hst3 _ ?_, fun e5 => ⟨k0, b, r6, k6, hin, hst3 _ ?_⟩⟩, fun e4 => ⟨k0, b, r6, k6, hin, hst3 _ ?_⟩⟩
        · rw [sgS, if_neg e4, if_neg e5]
        · rw [sgS, if_neg e4, if_pos e5, hf i (by omega)]
        · rw [sgS, if_pos e4, hf i (by omega)]
def tz (d : Nat) (x : Int) : Int := if d = 1 then x else if d = 2 then -x else 0
def sgZ (g : Nat → Nat) : Nat → Nat → Int
  | 0, _ => 0
  | k + 1, v => sgZ g k v + tz (dg k v) (g k)
theorem sg_Z {g : Nat → Nat} (v : Nat) : ∀ {k : Nat}, k ≤ 3 → (∀ j, j < k → g j ≤ 30) → (sgS (fun j => nI (g j)) k v).toInt = sgZ g k v ∧ -(30 * k : Int) ≤ sgZ g k v ∧ sgZ g k v ≤ 30 * k
  | 0, _, _ => ⟨rfl, (by decide : -(30 * ((0 : Nat) : Int)) ≤ (0 : Int)), (by decide : (0 : Int) ≤ 30 * ((0 : Nat) : Int))⟩
  | k + 1, hk, hg => by
    obtain ⟨h1, h2, h3⟩ := sg_Z v (k := k) (by omega) (fun j hj => hg j (by omega))
    have hgk := hg k (by omega)
    have e0 : (nI (g k)).toInt = g k := nI_toInt (by omega)
    have en : (-(nI (g k))).toInt = -(g k : Int) := by
      rw [Int32.toInt_neg, e0, p_bm (by omega) (by omega)]
    have z0 : (0 : Int32).toInt = 0 := rfl
    unfold sgS sgZ tz
    by_cases c1 : dg k v = 1
    · rw [if_pos c1, if_pos c1, p_add (by omega) (by omega)]
      refine ⟨by omega, by omega, by omega⟩
    · rw [if_neg c1, if_neg c1]
      by_cases c2 : dg k v = 2
      · rw [if_pos c2, if_pos c2, p_add (by omega) (by omega)]
        refine ⟨by omega, by omega, by omega⟩
      · rw [if_neg c2, if_neg c2, p_add (by omega) (by omega)]
        refine ⟨by omega, by omega, by omega⟩
theorem d3 : ∀ x, x < 3 → ∀ y, y < 3 → ∀ z, z < 3 → x + 3 * y + 9 * z < 27 ∧ dg 0 (x + 3 * y + 9 * z) = x ∧ dg 1 (x + 3 * y + 9 * z) = y ∧ dg 2 (x + 3 * y + 9 * z) = z := by decide +kernel
theorem d2 : ∀ y, y < 3 → ∀ z, z < 3 → y + 3 * z < 9 ∧ dg 0 (y + 3 * z) = y ∧ dg 1 (y + 3 * z) = z := by decide +kernel
theorem d1 : ∀ z, z < 3 → dg 0 z = z := by decide +kernel
theorem hv_iff {a b c w : Nat} (ha : a ≤ b) (hw : 1 ≤ w) : hvW a b c w = true ↔ ∃ x y z, x < 3 ∧ y < 3 ∧ z < 3 ∧ tz x a + tz y b + tz z c = w := by
  unfold hvW inB
  rw [decide_eq_true_iff]
  refine ⟨fun h => ?_, fun ⟨x, y, z, hx, hy, hz, h⟩ => ?_⟩
  · have e1 : ∀ x y z, x < 3 → y < 3 → z < 3 → tz x a + tz y b + tz z c = w → ∃ x y z, x < 3 ∧ y < 3 ∧ z < 3 ∧ tz x a + tz y b + tz z c = w := fun x y z hx hy hz e => ⟨x, y, z, hx, hy, hz, e⟩
    unfold tz at e1
    rcases h with (h | h | h | h | h) | h | (h | h | h | h | h)
    · omega
    · exact e1 1 0 0 (by decide) (by decide) (by decide) (by simp; omega)
    · exact e1 0 1 0 (by decide) (by decide) (by decide) (by simp; omega)
    · exact e1 2 1 0 (by decide) (by decide) (by decide) (by simp; omega)
    · exact e1 1 1 0 (by decide) (by decide) (by decide) (by simp; omega)
    · unfold ad at h
      by_cases c1 : c ≤ w
      · rw [if_pos c1] at h
        rcases h with h | h | h | h | h
        · exact e1 0 0 1 (by decide) (by decide) (by decide) (by simp; omega)
        · exact e1 1 0 1 (by decide) (by decide) (by decide) (by simp; omega)
        · exact e1 0 1 1 (by decide) (by decide) (by decide) (by simp; omega)
        · exact e1 2 1 1 (by decide) (by decide) (by decide) (by simp; omega)
        · exact e1 1 1 1 (by decide) (by decide) (by decide) (by simp; omega)
      · rw [if_neg c1] at h
        rcases h with h | h | h | h | h
        · exact e1 0 0 1 (by decide) (by decide) (by decide) (by simp; omega)
        · exact e1 2 0 1 (by decide) (by decide) (by decide) (by simp; omega)
        · exact e1 0 2 1 (by decide) (by decide) (by decide) (by simp; omega)
        · exact e1 1 2 1 (by decide) (by decide) (by decide) (by simp; omega)
        · exact e1 2 2 1 (by decide) (by decide) (by decide) (by simp; omega)
    · omega
    · exact e1 1 0 2 (by decide) (by decide) (by decide) (by simp; omega)
    · exact e1 0 1 2 (by decide) (by decide) (by decide) (by simp; omega)
    · exact e1 2 1 2 (by decide) (by decide) (by decide) (by simp; omega)
    · exact e1 1 1 2 (by decide) (by decide) (by decide) (by simp; omega)
  · unfold tz at h
    unfold ad
    rcases (by omega : x = 0 ∨ x = 1 ∨ x = 2) with rfl | rfl | rfl <;> rcases (by omega : y = 0 ∨ y = 1 ∨ y = 2) with rfl | rfl | rfl <;> rcases (by omega : z = 0 ∨ z = 1 ∨ z = 2) with rfl | rfl | rfl <;> simp at h <;> by_cases c1 : c ≤ w <;> simp only [c1, if_true, if_false] <;> omega
theorem rh_of {a b c k n : Nat} {g : Nat → Nat} (ha : a ≤ b) (hk : k ≤ 3) (hg : ∀ j, j < k → g j ≤ 30) (hn : n ≤ 13) (e : ∀ w : Nat, (∃ v, v < 3 ^ k ∧ sgZ g k v = (w : Int)) ↔ ∃ x y z, x < 3 ∧ y < 3 ∧ z < 3 ∧ tz x a + tz y b + tz z c = (w : Int)) : rhP (fun j => nI (g j)) k n = hvP a b c n := by
  have key : ∀ w, w < n → (exB (fun v => decide (sgS (fun j => nI (g j)) k v = nI (w + 1))) (3 ^ k) = true ↔ hvW a b c (w + 1) = true) := fun w hw => by
    rw [exB_iff, hv_iff ha (by omega), ← e (w + 1)]
    refine ⟨fun ⟨v, hv, h⟩ => ⟨v, hv, ?_⟩, fun ⟨v, hv, h⟩ => ⟨v, hv, ?_⟩⟩
    · have h2 := of_decide_eq_true h
      rw [← (sg_Z v hk hg).1, h2, nI_toInt (by omega)]
    · refine decide_eq_true ?_
      rw [p_eq, (sg_Z v hk hg).1, h, nI_toInt (by omega)]
  unfold rhP hvP
  rw [Bool.eq_iff_iff, allB_iff, allB_iff]
  exact ⟨fun h j hj => (key j hj).mp (h j hj), fun h j hj => (key j hj).mpr (h j hj)⟩
theorem tz0 (d : Nat) : tz d ((0 : Nat) : Int) = 0 := by
  unfold tz
  split
  · rfl
  · split <;> rfl
theorem rh_3 {g : Nat → Nat} {n : Nat} (h1 : g 0 ≤ g 1) (hg : ∀ j, j < 3 → g j ≤ 30) (hn : n ≤ 13) : rhP (fun j => nI (g j)) 3 n = hvP (g 0) (g 1) (g 2) n := by
  refine rh_of h1 (by decide) hg hn (fun w => ⟨fun ⟨v, hv, h⟩ => ⟨dg 0 v, dg 1 v, dg 2 v, dg_lt _ _, dg_lt _ _, dg_lt _ _, ?_⟩, fun ⟨x, y, z, hx, hy, hz, h⟩ => ?_⟩)
  · unfold sgZ sgZ sgZ sgZ at h
    rw [Int.zero_add] at h
    exact h
  · obtain ⟨q1, q2, q3, q4⟩ := d3 x hx y hy z hz
    refine ⟨x + 3 * y + 9 * z, q1, ?_⟩
    unfold sgZ sgZ sgZ sgZ
    rw [q2, q3, q4, Int.zero_add]
    exact h
theorem rh_2 {g : Nat → Nat} {n : Nat} (hg : ∀ j, j < 2 → g j ≤ 30) (hn : n ≤ 13) : rhP (fun j => nI (g j)) 2 n = hvP 0 (g 0) (g 1) n := by
  refine rh_of (Nat.zero_le _) (by decide) hg hn (fun w => ⟨fun ⟨v, hv, h⟩ => ⟨0, dg 0 v, dg 1 v, by decide, dg_lt _ _, dg_lt _ _, ?_⟩, fun ⟨x, y, z, hx, hy, hz, h⟩ => ?_⟩)
  · unfold sgZ sgZ sgZ at h
    rw [tz0]
    exact h
  · obtain ⟨q1, q2, q3⟩ := d2 y hy z hz
    refine ⟨y + 3 * z, q1, ?_⟩
    rw [tz0] at h
    unfold sgZ sgZ sgZ
    rw [q2, q3]
    exact h
theorem rh_1 {g : Nat → Nat} {n : Nat} (hg : ∀ j, j < 1 → g j ≤ 30) (hn : n ≤ 13) : rhP (fun j => nI (g j)) 1 n = hvP 0 0 (g 0) n := by
  refine rh_of (Nat.zero_le _) (by decide) hg hn (fun w => ⟨fun ⟨v, hv, h⟩ => ⟨0, 0, dg 0 v, by decide, by decide, dg_lt _ _, ?_⟩, fun ⟨x, y, z, hx, hy, hz, h⟩ => ?_⟩)
  · unfold sgZ sgZ at h
    rw [tz0, Int.zero_add]
    exact h
  · refine ⟨z, hz, ?_⟩
    rw [tz0, tz0, Int.zero_add, Int.zero_add] at h
    unfold sgZ sgZ
    rw [d1 z hz, Int.zero_add]
    exact h
