/-! series, trials -/
def geo (b : Nat) : Nat → Nat
  | 0 => 0
  | k + 1 => geo b k + b ^ k
def gP (b : Nat) (n : Int) (k : Nat) : Bool := decide (n ≤ (geo b k : Int))
def gN (b : Nat) (n : Int) : Nat := (fsq (gP b n) 15).getD 0
def sp_ser (b : Nat) (n i : Int32) : Int32 := if 1 ≤ n.toInt ∧ n.toInt ≤ 9999 then (if -1 ≤ i.toInt then (if i.toInt = -1 then nI (gN b n.toInt) else if i.toInt < gN b n.toInt then nI (b ^ ix i) else -4) else -1) else -1
theorem fsq_none {P : Nat → Bool} : ∀ {n : Nat}, fsq P n = none ↔ ∀ j, j < n → ¬ P j = true
  | 0 => ⟨fun _ j hj => absurd hj (Nat.not_lt_zero j), fun _ => rfl⟩
  | n + 1 => by
    have ih := fsq_none (P := P) (n := n)
    rw [fsq]
    cases h : fsq P n with
    | some q =>
      refine ⟨fun z => (by cases z), fun z => ?_⟩
      have := ih.mpr (fun j hj => z j (by omega))
      rw [h] at this; cases this
    | none =>
      have h1 := ih.mp h
      by_cases hp : P n = true
      · simp only [hp, if_true]
        exact ⟨fun z => (by cases z), fun z => absurd hp (z n (by omega))⟩
      · simp only [hp]
        exact ⟨fun _ j hj => by
          by_cases e : j = n
          · subst e; simpa using hp
          · exact h1 j (by omega), fun _ => rfl⟩
theorem fsq_at {P : Nat → Bool} {k n : Nat} (h : ∀ j, j < k → ¬ P j = true) (hk : P k = true) (hn : k < n) : fsq P n = some k := by
  refine fsq_up (k := k + 1) n (by omega) ?_
  rw [fsq, fsq_none.mpr h]
  exact if_pos hk
theorem geo_le : ∀ b, b < 4 → 2 ≤ b → ∀ k, k < 15 → geo b k ≤ 3000000 ∧ b ^ k ≤ 5000000 := by decide +kernel
theorem geo_14 : ∀ b, b < 4 → 2 ≤ b → 9999 ≤ geo b 14 := by decide +kernel
theorem x_ofSeries {b : Nat} (hb : b < 4) (hb2 : 2 ≤ b) {n i : Int32} {S : Hp} {Q : Int32 → Hp → Prop} (hQ : Q (sp_ser b n i) S) : wp_X5_ofSeries (nI b) n i S Q := by
  unfold sp_ser at hQ
  unfold wp_X5_ofSeries
  rw [p_lt, p_lt, p_le, show (1 : Int32).toInt = 1 from rfl, show (9999 : Int32).toInt = 9999 from rfl, show (-1 : Int32).toInt = -1 from rfl]
  refine ⟨fun h1 => ?_, fun h1 => ⟨fun h2 => ?_, fun h2 => ⟨fun h3 => ?_, fun h3 => ?_⟩⟩⟩
  · rw [if_neg (by omega)] at hQ; exact hQ
  · rw [if_neg (by omega)] at hQ; exact hQ
  · rw [if_pos (by omega), if_pos h3] at hQ
    refine it_up 14 (fun k x => x = (nI b, n, i, nI (b ^ k), nI (geo b (k + 1)), nI k, S) ∧ k < 14 ∧ (∀ j, j < k + 1 → ¬ gP b n.toInt j = true) ∧ (i.toInt = -1 ∨ (k : Int) ≤ i.toInt)) ?_ _ ⟨?_, by decide, ?_, by show i.toInt = -1 ∨ (0 : Int) ≤ i.toInt; omega⟩
    · rintro C k x hk ⟨rfl, hk14, hP, hi⟩ hC
      simp only [L_X5_ofSeries_27]
      have hg := (geo_le b hb hb2 (k + 1) (by omega)).1
      have hpw := (geo_le b hb hb2 k (by omega)).2
      have hi1 : i = -1 ↔ i.toInt = -1 := p_eq _ _
      have hki : nI k = i ↔ (k : Int) = i.toInt := by rw [p_eq, nI_toInt (by omega)]
      rw [p_le, nI_toInt (by omega)]
      refine ⟨fun hc => ?_, fun hc => ?_⟩
      · have hN : gN b n.toInt = k + 1 := by
          unfold gN; rw [fsq_at hP (decide_eq_true hc) (by omega)]; rfl
        rw [hN] at hQ
        simp only [J_X5_ofSeries_55, hi1, hki]
        refine ⟨fun e => ⟨fun e2 => ?_, fun e2 => ?_⟩, fun e => ?_⟩
        · rw [if_neg e, if_neg (by omega)] at hQ; exact hQ
        · rw [if_neg e, if_pos (by omega), show ix i = k by unfold ix; omega] at hQ; exact hQ
        · rw [if_pos e] at hQ; rw [nI_1]; exact hQ
      · have hPk : ¬ gP b n.toInt (k + 1) = true := fun z => hc (of_decide_eq_true z)
        rw [hki]
        refine ⟨fun e => ?_, fun e => ?_⟩
        · simp only [J_X5_ofSeries_55, hi1, hki]
          have hlt : i.toInt < gN b n.toInt := by
            unfold gN
            cases hf : fsq (gP b n.toInt) 15 with
            | none => exact absurd (decide_eq_true (by have := geo_14 b hb hb2; omega)) (fsq_none.mp hf 14 (by decide))
            | some q =>
              show i.toInt < (q : Int)
              have : ¬ q < k + 2 := fun z => by
                have h1 : fsq (gP b n.toInt) (k + 2) = none := fsq_none.mpr (fun j hj => by
                  by_cases e3 : j = k + 1
                  · subst e3; exact hPk
                  · exact hP j (by omega))
                have h3 := fsq_none.mp h1 q z
                have h4 : gP b n.toInt q = true := by
                  have key : ∀ m, fsq (gP b n.toInt) m = some q → gP b n.toInt q = true := by
                    intro m
                    induction m with
                    | zero => intro z; cases z
                    | succ m ih =>
                      intro z
                      rw [fsq] at z
                      cases h5 : fsq (gP b n.toInt) m with
                      | some r => rw [h5] at z; cases z; exact ih h5
                      | none =>
                        rw [h5] at z
                        by_cases h6 : gP b n.toInt m = true
                        · simp only [h6, if_true] at z; cases z; exact h6
                        · simp [h6] at z
                  exact key 15 hf
                exact h3 h4
              omega
          rw [if_neg (by omega), if_pos hlt, show ix i = k by unfold ix; omega] at hQ
          exact ⟨fun _ => ⟨fun e2 => absurd e e2, fun _ => hQ⟩, fun e2 => absurd e2 (by omega)⟩
        · simp only [forall_eq]
          have hk13 : k + 1 < 14 := by
            by_cases e2 : k = 13
            · subst e2
              exact absurd (show n.toInt ≤ _ by have := geo_14 b hb hb2; have e14 : geo b (13 + 1) = geo b 14 := rfl; omega) hc
            · omega
          refine hC (by omega) _ ⟨?_, hk13, fun j hj => ?_, by omega⟩
          · rw [pk_mul, nI_add, nI_1, show b ^ k * b = b ^ (k + 1) from (Nat.pow_succ b k).symm]; rfl
          · by_cases e3 : j = k + 1
            · subst e3; exact hPk
            · exact hP j (by omega)
    · rw [show geo b (0 + 1) = 1 by simp [geo], Nat.pow_zero]; rfl
    · intro j hj
      rw [show j = 0 by omega]
      show ¬ decide (n.toInt ≤ ((geo b 0 : Nat) : Int)) = true
      rw [decide_eq_true_iff]
      show ¬ n.toInt ≤ ((0 : Nat) : Int)
      omega
  · rw [if_pos (by omega), if_neg h3] at hQ; exact hQ
theorem x_threes (m : Nat) {n i : Int32} {S : Hp} {Q : Int32 → Hp → Prop} (hQ : Q (sp_ser 3 n i) S) : wp_X5_threes m n i S Q := by
  unfold wp_X5_threes
  exact x_ofSeries (b := 3) (by decide) (by decide) hQ
theorem x_doubles (m : Nat) {n i : Int32} {S : Hp} {Q : Int32 → Hp → Prop} (hQ : Q (sp_ser 2 n i) S) : wp_X5_doubles m n i S Q := by
  unfold wp_X5_doubles
  exact x_ofSeries (b := 2) (by decide) (by decide) hQ
theorem m_threes (m : Nat) {n i : Int32} {S : Hp} {Q : Int32 → Hp → Prop} (hQ : Q (sp_ser 3 n i) S) : wp_X6_threes m n i S Q := by
  unfold sp_ser at hQ
  unfold wp_X6_threes
  rw [e_isInL (lo := 1) (hi := 9999) rfl rfl]
  refine br0 (fun h1 => ?_) (fun h1 => ?_)
  · rw [if_pos h1] at hQ
    rw [p_le, show (-1 : Int32).toInt = -1 from rfl]
    refine ⟨fun h3 => ?_, fun h3 => ?_⟩
    · rw [if_pos h3] at hQ
      refine it_up 14 (fun k x => x = (n, i, nI k, nI (geo 3 k), nI (3 ^ k), S) ∧ (∀ j, j < k → ¬ gP 3 n.toInt j = true)) ?_ _ ⟨rfl, fun j hj => absurd hj (Nat.not_lt_zero j)⟩
      rintro C k x hk ⟨rfl, hP⟩ hC
      simp only [L_X6_threes_26]
      have hg := (geo_le 3 (by decide) (by decide) k (by omega)).1
      rw [p_le, nI_toInt (by omega)]
      refine ⟨fun hc => ?_, fun hc => ?_⟩
      · have hN : gN 3 n.toInt = k := by
          unfold gN; rw [fsq_at hP (decide_eq_true hc) (by omega)]; rfl
        rw [hN] at hQ
        rw [p_le, show (0 : Int32).toInt = 0 from rfl, p_le, nI_toInt (by omega)]
        refine ⟨fun e => ⟨fun e2 => ?_, fun e2 => ?_⟩, fun e => ?_⟩
        · rw [if_neg (by omega), if_neg (by omega)] at hQ; exact hQ
        · rw [if_neg (by omega), if_pos (by omega)] at hQ
          rw [p_nat e]
          exact t_power (by omega) hQ
        · rw [if_pos (by omega)] at hQ; exact hQ
      · simp only [forall_eq]
        have hPk : ¬ gP 3 n.toInt k = true := fun z => hc (of_decide_eq_true z)
        have hk14 : k < 14 := by
          by_cases e2 : k = 14
          · subst e2
            exact absurd (show n.toInt ≤ _ by have := geo_14 3 (by decide) (by decide); omega) hc
          · omega
        refine hC hk14 _ ⟨?_, fun j hj => ?_⟩
        · rw [show (3 : Int32) = nI 3 from rfl, pk_mul, nI_add, nI_1, show 3 ^ k * 3 = 3 ^ (k + 1) from (Nat.pow_succ 3 k).symm]; rfl
        · by_cases e3 : j = k
          · subst e3; exact hPk
          · exact hP j (by omega)
    · rw [if_neg h3] at hQ; exact hQ
  · rw [if_neg h1] at hQ; exact hQ
theorem geo2 : ∀ k, k < 15 → ((1 : Int32) <<< (nI k &&& 31)) - (1 : Int32) = nI (geo 2 k) ∧ (1 : Int32) <<< (nI k &&& 31) = nI (2 ^ k) := by decide +kernel
theorem m_doubles (m : Nat) {n i : Int32} {S : Hp} {Q : Int32 → Hp → Prop} (hQ : Q (sp_ser 2 n i) S) : wp_X6_doubles m n i S Q := by
  unfold sp_ser at hQ
  unfold wp_X6_doubles
  rw [e_isInL (lo := 1) (hi := 9999) rfl rfl]
  refine br0 (fun h1 => ?_) (fun h1 => ?_)
  · rw [if_pos h1] at hQ
    rw [p_le, show (-1 : Int32).toInt = -1 from rfl]
    refine ⟨fun h3 => ?_, fun h3 => ?_⟩
    · rw [if_pos h3] at hQ
      refine it_up 14 (fun k x => x = (n, i, nI k, S) ∧ (∀ j, j < k → ¬ gP 2 n.toInt j = true)) ?_ _ ⟨rfl, fun j hj => absurd hj (Nat.not_lt_zero j)⟩
      rintro C k x hk ⟨rfl, hP⟩ hC
      simp only [L_X6_doubles_20]
      have hg := (geo_le 2 (by decide) (by decide) k (by omega)).1
      rw [(geo2 k (by omega)).1, p_le, nI_toInt (by omega)]
      refine ⟨fun hc => ?_, fun hc => ?_⟩
      · have hN : gN 2 n.toInt = k := by
          unfold gN; rw [fsq_at hP (decide_eq_true hc) (by omega)]; rfl
        rw [hN] at hQ
        rw [p_le, show (0 : Int32).toInt = 0 from rfl, p_le, nI_toInt (by omega)]
        refine ⟨fun e => ⟨fun e2 => ?_, fun e2 => ?_⟩, fun e => ?_⟩
        · rw [if_neg (by omega), if_neg (by omega)] at hQ; exact hQ
        · rw [if_neg (by omega), if_pos (by omega)] at hQ
          rw [p_nat e, (geo2 _ (by omega)).2]
          exact hQ
        · rw [if_pos (by omega)] at hQ; exact hQ
      · simp only [forall_eq]
        have hPk : ¬ gP 2 n.toInt k = true := fun z => hc (of_decide_eq_true z)
        have hk14 : k < 14 := by
          by_cases e2 : k = 14
          · subst e2
            exact absurd (show n.toInt ≤ _ by have := geo_14 2 (by decide) (by decide); omega) hc
          · omega
        refine hC hk14 _ ⟨by rw [nI_1], fun j hj => ?_⟩
        by_cases e3 : j = k
        · subst e3; exact hPk
        · exact hP j (by omega)
    · rw [if_neg h3] at hQ; exact hQ
  · rw [if_neg h1] at hQ; exact hQ
