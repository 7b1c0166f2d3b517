/-! counts, costs, weighing twice, series -/
def sp_count (v : AS) (w : Int32) : Int32 := if w.toInt = 0 then nI v.1.1 else if w.toInt = 1 then sumB v.1.2.1 (2 ^ v.1.1 - 1) v.1.1 else if w.toInt = 2 then sumB v.1.2.2 (2 ^ v.1.1 - 1) v.1.1 else if w.toInt = 3 then nI (3 ^ v.1.1) else -1
theorem p2_6 {n : Nat} (h : n ≤ 6) : 2 ^ n ≤ 64 := Nat.pow_le_pow_right (n := 2) (by decide) h
theorem p2_pos (n : Nat) : 0 < 2 ^ n := Nat.two_pow_pos n
theorem x_count {a : Nat → Nat} {v : AS} {S : Hp} {w : Int32} {Q : Int32 → Hp → Prop} (hX : XI a v S) (hQ : Q (sp_count v w) S) : wp_X5_count (a 0) w S Q := by
  have hn := hX.2.1.1
  have hn6 := hn.1
  have h2 := p2_6 hn6
  have h2p := p2_pos v.1.1
  unfold sp_count at hQ
  simp only [wp_X5_count, wp_X4_all, hX.1.k0, hX.1.k1, hX.1.k4, hX.1.r50_0, hX.1.r51_0, hX.2.2.1.1, hX.2.2.2.1.1, true_and, Option.some.injEq, exists_eq_left', shl1 v.1.1 (by omega)]
  refine ⟨fun e => ?_, fun e => ?_, fun e => ?_, fun e => ?_, fun e => ?_⟩
  · rw [if_pos e] at hQ; exact hQ
  · rw [if_neg (by omega), if_pos e] at hQ
    exact x_weightsOf hX.1.k1 hX.1.r40_1 hX.1.k2 hX.1.l2 hX.2.2.1 hn6 (by omega) hQ
  · rw [if_neg (by omega), if_neg (by omega), if_pos e] at hQ
    exact x_pricesOf hX.1.k1 hX.1.r41_1 hX.1.k3 hX.1.l3 hX.2.2.1 hn6 (by omega) hQ
  · rw [if_neg (by omega), if_neg (by omega), if_neg (by omega), if_pos e] at hQ; exact hQ
  · rw [if_neg (by omega), if_neg (by omega), if_neg (by omega), if_neg (by omega)] at hQ; exact hQ
theorem tb_all {n j : Nat} (h : j < n) : (2 ^ n - 1).testBit j = true := by rw [Nat.testBit_two_pow_sub_one]; simp [h]
theorem m_count {a : Nat → Nat} {v : AS} {S : Hp} {w : Int32} {Q : Int32 → Hp → Prop} (hM : MI a v S) (hQ : ∀ S', MI a v S' → Q (sp_count v w) S') : wp_X6_count (a 0) w S Q := by
  obtain ⟨k0, k1, k2, k3, k4, k5, k6, k7, k8, k9, k10, k11, k12, k13, k14, r1, r2, r3, r4, r5, r6, r7, r8, r9, r10, r11, r12, r13, r14, l1, l2, l3, l4, l5, l6, l7, l8, l9, l10, l11, l12, l13, l14⟩ := hM.1.all
  have hn6 : v.1.1 ≤ 6 := hM.2.1.1.1
  replace hQ := hQ S hM
  unfold sp_count at hQ
  unfold wp_X6_count
  refine ⟨fun e => ⟨k0, ?_⟩, fun e => ?_, fun e => ⟨k0, ?_⟩, fun e => ⟨k0, ?_⟩, fun e => ?_⟩
  · rw [if_pos e] at hQ; rw [hM.2.2.1]; exact hQ
  · rw [if_neg (by omega), if_pos e] at hQ
    refine it_up v.1.1 (fun k x => x = (a 0, sumB v.1.2.1 (2 ^ v.1.1 - 1) k, nI k, S)) ?_ _ rfl
    rintro C k x hkn rfl hC
    simp only [L_X6_count_39, k0, true_and]
    rw [hM.2.2.1, nI_leI (by omega) (by omega)]
    refine ⟨fun hc => ?_, fun hc => ?_⟩
    · rw [show k = v.1.1 by omega]; exact hQ
    · have hstep := hC (by omega)
      have hin : vp_in (nI k) 6 := vp_in_nI (by omega) (by decide)
      have hcl : (nI k).toNatClampNeg = k := nI_clamp (by omega)
      simp only [r1, k1, l1, hin, hcl, hM.2.2.2.1 k (by omega), true_and, forall_eq, Option.some.injEq, exists_eq_left']
      refine hstep _ ?_
      rw [nI_1, sumB, if_pos (tb_all (by omega))]
  · rw [if_neg (by omega), if_neg (by omega), if_pos e] at hQ
    refine m_priceOf (m := 63) hM (by decide) ?_
    rw [sumB_congr (g := v.1.2.2) (m' := 2 ^ v.1.1 - 1) (fun _ _ => rfl) (fun j hj => by
      rw [tb_all hj]
      have : ∀ j, j < 6 → (63 : Nat).testBit j = true := by decide
      exact this j (by omega))]
    exact hQ
  · rw [if_neg (by omega), if_neg (by omega), if_neg (by omega), if_pos e] at hQ
    exact t_mpow hM hQ
  · rw [if_neg (by omega), if_neg (by omega), if_neg (by omega), if_neg (by omega)] at hQ; exact hQ
def costF (k f : Int32) : Int32 := if k.toInt = 1 then 4 else if k.toInt = 2 then 5 * (f + 1) else if k.toInt = 3 then 5 - f else if k.toInt = 4 then 5 * (f + 1) + 4 else if k.toInt = 5 then 10 else if k.toInt = 6 then 4 + f else if k.toInt = 7 then 12 - f else 5
def sp_cost (v : AS) (d : Int32) : Int32 := if isSh d then onSc (v.2.2 (ix d)) (costF (v.2.2 (ix d)).2.1 (v.2.2 (ix d)).2.2.1) else -1
theorem x_price {S : Hp} {z : Nat} {s : ASh} {Q : Int32 → Hp → Prop} (hz : ScS S z s) (hf : 0 ≤ s.2.2.1.toInt ∧ s.2.2.1.toInt ≤ 9) (h : Q (costF s.2.1 s.2.2.1) S) : wp_X2_price z S Q := by
  unfold costF at h
  simp only [wp_X2_price, hz.1, hz.2.1, hz.2.2, true_and, forall_eq]
  have e7 : (5 : Int32) - s.2.2.1 + 7 = 12 - s.2.2.1 := by
    have l5 : (5 : Int32).toInt = 5 := rfl
    have l7 : (7 : Int32).toInt = 7 := rfl
    have l12 : (12 : Int32).toInt = 12 := rfl
    have h1 : ((5 : Int32) - s.2.2.1).toInt = 5 - s.2.2.1.toInt := by rw [p_sub (by omega) (by omega), l5]
    have h2 : ((12 : Int32) - s.2.2.1).toInt = 12 - s.2.2.1.toInt := by rw [p_sub (by omega) (by omega), l12]
    rw [p_eq, p_add (by omega) (by omega), h1, h2, l7]
    omega
  by_cases h1 : s.2.1.toInt = 1
  · simp [h1] at h ⊢; exact h
  by_cases h2 : s.2.1.toInt = 2
  · simp [h2] at h ⊢; exact h
  by_cases h3 : s.2.1.toInt = 3
  · simp [h3] at h ⊢; exact h
  by_cases h4 : s.2.1.toInt = 4
  · simp [h4] at h ⊢; exact h
  by_cases h5 : s.2.1.toInt = 5
  · simp [h5] at h ⊢; exact h
  by_cases h6 : s.2.1.toInt = 6
  · simp [h6] at h ⊢; exact h
  by_cases h7 : s.2.1.toInt = 7
  · rw [e7]; simp [h7] at h ⊢; exact h
  · simp only [h1, h2, h3, h4, h5, h6, h7, if_false, false_implies, true_and] at h ⊢
    exact fun _ => h
theorem x_cost {a : Nat → Nat} {v : AS} {S : Hp} {d : Int32} {Q : Int32 → Hp → Prop} (hX : XI a v S) (hQ : Q (sp_cost v d) S) : wp_X5_cost (a 0) d S Q := by
  unfold sp_cost onSc at hQ
  unfold wp_X5_cost
  rw [e_xSh]
  refine br1 (fun hd => ?_) (fun hd => ?_)
  · rw [if_pos hd] at hQ
    obtain ⟨i1, i2, i3, i4⟩ := x_in hX.1 hd
    refine ⟨hX.1.k0, _, hX.1.r56_0, i3, i1, x_scale hX hd (fun h1 he => ⟨hX.1.k0, x_notHeld hX hd ?_⟩) (fun z h1 hz => ⟨hz.1, x_price hz ?_ ?_⟩)⟩
    · rw [if_pos h1] at hQ; rw [he]; exact hQ
    · exact (((hX.2.1.2.2 (ix d) (isSh_nI hd).1).2.1 h1).2.2)
    · rw [if_neg (by omega)] at hQ; exact hQ
  · rw [if_neg hd] at hQ; exact hQ
theorem t_costOf {a : Nat → Nat} {v : AS} {S : Hp} {d : Int32} {Q : Int32 → Hp → Prop} (hM : MI a v S) (hd : isSh d) (h1 : (v.2.2 (ix d)).1 = 1) (h : Q (costF (v.2.2 (ix d)).2.1 (v.2.2 (ix d)).2.2.1) S) : wp_X6_costOf (a 0) d S Q := by
  obtain ⟨k0, k1, k2, k3, k4, k5, k6, k7, k8, k9, k10, k11, k12, k13, k14, r1, r2, r3, r4, r5, r6, r7, r8, r9, r10, r11, r12, r13, r14, l1, l2, l3, l4, l5, l6, l7, l8, l9, l10, l11, l12, l13, l14⟩ := hM.1.all
  obtain ⟨h8, hdI⟩ := isSh_nI hd
  have hs := (hM.2.2.2.2.2.2.2 (ix d) h8).2.1 h1
  have hin : vp_in d 8 := by rw [hdI]; exact vp_in_nI h8 (by decide)
  have hcl : d.toNatClampNeg = ix d := rfl
  unfold costF at h
  simp only [wp_X6_costOf, k0, r9, k9, l9, r10, k10, l10, hin, hcl, hs.1, hs.2, true_and, Option.some.injEq, exists_eq_left', forall_eq]
  generalize (v.2.2 (ix d)).2.1.toInt = k at h
  by_cases h1 : k = 1
  · simp [h1] at h ⊢; exact h
  by_cases h2 : k = 2
  · simp [h2] at h ⊢; exact h
  by_cases h3 : k = 3
  · simp [h3] at h ⊢; exact h
  by_cases h4 : k = 4
  · simp [h4] at h ⊢; exact h
  by_cases h5 : k = 5
  · simp [h5] at h ⊢; exact h
  by_cases h6 : k = 6
  · simp [h6] at h ⊢; exact h
  by_cases h7 : k = 7
  · simp [h7] at h ⊢; exact h
  · simp only [h1, h2, h3, h4, h5, h6, h7, if_false, false_implies, true_and] at h ⊢
    exact fun _ => h
theorem m_cost {a : Nat → Nat} {v : AS} {S : Hp} {d : Int32} {Q : Int32 → Hp → Prop} (hM : MI a v S) (hQ : ∀ S', MI a v S' → Q (sp_cost v d) S') : wp_X6_cost (a 0) d S Q := by
  have k0 := hM.1.1
  replace hQ := hQ S hM
  unfold sp_cost onSc at hQ
  unfold wp_X6_cost
  rw [e_mSh]
  refine br1 (fun hd => ⟨k0, ?_⟩) (fun hd => ?_)
  · rw [if_pos hd] at hQ
    obtain ⟨h8, hdI⟩ := isSh_nI hd
    refine t_noScale hM hd (bz0 (scN_0 (hM.2.1.2.2 _ h8).1) (fun h1 => ⟨k0, ?_⟩) (fun h1 => ⟨k0, ?_⟩))
    · rw [if_pos h1] at hQ
      exact t_noScale hM hd hQ
    · rw [if_neg h1] at hQ
      exact t_costOf hM hd (Decidable.not_not.mp h1) hQ
  · rw [if_neg hd] at hQ; exact hQ
def sp_twice (x y w : Int32) : Int32 := if 0 ≤ x.toInt ∧ x.toInt ≤ 999 then (if 0 ≤ y.toInt ∧ y.toInt ≤ 999 then (if isW2 w then (if (x.toInt + y.toInt) % 2 = 0 then (if w = 0 then (x + y) / 2 else x - (x + y) / 2) else (if w = 1 then -1000000004 else -4)) else (if w = 1 then -1000000001 else -1)) else (if w = 1 then -1000000001 else -1)) else (if w = 1 then -1000000001 else -1)
theorem tw_rem {x y : Int32} (h1 : 0 ≤ x.toInt ∧ x.toInt ≤ 999) (h2 : 0 ≤ y.toInt ∧ y.toInt ≤ 999) : x + y - (x + y) / 2 * 2 = nI ((x.toInt + y.toInt).toNat % 2) := by
  have hs : x + y = nI (x.toInt + y.toInt).toNat := by
    rw [p_eq, p_add (by omega) (by omega), nI_toInt (by omega)]; omega
  rw [hs, show (2 : Int32) = nI 2 from rfl, pk_rem (by omega) (by decide) (by decide)]
theorem x_twice (m : Nat) {S : Hp} {x y w : Int32} {Q : Int32 → Hp → Prop} (hQ : Q (sp_twice x y w) S) : wp_X5_twice m x y w S Q := by
  unfold sp_twice isW2 at hQ
  have key : ∀ z : Int32, (z = if w = 1 then -1000000000 else 0) → J_X5_twice_11 Q x y w z S := by
    intro z hz
    have e1 : z + -1 = if w = 1 then -1000000001 else -1 := by rw [hz]; split <;> decide
    have e4 : z + -4 = if w = 1 then -1000000004 else -4 := by rw [hz]; split <;> decide
    unfold J_X5_twice_11
    rw [e1, e4]
    rw [p_lt x, p_lt _ x, p_lt y, p_lt _ y, p_lt w, p_le w, show (0 : Int32).toInt = 0 from rfl, show (1 : Int32).toInt = 1 from rfl, show (999 : Int32).toInt = 999 from rfl]
    refine ⟨fun h1 => ?_, fun h1 => ⟨fun h2 => ?_, fun h2 => ⟨fun h3 => ?_, fun h3 => ⟨fun h4 => ?_, fun h4 => ⟨fun h5 => ?_, fun h5 => ⟨fun h6 => ?_, fun h6 => ?_⟩⟩⟩⟩⟩⟩
    · rw [if_neg (by omega)] at hQ; exact hQ
    · rw [if_neg (by omega)] at hQ; exact hQ
    · rw [if_pos (by omega), if_neg (by omega)] at hQ; exact hQ
    · rw [if_pos (by omega), if_neg (by omega)] at hQ; exact hQ
    · rw [if_pos (by omega), if_pos (by omega), if_neg (by omega)] at hQ; exact hQ
    · rw [if_pos (by omega), if_pos (by omega), if_pos (by omega)] at hQ
      rw [tw_rem (by omega) (by omega)]
      refine ⟨fun e => ?_, fun e => ?_⟩
      · rw [show (0 : Int32) = nI 0 from rfl, nI_eq (by omega) (by omega)] at e
        rw [if_pos (by omega)] at hQ
        simp only [forall_eq]
        refine ⟨fun e2 => ?_, fun e2 => ?_⟩
        · rw [if_neg e2] at hQ; exact hQ
        · rw [if_pos e2] at hQ; exact hQ
      · rw [show (0 : Int32) = nI 0 from rfl, nI_eq (by omega) (by omega)] at e
        rw [if_neg (by omega)] at hQ; exact hQ
    · rw [if_pos (by omega), if_pos (by omega), if_neg (by omega)] at hQ; exact hQ
  unfold wp_X5_twice
  exact ⟨fun h => key _ (if_neg h).symm, fun h => key _ (if_pos h).symm⟩
theorem m_twice (m : Nat) {S : Hp} {x y w : Int32} {Q : Int32 → Hp → Prop} (hQ : Q (sp_twice x y w) S) : wp_X6_twice m x y w S Q := by
  unfold sp_twice isW2 at hQ
  have key : ∀ z : Int32, (z = if w = 1 then 1000000000 else 0) → J_X6_twice_11 Q x y w z S := by
    intro z hz
    have e1 : -1 - z = if w = 1 then -1000000001 else -1 := by rw [hz]; split <;> decide
    have e4 : -4 - z = if w = 1 then -1000000004 else -4 := by rw [hz]; split <;> decide
    unfold J_X6_twice_11
    rw [e1, e4, e_isInL (lo := 0) (hi := 999) rfl rfl]
    refine br0 (fun h1 => ?_) (fun h1 => ?_)
    · rw [if_pos h1] at hQ
      rw [e_isInL (lo := 0) (hi := 999) rfl rfl]
      refine br0 (fun h2 => ?_) (fun h2 => ?_)
      · rw [if_pos h2] at hQ
        rw [e_isInL (lo := 0) (hi := 1) rfl rfl]
        refine br1 (fun h3 => ?_) (fun h3 => ?_)
        · rw [if_pos h3] at hQ
          rw [tw_rem h1 h2, show (1 : Int32) = nI 1 from rfl, nI_eq (by omega) (by omega)]
          refine ⟨fun e => ?_, fun e => ?_⟩
          · rw [if_pos (by omega)] at hQ
            refine ⟨fun e2 => ?_, fun e2 => ?_⟩
            · rw [if_neg e2] at hQ; exact hQ
            · rw [if_pos e2] at hQ; exact hQ
          · rw [if_neg (by omega)] at hQ; exact hQ
        · rw [if_neg h3] at hQ; exact hQ
      · rw [if_neg h2] at hQ; exact hQ
    · rw [if_neg h1] at hQ; exact hQ
  unfold wp_X6_twice
  exact ⟨fun h => key _ (if_neg h).symm, fun h => key _ (if_pos h).symm⟩
