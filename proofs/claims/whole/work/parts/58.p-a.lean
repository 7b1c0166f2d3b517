/-! lifts, lyings, sums, costs, weighing twice -/
def sumB (f : Nat → Int32) (m : Nat) : Nat → Int32
  | 0 => 0
  | k + 1 => sumB f m k + (if m.testBit k = true then f k else 0)
theorem sumB_congr {f g : Nat → Int32} {m m' : Nat} : ∀ {k : Nat}, (∀ j, j < k → f j = g j) → (∀ j, j < k → m.testBit j = m'.testBit j) → sumB f m k = sumB g m' k
  | 0, _, _ => rfl
  | k + 1, h, h2 => by
    unfold sumB
    rw [sumB_congr (fun j hj => h j (by omega)) (fun j hj => h2 j (by omega)), h k (by omega), h2 k (by omega)]
theorem bit1 : ∀ m, m < 64 → ∀ k, k < 6 → ((nI m >>> (nI k &&& 31)) &&& (1 : Int32)) = if m.testBit k = true then 1 else 0 := by decide +kernel
theorem shl1 : ∀ n, n < 7 → ((1 : Int32) <<< (nI n &&& 31)) - (1 : Int32) = nI (2 ^ n - 1) := by decide +kernel
theorem usd_bit (q : Nat) : ∀ n k, (usd n q).testBit k = (decide (k < n) && decide (dg k q ≠ 0))
  | 0, k => by simp [usd]
  | n + 1, k => by
    unfold usd
    rw [Nat.testBit_or, usd_bit q n k]
    by_cases e : dg n q = 0
    · rw [if_pos e, Nat.zero_testBit, Bool.or_false]
      by_cases hk : k = n
      · subst hk; simp [e]
      · simp [show (k < n + 1) ↔ k < n by omega]
    · rw [if_neg e, Nat.testBit_two_pow]
      by_cases hk : k = n
      · subst hk; simp [e]
      · simp [show (k < n + 1) ↔ k < n by omega, Ne.symm hk]
theorem prs_sum (pr : Nat → Int32) (n q : Nat) : ∀ k, k ≤ n → sumB pr (usd n q) k = prs pr k q
  | 0, _ => rfl
  | k + 1, h => by
    unfold sumB prs
    rw [prs_sum pr n q k (by omega), usd_bit]
    by_cases e : dg k q = 0 <;> simp [e, show k < n by omega]
theorem x_sumOf {S : Hp} {c w p n m : Nat} {f : Nat → Int32} {Q : Int32 → Hp → Prop} (hk : kd S c = 5) (h42 : gI S 42 c = nI n) (hn : n ≤ 6) (hm : m < 64) (hw : kd S w = 8) (hl : ln S w = 6) (hf : ∀ j, j < n → gA S w j = f j) (h : Q (sumB f m n) S) : wp_X4_sumOf c w (nI m) S Q := by
  unfold wp_X4_sumOf
  refine it_up n (fun k x => x = (c, w, nI m, sumB f m k, nI k, S)) ?_ _ rfl
  rintro C k x hkn rfl hC
  simp only [L_X4_sumOf_5, hk, true_and]
  rw [h42, nI_leI (by omega) (by omega)]
  refine ⟨fun hc => ?_, fun hc => ?_⟩
  · rw [show k = n by omega]; exact h
  · have hstep := hC (by omega)
    rw [bit1 m hm k (by omega)]
    have hin : vp_in (nI k) 6 := vp_in_nI (by omega) (by decide)
    have hcl : (nI k).toNatClampNeg = k := nI_clamp (by omega)
    simp only [J_X4_sumOf_31, hw, hl, hin, hcl, hf k (by omega), true_and, forall_eq]
    by_cases e : m.testBit k = true
    · rw [if_pos e]
      refine ⟨fun z => absurd rfl z, fun _ => hstep _ ?_⟩
      rw [nI_1, sumB, if_pos e]
    · rw [if_neg e]
      refine ⟨fun _ => hstep _ ?_, fun z => absurd z (by decide)⟩
      rw [nI_1, sumB, if_neg e, Int32.add_zero]
theorem x_pricesOf {S : Hp} {c w p m : Nat} {t : ASt} {Q : Int32 → Hp → Prop} (hk : kd S c = 5) (hr : gR S 41 c = some p) (hp : kd S p = 8) (hl : ln S p = 6) (hD : StR S c w p t) (hn : t.1 ≤ 6) (hm : m < 64) (h : Q (sumB t.2.2 m t.1) S) : wp_X4_pricesOf c (nI m) S Q := by
  unfold wp_X4_pricesOf
  exact ⟨hk, _, hr, hk, x_sumOf (p := p) hk hD.1 hn hm hp hl hD.2.2 h⟩
theorem x_weightsOf {S : Hp} {c w p m : Nat} {t : ASt} {Q : Int32 → Hp → Prop} (hk : kd S c = 5) (hr : gR S 40 c = some w) (hp : kd S w = 8) (hl : ln S w = 6) (hD : StR S c w p t) (hn : t.1 ≤ 6) (hm : m < 64) (h : Q (sumB t.2.1 m t.1) S) : wp_X4_weightsOf c (nI m) S Q := by
  unfold wp_X4_weightsOf
  exact ⟨hk, _, hr, hk, x_sumOf (p := p) hk hD.1 hn hm hp hl hD.2.1 h⟩
theorem m_priceOf {a : Nat → Nat} {v : AS} {S : Hp} {m : Nat} {Q : Int32 → Hp → Prop} (hM : MI a v S) (hm : m < 64) (h : Q (sumB v.1.2.2 m v.1.1) S) : wp_X6_priceOf (a 0) (nI m) S Q := by
  obtain ⟨k0, k1, k2, k3, k4, k5, k6, k7, k8, k9, k10, k11, k12, k13, k14, r1, r2, r3, r4, r5, r6, r7, r8, r9, r10, r11, r12, r13, r14, l1, l2, l3, l4, l5, l6, l7, l8, l9, l10, l11, l12, l13, l14⟩ := hM.1.all
  have hn := hM.2.1.1.1
  unfold wp_X6_priceOf
  refine it_up v.1.1 (fun k x => x = (a 0, nI m, sumB v.1.2.2 m k, nI k, S)) ?_ _ rfl
  rintro C k x hkn rfl hC
  simp only [L_X6_priceOf_4, k0, true_and]
  rw [hM.2.2.1, nI_leI (by omega) (by omega)]
  refine ⟨fun hc => ?_, fun hc => ?_⟩
  · rw [show k = v.1.1 by omega]; exact h
  · have hstep := hC (by omega)
    rw [bit1 m hm k (by omega)]
    have hin : vp_in (nI k) 6 := vp_in_nI (by omega) (by decide)
    have hcl : (nI k).toNatClampNeg = k := nI_clamp (by omega)
    simp only [r2, k2, l2, hin, hcl, hM.2.2.2.2.1 k (by omega), true_and, forall_eq, Option.some.injEq, exists_eq_left']
    refine hstep _ ?_
    rw [nI_1, sumB]
    by_cases e : m.testBit k = true
    · rw [if_pos e, if_pos e, Int32.one_mul]
    · rw [if_neg e, if_neg e, Int32.zero_mul]
theorem x_lying {a : Nat → Nat} {v : AS} {S : Hp} {q w : Int32} {Q : Int32 → Hp → Prop} (hX : XI a v S) (hQ : Q (sp_lying v q w) S) : wp_X5_lying (a 0) q w S Q := by
  have hn := hX.2.1.1
  have h3 := p3_6 hn.1
  unfold sp_lying at hQ
  unfold wp_X5_lying
  refine ⟨hX.1.k0, _, hX.1.r51_0, hX.1.k4, x_isLying hX.1.ly hX.2.2.2.1 hn.1 fun z hz => bz1 hz (fun hq => ?_) (fun hq => ?_)⟩
  · rw [if_pos hq] at hQ
    obtain ⟨hq3, hqI⟩ := isLy_nI hq
    have hin : vp_in (nI (ix q)) 729 := vp_in_nI (by omega) (by decide)
    have hcl : (nI (ix q)).toNatClampNeg = ix q := nI_clamp (by omega)
    have w0 : w = 0 ↔ w.toInt = 0 := p_eq _ _
    have w1 : w = 1 ↔ w.toInt = 1 := p_eq _ _
    have w2 : w = 2 ↔ w.toInt = 2 := p_eq _ _
    simp only [w0, w1, w2] at hQ
    rw [hqI]
    simp only [hX.1.k0, hX.1.r51_0, hX.1.r50_0, hX.1.k4, hX.1.k1, hX.1.r0_4, hX.1.r1_4, hX.1.k5, hX.1.k6, hX.1.l5, hX.1.l6, hin, hcl, (hX.2.2.2.1.2 _ hq3).1, (hX.2.2.2.1.2 _ hq3).2.1, true_and, Option.some.injEq, exists_eq_left']
    refine ⟨fun e => ?_, fun e => ?_, fun e => ?_, fun e => ?_, fun e => ?_⟩
    · rw [if_pos (by omega), if_pos e] at hQ; exact hQ
    · rw [if_pos (by omega), if_neg (by omega), if_pos e] at hQ; exact hQ
    · rw [if_pos (by omega), if_neg (by omega), if_neg (by omega), if_pos e] at hQ
      exact x_liftsOf hX.1.ly hX.2.2.2.1 hn.1 hq3 hQ
    · rw [if_pos (by omega), if_neg (by omega), if_neg (by omega), if_neg (by omega)] at hQ
      refine x_notOff hX.1.ly hX.2.2.2.1 hn.1 hq3 ⟨hX.1.k1, x_pricesOf hX.1.k1 hX.1.r41_1 hX.1.k3 hX.1.l3 hX.2.2.1 hn.1 (usd_64 hn.1) ?_⟩
      rw [prs_sum _ _ _ _ (Nat.le_refl _)]
      exact hQ
    · rw [if_neg (by omega)] at hQ; exact hQ
  · rw [if_neg hq] at hQ; exact hQ
theorem oN_lt (o : Option Nat) (h : ∀ y, o = some y → y < 2 ^ 31) : oN o < 0 ↔ o = none := by
  cases o with
  | none => exact ⟨fun _ => rfl, fun _ => by decide⟩
  | some y => exact ⟨fun z => absurd z (nI_pos (h y rfl)), fun z => by cases z⟩
theorem bsq_f {P : Nat → Bool} {L : Nat → Nat} {n : Nat} (h : ¬ P n = true) : bsq P L (n + 1) = bsq P L n := by
  rw [bsq, if_neg h]
theorem bsq_t0 {P : Nat → Bool} {L : Nat → Nat} {n : Nat} (h : P n = true) (e : bsq P L n = none) : bsq P L (n + 1) = some (L n, n) := by
  rw [bsq, if_pos h, e]
theorem bsq_t1 {P : Nat → Bool} {L : Nat → Nat} {n : Nat} {x : Nat × Nat} (h : P n = true) (e : bsq P L n = some x) (l : L n < x.1) : bsq P L (n + 1) = some (L n, n) := by
  rw [bsq, if_pos h, e]; exact if_pos l
theorem bsq_t2 {P : Nat → Bool} {L : Nat → Nat} {n : Nat} {x : Nat × Nat} (h : P n = true) (e : bsq P L n = some x) (l : ¬ L n < x.1) : bsq P L (n + 1) = some x := by
  rw [bsq, if_pos h, e]; exact if_neg l
theorem x_leastLifted {a : Nat → Nat} {v : AS} {S : Hp} {w : Int32} {z : Nat} {s : ASh} {Q : Int32 → Hp → Prop} (hX : XI a v S) (hz : ScS S z s) (h : Q (oN ((bsq (hitQ s v.1 w) (lif v.1.1) (3 ^ v.1.1)).map (fun y => y.2))) S) : wp_X5_leastLifted (a 0) z w S Q := by
  have hn := hX.2.1.1
  have hn6 := hn.1
  have h3 := p3_6 hn.1
  unfold wp_X5_leastLifted
  refine it_up (3 ^ v.1.1) (fun k x => ∃ f, x = (a 0, z, w, oN ((bsq (hitQ s v.1 w) (lif v.1.1) k).map (fun y => y.2)), f, nI k, S) ∧ ∀ y, bsq (hitQ s v.1 w) (lif v.1.1) k = some y → f = nI y.1) ?_ _ ⟨0, rfl, fun y hy => by cases hy⟩
  rintro C k x hk ⟨f, rfl, hf⟩ hC
  simp only [L_X5_leastLifted_9]
  refine ⟨hX.1.k0, _, hX.1.r51_0, hX.1.k4, ?_⟩
  rw [hX.2.2.2.1.1, nI_leI (by omega) (by omega)]
  refine ⟨fun hc => ?_, fun hc => ⟨hX.1.k0, _, hX.1.r51_0, hz.1, x_hits hX.1.ly hX.2.2.2.1 hz hn (by omega) ?_⟩⟩
  · rw [show k = 3 ^ v.1.1 by omega]; exact h
  · have hstep := hC (by omega)
    simp only [J_X5_leastLifted_57, J_X5_leastLifted_64, forall_eq]
    refine br0 (fun y => ⟨hX.1.k0, _, hX.1.r51_0, hX.1.k4, x_liftsOf hX.1.ly hX.2.2.2.1 hn.1 (by omega) ?_⟩) (fun y => ?_)
    · have hl := lif_le v.1.1 k
      cases hb : bsq (hitQ s v.1 w) (lif v.1.1) k with
      | none =>
        refine ⟨fun _ => hstep _ ⟨_, by rw [nI_1, bsq_t0 y hb]; rfl, fun y' hy' => ?_⟩, fun zz => absurd (by decide : (-4 : Int32) < 0) zz⟩
        rw [bsq_t0 y hb] at hy'; cases hy'; rfl
      | some y0 =>
        have hy0 := bsq_lt hb
        have hl0 := lif_le v.1.1 y0.2
        rw [hf y0 hb]
        show (nI y0.2 < 0 → _) ∧ (¬ nI y0.2 < 0 → _)
        refine ⟨fun zz => absurd zz (nI_pos (by omega)), fun _ => ?_⟩
        rw [nI_leI (by omega) (by omega)]
        refine ⟨fun zz => hstep _ ⟨nI y0.1, ?_, fun y' hy' => ?_⟩, fun zz => hstep _ ⟨nI (lif v.1.1 k), ?_, fun y' hy' => ?_⟩⟩
        · rw [nI_1, bsq_t2 y hb (by omega)]; try rfl
        · rw [bsq_t2 y hb (by omega)] at hy'; cases hy'; rfl
        · rw [nI_1, bsq_t1 y hb (by omega)]; rfl
        · rw [bsq_t1 y hb (by omega)] at hy'; cases hy'; rfl
    · refine hstep _ ⟨f, ?_, fun y' hy' => hf y' ?_⟩
      · rw [nI_1, bsq_f y]
      · rw [bsq_f y] at hy'; exact hy'
theorem x_lifts {a : Nat → Nat} {v : AS} {S : Hp} {d w x : Int32} {Q : Int32 → Hp → Prop} (hX : XI a v S) (hQ : Q (sp_lifts v d w x) S) : wp_X5_lifts (a 0) d w x S Q := by
  have hn := hX.2.1.1
  have h3 := p3_6 hn.1
  unfold sp_lifts onSc at hQ
  unfold wp_X5_lifts
  rw [e_xSh]
  refine br0 (fun hd => ?_) (fun hd => ?_)
  · rw [if_pos hd] at hQ
    obtain ⟨i1, i2, i3, i4⟩ := x_in hX.1 hd
    rw [e_xNum]
    refine br0 (fun hw => ?_) (fun hw => ?_)
    · rw [if_pos hw] at hQ
      rw [p_lt, p_le, show (0 : Int32).toInt = 0 from rfl, show (1 : Int32).toInt = 1 from rfl]
      refine ⟨fun h1 => ?_, fun h1 => ⟨fun h2 => ⟨hX.1.k0, _, hX.1.r56_0, i3, i1, x_scale hX hd (fun h1 he => ⟨hX.1.k0, x_notHeld hX hd ?_⟩) (fun z h1 hz => ⟨hX.1.k0, ?_⟩)⟩, fun h2 => ?_⟩⟩
      · rw [if_neg (by omega)] at hQ; exact hQ
      · rw [if_pos (by omega), if_pos h1] at hQ; rw [he]; exact hQ
      · rw [if_pos (by omega), if_neg (by omega)] at hQ
        have x0 : x = 0 ↔ x.toInt = 0 := p_eq _ _
        have x1 : x = 1 ↔ x.toInt = 1 := p_eq _ _
        refine x_leastLifted hX hz ?_
        cases hb : bsq (hitQ (v.2.2 (ix d)) v.1 w) (lif v.1.1) (3 ^ v.1.1) with
        | none =>
          rw [hb] at hQ
          exact ⟨fun _ => hQ, fun zz => absurd (by decide : (-4 : Int32) < 0) zz⟩
        | some y0 =>
          have hy0 := bsq_lt hb
          rw [hb] at hQ
          refine ⟨fun zz => absurd zz (nI_pos (n := y0.2) (by omega)), fun _ => ⟨fun e => ⟨hX.1.k0, _, hX.1.r51_0, hX.1.k4, x_liftsOf hX.1.ly hX.2.2.2.1 hn.1 hy0.1 ?_⟩, fun e => ?_⟩⟩
          · rw [← hy0.2]
            have : x = 0 := by rw [x0]; rw [x1] at e; omega
            subst this
            exact hQ
          · subst e; exact hQ
      · rw [if_neg (by omega)] at hQ; exact hQ
    · rw [if_neg hw] at hQ; exact hQ
  · rw [if_neg hd] at hQ; exact hQ
theorem m_lifts {a : Nat → Nat} {v : AS} {S : Hp} {d w x : Int32} {Q : Int32 → Hp → Prop} (hM : MI a v S) (hQ : ∀ S', MI a v S' → Q (sp_lifts v d w x) S') : wp_X6_lifts (a 0) d w x S Q := by
  have k0 := hM.1.1
  have hn6 := hM.2.1.1.1
  have h3 := p3_6 hM.2.1.1.1
  unfold sp_lifts onSc at hQ
  unfold wp_X6_lifts
  rw [e_mSh]
  refine br0 (fun hd => ?_) (fun hd => ?_)
  · rw [if_pos hd] at hQ
    obtain ⟨h8, hdI⟩ := isSh_nI hd
    rw [e_isInL (lo := -9999) (hi := 9999) rfl rfl]
    refine br0 (fun hw => ?_) (fun hw => ?_)
    · rw [if_pos hw] at hQ
      rw [e_isInL (lo := 0) (hi := 1) rfl rfl]
      refine br1 (fun hx => ⟨k0, ?_⟩) (fun hx => ?_)
      · rw [if_pos hx] at hQ
        refine t_noScale hM hd (bz0 (scN_0 (hM.2.1.2.2 _ h8).1) (fun h1 => ⟨k0, ?_⟩) (fun h1 => ?_))
        · rw [if_pos h1] at hQ
          exact t_noScale hM hd (hQ _ hM)
        · rw [if_neg h1] at hQ
          have h1 : (v.2.2 (ix d)).1 = 1 := Decidable.not_not.mp h1
          refine it_up (3 ^ v.1.1) (fun k y => ∃ S', y = (a 0, d, w, x, oN ((bsq (hitQ (v.2.2 (ix d)) v.1 w) (lif v.1.1) k).map (fun y => y.1)), oN ((bsq (hitQ (v.2.2 (ix d)) v.1 w) (lif v.1.1) k).map (fun y => y.2)), nI k, S') ∧ MI a v S') ?_ _ ⟨S, rfl, hM⟩
          rintro C k y hk ⟨S', rfl, hM'⟩ hC
          simp only [L_X6_lifts_56]
          refine ⟨hM'.1.1, t_mpow hM' ?_⟩
          rw [nI_leI (by omega) (by omega)]
          refine ⟨fun hc => ?_, fun hc => ⟨hM'.1.1, ?_⟩⟩
          · have h := hQ S' hM'
            rw [show 3 ^ v.1.1 = k by omega] at h
            refine ⟨fun e => ?_, fun e => ?_⟩
            · simp only [e, if_false] at h; exact h
            · simp only [e, if_true] at h; exact h
          · refine t_isWeight hM' hd h1 (by omega) ?_
            intro S'' c g79 g80
            have hM'' := hM'.sc c
            have hstep := hC (by omega)
            have hl := lif_le v.1.1 k
            simp only [J_X6_lifts_115, J_X6_lifts_100, forall_eq, g79, g80, nI_add, hM''.1.1, true_and]
            refine br0 (fun z => ?_) (fun z => ?_)
            · cases hb : bsq (hitQ (v.2.2 (ix d)) v.1 w) (lif v.1.1) k with
              | none => exact ⟨fun _ => hstep _ ⟨S'', by rw [nI_1, bsq_t0 z hb]; rfl, hM''⟩, fun zz => absurd rfl zz⟩
              | some y0 =>
                have hy0 := bsq_lt hb
                have hl0 := lif_le v.1.1 y0.2
                refine ⟨fun zz => absurd zz ?_, fun _ => ?_⟩
                · show ¬ nI y0.2 = -4
                  rw [p_eq, nI_toInt (by omega), show (-4 : Int32).toInt = -4 from rfl]; omega
                · show (nI y0.1 ≤ nI (lif v.1.1 k) → _) ∧ (¬ nI y0.1 ≤ nI (lif v.1.1 k) → _)
                  rw [nI_leI (by omega) (by omega)]
                  refine ⟨fun zz => hstep _ ⟨S'', ?_, hM''⟩, fun zz => hstep _ ⟨S'', ?_, hM''⟩⟩
                  · rw [nI_1, bsq_t2 z hb (by omega)]; try rfl
                  · rw [nI_1, bsq_t1 z hb (by omega)]; try rfl
            · refine hstep _ ⟨S'', ?_, hM''⟩
              rw [nI_1, bsq_f z]
      · rw [if_neg hx] at hQ; exact hQ _ hM
    · rw [if_neg hw] at hQ; exact hQ _ hM
  · rw [if_neg hd] at hQ; exact hQ _ hM
