/-! told trials: found -/
def allB (P : Nat → Bool) : Nat → Bool
  | 0 => true
  | n + 1 => allB P n && P n
theorem allB_iff {P : Nat → Bool} : ∀ {n : Nat}, allB P n = true ↔ ∀ j, j < n → P j = true
  | 0 => ⟨fun _ j hj => absurd hj (Nat.not_lt_zero j), fun _ => rfl⟩
  | n + 1 => by
    unfold allB
    rw [Bool.and_eq_true, allB_iff]
    refine ⟨fun h j hj => ?_, fun h => ⟨fun j hj => h j (by omega), h n (by omega)⟩⟩
    by_cases e : j = n
    · subst e; exact h.2
    · exact h.1 j (by omega)
theorem allB_no {P : Nat → Bool} {n j : Nat} (hj : j < n) (h : ¬ P j = true) : ¬ allB P n = true := fun w => h (allB_iff.mp w j hj)
def orB (F : Nat → Bool) : Nat → Nat
  | 0 => 0
  | n + 1 => orB F n ||| (if F n = true then 2 ^ n else 0)
theorem evn2 {n : Nat} (h : n ≤ 100) : (nI n - nI n / 2 * 2 = 0) ↔ n % 2 = 0 := by
  rw [show (2 : Int32) = nI 2 from rfl, pk_rem (by omega) (by decide) (by decide), show (0 : Int32) = nI 0 from rfl, nI_eq (by omega) (by decide)]
def trP (s : ASh) (p : Nat) : Bool := decide ((0 ≤ (s.2.2.2.2.2 (2 * p)).toInt ∧ (s.2.2.2.2.2 (2 * p)).toInt ≤ 80) ∧ (0 ≤ (s.2.2.2.2.2 (2 * p + 1)).toInt ∧ (s.2.2.2.2.2 (2 * p + 1)).toInt ≤ 2))
def fitP (s : ASh) (k p : Nat) : Bool := decide (nI (ix (s.2.2.2.2.2 (2 * p)) / 3 ^ k % 3) = s.2.2.2.2.2 (2 * p + 1))
abbrev wellT (s : ASh) : Prop := s.2.2.2.2.1 % 2 = 0 ∧ allB (trP s) (s.2.2.2.2.1 / 2) = true
def fndN (s : ASh) : Nat := orB (fun k => allB (fitP s k) (s.2.2.2.2.1 / 2)) 4
def sp_found (v : AS) (d : Int32) : Int32 := if isSh d then (if (v.2.2 (ix d)).1 = 2 ∧ (v.2.2 (ix d)).2.2.2.1 = 0 then (if wellT (v.2.2 (ix d)) then nI (fndN (v.2.2 (ix d))) else -13) else rwN (v.2.2 (ix d)).1) else -1
theorem x_rowOfSort {a : Nat → Nat} {v : AS} {S : Hp} {d so : Int32} {Q : Option Nat → Hp → Prop} (hX : XI a v S) (hd : isSh d) (h1 : ¬ ((v.2.2 (ix d)).1 = 2 ∧ (v.2.2 (ix d)).2.2.2.1 = so) → Q none S) (h2 : ∀ z c, (v.2.2 (ix d)).1 = 2 ∧ (v.2.2 (ix d)).2.2.2.1 = so → RwS S z c (v.2.2 (ix d)) → (∀ i, i < 30 → c ≠ a i) → gQ S (a 21) (ix d) = some z → Q (some z) S) : wp_X5_rowOfSort (a 0) d so S Q := by
  obtain ⟨i1, i2, i3, i4⟩ := x_in hX.1 hd
  unfold wp_X5_rowOfSort
  refine ⟨hX.1.k0, _, hX.1.r57_0, i4, i2, x_row hX hd (fun e => h1 (fun w => e w.1)) (fun z c e hR hc hz => ⟨hR.1, ?_⟩)⟩
  rw [hR.2.1]
  exact ⟨fun e2 => h1 (fun w => e2 w.2), fun e2 => h2 z c ⟨e, e2⟩ hR hc hz⟩
theorem RwS.at {S : Hp} {z c : Nat} {s : ASh} (h : RwS S z c s) (hs : s.2.2.2.2.1 ≤ 100) {j : Nat} (hj : j < s.2.2.2.2.1) : vp_in (nI j) (ln S c) ∧ gA S c (nI j).toNatClampNeg = s.2.2.2.2.2 j := ⟨by rw [h.2.2.2.2.1]; exact vp_in_nI hj (by omega), by rw [nI_clamp (by omega)]; exact h.2.2.2.2.2 j hj⟩
theorem x_areTrials {S : Hp} {z c : Nat} {s : ASh} {Q : Int32 → Hp → Prop} (hR : RwS S z c s) (hs : s.2.2.2.2.1 ≤ 100) (h : ∀ y, (y = 0 ↔ ¬ wellT s) → Q y S) : wp_X5_areTrials z S Q := by
  unfold wp_X5_areTrials
  refine ⟨hR.1, c, hR.2.2.1, hR.2.2.2.1, ?_⟩
  rw [hR.2.2.2.2.1, show Int32.ofNat s.2.2.2.2.1 = nI s.2.2.2.2.1 from rfl]
  simp only [forall_eq]
  rw [evn2 hs]
  refine ⟨fun e => ?_, fun e => h 0 ⟨fun _ w => e w.1, fun _ => rfl⟩⟩
  refine it_up (s.2.2.2.2.1 / 2) (fun p x => x = (z, nI s.2.2.2.2.1, nI (2 * p), S) ∧ ∀ j, j < p → trP s j = true) ?_ _ ⟨rfl, fun j hj => absurd hj (Nat.not_lt_zero j)⟩
  rintro C p x hp ⟨rfl, hj⟩ hC
  simp only [L_X5_areTrials_16, forall_eq]
  rw [nI_1, nI_leI (by omega) (by omega)]
  refine ⟨fun e2 => h 1 ⟨fun w => absurd w (by decide), fun w => absurd ⟨e, allB_iff.mpr (fun j hj' => hj j (by omega))⟩ w⟩, fun e2 => ?_⟩
  obtain ⟨i1, g1⟩ := hR.at hs (j := 2 * p) (by omega)
  obtain ⟨i2, g2⟩ := hR.at hs (j := 2 * p + 1) (by omega)
  refine ⟨hR.1, c, hR.2.2.1, hR.2.2.2.1, i1, hR.1, c, hR.2.2.1, hR.2.2.2.1, i2, ?_⟩
  rw [g1, g2, p_lt, p_le, p_lt, p_le, show (0 : Int32).toInt = 0 from rfl, show (81 : Int32).toInt = 81 from rfl, show (2 : Int32).toInt = 2 from rfl]
  have no : ¬ trP s p = true → Q 0 S := fun w => h 0 ⟨fun _ w2 => allB_no (by omega) w w2.2, fun _ => rfl⟩
  unfold trP at no
  rw [decide_eq_true_iff] at no
  refine ⟨fun e3 => no (by omega), fun e3 => ⟨fun e4 => no (by omega), fun e4 => ⟨fun e5 => no (by omega), fun e5 => ⟨fun e6 => hC (by omega) _ ⟨?_, fun j hj' => ?_⟩, fun e6 => no (by omega)⟩⟩⟩⟩
  · rw [show (2 : Int32) = nI 2 from rfl, nI_add]; rfl
  · by_cases e7 : j = p
    · subst e7; unfold trP; exact decide_eq_true ⟨⟨by omega, by omega⟩, by omega, by omega⟩
    · exact hj j (by omega)
theorem trP_q {s : ASh} {p : Nat} (h : trP s p = true) : s.2.2.2.2.2 (2 * p) = nI (ix (s.2.2.2.2.2 (2 * p))) ∧ ix (s.2.2.2.2.2 (2 * p)) ≤ 80 := by
  have h := of_decide_eq_true h
  exact ⟨p_nat h.1.1, by unfold ix; omega⟩
theorem x_isLighterBy {S : Hp} {z c k : Nat} {s : ASh} {Q : Int32 → Hp → Prop} (hR : RwS S z c s) (hs : s.2.2.2.2.1 ≤ 100) (hw : wellT s) (hk : k < 4) (h : Q (b2 (allB (fitP s k) (s.2.2.2.2.1 / 2) = true)) S) : wp_X5_isLighterBy z (nI k) S Q := by
  unfold wp_X5_isLighterBy
  refine ⟨hR.1, c, hR.2.2.1, hR.2.2.2.1, ?_⟩
  rw [hR.2.2.2.2.1, show Int32.ofNat s.2.2.2.2.1 = nI s.2.2.2.2.1 from rfl]
  simp only [forall_eq]
  have hev := hw.1
  refine it_up (s.2.2.2.2.1 / 2) (fun p x => x = (z, nI k, nI s.2.2.2.2.1, nI (2 * p), S) ∧ ∀ j, j < p → fitP s k j = true) ?_ _ ⟨rfl, fun j hj => absurd hj (Nat.not_lt_zero j)⟩
  rintro C p x hp ⟨rfl, hj⟩ hC
  simp only [L_X5_isLighterBy_8, forall_eq]
  rw [nI_1, nI_leI (by omega) (by omega)]
  refine ⟨fun e2 => ?_, fun e2 => ?_⟩
  · rw [b2_t (allB_iff.mpr (fun j hj' => hj j (by omega)))] at h; exact h
  · obtain ⟨i1, g1⟩ := hR.at hs (j := 2 * p) (by omega)
    obtain ⟨i2, g2⟩ := hR.at hs (j := 2 * p + 1) (by omega)
    obtain ⟨q1, q2⟩ := trP_q (allB_iff.mp hw.2 p (by omega))
    refine ⟨hR.1, c, hR.2.2.1, hR.2.2.2.1, i1, ?_⟩
    rw [g1]
    have hstep := hC (by omega)
    refine it_up k (fun i x => x = (z, nI k, nI s.2.2.2.2.1, nI (2 * p), nI (ix (s.2.2.2.2.2 (2 * p)) / 3 ^ i), nI i, S)) ?_ _ (by rw [Nat.pow_zero, Nat.div_one, ← q1]; rfl)
    rintro C2 i x hi rfl hC2
    simp only [L_X5_isLighterBy_26, forall_eq]
    have hdv : ix (s.2.2.2.2.2 (2 * p)) / 3 ^ i ≤ 80 := Nat.le_trans (Nat.div_le_self _ _) q2
    rw [nI_leI (by omega) (by omega)]
    refine ⟨fun e3 => ⟨hR.1, c, hR.2.2.1, hR.2.2.2.1, by rw [nI_1]; exact i2, ?_⟩, fun e3 => hC2 (by omega) _ ?_⟩
    · have hik : i = k := by omega
      subst hik
      rw [nI_1, g2, show (3 : Int32) = nI 3 from rfl, pk_rem (by omega) (by decide) (by decide)]
      refine ⟨fun e4 => hstep _ ⟨?_, fun j hj' => ?_⟩, fun e4 => ?_⟩
      · rw [show (2 : Int32) = nI 2 from rfl, nI_add]; rfl
      · by_cases e7 : j = p
        · subst e7; exact decide_eq_true e4
        · exact hj j (by omega)
      · rw [b2_f (allB_no (j := p) (by omega) (fun w => e4 (of_decide_eq_true w)))] at h; exact h
    · rw [nI_1, show (3 : Int32) = nI 3 from rfl, pk_div (by omega) (by decide) (by decide), Nat.pow_succ, Nat.div_div_eq_div_mul]
theorem or_sh (b k : Nat) (hk : k < 7) : nI b ||| ((1 : Int32) <<< (nI k &&& 31)) = nI (b ||| 2 ^ k) := by
  rw [shl0 k hk, nI_or]
theorem x_found {a : Nat → Nat} {v : AS} {S : Hp} {d : Int32} {Q : Int32 → Hp → Prop} (hX : XI a v S) (hQ : Q (sp_found v d) S) : wp_X5_found (a 0) d S Q := by
  unfold sp_found at hQ
  unfold wp_X5_found
  rw [e_xSh]
  refine br1 (fun hd => ⟨hX.1.k0, ?_⟩) (fun hd => ?_)
  · rw [if_pos hd] at hQ
    obtain ⟨h8, hdI⟩ := isSh_nI hd
    refine x_rowOfSort hX hd (fun e => ⟨fun _ => ⟨hX.1.k0, x_notHeld hX hd ?_⟩, fun r w => by cases w⟩) (fun z c e hR hc hz => ⟨fun w => (by cases w), fun r w => ?_⟩)
    · rw [if_neg e] at hQ; exact hQ
    · have hzr := Option.some.inj w
      subst hzr
      rw [if_pos e] at hQ
      have hle := ((hX.2.1.2.2 (ix d) h8).2.2 e.1).2.2
      refine x_areTrials hR hle fun y hy => bz1 hy (fun hw => ?_) (fun hw => ?_)
      · rw [if_pos hw] at hQ
        refine it_up 4 (fun k x => x = (z, nI (orB (fun k => allB (fitP (v.2.2 (ix d)) k) ((v.2.2 (ix d)).2.2.2.2.1 / 2)) k), nI k, S)) ?_ _ rfl
        rintro C k x hk rfl hC
        simp only [L_X5_found_41, J_X5_found_63, forall_eq]
        rw [show (4 : Int32) = nI 4 from rfl, nI_leI (by decide) (by omega)]
        refine ⟨fun e2 => ?_, fun e2 => x_isLighterBy hR hle hw (by omega) (br0 (fun e3 => ?_) (fun e3 => ?_))⟩
        · rw [show k = 4 by omega]; exact hQ
        · refine hC (by omega) _ ?_
          rw [nI_1, or_sh _ _ (by omega), orB, if_pos e3]
        · refine hC (by omega) _ ?_
          rw [nI_1, orB, if_neg e3, Nat.or_zero]
      · rw [if_neg hw] at hQ; exact hQ
  · rw [if_neg hd] at hQ; exact hQ
-- the reference
theorem m_cell {a : Nat → Nat} {v : AS} {S : Hp} {d : Int32} (hM : MI a v S) (hd : isSh d) (h2 : (v.2.2 (ix d)).1 = 2) {j : Nat} (hj : j < (v.2.2 (ix d)).2.2.2.2.1) : 100 * d + nI j = nI (100 * ix d + j) ∧ vp_in (nI (100 * ix d + j)) (ln S (a 13)) ∧ gA S (a 13) (nI (100 * ix d + j)).toNatClampNeg = (v.2.2 (ix d)).2.2.2.2.2 j := by
  obtain ⟨h8, hdI⟩ := isSh_nI hd
  have hle := ((hM.2.1.2.2 (ix d) h8).2.2 h2).2.2
  refine ⟨?_, ?_, ?_⟩
  · conv => lhs; rw [hdI]
    rw [show (100 : Int32) = nI 100 from rfl, pk_mul, nI_add]
  · rw [show ln S (a 13) = 800 from hM.1.2.2.2.2.2 13 (by decide) (by decide)]; exact vp_in_nI (by omega) (by decide)
  · rw [nI_clamp (by omega)]; exact ((hM.2.2.2.2.2.2.2 (ix d) h8).2.2 h2).2.2 j hj
theorem m_rowHd {a : Nat → Nat} {v : AS} {S : Hp} {d so : Int32} {G A0 A2 : Prop} (hM : MI a v S) (hd : isSh d) (h1 : (v.2.2 (ix d)).1 = 2 ∧ (v.2.2 (ix d)).2.2.2.1 = so → G) (h0 : ¬ ((v.2.2 (ix d)).1 = 2 ∧ (v.2.2 (ix d)).2.2.2.1 = so) → rwN (v.2.2 (ix d)).1 = -11 → A0) (h2 : ¬ ((v.2.2 (ix d)).1 = 2 ∧ (v.2.2 (ix d)).2.2.2.1 = so) → rwN (v.2.2 (ix d)).1 = -12 → A2) : (kd S (a 0) = 7) ∧ ∃ r3, gR S 94 (a 0) = some r3 ∧ (kd S r3 = 8) ∧ (vp_in d (ln S r3)) ∧ ((¬ (gA S r3 d.toNatClampNeg) = 0 → (kd S (a 0) = 7) ∧ ∃ r4, gR S 94 (a 0) = some r4 ∧ (kd S r4 = 8) ∧ (vp_in d (ln S r4)) ∧ (((gA S r4 d.toNatClampNeg) = (1 : Int32) → A2) ∧ (¬ ((gA S r4 d.toNatClampNeg) = (1 : Int32)) → (kd S (a 0) = 7) ∧ ∃ r5, gR S 97 (a 0) = some r5 ∧ (kd S r5 = 8) ∧ (vp_in d (ln S r5)) ∧ (((gA S r5 d.toNatClampNeg) = so → G) ∧ (¬ ((gA S r5 d.toNatClampNeg) = so) → A2))))) ∧ ((gA S r3 d.toNatClampNeg) = 0 → A0)) := by
  obtain ⟨k0, k1, k2, k3, k4, k5, k6, k7, k8, k9, k10, k11, k12, k13, k14, r1, r2, r3, r4, r5, r6, r7, r8, r9, r10, r11, r12, r13, r14, l1, l2, l3, l4, l5, l6, l7, l8, l9, l10, l11, l12, l13, l14⟩ := hM.1.all
  obtain ⟨h8, hdI⟩ := isSh_nI hd
  have hin : vp_in d 8 := by rw [hdI]; exact vp_in_nI h8 (by decide)
  have hcl : d.toNatClampNeg = ix d := rfl
  have hs := hM.2.2.2.2.2.2.2 (ix d) h8
  have hle := (hM.2.1.2.2 (ix d) h8).1
  have h10 : nI (v.2.2 (ix d)).1 = 1 ↔ (v.2.2 (ix d)).1 = 1 := by rw [show (1 : Int32) = nI 1 from rfl, nI_eq (by omega) (by decide)]
  have h00 : nI (v.2.2 (ix d)).1 = 0 ↔ (v.2.2 (ix d)).1 = 0 := by rw [show (0 : Int32) = nI 0 from rfl, nI_eq (by omega) (by decide)]
  rw [hcl]
  refine ⟨k0, _, r8, k8, by rw [l8]; exact hin, ?_⟩
  rw [hs.1, h00]
  refine ⟨fun e => ⟨k0, _, r8, k8, by rw [l8]; exact hin, ?_⟩, fun e => h0 (fun w => by omega) (if_pos e)⟩
  rw [hs.1, h10]
  refine ⟨fun e2 => h2 (fun w => by omega) (if_neg e), fun e2 => ⟨k0, _, r11, k11, by rw [l11]; exact hin, ?_⟩⟩
  have e3 : (v.2.2 (ix d)).1 = 2 := by omega
  rw [(hs.2.2 e3).1]
  exact ⟨fun e4 => h1 ⟨e3, e4⟩, fun e4 => h2 (fun w => e4 w.2) (if_neg e)⟩
theorem m_size {a : Nat → Nat} {v : AS} {S : Hp} {d : Int32} (hM : MI a v S) (hd : isSh d) (h2 : (v.2.2 (ix d)).1 = 2) : kd S (a 0) = 7 ∧ gR S 98 (a 0) = some (a 12) ∧ kd S (a 12) = 8 ∧ vp_in d (ln S (a 12)) ∧ gA S (a 12) d.toNatClampNeg = nI (v.2.2 (ix d)).2.2.2.2.1 := by
  obtain ⟨k0, k1, k2, k3, k4, k5, k6, k7, k8, k9, k10, k11, k12, k13, k14, r1, r2, r3, r4, r5, r6, r7, r8, r9, r10, r11, r12, r13, r14, l1, l2, l3, l4, l5, l6, l7, l8, l9, l10, l11, l12, l13, l14⟩ := hM.1.all
  obtain ⟨h8, hdI⟩ := isSh_nI hd
  exact ⟨k0, r12, k12, by rw [l12, hdI]; exact vp_in_nI h8 (by decide), ((hM.2.2.2.2.2.2.2 (ix d) h8).2.2 h2).2.1⟩
theorem m_found {a : Nat → Nat} {v : AS} {S : Hp} {d : Int32} {Q : Int32 → Hp → Prop} (hM : MI a v S) (hQ : ∀ S', MI a v S' → Q (sp_found v d) S') : wp_X6_found (a 0) d S Q := by
  have k0 := hM.1.1
  have k13 : kd S (a 13) = 8 := hM.1.2.2.1 13 (by decide) (by decide) (by decide)
  have r13 : gR S 99 (a 0) = some (a 13) := hM.1.2.2.2.2.1 13 (by decide) (by decide)
  replace hQ := hQ S hM
  unfold sp_found at hQ
  unfold wp_X6_found
  rw [e_mSh]
  refine br1 (fun hd => m_rowHd hM hd (fun e => ?_) (fun e e2 => ?_) (fun e e2 => ?_)) (fun hd => ?_)
  · rw [if_pos hd, if_pos e] at hQ
    obtain ⟨h8, hdI⟩ := isSh_nI hd
    have hle := ((hM.2.1.2.2 (ix d) h8).2.2 e.1).2.2
    obtain ⟨z1, z2, z3, z4, z5⟩ := m_size hM hd e.1
    generalize hsz : (v.2.2 (ix d)).2.2.2.2.1 = n at hle z5
    have hc : ∀ {j : Nat}, j < n → 100 * d + nI j = nI (100 * ix d + j) ∧ vp_in (nI (100 * ix d + j)) (ln S (a 13)) ∧ gA S (a 13) (nI (100 * ix d + j)).toNatClampNeg = (v.2.2 (ix d)).2.2.2.2.2 j := fun hj => m_cell hM hd e.1 (by omega)
    have go : ∀ w0 : Int32, w0 = b2 (n % 2 = 0) → J_X6_found_59 Q (a 0) d w0 S := by
      rintro w0 rfl
      unfold J_X6_found_59
      refine it_up (n / 2) (fun p x => x = (a 0, d, b2 (n % 2 = 0 ∧ allB (trP (v.2.2 (ix d))) p = true), nI (2 * p), S)) ?_ _ (by rw [b2_congr (show (n % 2 = 0 ∧ allB (trP (v.2.2 (ix d))) 0 = true) ↔ n % 2 = 0 from ⟨fun w => w.1, fun w => ⟨w, rfl⟩⟩)]; rfl)
      rintro C p x hp rfl hC
      simp only [L_X6_found_62, J_X6_found_123, J_X6_found_124, forall_eq]
      have fin : (n % 2 = 0 ∧ allB (trP (v.2.2 (ix d))) p = true ↔ wellT (v.2.2 (ix d))) → J_X6_found_131 Q (a 0) d (b2 (n % 2 = 0 ∧ allB (trP (v.2.2 (ix d))) p = true)) S := by
        intro hiff
        rw [b2_congr hiff]
        unfold J_X6_found_131
        refine br1 (fun hw => ?_) (fun hw => ?_)
        · rw [if_pos hw] at hQ
          have hev : n % 2 = 0 := by rw [← hsz]; exact hw.1
          refine it_up 4 (fun k x => x = (a 0, d, nI (orB (fun k => allB (fitP (v.2.2 (ix d)) k) (n / 2)) k), nI k, S)) ?_ _ rfl
          rintro C k x hk rfl hC
          simp only [L_X6_found_143]
          rw [show (4 : Int32) = nI 4 from rfl, nI_leI (by decide) (by omega)]
          refine ⟨fun e2 => ?_, fun e2 => ?_⟩
          · rw [show k = 4 by omega]; unfold fndN at hQ; rw [hsz] at hQ; exact hQ
          · have hstep := hC (by omega)
            refine it_up (n / 2) (fun p x => x = (a 0, d, nI (orB (fun k => allB (fitP (v.2.2 (ix d)) k) (n / 2)) k), nI k, b2 (allB (fitP (v.2.2 (ix d)) k) p = true), nI (2 * p), S)) ?_ _ rfl
            rintro C2 p x hp rfl hC2
            simp only [L_X6_found_155, J_X6_found_212, J_X6_found_213, J_X6_found_235, forall_eq]
            refine ⟨z1, _, z2, z3, z4, ?_⟩
            rw [z5, nI_leI (by omega) (by omega), show (2 : Int32) = nI 2 from rfl, nI_add, nI_1]
            refine ⟨fun e3 => ?_, fun e3 => ?_⟩
            · have hpn : p = n / 2 := by omega
              subst hpn
              refine br0 (fun e4 => hstep _ ?_) (fun e4 => hstep _ ?_)
              · rw [or_sh _ _ (by omega), orB, if_pos e4]
              · rw [show (0 : Int32) = nI 0 from rfl, nI_or, orB, if_neg e4]
            · have hst2 := hC2 (by omega)
              refine br0 (fun e4 => ⟨k0, _, r13, k13, ?_⟩) (fun e4 => hst2 _ ?_)
              · obtain ⟨c1, c2, c3⟩ := hc (j := 2 * p) (by omega)
                obtain ⟨d1, d2, d3⟩ := hc (j := 2 * p + 1) (by omega)
                obtain ⟨q1, q2⟩ := trP_q (allB_iff.mp hw.2 p (by rw [hsz]; omega))
                have h34 : 3 ^ k ≤ 27 := Nat.pow_le_pow_right (n := 3) (by decide) (by omega : k ≤ 3)
                have h30 := p3_pos k
                rw [c1]
                refine ⟨c2, t_power (by omega) ⟨?_, k0, _, r13, k13, by rw [nI_1]; exact d2, ?_⟩⟩
                · rw [show (0 : Int32) = nI 0 from rfl, nI_eq (by omega) (by decide)]; omega
                · have hdv : ix ((v.2.2 (ix d)).2.2.2.2.2 (2 * p)) / 3 ^ k ≤ 80 := Nat.le_trans (Nat.div_le_self _ _) q2
                  rw [nI_1, c3, show 100 * ix d + 2 * p + 1 = 100 * ix d + (2 * p + 1) from rfl, d3, q1, pk_div (by omega) (by omega) (by omega), show (3 : Int32) = nI 3 from rfl, pk_rem (by omega) (by decide) (by decide)]
                  refine ⟨fun e5 => hst2 _ ?_, fun e5 => hst2 _ ?_⟩
                  · rw [b2_f (allB_no (j := p) (by omega) (fun w => e5 (of_decide_eq_true w)))]; rfl
                  · rw [b2_t (by rw [allB, e4]; exact decide_eq_true e5)]; rfl
              · rw [b2_f (fun w => e4 (by rw [allB, Bool.and_eq_true] at w; exact w.1))]; rfl
        · rw [if_neg hw] at hQ; exact hQ
      refine ⟨z1, _, z2, z3, z4, ?_⟩
      rw [z5, nI_1, nI_leI (by omega) (by omega)]
      refine ⟨fun e3 => fin ?_, fun e3 => br0 (fun e4 => ?_) (fun e4 => ?_)⟩
      · rw [show p = n / 2 by omega]; unfold wellT; rw [hsz]
      · have hst2 := hC (by omega)
        obtain ⟨c1, c2, c3⟩ := hc (j := 2 * p) (by omega)
        obtain ⟨d1, d2, d3⟩ := hc (j := 2 * p + 1) (by omega)
        rw [show (2 : Int32) = nI 2 from rfl, nI_add] at *
        refine ⟨k0, _, r13, k13, ?_⟩
        rw [c1]
        refine ⟨c2, ?_⟩
        rw [c3, e_isInL (lo := 0) (hi := 80) rfl rfl]
        refine br0 (fun e5 => ⟨k0, _, r13, k13, ?_⟩) (fun e5 => hst2 _ ?_)
        · rw [nI_1]
          refine ⟨d2, ?_⟩
          rw [show 100 * ix d + 2 * p + 1 = 100 * ix d + (2 * p + 1) from rfl, d3, e_isInL (lo := 0) (hi := 2) rfl rfl]
          refine br0 (fun e6 => hst2 _ ?_) (fun e6 => hst2 _ ?_)
          · rw [b2_t ⟨e4.1, by rw [allB, e4.2]; exact decide_eq_true ⟨e5, e6⟩⟩]; rfl
          · rw [b2_f (fun w => e6 (of_decide_eq_true (allB_iff.mp w.2 p (by omega))).2)]; rfl
        · rw [b2_f (fun w => e5 (of_decide_eq_true (allB_iff.mp w.2 p (by omega))).1)]; rfl
      · refine fin ⟨fun w => absurd w e4, fun w => absurd ⟨by rw [← hsz]; exact w.1, allB_iff.mpr (fun j hj => allB_iff.mp w.2 j (by rw [hsz]; omega))⟩ e4⟩
    refine ⟨z1, _, z2, z3, z4, ?_⟩
    rw [z5, evn2 hle]
    exact ⟨fun e2 => go 0 (b2_f e2).symm, fun e2 => go 1 (b2_t e2).symm⟩
  · rw [if_pos hd, if_neg e, e2] at hQ; exact hQ
  · rw [if_pos hd, if_neg e, e2] at hQ; exact hQ
  · rw [if_neg hd] at hQ; exact hQ
