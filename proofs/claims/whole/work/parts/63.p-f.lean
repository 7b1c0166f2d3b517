/-! the calls of reach and loss, of the class and of the reference -/
theorem x_fnh {a : Nat → Nat} {v : AS} {S : Hp} {z : Nat} {s : ASh} {Q : Int32 → Hp → Prop} (hX : XI a v S) (hz : ScS S z s) (h : ∀ S', XI a v S' → ScS S' z s → Q (nI (rch (had s v.1 0) + 1)) S') : wp_X5_firstNotHad (a 0) z (a 4) S Q :=
  x_firstNotHad hX.1.k0 hX.1.r60_0 hX.1.k27 hX.1.l27 hX.1.ly hX.2.2.2.1 (hX.1.ne (by decide) (by decide) (by decide)) (hX.1.ne (by decide) (by decide) (by decide)) (hX.1.ne (by decide) (by decide) (by decide)) (hX.1.ne (by decide) (by decide) (by decide)) hz hX.2.1.1 (fun S' f => h S' (hX.fa (by decide) (by decide) f) (hz.fa f))
theorem x_lw {a : Nat → Nat} {v : AS} {S : Hp} {z k R : Nat} {s : ASh} {Q : Int32 → Hp → Prop} (hX : XI a v S) (hz : ScS S z s) (hk : k < 6) (hR : R ≤ 999) (h : ∀ S', XI a v S' → ScS S' z s → Q (nI (cnt (fun j => !had s v.1 (2 ^ k) (j + 1)) R)) S') : wp_X5_lostWithout (a 0) z (nI k) (nI R) S Q :=
  x_lostWithout hX.1.k0 hX.1.r60_0 hX.1.r51_0 hX.1.k27 hX.1.l27 hX.1.ly hX.2.2.2.1 (hX.1.ne (by decide) (by decide) (by decide)) (hX.1.ne (by decide) (by decide) (by decide)) (hX.1.ne (by decide) (by decide) (by decide)) (hX.1.ne (by decide) (by decide) (by decide)) hz hX.2.1.1 hk hR (fun S' f => h S' (hX.fa (by decide) (by decide) f) (hz.fa f))
theorem x_reach {a : Nat → Nat} {v : AS} {S : Hp} {d : Int32} {Q : Int32 → Hp → Prop} (hX : XI a v S) (hQ : ∀ S', XI a v S' → Q (sp_reach v d) S') : wp_X5_reach (a 0) d S Q := by
  unfold sp_reach onSc at hQ
  unfold wp_X5_reach
  rw [e_xSh]
  refine br1 (fun hd => ?_) (fun hd => ?_)
  · rw [if_pos hd] at hQ
    obtain ⟨i1, i2, i3, i4⟩ := x_in hX.1 hd
    refine ⟨hX.1.k0, _, hX.1.r56_0, i3, i1, x_scale hX hd (fun h1 he => ⟨hX.1.k0, x_notHeld hX hd ?_⟩) (fun z h1 hz => ⟨hX.1.k0, _, hX.1.r51_0, hX.1.k0, x_fnh hX hz ?_⟩)⟩
    · rw [if_pos h1] at hQ; rw [he]; exact hQ S hX
    · intro S' hX' _
      rw [if_neg (by omega)] at hQ
      rw [nI_pred]
      exact hQ S' hX'
  · rw [if_neg hd] at hQ; exact hQ S hX
theorem x_hole {a : Nat → Nat} {v : AS} {S : Hp} {d : Int32} {Q : Int32 → Hp → Prop} (hX : XI a v S) (hQ : ∀ S', XI a v S' → Q (sp_hole v d) S') : wp_X5_hole (a 0) d S Q := by
  unfold sp_hole onSc at hQ
  unfold wp_X5_hole
  rw [e_xSh]
  refine br1 (fun hd => ?_) (fun hd => ?_)
  · rw [if_pos hd] at hQ
    obtain ⟨i1, i2, i3, i4⟩ := x_in hX.1 hd
    refine ⟨hX.1.k0, _, hX.1.r56_0, i3, i1, x_scale hX hd (fun h1 he => ⟨hX.1.k0, x_notHeld hX hd ?_⟩) (fun z h1 hz => ⟨hX.1.k0, _, hX.1.r51_0, hX.1.k0, x_fnh hX hz ?_⟩)⟩
    · rw [if_pos h1] at hQ; rw [he]; exact hQ S hX
    · intro S' hX' _
      rw [if_neg (by omega)] at hQ
      have hr := rch_le (had (v.2.2 (ix d)) v.1 0)
      rw [show (999 : Int32) = nI 999 from rfl, nI_ltI (by decide) (by omega)]
      refine ⟨fun e => ?_, fun e => ?_⟩
      · rw [if_pos (by omega)] at hQ; exact hQ S' hX'
      · rw [if_neg (by omega)] at hQ; exact hQ S' hX'
  · rw [if_neg hd] at hQ; exact hQ S hX
theorem x_lost {a : Nat → Nat} {v : AS} {S : Hp} {d q : Int32} {Q : Int32 → Hp → Prop} (hX : XI a v S) (hQ : ∀ S', XI a v S' → Q (sp_lost v d q) S') : wp_X5_lost (a 0) d q S Q := by
  have hn6 : v.1.1 ≤ 6 := hX.2.1.1.1
  unfold sp_lost onSc at hQ
  unfold wp_X5_lost
  rw [e_xSh]
  refine br0 (fun hd => ?_) (fun hd => ?_)
  · rw [if_pos hd] at hQ
    obtain ⟨i1, i2, i3, i4⟩ := x_in hX.1 hd
    refine ⟨hX.1.k0, _, hX.1.r50_0, hX.1.k1, x_isStone hX.1.k1 hX.2.2.1 hn6 fun z hz => bz1 hz (fun hq => ⟨hX.1.k0, _, hX.1.r56_0, i3, i1, x_scale hX hd (fun h1 he => ⟨hX.1.k0, x_notHeld hX hd ?_⟩) (fun z h1 hz => ⟨hX.1.k0, _, hX.1.r51_0, hX.1.k0, x_fnh hX hz ?_⟩)⟩) (fun hq => ?_)⟩
    · rw [if_pos hq, if_pos h1] at hQ; rw [he]; exact hQ S hX
    · intro S' hX' hz'
      rw [if_pos hq, if_neg (by omega)] at hQ
      obtain ⟨hq3, hqI⟩ := isSt_nI hq
      refine ⟨hX'.1.k0, ?_⟩
      rw [nI_pred, hqI]
      exact x_lw hX' hz' (by omega) (rch_le _) (fun S'' hX'' _ => hQ S'' hX'')
    · rw [if_neg hq] at hQ; exact hQ S hX
  · rw [if_neg hd] at hQ; exact hQ S hX
theorem lostN_le (s : ASh) (t : ASt) (k : Nat) : lostN s t k ≤ 999 := Nat.le_trans (cnt_le _ _) (rch_le _)
theorem x_harms {a : Nat → Nat} {v : AS} {S : Hp} {d : Int32} {Q : Int32 → Hp → Prop} (hX : XI a v S) (hQ : ∀ S', XI a v S' → Q (sp_harms v d) S') : wp_X5_harmsLeast (a 0) d S Q := by
  have hn6 : v.1.1 ≤ 6 := hX.2.1.1.1
  unfold sp_harms onSc at hQ
  unfold wp_X5_harmsLeast
  rw [e_xSh]
  refine br1 (fun hd => ?_) (fun hd => ?_)
  · rw [if_pos hd] at hQ
    obtain ⟨i1, i2, i3, i4⟩ := x_in hX.1 hd
    refine ⟨hX.1.k0, _, hX.1.r56_0, i3, i1, x_scale hX hd (fun h1 he => ⟨hX.1.k0, x_notHeld hX hd ?_⟩) (fun z h1 hz => ⟨hX.1.k0, _, hX.1.r51_0, hX.1.k0, x_fnh hX hz ?_⟩)⟩
    · rw [if_pos h1] at hQ; rw [he]; exact hQ S hX
    · intro S1 hX1 hz1
      rw [if_neg (by omega)] at hQ
      simp only [forall_eq]
      rw [nI_pred]
      refine it_up v.1.1 (fun k x => ∃ f S', x = (a 0, z, nI (rch (had (v.2.2 (ix d)) v.1 0)), oN ((bsq (fun _ => true) (lostN (v.2.2 (ix d)) v.1) k).map (fun y => y.2)), f, nI k, S') ∧ XI a v S' ∧ ScS S' z (v.2.2 (ix d)) ∧ ∀ y, bsq (fun _ => true) (lostN (v.2.2 (ix d)) v.1) k = some y → f = nI y.1) ?_ _ ⟨0, S1, rfl, hX1, hz1, fun y hy => by cases hy⟩
      rintro C k x hk ⟨f, S', rfl, hX', hz', hf⟩ hC
      simp only [L_X5_harmsLeast_48, J_X5_harmsLeast_82, J_X5_harmsLeast_90, forall_eq]
      refine ⟨hX'.1.k0, _, hX'.1.r50_0, hX'.1.k1, ?_⟩
      rw [hX'.2.2.1.1, nI_leI (by omega) (by omega)]
      refine ⟨fun hc => ?_, fun hc => ⟨hX'.1.k0, x_lw hX' hz' (by omega) (rch_le _) ?_⟩⟩
      · rw [show k = v.1.1 by omega]; exact hQ S' hX'
      · intro S'' hX'' hz''
        have hstep := hC (by omega)
        have hl := lostN_le (v.2.2 (ix d)) v.1 k
        have hlv : cnt (fun j => !had (v.2.2 (ix d)) v.1 (2 ^ k) (j + 1)) (rch (had (v.2.2 (ix d)) v.1 0)) = lostN (v.2.2 (ix d)) v.1 k := rfl
        rw [hlv]
        cases hb : bsq (fun _ => true) (lostN (v.2.2 (ix d)) v.1) k with
        | none =>
          refine ⟨fun _ => hstep _ ⟨_, S'', by rw [nI_1, bsq_t0 rfl hb]; rfl, hX'', hz'', fun y' hy' => ?_⟩, fun zz => absurd (by decide : (-4 : Int32) < 0) zz⟩
          rw [← Option.some.inj ((bsq_t0 rfl hb).symm.trans hy')]
        | some y0 =>
          have hy0 := bsq_lt hb
          have hl0 := lostN_le (v.2.2 (ix d)) v.1 y0.2
          rw [hf y0 hb]
          show (nI y0.2 < 0 → _) ∧ (¬ nI y0.2 < 0 → _)
          refine ⟨fun zz => absurd zz (nI_pos (by omega)), fun _ => ?_⟩
          rw [nI_leI (by omega) (by omega)]
          refine ⟨fun zz => hstep _ ⟨nI y0.1, S'', ?_, hX'', hz'', fun y' hy' => ?_⟩, fun zz => hstep _ ⟨nI (lostN (v.2.2 (ix d)) v.1 k), S'', ?_, hX'', hz'', fun y' hy' => ?_⟩⟩
          · rw [nI_1, bsq_t2 rfl hb (by omega)]; try rfl
          · rw [← Option.some.inj ((bsq_t2 rfl hb (by omega)).symm.trans hy')]
          · rw [nI_1, bsq_t1 rfl hb (by omega)]; try rfl
          · rw [← Option.some.inj ((bsq_t1 rfl hb (by omega)).symm.trans hy')]
  · rw [if_neg hd] at hQ; exact hQ S hX
-- the reference
/-- what 'have' writes: the row a 5 and the ints 77 to 82 -/
def FB (b : Nat) (S S' : Hp) : Prop := kd S' = kd S ∧ gR S' = gR S ∧ ln S' = ln S ∧ gQ S' = gQ S ∧ (∀ i x, (i < 77 ∨ 82 < i) → gI S' i x = gI S i x) ∧ ∀ c, c ≠ b → gA S' c = gA S c
theorem FB.rf (b : Nat) (S : Hp) : FB b S S := ⟨rfl, rfl, rfl, rfl, fun _ _ _ => rfl, fun _ _ => rfl⟩
theorem FB.tr {b : Nat} {S S' S'' : Hp} (h : FB b S S') (h' : FB b S' S'') : FB b S S'' := ⟨h'.1.trans h.1, h'.2.1.trans h.2.1, h'.2.2.1.trans h.2.2.1, h'.2.2.2.1.trans h.2.2.2.1, fun i x z => (h'.2.2.2.2.1 i x z).trans (h.2.2.2.2.1 i x z), fun c z => (h'.2.2.2.2.2 c z).trans (h.2.2.2.2.2 c z)⟩
theorem FB.sc {b : Nat} {S S' S'' : Hp} (h : FB b S S') (h' : SC S' S'') : FB b S S'' := h.tr ⟨h'.k, h'.r, h'.l, h'.q, h'.2.2, fun c _ => by rw [h'.a]⟩
theorem FB.set {b : Nat} {S S' : Hp} (h : FB b S S') (j : Nat) (x : Int32) : FB b S (sA S' b j x) := ⟨h.1, h.2.1, h.2.2.1, h.2.2.2.1, h.2.2.2.2.1, fun c z => (h_gA_sF S' b _ c).trans ((if_neg z).trans (h.2.2.2.2.2 c z))⟩
theorem MI.fb {a : Nat → Nat} {v : AS} {S S' : Hp} {i : Nat} (h : MI a v S) (hi : i = 5 ∨ i = 6 ∨ i = 7 ∨ i = 14) (f : FB (a i) S S') : MI a v S' := by
  have hi2 : i < 15 := by omega
  have ne : ∀ j, j < 15 → j ≠ i → a j ≠ a i := fun j hj hji => h.1.ne hj hi2 hji
  refine ⟨?_, h.2.1, ?_⟩
  · have h1 := h.1
    unfold MS at h1 ⊢
    rw [f.1, f.2.1, f.2.2.1]
    exact h1
  · have hd := h.2.2
    unfold MD MSh at hd ⊢
    rw [f.2.2.2.2.1 70 _ (by omega), f.2.2.2.2.1 73 _ (by omega), f.2.2.2.2.1 74 _ (by omega), f.2.2.2.2.2 _ (ne 1 (by decide) (by omega)), f.2.2.2.2.2 _ (ne 2 (by decide) (by omega)), f.2.2.2.2.2 _ (ne 3 (by decide) (by omega)), f.2.2.2.2.2 _ (ne 4 (by decide) (by omega)), f.2.2.2.2.2 _ (ne 8 (by decide) (by omega)), f.2.2.2.2.2 _ (ne 9 (by decide) (by omega)), f.2.2.2.2.2 _ (ne 10 (by decide) (by omega)), f.2.2.2.2.2 _ (ne 11 (by decide) (by omega)), f.2.2.2.2.2 _ (ne 12 (by decide) (by omega)), f.2.2.2.2.2 _ (ne 13 (by decide) (by omega))]
    exact hd
def HdM (S : Hp) (b : Nat) (H : Nat → Bool) : Prop := HdA S b H ∧ gA S b 1000 = 0
theorem xor63 : ∀ m, m < 64 → 63 ^^^ m < 64 := by decide +kernel
theorem t_haveF {a : Nat → Nat} {v : AS} {S : Hp} {d : Int32} {m : Nat} {Q : Hp → Prop} (hM : MI a v S) (hd : isSh d) (h1 : (v.2.2 (ix d)).1 = 1) (hm : m < 64) (hQ : ∀ S', MI a v S' → HdM S' (a 5) (had (v.2.2 (ix d)) v.1 (63 ^^^ m)) → FB (a 5) S S' → Q S') : wp_X6_have (a 0) d (nI m) S Q := by
  have hn6 : v.1.1 ≤ 6 := hM.2.1.1.1
  have h3 := p3_6 hn6
  unfold wp_X6_have
  refine it_up 1001 (fun k x => ∃ S', x = (a 0, d, nI m, nI k, S') ∧ MI a v S' ∧ FB (a 5) S S' ∧ ∀ j, j < k → gA S' (a 5) j = 0) ?_ _ ⟨S, rfl, hM, FB.rf _ _, fun j hj => absurd hj (Nat.not_lt_zero j)⟩
  rintro C k x hk ⟨S1, rfl, hM1, hf1, hz⟩ hC
  obtain ⟨k0, k1, k2, k3, k4, k5, k6, k7, k8, k9, k10, k11, k12, k13, k14, r1, r2, r3, r4, r5, r6, r7, r8, r9, r10, r11, r12, r13, r14, l1, l2, l3, l4, l5, l6, l7, l8, l9, l10, l11, l12, l13, l14⟩ := hM1.1.all
  simp only [L_X6_have_2, forall_eq]
  rw [show (1000 : Int32) = nI 1000 from rfl, nI_ltI (by decide) (by omega)]
  refine ⟨fun e => ?_, fun e => ⟨k0, _, r5, k5, by rw [l5]; exact vp_in_nI (by omega) (by decide), ?_⟩⟩
  · have hk1 : k = 1001 := by omega
    subst hk1
    refine it_up (3 ^ v.1.1) (fun q x => ∃ S', x = (a 0, d, nI m, nI q, S') ∧ MI a v S' ∧ FB (a 5) S S' ∧ HdM S' (a 5) (hadB (v.2.2 (ix d)) v.1 (63 ^^^ m) q)) ?_ _ ⟨S1, rfl, hM1, hf1, fun w hw1 hw2 => by rw [hz w (by omega)]; rfl, hz 1000 (by omega)⟩
    rintro C2 q x hq ⟨S', rfl, hM', hf', hH⟩ hC2
    simp only [L_X6_have_24, J_X6_have_109, forall_eq]
    refine ⟨hM'.1.1, t_mpow hM' ?_⟩
    rw [nI_leI (by omega) (by omega)]
    refine ⟨fun hc => ?_, fun hc => ⟨hM'.1.1, t_mlook hM' (by omega) ?_⟩⟩
    · have hqq : q = 3 ^ v.1.1 := by omega
      subst hqq
      exact hQ S' hM' hH hf'
    · intro S'' c g77 g78 g79 g80 g81 g82
      have hM'' := hM'.sc c
      have hf'' := hf'.sc c
      have hH'' : HdM S'' (a 5) (hadB (v.2.2 (ix d)) v.1 (63 ^^^ m) q) := by
        unfold HdM HdA at hH ⊢
        rw [c.a]; exact hH
      have hstep := hC2 (by omega)
      obtain ⟨k0, k1, k2, k3, k4, k5, k6, k7, k8, k9, k10, k11, k12, k13, k14, r1, r2, r3, r4, r5, r6, r7, r8, r9, r10, r11, r12, r13, r14, l1, l2, l3, l4, l5, l6, l7, l8, l9, l10, l11, l12, l13, l14⟩ := hM''.1.all
      obtain ⟨h8, hdI⟩ := isSh_nI hd
      have hs := (hM''.2.2.2.2.2.2.2 (ix d) h8).2.1 h1
      have hin : vp_in d 8 := by rw [hdI]; exact vp_in_nI h8 (by decide)
      have hcl : d.toNatClampNeg = ix d := rfl
      simp only [k0, r9, k9, l9, r10, k10, l10, hin, hcl, hs.1, hs.2, true_and, Option.some.injEq, exists_eq_left', g77, g78, e_readBy]
      refine t_mayBe k0 g79 g80 (Nat.le_trans (rct_le _ _) hn6) (Nat.le_trans (lct_le _ _) hn6) (br0 (fun e2 => ?_) (fun e2 => hstep _ ⟨S'', by rw [nI_1], hM'', hf'', hH''.1.keep (fun w _ _ => by unfold mayQ; simp [e2]), hH''.2⟩))
      have hu := usd_64 (n := v.1.1) (q := q) hn6
      have hua : usd v.1.1 q &&& (63 ^^^ m) < 64 := Nat.lt_of_le_of_lt Nat.and_le_left hu
      simp only [k0, true_and, g82]
      rw [nI_andnot _ hu _ hm, show (0 : Int32) = nI 0 from rfl, nI_eq (by omega) (by decide)]
      refine ⟨fun e1 => hstep _ ⟨S'', by rw [nI_1], hM'', hf'', hH''.1.keep (fun w _ _ => by simp [e1]), hH''.2⟩, fun e1 => ?_⟩
      rw [e_isInL (lo := 1) (hi := 999) rfl rfl]
      have hwq : weig (v.2.2 (ix d)).2.1 (v.2.2 (ix d)).2.2.1 (rgt v.1.2.1 v.1.1 q) (lft v.1.2.1 v.1.1 q) = wgQ (v.2.2 (ix d)) v.1 q := rfl
      rw [hwq]
      have e2' : mayQ (v.2.2 (ix d)) v.1.1 q = true := e2
      refine br0 (fun e3 => ⟨k0, _, r5, k5, ?_, ?_⟩) (fun e3 => hstep _ ⟨S'', by rw [nI_1], hM'', hf'', hH''.1.keep (fun w hw1 hw2 z => ?_), hH''.2⟩)
      · rw [l5, p_nat (x := wgQ (v.2.2 (ix d)) v.1 q) (by omega)]; exact vp_in_nI (by omega) (by decide)
      · have hcl2 : (wgQ (v.2.2 (ix d)) v.1 q).toNatClampNeg = (wgQ (v.2.2 (ix d)) v.1 q).toInt.toNat := rfl
        have hvn : vp_nar .boolean (1 : Int32) = 1 := by decide
        refine hstep _ ⟨_, by rw [nI_1], hM''.fb (Or.inl rfl) ((FB.rf _ _).set _ _), hf''.set _ _, fun w hw1 hw2 => ?_, ?_⟩
        · have hww : (decide (wgQ (v.2.2 (ix d)) v.1 q = nI w) = true) ↔ w = (wgQ (v.2.2 (ix d)) v.1 q).toInt.toNat := by
            rw [decide_eq_true_iff, p_eq, nI_toInt (by omega)]; omega
          rw [gA_sA, hcl2, hadB_s, hvn]
          unfold upd
          by_cases e4 : w = (wgQ (v.2.2 (ix d)) v.1 q).toInt.toNat
          · rw [if_pos e4, hww.mpr e4, e2']; simp [e1]
          · rw [if_neg e4, hH''.1 w hw1 hw2]
            have : decide (wgQ (v.2.2 (ix d)) v.1 q = nI w) = false := by
              rw [← Bool.not_eq_true]; exact fun z => e4 (hww.mp z)
            rw [this, Bool.and_false, Bool.or_false]
        · rw [gA_sA, hcl2]
          unfold upd
          rw [if_neg (by omega)]
          exact hH''.2
      · rw [Bool.and_eq_true] at z
        have h5 := of_decide_eq_true z.2
        rw [h5, nI_toInt (by omega)] at e3
        omega
  · have hvn : vp_nar .boolean (0 : Int32) = 0 := by decide
    refine hC (by omega) _ ⟨_, by rw [nI_1], hM1.fb (Or.inl rfl) ((FB.rf _ _).set _ _), hf1.set _ _, fun j hj => ?_⟩
    rw [gA_sA, nI_clamp (by omega), hvn]
    unfold upd
    by_cases e2 : j = k
    · rw [if_pos e2]
    · rw [if_neg e2]; exact hz j (by omega)
theorem t_have {a : Nat → Nat} {v : AS} {S : Hp} {d : Int32} {m : Nat} {Q : Hp → Prop} (hM : MI a v S) (hd : isSh d) (h1 : (v.2.2 (ix d)).1 = 1) (hm : m < 64) (hQ : ∀ S', MI a v S' → HdM S' (a 5) (had (v.2.2 (ix d)) v.1 (63 ^^^ m)) → Q S') : wp_X6_have (a 0) d (nI m) S Q := t_haveF hM hd h1 hm (fun S' h1 h2 _ => hQ S' h1 h2)
theorem t_reached {a : Nat → Nat} {v : AS} {S : Hp} {H : Nat → Bool} {Q : Int32 → Hp → Prop} (hM : MI a v S) (hH : HdM S (a 5) H) (h : Q (nI (rch H)) S) : wp_X6_reached (a 0) S Q := by
  obtain ⟨k0, k1, k2, k3, k4, k5, k6, k7, k8, k9, k10, k11, k12, k13, k14, r1, r2, r3, r4, r5, r6, r7, r8, r9, r10, r11, r12, r13, r14, l1, l2, l3, l4, l5, l6, l7, l8, l9, l10, l11, l12, l13, l14⟩ := hM.1.all
  unfold wp_X6_reached
  refine it_up 999 (fun k x => x = (a 0, nI k, S) ∧ ∀ j, j < k → H (j + 1) = true) ?_ _ ⟨rfl, fun j hj => absurd hj (Nat.not_lt_zero j)⟩
  rintro C k x hk ⟨rfl, hj⟩ hC
  simp only [L_X6_reached_2, forall_eq]
  rw [nI_1]
  refine ⟨k0, _, r5, k5, by rw [l5]; exact vp_in_nI (by omega) (by decide), ?_⟩
  rw [nI_clamp (by omega)]
  by_cases e : k = 999
  · subst e
    rw [hH.2]
    rw [rch_none (fun j hj' => hj j (by omega))] at h
    exact ⟨fun _ => h, fun z => absurd rfl z⟩
  · rw [hH.1 (k + 1) (by omega) (by omega)]
    by_cases e2 : H (k + 1) = true
    · rw [if_pos e2]
      refine ⟨fun z => absurd z (by decide), fun _ => hC (by omega) _ ⟨rfl, fun j hj' => ?_⟩⟩
      by_cases e3 : j = k
      · subst e3; exact e2
      · exact hj j (by omega)
    · rw [if_neg e2]
      rw [rch_at hj e2 (by omega)] at h
      exact ⟨fun _ => h, fun z => absurd rfl z⟩
theorem m_reach {a : Nat → Nat} {v : AS} {S : Hp} {d : Int32} {Q : Int32 → Hp → Prop} (hM : MI a v S) (hQ : ∀ S', MI a v S' → Q (sp_reach v d) S') : wp_X6_reach (a 0) d S Q := by
  have k0 := hM.1.1
  unfold sp_reach onSc at hQ
  unfold wp_X6_reach
  rw [e_mSh]
  refine br1 (fun hd => ⟨k0, ?_⟩) (fun hd => ?_)
  · rw [if_pos hd] at hQ
    obtain ⟨h8, hdI⟩ := isSh_nI hd
    refine t_noScale hM hd (bz0 (scN_0 (hM.2.1.2.2 _ h8).1) (fun h1 => ⟨k0, ?_⟩) (fun h1 => ⟨k0, ?_⟩))
    · rw [if_pos h1] at hQ
      exact t_noScale hM hd (hQ _ hM)
    · rw [if_neg h1] at hQ
      refine t_have (m := 63) hM hd (Decidable.not_not.mp h1) (by decide) (fun S' hM' hH => ⟨hM'.1.1, t_reached hM' hH ?_⟩)
      exact hQ S' hM'
  · rw [if_neg hd] at hQ; exact hQ _ hM
theorem m_hole {a : Nat → Nat} {v : AS} {S : Hp} {d : Int32} {Q : Int32 → Hp → Prop} (hM : MI a v S) (hQ : ∀ S', MI a v S' → Q (sp_hole v d) S') : wp_X6_hole (a 0) d S Q := by
  have k0 := hM.1.1
  unfold sp_hole onSc at hQ
  unfold wp_X6_hole
  rw [e_mSh]
  refine br1 (fun hd => ⟨k0, ?_⟩) (fun hd => ?_)
  · rw [if_pos hd] at hQ
    obtain ⟨h8, hdI⟩ := isSh_nI hd
    refine t_noScale hM hd (bz0 (scN_0 (hM.2.1.2.2 _ h8).1) (fun h1 => ⟨k0, ?_⟩) (fun h1 => ⟨k0, ?_⟩))
    · rw [if_pos h1] at hQ
      exact t_noScale hM hd (hQ _ hM)
    · rw [if_neg h1] at hQ
      have hr := rch_le (had (v.2.2 (ix d)) v.1 0)
      refine t_have (m := 63) hM hd (Decidable.not_not.mp h1) (by decide) (fun S' hM' hH => ⟨hM'.1.1, t_reached hM' hH ?_⟩)
      show (¬ nI (rch (had (v.2.2 (ix d)) v.1 0)) = 999 → _) ∧ (nI (rch (had (v.2.2 (ix d)) v.1 0)) = 999 → _)
      rw [show (999 : Int32) = nI 999 from rfl, nI_eq (by omega) (by decide)]
      refine ⟨fun e => ⟨hM'.1.1, t_reached hM' hH ?_⟩, fun e => ?_⟩
      · show Q (nI (rch (had (v.2.2 (ix d)) v.1 0)) + 1) S'
        rw [nI_1]
        rw [if_neg e] at hQ; exact hQ S' hM'
      · rw [if_pos e] at hQ; exact hQ S' hM'
  · rw [if_neg hd] at hQ; exact hQ _ hM
theorem mask_st : ∀ k, k < 6 → ((63 : Int32) &&& (((1 : Int32) <<< (nI k &&& 31)) ^^^ (-1 : Int32))) = nI (63 ^^^ 2 ^ k) ∧ 63 ^^^ (63 ^^^ 2 ^ k) = 2 ^ k ∧ 63 ^^^ 2 ^ k < 64 := by decide +kernel
theorem t_lostBy {a : Nat → Nat} {v : AS} {S : Hp} {d : Int32} {k : Nat} {Q : Int32 → Hp → Prop} (hM : MI a v S) (hd : isSh d) (h1 : (v.2.2 (ix d)).1 = 1) (hk : k < 6) (hQ : ∀ S', MI a v S' → Q (nI (lostN (v.2.2 (ix d)) v.1 k)) S') : wp_X6_lostBy (a 0) d (nI k) S Q := by
  unfold wp_X6_lostBy
  refine ⟨hM.1.1, t_have (m := 63) hM hd h1 (by decide) (fun S1 hM1 hH1 => ⟨hM1.1.1, t_reached hM1 hH1 ⟨hM1.1.1, ?_⟩⟩)⟩
  rw [(mask_st k hk).1]
  refine t_have hM1 hd h1 (mask_st k hk).2.2 (fun S' hM' hH => ?_)
  rw [(mask_st k hk).2.1] at hH
  obtain ⟨k0, k1, k2, k3, k4, k5, k6, k7, k8, k9, k10, k11, k12, k13, k14, r1, r2, r3, r4, r5, r6, r7, r8, r9, r10, r11, r12, r13, r14, l1, l2, l3, l4, l5, l6, l7, l8, l9, l10, l11, l12, l13, l14⟩ := hM'.1.all
  have hr := rch_le (had (v.2.2 (ix d)) v.1 (63 ^^^ 63))
  refine it_up (rch (had (v.2.2 (ix d)) v.1 (63 ^^^ 63))) (fun j u => u = (a 0, nI (rch (had (v.2.2 (ix d)) v.1 (63 ^^^ 63))), nI (cnt (fun j => !had (v.2.2 (ix d)) v.1 (2 ^ k) (j + 1)) j), nI (j + 1), S')) ?_ _ rfl
  rintro C j u hj rfl hC
  simp only [L_X6_lostBy_31, J_X6_lostBy_54, forall_eq]
  rw [nI_ltI (by omega) (by omega)]
  refine ⟨fun e => ?_, fun e => ⟨k0, _, r5, k5, by rw [l5]; exact vp_in_nI (by omega) (by decide), ?_⟩⟩
  · rw [show j = rch (had (v.2.2 (ix d)) v.1 (63 ^^^ 63)) by omega]; exact hQ S' hM'
  · rw [nI_clamp (by omega), hH.1 (j + 1) (by omega) (by omega), nI_1, nI_1]
    by_cases e2 : had (v.2.2 (ix d)) v.1 (2 ^ k) (j + 1) = true
    · rw [if_pos e2]
      refine ⟨fun z => absurd z (by decide), fun _ => hC (by omega) _ ?_⟩
      rw [cnt, if_neg (by simp [e2]), Int32.add_zero]; rfl
    · rw [if_neg e2]
      refine ⟨fun _ => hC (by omega) _ ?_, fun z => absurd rfl z⟩
      rw [cnt, if_pos (by simpa using e2)]
theorem m_lost {a : Nat → Nat} {v : AS} {S : Hp} {d q : Int32} {Q : Int32 → Hp → Prop} (hM : MI a v S) (hQ : ∀ S', MI a v S' → Q (sp_lost v d q) S') : wp_X6_lost (a 0) d q S Q := by
  have k0 := hM.1.1
  have hn6 : v.1.1 ≤ 6 := hM.2.1.1.1
  unfold sp_lost onSc at hQ
  unfold wp_X6_lost
  rw [e_mSh]
  refine br0 (fun hd => ⟨k0, ?_⟩) (fun hd => ?_)
  · rw [if_pos hd] at hQ
    obtain ⟨h8, hdI⟩ := isSh_nI hd
    refine t_isStone hM fun z hz => bz1 hz (fun hq => ⟨k0, ?_⟩) (fun hq => ?_)
    · rw [if_pos hq] at hQ
      obtain ⟨hq3, hqI⟩ := isSt_nI hq
      refine t_noScale hM hd (bz0 (scN_0 (hM.2.1.2.2 _ h8).1) (fun h1 => ⟨k0, ?_⟩) (fun h1 => ⟨k0, ?_⟩))
      · rw [if_pos h1] at hQ
        exact t_noScale hM hd (hQ _ hM)
      · rw [if_neg h1] at hQ
        rw [hqI]
        exact t_lostBy hM hd (Decidable.not_not.mp h1) (by omega) hQ
    · rw [if_neg hq] at hQ; exact hQ _ hM
  · rw [if_neg hd] at hQ; exact hQ _ hM
theorem m_harms {a : Nat → Nat} {v : AS} {S : Hp} {d : Int32} {Q : Int32 → Hp → Prop} (hM : MI a v S) (hQ : ∀ S', MI a v S' → Q (sp_harms v d) S') : wp_X6_harmsLeast (a 0) d S Q := by
  have k0 := hM.1.1
  have hn6 : v.1.1 ≤ 6 := hM.2.1.1.1
  unfold sp_harms onSc at hQ
  unfold wp_X6_harmsLeast
  rw [e_mSh]
  refine br1 (fun hd => ⟨k0, ?_⟩) (fun hd => ?_)
  · rw [if_pos hd] at hQ
    obtain ⟨h8, hdI⟩ := isSh_nI hd
    refine t_noScale hM hd (bz0 (scN_0 (hM.2.1.2.2 _ h8).1) (fun h1 => ⟨k0, ?_⟩) (fun h1 => ?_))
    · rw [if_pos h1] at hQ
      exact t_noScale hM hd (hQ _ hM)
    · rw [if_neg h1] at hQ
      have h1 := Decidable.not_not.mp h1
      refine it_up v.1.1 (fun k x => ∃ f S', x = (a 0, d, oN ((bsq (fun _ => true) (lostN (v.2.2 (ix d)) v.1) k).map (fun y => y.2)), f, nI k, S') ∧ MI a v S' ∧ ∀ y, bsq (fun _ => true) (lostN (v.2.2 (ix d)) v.1) k = some y → f = nI y.1) ?_ _ ⟨0, S, rfl, hM, fun y hy => by cases hy⟩
      rintro C k x hk ⟨f, S', rfl, hM', hf⟩ hC
      simp only [L_X6_harmsLeast_31, J_X6_harmsLeast_61, J_X6_harmsLeast_67, forall_eq]
      refine ⟨hM'.1.1, ?_⟩
      rw [hM'.2.2.1, nI_leI (by omega) (by omega)]
      refine ⟨fun hc => ?_, fun hc => ⟨hM'.1.1, t_lostBy hM' hd h1 (by omega) ?_⟩⟩
      · rw [show k = v.1.1 by omega]; exact hQ S' hM'
      · intro S'' hM''
        have hstep := hC (by omega)
        have hl := lostN_le (v.2.2 (ix d)) v.1 k
        cases hb : bsq (fun _ => true) (lostN (v.2.2 (ix d)) v.1) k with
        | none =>
          refine ⟨fun _ => hstep _ ⟨_, S'', by rw [nI_1, bsq_t0 rfl hb]; rfl, hM'', fun y' hy' => ?_⟩, fun zz => absurd rfl zz⟩
          rw [← Option.some.inj ((bsq_t0 rfl hb).symm.trans hy')]
        | some y0 =>
          have hy0 := bsq_lt hb
          have hl0 := lostN_le (v.2.2 (ix d)) v.1 y0.2
          rw [hf y0 hb]
          refine ⟨fun zz => absurd zz ?_, fun _ => ?_⟩
          · show ¬ nI y0.2 = -4
            rw [p_eq, nI_toInt (by omega), show (-4 : Int32).toInt = -4 from rfl]; omega
          · rw [nI_leI (by omega) (by omega)]
            refine ⟨fun zz => hstep _ ⟨nI y0.1, S'', ?_, hM'', fun y' hy' => ?_⟩, fun zz => hstep _ ⟨nI (lostN (v.2.2 (ix d)) v.1 k), S'', ?_, hM'', fun y' hy' => ?_⟩⟩
            · rw [nI_1, bsq_t2 rfl hb (by omega)]; try rfl
            · rw [← Option.some.inj ((bsq_t2 rfl hb (by omega)).symm.trans hy')]
            · rw [nI_1, bsq_t1 rfl hb (by omega)]; try rfl
            · rw [← Option.some.inj ((bsq_t1 rfl hb (by omega)).symm.trans hy')]
  · rw [if_neg hd] at hQ; exact hQ _ hM
