/-! the image; shops by seeds -/
theorem StR.fw {P : Nat → Prop} {J : Nat → Nat → Prop} {S S' : Hp} {c w p : Nat} {t : ASt} (h : StR S c w p t) (f : FW P J S S') (h1 : ¬ J 42 c) (h2 : ¬ P w) (h3 : ¬ P p) : StR S' c w p t := by
  unfold StR at h ⊢
  rw [f.2.2.2.2.1 _ _ h1, f.2.2.2.2.2 _ h2, f.2.2.2.2.2 _ h3]
  exact h
theorem LyD.fw {P : Nat → Prop} {J : Nat → Nat → Prop} {S S' : Hp} {y r l c d : Nat} {t : ASt} (h : LyD S y r l c d t) (f : FW P J S S') (h1 : ¬ J 4 y) (n1 : ¬ P r) (n2 : ¬ P l) (n3 : ¬ P c) (n4 : ¬ P d) : LyD S' y r l c d t := by
  unfold LyD at h ⊢
  rw [f.2.2.2.2.1 _ _ h1, f.2.2.2.2.2 _ n1, f.2.2.2.2.2 _ n2, f.2.2.2.2.2 _ n3, f.2.2.2.2.2 _ n4]
  exact h
theorem ScS.fw {P : Nat → Prop} {J : Nat → Nat → Prop} {S S' : Hp} {z : Nat} {s : ASh} (h : ScS S z s) (f : FW P J S S') (h1 : ¬ J 20 z) (h2 : ¬ J 21 z) : ScS S' z s := by
  unfold ScS at h ⊢
  rw [f.1, f.2.2.2.2.1 _ _ h1, f.2.2.2.2.1 _ _ h2]
  exact h
theorem XZ.fw {P : Nat → Prop} {J : Nat → Nat → Prop} {a : Nat → Nat} {S S' : Hp} (h : XZ a S) (f : FW P J S S') (hn : ∀ i, 16 ≤ i → i < 20 → ¬ P (a i)) : XZ a S' := by
  unfold XZ at h ⊢
  rw [f.2.2.2.2.2 _ (hn 16 (by decide) (by decide)), f.2.2.2.2.2 _ (hn 17 (by decide) (by decide)), f.2.2.2.2.2 _ (hn 18 (by decide) (by decide)), f.2.2.2.2.2 _ (hn 19 (by decide) (by decide))]
  exact h
theorem dg_0 (n : Nat) : dg n 0 = 0 := by unfold dg; rw [Nat.zero_div]
theorem rgt_0 (wt : Nat → Int32) : ∀ n, rgt wt n 0 = 0
  | 0 => rfl
  | n + 1 => by unfold rgt; rw [rgt_0 wt n, dg_0]; rfl
theorem lft_00 (wt : Nat → Int32) : ∀ n, lft wt n 0 = 0
  | 0 => rfl
  | n + 1 => by unfold lft; rw [lft_00 wt n, dg_0]; rfl
theorem rbt_0 : ∀ n, rbt n 0 = 0
  | 0 => rfl
  | n + 1 => by unfold rbt; rw [rbt_0 n, dg_0, if_neg (by decide), Nat.or_zero]
theorem lbt_0 : ∀ n, lbt n 0 = 0
  | 0 => rfl
  | n + 1 => by unfold lbt; rw [lbt_0 n, dg_0, if_neg (by decide), Nat.or_zero]
theorem LyD.z {S : Hp} {y r l c d : Nat} {t : ASt} (h : LyD S y r l c d t) : gA S r 0 = 0 ∧ gA S l 0 = 0 ∧ gA S c 0 = 0 ∧ gA S d 0 = 0 := by
  obtain ⟨h1, h2, h3, h4⟩ := h.2 0 (p3_pos _)
  rw [rgt_0] at h1; rw [lft_00] at h2; rw [rbt_0] at h3; rw [lbt_0] at h4
  exact ⟨h1, h2, h3, h4⟩
def sp_image (v : AS) : Int32 := nI v.1.1
def ef_image (v : AS) : AS := (v.1, some v.1, v.2.2)
def sp_restore (v : AS) : Int32 := match v.2.1 with
  | none => -3
  | some t => nI t.1
def ef_restore (v : AS) : AS := match v.2.1 with
  | none => v
  | some t => (t, v.2.1, v.2.2)
theorem x_image {a : Nat → Nat} {v : AS} {S : Hp} {Q : Int32 → Hp → Prop} (hX : XI a v S) (hQ : ∀ S', XI a (ef_image v) S' → Q (sp_image v) S') : wp_X5_image (a 0) S Q := by
  have ne : ∀ i j, i < 30 → j < 30 → i ≠ j → a i ≠ a j := fun i j h1 h2 h3 => hX.1.ne h1 h2 h3
  unfold wp_X5_image
  refine ⟨hX.1.k0, _, hX.1.r52_0, hX.1.k0, _, hX.1.r50_0, hX.1.k9, x_takeFrom hX.1.k9 hX.1.k1 hX.1.r40_9 hX.1.r41_9 hX.1.r40_1 hX.1.r41_1 hX.1.k10 hX.1.k11 hX.1.k2 hX.1.k3 hX.1.l10 hX.1.l11 hX.1.l2 hX.1.l3 (ne 10 11 (by decide) (by decide) (by decide)) (ne 3 10 (by decide) (by decide) (by decide)) hX.2.2.1 hX.2.1.1.1 ?_⟩
  intro S3 f hS3
  have f2 : FW (fun b => b = a 10 ∨ b = a 11) (fun i x => (i = 42 ∧ x = a 9) ∨ (i = 53 ∧ x = a 0)) S (sI S3 53 (a 0) 1) := (f.mono (fun _ z => z) (fun _ _ z => Or.inl z)).i (Or.inr ⟨rfl, rfl⟩) _
  have hX2 := hX.1.fw f2 (fun i x z => by rcases z with z | z <;> exact ⟨by omega, by omega⟩)
  have noP : ∀ i, i < 30 → i ≠ 10 → i ≠ 11 → ¬ (a i = a 10 ∨ a i = a 11) := fun i hi h1 h2 z => by
    rcases z with z | z
    · exact ne i 10 hi (by decide) h1 z
    · exact ne i 11 hi (by decide) h2 z
  have noJ : ¬ ((42 = 42 ∧ a 1 = a 9) ∨ (42 = 53 ∧ a 1 = a 0)) := fun z => by
    rcases z with z | z
    · exact ne 1 9 (by decide) (by decide) (by decide) z.2
    · omega
  refine ⟨by rw [f.1]; exact hX.1.k0, fun S4 e4 => ?_⟩
  subst e4
  have hS1 : StR (sI S3 53 (a 0) 1) (a 1) (a 2) (a 3) v.1 := hX.2.2.1.fw f2 noJ (noP 2 (by decide) (by decide) (by decide)) (noP 3 (by decide) (by decide) (by decide))
  refine ⟨hX2.k0, _, hX2.r50_0, hX2.k1, ?_⟩
  rw [hS1.1]
  refine hQ _ (hX.fw f2 (fun i x z => by rcases z with z | z <;> exact ⟨by omega, by omega, by omega⟩) (fun c z => ?_) ⟨hX.2.1.1, fun t ht => ?_, hX.2.1.2.2⟩ rfl hS1 ?_ (fun z => by cases z) (fun t ht => ?_) ?_)
  · rcases z with z | z
    · exact ⟨10, by decide, z⟩
    · exact ⟨11, by decide, z⟩
  · rw [← Option.some.inj ht]; exact hX.2.1.1
  · exact hX.2.2.2.1.fw f2 (fun z => by omega) (noP 5 (by decide) (by decide) (by decide)) (noP 6 (by decide) (by decide) (by decide)) (noP 7 (by decide) (by decide) (by decide)) (noP 8 (by decide) (by decide) (by decide))
  · rw [← Option.some.inj ht]
    exact ⟨by rw [h_gI_sI, if_pos ⟨rfl, rfl⟩], by
      unfold StR at hS3 ⊢
      rw [h_gI_sI, if_neg (fun z => absurd z.1 (by decide))]
      exact hS3⟩
  · exact hX.2.2.2.2.2.2.2.2.fw f2 (fun i h1 h2 => noP i (by omega) (by omega) (by omega))
theorem x_restore {a : Nat → Nat} {v : AS} {S : Hp} {Q : Int32 → Hp → Prop} (hX : XI a v S) (hQ : ∀ S', XI a (ef_restore v) S' → Q (sp_restore v) S') : wp_X5_restore (a 0) S Q := by
  have ne : ∀ i j, i < 30 → j < 30 → i ≠ j → a i ≠ a j := fun i j h1 h2 h3 => hX.1.ne h1 h2 h3
  unfold ef_restore sp_restore at hQ
  unfold wp_X5_restore
  refine ⟨hX.1.k0, ?_⟩
  cases hv : v.2.1 with
  | none =>
    rw [hv] at hQ
    rw [hX.2.2.2.2.1 hv]
    exact ⟨fun z => absurd rfl z, fun _ => hQ S hX⟩
  | some t =>
    rw [hv] at hQ
    obtain ⟨g1, g2⟩ := hX.2.2.2.2.2.1 t hv
    have htk := hX.2.1.2.1 t hv
    rw [g1]
    refine ⟨fun _ => ⟨hX.1.k0, _, hX.1.r50_0, hX.1.k0, _, hX.1.r52_0, hX.1.k1, x_takeFrom hX.1.k1 hX.1.k9 hX.1.r40_1 hX.1.r41_1 hX.1.r40_9 hX.1.r41_9 hX.1.k2 hX.1.k3 hX.1.k10 hX.1.k11 hX.1.l2 hX.1.l3 hX.1.l10 hX.1.l11 (ne 2 3 (by decide) (by decide) (by decide)) (ne 11 2 (by decide) (by decide) (by decide)) g2 htk.1 ?_⟩, fun z => absurd z (by decide)⟩
    intro S3 f hS3
    have hX3 := hX.1.fw f (fun i x z => ⟨by omega, by omega⟩)
    have noL : ∀ i, i < 30 → i ≠ 5 → i ≠ 6 → i ≠ 7 → i ≠ 8 → ¬ inL (a 5) (a 6) (a 7) (a 8) (a i) := fun i hi h5 h6 h7 h8 z => by
      rcases z with z | z | z | z
      · exact ne i 5 hi (by decide) h5 z
      · exact ne i 6 hi (by decide) h6 z
      · exact ne i 7 hi (by decide) h7 z
      · exact ne i 8 hi (by decide) h8 z
    have no2 : ∀ i, i < 30 → i ≠ 2 → i ≠ 3 → ¬ (a i = a 2 ∨ a i = a 3) := fun i hi h1 h2 z => by
      rcases z with z | z
      · exact ne i 2 hi (by decide) h1 z
      · exact ne i 3 hi (by decide) h2 z
    have hLz := (hX.2.2.2.1.fw f (fun z => by omega) (no2 5 (by decide) (by decide) (by decide)) (no2 6 (by decide) (by decide) (by decide)) (no2 7 (by decide) (by decide) (by decide)) (no2 8 (by decide) (by decide) (by decide))).z
    refine ⟨hX3.k0, _, hX3.r51_0, hX3.k0, _, hX3.r50_0, hX3.k4, x_layOut hX3.ly hX3.k1 hX3.r40_1 hX3.k2 hX3.l2 hS3 htk.1 (noL 2 (by decide) (by decide) (by decide) (by decide) (by decide)) hLz ?_⟩
    intro S6 f6 hL6 _
    have f2 : FW (fun b => (b = a 2 ∨ b = a 3) ∨ inL (a 5) (a 6) (a 7) (a 8) b) (fun i x => (i = 42 ∧ x = a 1) ∨ (i = 4 ∧ x = a 4)) S S6 := (f.mono (fun _ z => Or.inl z) (fun _ _ z => Or.inl z)).tr (f6.mono (fun _ z => Or.inr z) (fun _ _ z => Or.inr z))
    have hX6 := hX.1.fw f2 (fun i x z => by rcases z with z | z <;> exact ⟨by omega, by omega⟩)
    have hS6 : StR S6 (a 1) (a 2) (a 3) t := hS3.fw f6 (fun z => by omega) (noL 2 (by decide) (by decide) (by decide) (by decide) (by decide)) (noL 3 (by decide) (by decide) (by decide) (by decide) (by decide))
    refine ⟨hX6.k0, _, hX6.r50_0, hX6.k1, ?_⟩
    rw [hS6.1]
    have noP : ∀ i, 9 ≤ i → i < 30 → ¬ ((a i = a 2 ∨ a i = a 3) ∨ inL (a 5) (a 6) (a 7) (a 8) (a i)) := fun i h9 hi z => by
      rcases z with z | z
      · exact no2 i hi (by omega) (by omega) z
      · exact noL i hi (by omega) (by omega) (by omega) (by omega) z
    have g53 : gI S6 53 (a 0) = gI S 53 (a 0) := f2.2.2.2.2.1 _ _ (fun z => by omega)
    refine hQ _ (hX.fw f2 (fun i x z => by rcases z with z | z <;> exact ⟨by omega, by omega, by omega⟩) (fun c z => ?_) ⟨htk, fun t' ht' => hX.2.1.2.1 t' (hv.trans ht'), hX.2.1.2.2⟩ rfl hS6 hL6 (fun z => by cases z) (fun t' ht' => ?_) ?_)
    · rcases z with (z | z) | z | z | z | z
      · exact ⟨2, by decide, z⟩
      · exact ⟨3, by decide, z⟩
      · exact ⟨5, by decide, z⟩
      · exact ⟨6, by decide, z⟩
      · exact ⟨7, by decide, z⟩
      · exact ⟨8, by decide, z⟩
    · have := hX.2.2.2.2.2.1 t' (hv.trans ht')
      rw [g53]
      refine ⟨this.1, this.2.fw f2 (fun z => ?_) (noP 10 (by decide) (by decide)) (noP 11 (by decide) (by decide))⟩
      rcases z with z | z
      · exact ne 9 1 (by decide) (by decide) (by decide) z.2
      · omega
    · exact hX.2.2.2.2.2.2.2.2.fw f2 (fun i h1 h2 => noP i (by omega) (by omega))
theorem m_image {a : Nat → Nat} {v : AS} {S : Hp} {Q : Int32 → Hp → Prop} (hM : MI a v S) (hQ : ∀ S', MI a (ef_image v) S' → Q (sp_image v) S') : wp_X6_image (a 0) S Q := by
  obtain ⟨k0, k1, k2, k3, k4, k5, k6, k7, k8, k9, k10, k11, k12, k13, k14, r1, r2, r3, r4, r5, r6, r7, r8, r9, r10, r11, r12, r13, r14, l1, l2, l3, l4, l5, l6, l7, l8, l9, l10, l11, l12, l13, l14⟩ := hM.1.all
  have ne : ∀ i j, i < 15 → j < 15 → i ≠ j → a i ≠ a j := fun i j h1 h2 h3 => hM.1.ne h1 h2 h3
  have hn := hM.2.1.1.1
  unfold wp_X6_image
  refine ⟨k0, fun S1 e1 => ⟨by rw [e1]; exact k0, by rw [e1]; exact k0, fun S2 e2 => ?_⟩⟩
  have f2 : FW (fun b => b = a 3 ∨ b = a 4) (fun i x => (i = 73 ∨ i = 74) ∧ x = a 0) S S2 := by
    rw [e2, e1]; exact ((FW.rf _ _ S).i ⟨Or.inl rfl, rfl⟩ _).i ⟨Or.inr rfl, rfl⟩ _
  have i73 : gI S2 73 (a 0) = 1 := by rw [e2, e1, h_gI_sI, if_neg (fun z => absurd z.1 (by decide)), h_gI_sI, if_pos ⟨rfl, rfl⟩]
  have i74 : gI S2 74 (a 0) = nI v.1.1 := by rw [e2, e1, h_gI_sI, if_pos ⟨rfl, rfl⟩, h_gI_sI, if_neg (fun z => absurd z.1 (by decide)), hM.2.2.1]
  clear e2 e1
  refine ⟨by rw [f2.1]; exact k0, _, by rw [f2.2.1]; exact r1, by rw [f2.1]; exact k0, _, by rw [f2.2.1]; exact r3, t_move (L := 6) (by rw [f2.1]; exact k1) (by rw [f2.1]; exact k3) (by rw [f2.2.2.1]; exact l1) (by rw [f2.2.2.1]; exact l3) (by decide) (ne 1 3 (by decide) (by decide) (by decide)) ?_⟩
  intro S5 f5 c5
  have f25 := f2.tr (f5.w (P := fun b => b = a 3 ∨ b = a 4) (J := fun i x => (i = 73 ∨ i = 74) ∧ x = a 0) (Or.inl rfl))
  refine ⟨by rw [f25.1]; exact k0, _, by rw [f25.2.1]; exact r2, by rw [f25.1]; exact k0, _, by rw [f25.2.1]; exact r4, t_move (L := 6) (by rw [f25.1]; exact k2) (by rw [f25.1]; exact k4) (by rw [f25.2.2.1]; exact l2) (by rw [f25.2.2.1]; exact l4) (by decide) (ne 2 4 (by decide) (by decide) (by decide)) ?_⟩
  intro S8 f8 c8
  have f28 := f25.tr (f8.w (P := fun b => b = a 3 ∨ b = a 4) (J := fun i x => (i = 73 ∨ i = 74) ∧ x = a 0) (Or.inr rfl))
  have noP : ∀ i, i < 15 → i ≠ 3 → i ≠ 4 → ¬ (a i = a 3 ∨ a i = a 4) := fun i hi h1 h2 z => by
    rcases z with z | z
    · exact ne i 3 hi (by decide) h1 z
    · exact ne i 4 hi (by decide) h2 z
  have i70 : gI S8 70 (a 0) = nI v.1.1 := (f28.2.2.2.2.1 70 (a 0) (fun z => by omega)).trans hM.2.2.1
  refine ⟨by rw [f28.1]; exact k0, ?_⟩
  rw [i70]
  have hA1 : gA S8 (a 1) = gA S (a 1) := f28.2.2.2.2.2 _ (noP 1 (by decide) (by decide) (by decide))
  have hA2 : gA S8 (a 2) = gA S (a 2) := f28.2.2.2.2.2 _ (noP 2 (by decide) (by decide) (by decide))
  refine hQ _ (hM.fw f28 (fun c z => ?_) ⟨hM.2.1.1, fun t ht => ?_, hM.2.1.2.2⟩ rfl i70 (fun j hj => by rw [hA1]; exact hM.2.2.2.1 j hj) (fun j hj => by rw [hA2]; exact hM.2.2.2.2.1 j hj) (fun z => by cases z) (fun t ht => ?_))
  · rcases z with z | z
    · exact ⟨3, by decide, by decide, z⟩
    · exact ⟨4, by decide, by decide, z⟩
  · rw [← Option.some.inj ht]; exact hM.2.1.1
  · rw [← Option.some.inj ht]
    refine ⟨by rw [f8.2.1, f5.2.1]; exact i73, by rw [f8.2.1, f5.2.1]; exact i74, fun j hj => ?_, fun j hj => ?_⟩
    · rw [f8.2.2.2.2.2 _ (ne 3 4 (by decide) (by decide) (by decide)), c5 j (by omega), f2.2.2.2.2.2 _ (noP 1 (by decide) (by decide) (by decide))]
      exact hM.2.2.2.1 j hj
    · rw [c8 j (by omega), f25.2.2.2.2.2 _ (noP 2 (by decide) (by decide) (by decide))]
      exact hM.2.2.2.2.1 j hj
theorem m_restore {a : Nat → Nat} {v : AS} {S : Hp} {Q : Int32 → Hp → Prop} (hM : MI a v S) (hQ : ∀ S', MI a (ef_restore v) S' → Q (sp_restore v) S') : wp_X6_restore (a 0) S Q := by
  obtain ⟨k0, k1, k2, k3, k4, k5, k6, k7, k8, k9, k10, k11, k12, k13, k14, r1, r2, r3, r4, r5, r6, r7, r8, r9, r10, r11, r12, r13, r14, l1, l2, l3, l4, l5, l6, l7, l8, l9, l10, l11, l12, l13, l14⟩ := hM.1.all
  have ne : ∀ i j, i < 15 → j < 15 → i ≠ j → a i ≠ a j := fun i j h1 h2 h3 => hM.1.ne h1 h2 h3
  unfold ef_restore sp_restore at hQ
  unfold wp_X6_restore
  refine ⟨k0, ?_⟩
  cases hv : v.2.1 with
  | none =>
    rw [hv] at hQ
    rw [hM.2.2.2.2.2.1 hv]
    exact ⟨fun z => absurd rfl z, fun _ => hQ S hM⟩
  | some t =>
    rw [hv] at hQ
    obtain ⟨g1, g2, g3, g4⟩ := hM.2.2.2.2.2.2.1 t hv
    have htk := hM.2.1.2.1 t hv
    have htn := htk.1
    rw [g1]
    refine ⟨fun _ => ⟨k0, k0, fun S1 e1 => ?_⟩, fun z => absurd z (by decide)⟩
    have f1 : FW (fun b => b = a 1 ∨ b = a 2) (fun i x => i = 70 ∧ x = a 0) S S1 := by
      rw [e1]; exact (FW.rf _ _ S).i ⟨rfl, rfl⟩ _
    have i70 : gI S1 70 (a 0) = nI t.1 := by rw [e1, h_gI_sI, if_pos ⟨rfl, rfl⟩, g2]
    clear e1
    refine ⟨by rw [f1.1]; exact k0, _, by rw [f1.2.1]; exact r3, by rw [f1.1]; exact k0, _, by rw [f1.2.1]; exact r1, t_move (L := 6) (by rw [f1.1]; exact k3) (by rw [f1.1]; exact k1) (by rw [f1.2.2.1]; exact l3) (by rw [f1.2.2.1]; exact l1) (by decide) (ne 3 1 (by decide) (by decide) (by decide)) ?_⟩
    intro S4 f4 c4
    have f14 := f1.tr (f4.w (P := fun b => b = a 1 ∨ b = a 2) (J := fun i x => i = 70 ∧ x = a 0) (Or.inl rfl))
    refine ⟨by rw [f14.1]; exact k0, _, by rw [f14.2.1]; exact r4, by rw [f14.1]; exact k0, _, by rw [f14.2.1]; exact r2, t_move (L := 6) (by rw [f14.1]; exact k4) (by rw [f14.1]; exact k2) (by rw [f14.2.2.1]; exact l4) (by rw [f14.2.2.1]; exact l2) (by decide) (ne 4 2 (by decide) (by decide) (by decide)) ?_⟩
    intro S7 f7 c7
    have f17 := f14.tr (f7.w (P := fun b => b = a 1 ∨ b = a 2) (J := fun i x => i = 70 ∧ x = a 0) (Or.inr rfl))
    have noP : ∀ i, i < 15 → i ≠ 1 → i ≠ 2 → ¬ (a i = a 1 ∨ a i = a 2) := fun i hi h1 h2 z => by
      rcases z with z | z
      · exact ne i 1 hi (by decide) h1 z
      · exact ne i 2 hi (by decide) h2 z
    have i707 : gI S7 70 (a 0) = nI t.1 := by rw [f7.2.1, f4.2.1]; exact i70
    refine ⟨by rw [f17.1]; exact k0, ?_⟩
    rw [i707]
    refine hQ _ (hM.fw f17 (fun c z => ?_) ⟨htk, fun t' ht' => hM.2.1.2.1 t' (hv.trans ht'), hM.2.1.2.2⟩ rfl i707 (fun j hj => ?_) (fun j hj => ?_) (fun z => by cases z) (fun t' ht' => ?_))
    · rcases z with z | z
      · exact ⟨1, by decide, by decide, z⟩
      · exact ⟨2, by decide, by decide, z⟩
    · have hj : j < t.1 := hj
      rw [f7.2.2.2.2.2 _ (ne 1 2 (by decide) (by decide) (by decide)), c4 j (by omega), f1.2.2.2.2.2 _ (noP 3 (by decide) (by decide) (by decide))]
      exact g3 j hj
    · have hj : j < t.1 := hj
      rw [c7 j (by omega), f14.2.2.2.2.2 _ (noP 4 (by decide) (by decide) (by decide))]
      exact g4 j hj
    · have := hM.2.2.2.2.2.2.1 t' (hv.trans ht')
      rw [f17.2.2.2.2.1 73 _ (fun z => by omega), f17.2.2.2.2.1 74 _ (fun z => by omega), f17.2.2.2.2.2 _ (noP 3 (by decide) (by decide) (by decide)), f17.2.2.2.2.2 _ (noP 4 (by decide) (by decide) (by decide))]
      exact this
