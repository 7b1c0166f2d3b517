/-! the reference's calls of stones and scales -/
theorem m_may {a : Nat → Nat} {v : AS} {S : Hp} {d q : Int32} {Q : Int32 → Hp → Prop} (hM : MI a v S) (hQ : ∀ S', MI a v S' → Q (sp_may v d q) S') : wp_X6_may (a 0) d q S Q := by
  obtain ⟨k0, k1, k2, k3, k4, k5, k6, k7, k8, k9, k10, k11, k12, k13, k14, r1, r2, r3, r4, r5, r6, r7, r8, r9, r10, r11, r12, r13, r14, l1, l2, l3, l4, l5, l6, l7, l8, l9, l10, l11, l12, l13, l14⟩ := hM.1.all
  unfold sp_may onSc at hQ
  unfold wp_X6_may
  rw [e_mSh]
  refine br0 (fun hd => ?_) (fun hd => ?_)
  · rw [if_pos hd] at hQ
    refine ⟨k0, t_isLying hM fun z hz _ => bz1 hz (fun hq => ⟨k0, ?_⟩) (fun hq => ?_)⟩
    · rw [if_pos hq] at hQ
      obtain ⟨h8, hdI⟩ := isSh_nI hd
      obtain ⟨hq3, hqI⟩ := isLy_nI hq
      have hs := (hM.2.2.2.2.2.2.2 (ix d) h8).2.1
      have hin : vp_in d 8 := by rw [hdI]; exact vp_in_nI h8 (by decide)
      have hcl : d.toNatClampNeg = ix d := rfl
      refine t_noScale hM hd (bz0 (scN_0 (hM.2.1.2.2 _ h8).1) (fun h1 => ⟨k0, ?_⟩) (fun h1 => ⟨k0, ?_⟩))
      · rw [if_pos h1] at hQ
        exact t_noScale hM hd (hQ _ hM)
      · rw [if_neg h1] at hQ
        have h1 : (v.2.2 (ix d)).1 = 1 := Decidable.not_not.mp h1
        rw [hqI]
        refine t_mlook hM hq3 ?_
        intro S' c g77 g78 g79 g80 g81 g82
        have hn := hM.2.1.1.1
        simp only [c.k, c.r, c.l, c.a, k0, r9, k9, l9, hin, hcl, (hs h1).1, true_and, Option.some.injEq, exists_eq_left']
        refine t_mayBe (by rw [c.k]; exact k0) g79 g80 (Nat.le_trans (rct_le _ _) hn) (Nat.le_trans (lct_le _ _) hn) ?_
        have h := hQ S' (hM.sc c)
        unfold mayQ at h
        refine br0 (fun z => ?_) (fun z => ?_)
        · rw [b2_t z] at h; exact h
        · rw [b2_f z] at h; exact h
    · rw [if_neg hq] at hQ; exact hQ _ hM
  · rw [if_neg hd] at hQ; exact hQ _ hM
theorem m_weighs {a : Nat → Nat} {v : AS} {S : Hp} {d q : Int32} {Q : Int32 → Hp → Prop} (hM : MI a v S) (hQ : ∀ S', MI a v S' → Q (sp_weighs v d q) S') : wp_X6_weighs (a 0) d q S Q := by
  obtain ⟨k0, k1, k2, k3, k4, k5, k6, k7, k8, k9, k10, k11, k12, k13, k14, r1, r2, r3, r4, r5, r6, r7, r8, r9, r10, r11, r12, r13, r14, l1, l2, l3, l4, l5, l6, l7, l8, l9, l10, l11, l12, l13, l14⟩ := hM.1.all
  unfold sp_weighs at hQ
  unfold wp_X6_weighs
  rw [e_mSh]
  refine br0 (fun hd => ?_) (fun hd => ?_)
  · rw [if_pos hd] at hQ
    refine ⟨k0, t_isLying hM fun z hz _ => bz1 hz (fun hq => ⟨k0, ?_⟩) (fun hq => ?_)⟩
    · rw [if_pos hq] at hQ
      obtain ⟨h8, hdI⟩ := isSh_nI hd
      obtain ⟨hq3, hqI⟩ := isLy_nI hq
      have hs := (hM.2.2.2.2.2.2.2 (ix d) h8).2.1
      have hin : vp_in d 8 := by rw [hdI]; exact vp_in_nI h8 (by decide)
      have hcl : d.toNatClampNeg = ix d := rfl
      refine t_noScale hM hd (bz0 (scN_0 (hM.2.1.2.2 _ h8).1) (fun h1 => ⟨k0, ?_⟩) (fun h1 => ⟨k0, ?_⟩))
      · rw [if_pos h1] at hQ
        exact t_noScale hM hd (hQ _ hM)
      · rw [if_neg h1] at hQ
        have h1 : (v.2.2 (ix d)).1 = 1 := Decidable.not_not.mp h1
        rw [hqI]
        refine t_mlook hM hq3 ?_
        intro S' c g77 g78 g79 g80 g81 g82
        have hn := hM.2.1.1.1
        simp only [c.k, c.r, c.l, c.a, k0, r9, k9, l9, r10, k10, l10, hin, hcl, (hs h1).1, (hs h1).2, true_and, Option.some.injEq, exists_eq_left', e_readBy, g77, g78]
        refine t_mayBe (by rw [c.k]; exact k0) g79 g80 (Nat.le_trans (rct_le _ _) hn) (Nat.le_trans (lct_le _ _) hn) ?_
        have h := hQ S' (hM.sc c)
        unfold mayQ wgQ at h
        simp only [c.k, c.r, c.l, c.a, k0, r9, k9, l9, r10, k10, l10, hin, hcl, (hs h1).1, (hs h1).2, true_and, Option.some.injEq, exists_eq_left', e_readBy, g77, g78]
        refine br0 (fun z => ?_) (fun z => ?_)
        · rw [if_pos z] at h; exact h
        · rw [if_neg z] at h; exact h
    · rw [if_neg hq] at hQ; exact hQ _ hM
  · rw [if_neg hd] at hQ; exact hQ _ hM
theorem t_isStone {a : Nat → Nat} {v : AS} {S : Hp} {Q : Int32 → Hp → Prop} (hM : MI a v S) {q : Int32} (h : ∀ z, (z = 0 ↔ ¬ isSt v.1.1 q) → Q z S) : wp_X6_isStone (a 0) q S Q := by
  have hn := hM.2.1.1.1
  unfold wp_X6_isStone
  refine ⟨hM.1.1, ?_⟩
  rw [hM.2.2.1, e_isIn]
  have e1 : (nI v.1.1 - (1 : Int32)).toInt = (v.1.1 : Int) - 1 := by
    rw [p_sub (by rw [nI_toInt (by omega), show (1 : Int32).toInt = 1 from rfl]; omega) (by rw [nI_toInt (by omega), show (1 : Int32).toInt = 1 from rfl]; omega), nI_toInt (by omega)]; rfl
  rw [e1]
  refine ⟨b2_nar _, h _ ?_⟩
  rw [b2_0, show (0 : Int32).toInt = 0 from rfl]
  unfold isSt
  omega
theorem m_stone {a : Nat → Nat} {v : AS} {S : Hp} {q w : Int32} {Q : Int32 → Hp → Prop} (hM : MI a v S) (hQ : ∀ S', MI a v S' → Q (sp_stone v q w) S') : wp_X6_stone (a 0) q w S Q := by
  obtain ⟨k0, k1, k2, k3, k4, k5, k6, k7, k8, k9, k10, k11, k12, k13, k14, r1, r2, r3, r4, r5, r6, r7, r8, r9, r10, r11, r12, r13, r14, l1, l2, l3, l4, l5, l6, l7, l8, l9, l10, l11, l12, l13, l14⟩ := hM.1.all
  replace hQ := hQ S hM
  unfold sp_stone at hQ
  unfold wp_X6_stone
  refine ⟨k0, t_isStone hM fun z hz => bz0 hz (fun hq => ?_) (fun hq => ?_)⟩
  · rw [if_pos hq] at hQ
    obtain ⟨hq3, hqI⟩ := isSt_nI hq
    have hn := hM.2.1.1.1
    have hin : vp_in q 6 := by rw [hqI]; exact vp_in_nI (by omega) (by decide)
    have hcl : q.toNatClampNeg = ix q := rfl
    rw [e_isInL (lo := 0) (hi := 1) rfl rfl]
    refine br1 (fun hw => ?_) (fun hw => ?_)
    · rw [if_pos hw] at hQ
      simp only [k0, r1, r2, k1, k2, l1, l2, hin, hcl, hM.2.2.2.1 _ hq3, hM.2.2.2.2.1 _ hq3, true_and, Option.some.injEq, exists_eq_left']
      refine ⟨fun h => ?_, fun h => ?_⟩
      · rw [if_neg h] at hQ; exact hQ
      · rw [if_pos h] at hQ; exact hQ
    · rw [if_neg hw] at hQ; exact hQ
  · rw [if_neg hq] at hQ; exact hQ
theorem m_lying {a : Nat → Nat} {v : AS} {S : Hp} {q w : Int32} {Q : Int32 → Hp → Prop} (hM : MI a v S) (hQ : ∀ S', MI a v S' → Q (sp_lying v q w) S') : wp_X6_lying (a 0) q w S Q := by
  have k0 := hM.1.1
  unfold sp_lying at hQ
  unfold wp_X6_lying
  refine ⟨k0, t_isLying hM fun z hz _ => bz0 hz (fun hq => ?_) (fun hq => ?_)⟩
  · rw [if_pos hq] at hQ
    obtain ⟨hq3, hqI⟩ := isLy_nI hq
    rw [e_isInL (lo := 0) (hi := 3) rfl rfl]
    refine br1 (fun hw => ⟨k0, ?_⟩) (fun hw => ?_)
    · rw [if_pos hw] at hQ
      rw [hqI]
      refine t_mlook hM hq3 ?_
      intro S' c g77 g78 g79 g80 g81 g82
      have h := hQ S' (hM.sc c)
      simp only [c.k, k0, true_and, g77, g78, g79, g80, g81, nI_add]
      refine ⟨fun h0 => ⟨fun h1 => ⟨fun h2 => ?_, fun h2 => ?_⟩, fun h1 => ?_⟩, fun h0 => ?_⟩
      · rw [if_neg h0, if_neg h1, if_neg h2] at h; exact h
      · rw [if_neg h0, if_neg h1, if_pos h2] at h; exact h
      · rw [if_neg h0, if_pos h1] at h; exact h
      · rw [if_pos h0] at h; exact h
    · rw [if_neg hw] at hQ; exact hQ _ hM
  · rw [if_neg hq] at hQ; exact hQ _ hM
/-- power at the loops' heads -/
theorem t_mpow {a : Nat → Nat} {v : AS} {S : Hp} {Q : Int32 → Hp → Prop} (hM : MI a v S) (h : Q (nI (3 ^ v.1.1)) S) : wp_X6_power (gI S 70 (a 0)) S Q := by
  rw [hM.2.2.1]
  exact t_power (by have := hM.2.1.1.1; omega) h
theorem m_ways {a : Nat → Nat} {v : AS} {S : Hp} {d w : Int32} {Q : Int32 → Hp → Prop} (hM : MI a v S) (hQ : ∀ S', MI a v S' → Q (sp_ways v d w) S') : wp_X6_ways (a 0) d w S Q := by
  have k0 := hM.1.1
  have h3 := p3_6 hM.2.1.1.1
  unfold sp_ways onSc at hQ
  unfold wp_X6_ways
  rw [e_mSh]
  refine br0 (fun hd => ?_) (fun hd => ?_)
  · rw [if_pos hd] at hQ
    obtain ⟨h8, hdI⟩ := isSh_nI hd
    rw [e_isInL (lo := -9999) (hi := 9999) rfl rfl]
    refine br1 (fun hw => ⟨k0, ?_⟩) (fun hw => ?_)
    · rw [if_pos hw] at hQ
      refine t_noScale hM hd (bz0 (scN_0 (hM.2.1.2.2 _ h8).1) (fun h1 => ⟨k0, ?_⟩) (fun h1 => ?_))
      · rw [if_pos h1] at hQ
        exact t_noScale hM hd (hQ _ hM)
      · rw [if_neg h1] at hQ
        have h1 : (v.2.2 (ix d)).1 = 1 := Decidable.not_not.mp h1
        refine it_up (3 ^ v.1.1) (fun k x => ∃ S', x = (a 0, d, w, nI (cnt (hitQ (v.2.2 (ix d)) v.1 w) k), nI k, S') ∧ MI a v S') ?_ _ ⟨S, rfl, hM⟩
        rintro C k x hk ⟨S', rfl, hM'⟩ hC
        simp only [L_X6_ways_41]
        refine ⟨hM'.1.1, t_mpow hM' ?_⟩
        rw [nI_leI (by omega) (by omega)]
        refine ⟨fun hc => ?_, fun hc => ⟨hM'.1.1, ?_⟩⟩
        · rw [show k = 3 ^ v.1.1 by omega]; exact hQ S' hM'
        · refine t_isWeight hM' hd h1 (by omega) ?_
          intro S'' c _ _
          have hM'' := hM'.sc c
          have hstep := hC (by omega)
          simp only [J_X6_ways_70, forall_eq]
          refine br0 (fun z => ?_) (fun z => ?_)
          · refine hstep _ ⟨S'', ?_, hM''⟩
            rw [nI_1, nI_1, cnt, if_pos z]
          · refine hstep _ ⟨S'', ?_, hM''⟩
            rw [nI_1, show (0 : Int32) = nI 0 from rfl, nI_add, cnt, if_neg z]
    · rw [if_neg hw] at hQ; exact hQ _ hM
  · rw [if_neg hd] at hQ; exact hQ _ hM
theorem m_first {a : Nat → Nat} {v : AS} {S : Hp} {d w : Int32} {Q : Int32 → Hp → Prop} (hM : MI a v S) (hQ : ∀ S', MI a v S' → Q (sp_first v d w) S') : wp_X6_first (a 0) d w S Q := by
  have k0 := hM.1.1
  have h3 := p3_6 hM.2.1.1.1
  unfold sp_first onSc at hQ
  unfold wp_X6_first
  rw [e_mSh]
  refine br0 (fun hd => ?_) (fun hd => ?_)
  · rw [if_pos hd] at hQ
    obtain ⟨h8, hdI⟩ := isSh_nI hd
    rw [e_isInL (lo := -9999) (hi := 9999) rfl rfl]
    refine br1 (fun hw => ⟨k0, ?_⟩) (fun hw => ?_)
    · rw [if_pos hw] at hQ
      refine t_noScale hM hd (bz0 (scN_0 (hM.2.1.2.2 _ h8).1) (fun h1 => ⟨k0, ?_⟩) (fun h1 => ?_))
      · rw [if_pos h1] at hQ
        exact t_noScale hM hd (hQ _ hM)
      · rw [if_neg h1] at hQ
        have h1 : (v.2.2 (ix d)).1 = 1 := Decidable.not_not.mp h1
        refine it_up (3 ^ v.1.1) (fun k x => ∃ S', x = (a 0, d, w, nI k, S') ∧ MI a v S' ∧ fsq (hitQ (v.2.2 (ix d)) v.1 w) k = none) ?_ _ ⟨S, rfl, hM, rfl⟩
        rintro C k x hk ⟨S', rfl, hM', hf⟩ hC
        simp only [L_X6_first_38]
        refine ⟨hM'.1.1, t_mpow hM' ?_⟩
        rw [nI_leI (by omega) (by omega)]
        refine ⟨fun hc => ?_, fun hc => ⟨hM'.1.1, ?_⟩⟩
        · have h := hQ S' hM'
          rw [show 3 ^ v.1.1 = k by omega, hf] at h
          exact h
        · refine t_isWeight hM' hd h1 (by omega) ?_
          intro S'' c _ _
          have hM'' := hM'.sc c
          have hstep := hC (by omega)
          simp only [forall_eq]
          refine br0 (fun z => ?_) (fun z => ?_)
          · have h := hQ S'' hM''
            rw [fsq_up (k := k + 1) (q := k) _ (by omega) (by unfold fsq; rw [hf]; exact if_pos z)] at h
            exact h
          · exact hstep _ ⟨S'', by rw [nI_1], hM'', by unfold fsq; rw [hf]; exact if_neg z⟩
    · rw [if_neg hw] at hQ; exact hQ _ hM
  · rw [if_neg hd] at hQ; exact hQ _ hM
