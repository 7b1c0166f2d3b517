/-! rows on shelves; told weighings judged -/
def rwN (h : Nat) : Int32 := if h = 0 then -11 else -12
def RwS (S : Hp) (z c : Nat) (s : ASh) : Prop := kd S z = 2 ∧ gI S 10 z = s.2.2.2.1 ∧ gR S 11 z = some c ∧ kd S c = 8 ∧ ln S c = s.2.2.2.2.1 ∧ ∀ j, j < s.2.2.2.2.1 → gA S c j = s.2.2.2.2.2 j
theorem x_row {a : Nat → Nat} {v : AS} {S : Hp} {d : Int32} (hX : XI a v S) (hd : isSh d) {A : Prop} {B : Nat → Prop} (h1 : (v.2.2 (ix d)).1 ≠ 2 → A) (h2 : ∀ z c, (v.2.2 (ix d)).1 = 2 → RwS S z c (v.2.2 (ix d)) → (∀ i, i < 30 → c ≠ a i) → gQ S (a 21) (ix d) = some z → B z) : (gQ S (a 21) d.toNatClampNeg = none → A) ∧ (∀ r, gQ S (a 21) d.toNatClampNeg = some r → B r) := by
  obtain ⟨h8, hdI⟩ := isSh_nI hd
  have hcl : d.toNatClampNeg = ix d := rfl
  have hs := hX.2.2.2.2.2.2.1 (ix d) h8
  have hle := (hX.2.1.2.2 (ix d) h8).1
  unfold XSh at hs
  rw [hcl]
  rcases (by omega : (v.2.2 (ix d)).1 = 0 ∨ (v.2.2 (ix d)).1 = 1 ∨ (v.2.2 (ix d)).1 = 2) with e | e | e
  · obtain ⟨e1, e2⟩ := hs.1 e
    exact ⟨fun _ => h1 (by omega), fun r hr => by rw [e2] at hr; cases hr⟩
  · obtain ⟨⟨z, e1, e3⟩, e2⟩ := hs.2.1 e
    exact ⟨fun _ => h1 (by omega), fun r hr => by rw [e2] at hr; cases hr⟩
  · obtain ⟨e1, z, c, e2, e3, e4, e5, e6, e7, e8, e9⟩ := hs.2.2 e
    refine ⟨fun hr => (by rw [e2] at hr; cases hr), fun r hr => ?_⟩
    have hz := Option.some.inj (e2.symm.trans hr)
    subst hz
    exact h2 _ c e ⟨e3, e4, e5, e6, e7, e8⟩ e9 e2
def sp_row (d so n : Int32) : Int32 := if isSh d then (if 0 ≤ so.toInt ∧ so.toInt ≤ 2 then (if n.toInt ≤ 100 then (if 0 ≤ n.toInt then 0 else -14) else -1) else -1) else -1
abbrev rwOk (d so n : Int32) : Prop := isSh d ∧ (0 ≤ so.toInt ∧ so.toInt ≤ 2) ∧ n.toInt ≤ 100 ∧ 0 ≤ n.toInt
def rwNew (so n : Int32) : ASh := (2, 0, 0, so, ix n, fun _ => 0)
def ef_row (v : AS) (d so n : Int32) : AS := if rwOk d so n then upS v (ix d) (rwNew so n) else v
theorem rwNew_ok {so n : Int32} (h1 : 0 ≤ so.toInt ∧ so.toInt ≤ 2) (h2 : n.toInt ≤ 100) : ShOk (rwNew so n) := ⟨show (2 : Nat) ≤ 2 by decide, fun z => absurd (show (2 : Nat) = 1 from z) (by decide), fun _ => ⟨h1.1, h1.2, by show n.toInt.toNat ≤ 100; omega⟩⟩
theorem xK_pos : ∀ i, i < 30 → 0 < xK i ∧ xK i < 12 := by decide
theorem x_rowc {a : Nat → Nat} {v : AS} {S : Hp} {d so n : Int32} {Q : Int32 → Hp → Prop} (hX : XI a v S) (hQ : ∀ S', XI a (ef_row v d so n) S' → Q (sp_row d so n) S') : wp_X5_row (a 0) d so n S Q := by
  unfold ef_row sp_row at hQ
  unfold wp_X5_row
  rw [e_xSh]
  refine br0 (fun hd => ?_) (fun hd => ?_)
  · rw [if_pos hd] at hQ
    rw [p_lt, p_lt, p_le, p_le, show (0 : Int32).toInt = 0 from rfl, show (2 : Int32).toInt = 2 from rfl, show (100 : Int32).toInt = 100 from rfl]
    refine ⟨fun h1 => ?_, fun h1 => ⟨fun h2 => ?_, fun h2 => ⟨fun h3 => ⟨fun h4 => ?_, fun h4 => ?_⟩, fun h3 => ?_⟩⟩⟩
    · rw [if_neg (fun z => by have := z.2.1.1; omega), if_neg (by omega)] at hQ; exact hQ S hX
    · rw [if_neg (fun z => by have := z.2.1.2; omega), if_neg (by omega)] at hQ; exact hQ S hX
    · have hok : rwOk d so n := ⟨hd, ⟨by omega, by omega⟩, h3, h4⟩
      rw [if_pos hok, if_pos hok.2.1, if_pos h3, if_pos h4] at hQ
      obtain ⟨h8, hdI⟩ := isSh_nI hd
      obtain ⟨i1, i2, i3, i4⟩ := x_in hX.1 hd
      have hcl : d.toNatClampNeg = ix d := rfl
      have hcn : n.toNatClampNeg = ix n := rfl
      have n20 : a 20 ≠ a 21 := hX.1.ne (by decide) (by decide) (by decide)
      refine ⟨hX.1.k0, _, hX.1.r56_0, i1, i3, fun S4 e4 => ?_⟩
      subst e4
      refine ⟨hX.1.k0, _, hX.1.r57_0, fun q hq S7 e7 => ?_⟩
      subst e7
      have hq0 : fr S q := hq
      have kq : kd (nO (sQ S (a 20) d.toNatClampNeg none) q 2) q = 2 := (h_kd_nO _ _ _ _).trans (if_pos rfl)
      have kn : ∀ b, b ≠ q → kd (nO (sQ S (a 20) d.toNatClampNeg none) q 2) b = kd S b := fun b hb => (h_kd_nO _ _ _ _).trans (if_neg hb)
      unfold wp_X1_init
      refine ⟨kq, fun S1 e1 => ?_⟩
      subst e1
      refine ⟨⟨by rw [p_lt, show (0 : Int32).toInt = 0 from rfl]; omega, by rw [hcn]; unfold ix; omega⟩, fun q2 hq2 S3 e3 => ?_⟩
      subst e3
      have hq2' : fr (nO (sQ S (a 20) d.toNatClampNeg none) q 2) q2 := hq2
      have nqq : q ≠ q2 := fr_ne hq2' kq (by decide) (by decide)
      have hq20 : fr S q2 := by
        unfold fr at hq2' ⊢
        rw [kn q2 (Ne.symm nqq)] at hq2'
        exact hq2'
      have kq2 : kd (nA (sI (nO (sQ S (a 20) d.toNatClampNeg none) q 2) 10 q so) q2 8 n.toNatClampNeg) q = 2 := by
        rw [h_kd_nA, if_neg nqq]; exact kq
      have kn2 : ∀ b, b ≠ q → b ≠ q2 → kd (nA (sI (nO (sQ S (a 20) d.toNatClampNeg none) q 2) 10 q so) q2 8 n.toNatClampNeg) b = kd S b := fun b hb hb2 => by
        rw [h_kd_nA, if_neg hb2]; exact kn b hb
      have nq : ∀ i, i < 30 → a i ≠ q := fun i hi => fr_ne hq0 (hX.1.1 i hi) (xK_pos i hi).1 (xK_pos i hi).2
      have nq2 : ∀ i, i < 30 → a i ≠ q2 := fun i hi => fr_ne hq20 (hX.1.1 i hi) (xK_pos i hi).1 (xK_pos i hi).2
      refine ⟨kq2, fun S4 e4 => ?_⟩
      subst e4
      refine ⟨?_, Or.inl ⟨(kn2 _ (nq 21 (by decide)) (nq2 21 (by decide))).trans hX.1.k21, kq2⟩, fun S9 e9 => ?_⟩
      · show vp_in d (ln (nA (sI (nO (sQ S (a 20) d.toNatClampNeg none) q 2) 10 q so) q2 8 n.toNatClampNeg) (a 21))
        rw [h_ln_nA, if_neg (nq2 21 (by decide))]; exact i2
      subst e9
      refine hQ _ (hX.shelf h8 (rwNew_ok hok.2.1 h3) (fun b hb => ?_) (fun j hj => ?_) (fun j hj => ?_) ?_ (fun z c hz hc => ?_))
      · have hbq : b ≠ q := fun z => hb (z ▸ hq0)
        have hbq2 : b ≠ q2 := fun z => hb (z ▸ hq20)
        refine ⟨kn2 b hbq hbq2, fun i => ?_, fun i => ?_, ?_, ?_⟩
        · show gI (sI (nO (sQ S (a 20) d.toNatClampNeg none) q 2) 10 q so) i b = _
          rw [h_gI_sI, if_neg (fun z => hbq z.2), h_gI_nO, if_neg hbq]; rfl
        · show gR (sR (nA (sI (nO (sQ S (a 20) d.toNatClampNeg none) q 2) 10 q so) q2 8 n.toNatClampNeg) 11 q (some q2)) i b = _
          rw [h_gR_sR, if_neg (fun z => hbq z.2)]
          show gR (nO (sQ S (a 20) d.toNatClampNeg none) q 2) i b = _
          rw [h_gR_nO, if_neg hbq]; rfl
        · show ln (nA (sI (nO (sQ S (a 20) d.toNatClampNeg none) q 2) 10 q so) q2 8 n.toNatClampNeg) b = _
          rw [h_ln_nA, if_neg hbq2]; rfl
        · show gA (nA (sI (nO (sQ S (a 20) d.toNatClampNeg none) q 2) 10 q so) q2 8 n.toNatClampNeg) b = _
          rw [h_gA_nA, if_neg hbq2]; rfl
      · rw [gQ_sQn _ _ _ n20]
        show gQ (nA (sI (nO (sQ S (a 20) d.toNatClampNeg none) q 2) 10 q so) q2 8 n.toNatClampNeg) (a 20) j = _
        rw [h_gQ_nA, if_neg (nq2 20 (by decide))]
        show gQ (sQ S (a 20) d.toNatClampNeg none) (a 20) j = _
        rw [gQ_sQ]; exact if_neg (by rw [hcl]; exact hj)
      · rw [gQ_sQ]
        refine (if_neg (by rw [hcl]; exact hj)).trans ?_
        show gQ (nA (sI (nO (sQ S (a 20) d.toNatClampNeg none) q 2) 10 q so) q2 8 n.toNatClampNeg) (a 21) j = _
        rw [h_gQ_nA, if_neg (nq2 21 (by decide))]
        show gQ (sQ S (a 20) d.toNatClampNeg none) (a 21) j = _
        rw [gQ_sQn _ _ _ (Ne.symm n20)]
      · unfold XSh
        refine ⟨fun z => absurd (show (2 : Nat) = 0 from z) (by decide), fun z => absurd (show (2 : Nat) = 1 from z) (by decide), fun _ => ⟨?_, q, q2, ?_, kq2, ?_, ?_, ?_, ?_, fun j hj => ?_, fun i hi => Ne.symm (nq2 i hi)⟩⟩
        · rw [gQ_sQn _ _ _ n20]
          show gQ (nA (sI (nO (sQ S (a 20) d.toNatClampNeg none) q 2) 10 q so) q2 8 n.toNatClampNeg) (a 20) (ix d) = _
          rw [h_gQ_nA, if_neg (nq2 20 (by decide))]
          show gQ (sQ S (a 20) d.toNatClampNeg none) (a 20) (ix d) = _
          rw [gQ_sQ]; exact if_pos (by rw [hcl])
        · rw [gQ_sQ]; exact if_pos (by rw [hcl])
        · show gI (sI (nO (sQ S (a 20) d.toNatClampNeg none) q 2) 10 q so) 10 q = so
          rw [h_gI_sI, if_pos ⟨rfl, rfl⟩]
        · show gR (sR (nA (sI (nO (sQ S (a 20) d.toNatClampNeg none) q 2) 10 q so) q2 8 n.toNatClampNeg) 11 q (some q2)) 11 q = _
          rw [h_gR_sR, if_pos ⟨rfl, rfl⟩]
        · show kd (nA (sI (nO (sQ S (a 20) d.toNatClampNeg none) q 2) 10 q so) q2 8 n.toNatClampNeg) q2 = 8
          rw [h_kd_nA, if_pos rfl]
        · show ln (nA (sI (nO (sQ S (a 20) d.toNatClampNeg none) q 2) 10 q so) q2 8 n.toNatClampNeg) q2 = _
          rw [h_ln_nA, if_pos rfl]; rfl
        · show gA (nA (sI (nO (sQ S (a 20) d.toNatClampNeg none) q 2) 10 q so) q2 8 n.toNatClampNeg) q2 j = 0
          rw [h_gA_nA, if_pos rfl]
      · rw [gQ_sQ] at hz
        rw [show ∀ g : Nat → Option Nat, va_up g d.toNatClampNeg (some q) (ix d) = some q from fun g => if_pos (by rw [hcl])] at hz
        have hzz := Option.some.inj hz
        subst hzz
        have hc2 : gR (sR (nA (sI (nO (sQ S (a 20) d.toNatClampNeg none) q 2) 10 q so) q2 8 n.toNatClampNeg) 11 q (some q2)) 11 q = some c := hc
        rw [h_gR_sR, if_pos ⟨rfl, rfl⟩] at hc2
        have hcc := Option.some.inj hc2
        subst hcc
        exact hq20
    · rw [if_neg (fun z => by have := z.2.2.2; omega), if_pos ⟨by omega, by omega⟩, if_pos h3, if_neg h4] at hQ; exact hQ S hX
    · rw [if_neg (fun z => by have := z.2.2.1; omega), if_pos ⟨by omega, by omega⟩, if_neg h3] at hQ; exact hQ S hX
  · rw [if_neg (fun z => hd z.1), if_neg hd] at hQ; exact hQ S hX
theorem m_rowc {a : Nat → Nat} {v : AS} {S : Hp} {d so n : Int32} {Q : Int32 → Hp → Prop} (hM : MI a v S) (hQ : ∀ S', MI a (ef_row v d so n) S' → Q (sp_row d so n) S') : wp_X6_row (a 0) d so n S Q := by
  obtain ⟨k0, k1, k2, k3, k4, k5, k6, k7, k8, k9, k10, k11, k12, k13, k14, r1, r2, r3, r4, r5, r6, r7, r8, r9, r10, r11, r12, r13, r14, l1, l2, l3, l4, l5, l6, l7, l8, l9, l10, l11, l12, l13, l14⟩ := hM.1.all
  unfold ef_row sp_row at hQ
  unfold wp_X6_row
  rw [e_mSh]
  refine br0 (fun hd => ?_) (fun hd => ?_)
  · rw [if_pos hd] at hQ
    rw [e_isInL (lo := 0) (hi := 2) rfl rfl]
    refine br0 (fun hs => ?_) (fun hs => ?_)
    · rw [if_pos hs] at hQ
      rw [p_le, p_le, show (0 : Int32).toInt = 0 from rfl, show (100 : Int32).toInt = 100 from rfl]
      refine ⟨fun h3 => ⟨fun h4 => ?_, fun h4 => ?_⟩, fun h3 => ?_⟩
      · have hok : rwOk d so n := ⟨hd, hs, h3, h4⟩
        rw [if_pos hok, if_pos h3, if_pos h4] at hQ
        obtain ⟨h8, hdI⟩ := isSh_nI hd
        have hin : vp_in d 8 := by rw [hdI]; exact vp_in_nI h8 (by decide)
        have hcl : d.toNatClampNeg = ix d := rfl
        rw [hcl]
        refine ⟨k0, _, r8, k8, by rw [l8]; exact hin, fun S9 e9 => ?_⟩
        subst e9
        refine ⟨k0, _, r11, k11, by show vp_in d (ln S (a 11)); rw [l11]; exact hin, fun S11 e11 => ?_⟩
        subst e11
        refine ⟨k0, _, r12, k12, by show vp_in d (ln S (a 12)); rw [l12]; exact hin, fun S13 e13 => ?_⟩
        have hne : ∀ i j, i < 15 → j < 15 → i ≠ j → a i ≠ a j := fun i j h1 h2 h3 => hM.1.ne h1 h2 h3
        have g1 : kd S13 = kd S ∧ gI S13 = gI S ∧ gR S13 = gR S ∧ ln S13 = ln S ∧ gQ S13 = gQ S := by subst e13; exact ⟨rfl, rfl, rfl, rfl, rfl⟩
        have g2 : ∀ i, i < 15 → i ≠ 8 → i ≠ 11 → i ≠ 12 → gA S13 (a i) = gA S (a i) := fun i hi z8 z11 z12 => by
          subst e13
          rw [gA_sAn _ _ _ (hne i 12 hi (by decide) z12), gA_sAn _ _ _ (hne i 11 hi (by decide) z11), gA_sAn _ _ _ (hne i 8 hi (by decide) z8)]
        have g8 : gA S13 (a 8) = upd (gA S (a 8)) (ix d) 2 := by
          subst e13
          rw [gA_sAn _ _ _ (hne 8 12 (by decide) (by decide) (by decide)), gA_sAn _ _ _ (hne 8 11 (by decide) (by decide) (by decide)), gA_sA]
        have g11 : gA S13 (a 11) = upd (gA S (a 11)) (ix d) so := by
          subst e13
          rw [gA_sAn _ _ _ (hne 11 12 (by decide) (by decide) (by decide)), gA_sA, gA_sAn _ _ _ (hne 11 8 (by decide) (by decide) (by decide))]
        have g12 : gA S13 (a 12) = upd (gA S (a 12)) (ix d) n := by
          subst e13
          rw [gA_sA, gA_sAn _ _ _ (hne 12 11 (by decide) (by decide) (by decide)), gA_sAn _ _ _ (hne 12 8 (by decide) (by decide) (by decide))]
        refine it_up 100 (fun k x => ∃ S', x = (a 0, d, nI k, S') ∧ FA (a 13) S13 S' ∧ (∀ j, (j < 100 * ix d ∨ 100 * ix d + 100 ≤ j) → gA S' (a 13) j = gA S (a 13) j) ∧ ∀ j, j < k → gA S' (a 13) (100 * ix d + j) = 0) ?_ _ ⟨S13, rfl, FA.rf _ _, fun j _ => by rw [g2 13 (by decide) (by decide) (by decide) (by decide)], fun j hj => absurd hj (Nat.not_lt_zero j)⟩
        rintro C k x hk ⟨S', rfl, f, f1, f2⟩ hC
        simp only [L_X6_row_55, forall_eq]
        rw [show (100 : Int32) = nI 100 from rfl, nI_leI (by decide) (by omega)]
        have hix : nI 100 * d + nI k = nI (100 * ix d + k) := by
          conv => lhs; rw [hdI]
          rw [pk_mul, nI_add]
        refine ⟨fun e => ?_, fun e => ⟨by rw [f.1, g1.1]; exact k0, _, by rw [f.2.2.1, g1.2.2.1]; exact r13, by rw [f.1, g1.1]; exact k13, ?_, ?_⟩⟩
        · refine hQ S' (hM.shelf (rwNew_ok hs h3) (f.1.trans g1.1) (f.2.1.trans g1.2.1) (f.2.2.1.trans g1.2.2.1) (f.2.2.2.1.trans g1.2.2.2.1) (fun i h1 h2 => ?_) (fun i h1 h2 j hj => ?_) f1 ?_)
          · rw [f.2.2.2.2.2 _ (hne i 13 h1 (by decide) (by omega)), g2 i h1 (by omega) (by omega) (by omega)]
          · rw [f.2.2.2.2.2 _ (hne i 13 (by omega) (by decide) (by omega))]
            rcases (by omega : i = 8 ∨ i = 9 ∨ i = 10 ∨ i = 11 ∨ i = 12) with rfl | rfl | rfl | rfl | rfl
            · rw [g8, upd_n _ _ hj]
            · rw [g2 9 (by decide) (by decide) (by decide) (by decide)]
            · rw [g2 10 (by decide) (by decide) (by decide) (by decide)]
            · rw [g11, upd_n _ _ hj]
            · rw [g12, upd_n _ _ hj]
          · unfold MSh
            rw [f.2.2.2.2.2 _ (hne 8 13 (by decide) (by decide) (by decide)), f.2.2.2.2.2 _ (hne 9 13 (by decide) (by decide) (by decide)), f.2.2.2.2.2 _ (hne 10 13 (by decide) (by decide) (by decide)), f.2.2.2.2.2 _ (hne 11 13 (by decide) (by decide) (by decide)), f.2.2.2.2.2 _ (hne 12 13 (by decide) (by decide) (by decide)), g8, g11, g12, upd_s, upd_s, upd_s]
            refine ⟨rfl, fun z => absurd (show (2 : Nat) = 1 from z) (by decide), fun _ => ⟨rfl, p_nat h4, fun j hj => f2 j ?_⟩⟩
            have : j < n.toInt.toNat := hj
            omega
        · rw [hix, f.2.2.2.1, g1.2.2.2.1, l13]; exact vp_in_nI (by omega) (by decide)
        · rw [hix, nI_clamp (by omega)]
          refine hC (by omega) _ ⟨_, by rw [nI_1], f.set _ _, fun j hj => ?_, fun j hj => ?_⟩
          · rw [gA_sA, upd_n _ _ (by omega)]; exact f1 j hj
          · rw [gA_sA]
            by_cases e2 : j = k
            · subst e2; exact upd_s _ _ _
            · rw [upd_n _ _ (by omega)]; exact f2 j (by omega)
      · rw [if_neg (fun z => h4 z.2.2.2), if_pos h3, if_neg h4] at hQ; exact hQ S hM
      · rw [if_neg (fun z => h3 z.2.2.1), if_neg h3] at hQ; exact hQ S hM
    · rw [if_neg (fun z => hs z.2.1), if_neg hs] at hQ; exact hQ S hM
  · rw [if_neg (fun z => hd z.1), if_neg hd] at hQ; exact hQ S hM
