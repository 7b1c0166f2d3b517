/-! copies; elements; failures of the reference -/
theorem FA.f {b : Nat} {S S' : Hp} (h : FA b S S') (g : Nat → Int32) : FA b S (sF S' b g) := ⟨h.1, h.2.1, h.2.2.1, h.2.2.2.1, h.2.2.2.2.1, fun c z => (h_gA_sF S' b _ c).trans ((if_neg z).trans (h.2.2.2.2.2 c z))⟩
theorem ix_Z {x : Int32} (h : 0 ≤ x.toInt) : ((ix x : Nat) : Int) = x.toInt := by unfold ix; omega
abbrev strOk (s : ASh) (i n : Int32) : Prop := 0 ≤ i.toInt ∧ 0 ≤ n.toInt ∧ i.toInt + n.toInt ≤ s.2.2.2.2.1
def cpF (f g : Nat → Int32) (i j n : Nat) (k : Nat) : Int32 := if j ≤ k ∧ k < j + n then f (i + (k - j)) else g k
abbrev cpOk (v : AS) (d i e j n : Int32) : Prop := isSh d ∧ isSh e ∧ (v.2.2 (ix d)).1 = 2 ∧ (v.2.2 (ix e)).1 = 2 ∧ (v.2.2 (ix d)).2.2.2.1 = (v.2.2 (ix e)).2.2.2.1 ∧ strOk (v.2.2 (ix d)) i n ∧ strOk (v.2.2 (ix e)) j n
def sp_copy (v : AS) (d i e j n : Int32) : Int32 := if isSh d then (if isSh e then (if (v.2.2 (ix d)).1 = 0 ∨ (v.2.2 (ix e)).1 = 0 then -11 else if (v.2.2 (ix d)).1 = 2 ∧ (v.2.2 (ix e)).1 = 2 ∧ (v.2.2 (ix d)).2.2.2.1 = (v.2.2 (ix e)).2.2.2.1 then (if strOk (v.2.2 (ix d)) i n ∧ strOk (v.2.2 (ix e)) j n then n else -13) else -12) else -1) else -1
def ef_copy (v : AS) (d i e j n : Int32) : AS := if cpOk v d i e j n then upS v (ix e) (setC (v.2.2 (ix e)) (cpF (v.2.2 (ix d)).2.2.2.2.2 (v.2.2 (ix e)).2.2.2.2.2 (ix i) (ix j) (ix n))) else v
theorem x_holds {a : Nat → Nat} {v : AS} {S : Hp} {d : Int32} {Q : Int32 → Hp → Prop} (hX : XI a v S) (hd : isSh d) (h : Q (b2 ((v.2.2 (ix d)).1 = 0)) S) : wp_X5_holdsNothing (a 0) d S Q := by
  obtain ⟨h8, hdI⟩ := isSh_nI hd
  obtain ⟨i1, i2, i3, i4⟩ := x_in hX.1 hd
  have hcl : d.toNatClampNeg = ix d := rfl
  have hs := hX.2.2.2.2.2.2.1 (ix d) h8
  have hle := (hX.2.1.2.2 (ix d) h8).1
  unfold XSh at hs
  unfold wp_X5_holdsNothing
  refine ⟨hX.1.k0, _, hX.1.r56_0, i3, i1, ?_⟩
  rw [hcl]
  rcases (by omega : (v.2.2 (ix d)).1 = 0 ∨ (v.2.2 (ix d)).1 = 1 ∨ (v.2.2 (ix d)).1 = 2) with e | e | e
  · obtain ⟨e1, e2⟩ := hs.1 e
    rw [b2_t e] at h
    exact ⟨fun _ => ⟨hX.1.k0, _, hX.1.r57_0, i4, i2, fun _ => h, fun r hr => by rw [e2] at hr; cases hr⟩, fun r hr => by rw [e1] at hr; cases hr⟩
  · obtain ⟨⟨z, e1, e3⟩, e2⟩ := hs.2.1 e
    rw [b2_f (by omega)] at h
    exact ⟨fun hr => (by rw [e1] at hr; cases hr), fun r hr => h⟩
  · obtain ⟨e1, z, c, e2, -⟩ := hs.2.2 e
    rw [b2_f (by omega)] at h
    exact ⟨fun _ => ⟨hX.1.k0, _, hX.1.r57_0, i4, i2, fun hr => (by rw [e2] at hr; cases hr), fun r hr => h⟩, fun r hr => by rw [e1] at hr; cases hr⟩
theorem x_isStretch {S : Hp} {z c : Nat} {s : ASh} {i n : Int32} {Q : Int32 → Hp → Prop} (hR : RwS S z c s) (hs : s.2.2.2.2.1 ≤ 100) (h : ∀ y, (y = 0 ↔ ¬ strOk s i n) → Q y S) : wp_X1_isStretch z i n S Q := by
  have no : ¬ strOk s i n → Q 0 S := fun w => h 0 ⟨fun _ => w, fun _ => rfl⟩
  have z0 : (0 : Int32).toInt = 0 := rfl
  have eL : (nI s.2.2.2.2.1).toInt = s.2.2.2.2.1 := nI_toInt (by omega)
  unfold wp_X1_isStretch
  rw [p_lt, z0]
  refine ⟨fun e => no (by omega), fun e => ⟨hR.1, c, hR.2.2.1, hR.2.2.2.1, ?_⟩⟩
  rw [hR.2.2.2.2.1, show Int32.ofNat s.2.2.2.2.1 = nI s.2.2.2.2.1 from rfl, p_lt, eL]
  have hhi := p_hi n
  refine ⟨fun e2 => no (fun w => by have := w.2.1; have := w.2.2; omega), fun e2 => ?_⟩
  rw [p_lt, z0]
  refine ⟨fun e3 => no (by omega), fun e3 => ⟨hR.1, c, hR.2.2.1, hR.2.2.2.1, ?_⟩⟩
  rw [hR.2.2.2.2.1, show Int32.ofNat s.2.2.2.2.1 = nI s.2.2.2.2.1 from rfl, p_lt, p_sub (by omega) (by omega), eL]
  refine ⟨fun e4 => no (fun w => by have := w.2.2; omega), fun e4 => h 1 ⟨fun w => absurd w (by decide), fun w => absurd ⟨by omega, by omega, by omega⟩ w⟩⟩
theorem x_copy {a : Nat → Nat} {v : AS} {S : Hp} {d i e j n : Int32} {Q : Int32 → Hp → Prop} (hX : XI a v S) (hQ : ∀ S', XI a (ef_copy v d i e j n) S' → Q (sp_copy v d i e j n) S') : wp_X5_copy (a 0) d i e j n S Q := by
  have noef : ¬ cpOk v d i e j n → ef_copy v d i e j n = v := fun h => if_neg h
  have hno : ¬ cpOk v d i e j n → Q (sp_copy v d i e j n) S := fun h => hQ S (by rw [noef h]; exact hX)
  unfold wp_X5_copy
  rw [e_xSh]
  refine br0 (fun hd => ?_) (fun hd => ?_)
  · rw [e_xSh]
    refine br1 (fun he => ⟨hX.1.k0, x_holds hX hd (br1 (fun h0 => ?_) (fun h0 => ⟨hX.1.k0, x_holds hX he (br0 (fun h0' => ?_) (fun h0' => ?_))⟩))⟩) (fun he => ?_)
    · have hh := hno (fun w => by have := w.2.2.1; omega)
      unfold sp_copy at hh
      rw [if_pos hd, if_pos he, if_pos (Or.inl h0)] at hh
      exact hh
    · have hh := hno (fun w => by have := w.2.2.2.1; omega)
      unfold sp_copy at hh
      rw [if_pos hd, if_pos he, if_pos (Or.inr h0')] at hh
      exact hh
    · have spE : sp_copy v d i e j n = if (v.2.2 (ix d)).1 = 2 ∧ (v.2.2 (ix e)).1 = 2 ∧ (v.2.2 (ix d)).2.2.2.1 = (v.2.2 (ix e)).2.2.2.1 then (if strOk (v.2.2 (ix d)) i n ∧ strOk (v.2.2 (ix e)) j n then n else -13) else -12 := by
        unfold sp_copy
        rw [if_pos hd, if_pos he, if_neg (by omega)]
      rw [spE] at hno hQ
      obtain ⟨hd8, hdI⟩ := isSh_nI hd
      obtain ⟨he8, heI⟩ := isSh_nI he
      obtain ⟨i1, i2, i3, i4⟩ := x_in hX.1 hd
      obtain ⟨j1, j2, j3, j4⟩ := x_in hX.1 he
      have no12 : ¬ ((v.2.2 (ix d)).1 = 2 ∧ (v.2.2 (ix e)).1 = 2 ∧ (v.2.2 (ix d)).2.2.2.1 = (v.2.2 (ix e)).2.2.2.1) → Q (-12) S := fun w => by
        have hh := hno (fun y => w ⟨y.2.2.1, y.2.2.2.1, y.2.2.2.2.1⟩)
        rw [if_neg w] at hh; exact hh
      refine ⟨hX.1.k0, _, hX.1.r57_0, i4, i2, x_row hX hd (fun h1 => ⟨hX.1.k0, _, hX.1.r57_0, j4, j2, fun _ => no12 (fun w => h1 w.1), fun _ _ => no12 (fun w => h1 w.1)⟩) (fun z c h2 hR hc hz => ⟨hX.1.k0, _, hX.1.r57_0, j4, j2, x_row hX he (fun h1 => no12 (fun w => h1 w.2.1)) (fun z' c' h2' hR' hc' hz' => ⟨hR.1, hR'.1, ?_⟩)⟩)⟩
      have hle := ((hX.2.1.2.2 (ix d) hd8).2.2 h2).2.2
      have hle' := ((hX.2.1.2.2 (ix e) he8).2.2 h2').2.2
      rw [hR.2.1, hR'.2.1]
      refine ⟨fun hs => ⟨hR.1, ?_⟩, fun hs => no12 (fun w => hs w.2.2)⟩
      rw [if_pos ⟨h2, h2', hs⟩] at hno hQ
      have no13 : ¬ (strOk (v.2.2 (ix d)) i n ∧ strOk (v.2.2 (ix e)) j n) → Q (-13) S := fun w => by
        have hh := hno (fun y => w ⟨y.2.2.2.2.2.1, y.2.2.2.2.2.2⟩)
        rw [if_neg w] at hh; exact hh
      refine x_isStretch hR hle fun y hy => bz0 hy (fun hi => ⟨hR'.1, x_isStretch hR' hle' fun y hy => bz1 hy (fun hj => ⟨hR.1, c, hR.2.2.1, hR'.1, c', hR'.2.2.1, ⟨hR.2.2.2.1, hR'.2.2.2.1⟩, ?_, ?_, fun S21 e21 => ?_⟩) (fun hj => no13 (fun w => hj w.2))⟩) (fun hi => no13 (fun w => hi w.1))
      · rw [p_lt, p_lt, p_lt, show (0 : Int32).toInt = 0 from rfl]
        exact ⟨by omega, by omega, by omega⟩
      · rw [hR.2.2.2.2.1, hR'.2.2.2.2.1, show i.toNatClampNeg = ix i from rfl, show j.toNatClampNeg = ix j from rfl, show n.toNatClampNeg = ix n from rfl]
        have e1 := ix_Z hi.1
        have e2 := ix_Z hj.1
        have e3 := ix_Z hi.2.1
        exact ⟨by omega, by omega⟩
      · have hok : cpOk v d i e j n := ⟨hd, he, h2, h2', hs, hi, hj⟩
        have hef : ef_copy v d i e j n = upS v (ix e) (setC (v.2.2 (ix e)) (cpF (v.2.2 (ix d)).2.2.2.2.2 (v.2.2 (ix e)).2.2.2.2.2 (ix i) (ix j) (ix n))) := if_pos hok
        rw [if_pos ⟨hi, hj⟩, hef] at hQ
        have hb : ix i + ix n ≤ (v.2.2 (ix d)).2.2.2.2.1 := by
          have e1 : (ix i : Int) = i.toInt := by unfold ix; omega
          have e2 : (ix n : Int) = n.toInt := by unfold ix; omega
          omega
        refine hQ S21 (hX.cells he8 h2' hz' hR' hc' (by rw [e21]; exact (FA.rf c' S).f _) _ (fun k hk => ?_))
        rw [e21, h_gA_sF, if_pos rfl, show i.toNatClampNeg = ix i from rfl, show j.toNatClampNeg = ix j from rfl, show n.toNatClampNeg = ix n from rfl]
        unfold va_cpy cpF
        by_cases q : ix j ≤ k ∧ k < ix j + ix n
        · rw [if_pos q, if_pos q]; exact hR.2.2.2.2.2 _ (by omega)
        · rw [if_neg q, if_neg q]; exact hR'.2.2.2.2.2 k hk
    · have hh := hno (fun w => he w.2.1)
      unfold sp_copy at hh
      rw [if_pos hd, if_neg he] at hh
      exact hh
  · have hh := hno (fun w => hd w.1)
    unfold sp_copy at hh
    rw [if_neg hd] at hh
    exact hh
theorem m_copy {a : Nat → Nat} {v : AS} {S : Hp} {d i e j n : Int32} {Q : Int32 → Hp → Prop} (hM : MI a v S) (hQ : ∀ S', MI a (ef_copy v d i e j n) S' → Q (sp_copy v d i e j n) S') : wp_X6_copy (a 0) d i e j n S Q := by
  obtain ⟨k0, k1, k2, k3, k4, k5, k6, k7, k8, k9, k10, k11, k12, k13, k14, r1, r2, r3, r4, r5, r6, r7, r8, r9, r10, r11, r12, r13, r14, l1, l2, l3, l4, l5, l6, l7, l8, l9, l10, l11, l12, l13, l14⟩ := hM.1.all
  have noef : ¬ cpOk v d i e j n → ef_copy v d i e j n = v := fun h => if_neg h
  have hno : ¬ cpOk v d i e j n → Q (sp_copy v d i e j n) S := fun h => hQ S (by rw [noef h]; exact hM)
  unfold wp_X6_copy
  rw [e_mSh]
  refine br0 (fun hd => ?_) (fun hd => ?_)
  · rw [e_mSh]
    refine br1 (fun he => ⟨k0, _, r8, k8, ?_, ?_⟩) (fun he => ?_)
    · obtain ⟨h8, hdI⟩ := isSh_nI hd
      rw [l8, hdI]; exact vp_in_nI h8 (by decide)
    · obtain ⟨hd8, hdI⟩ := isSh_nI hd
      obtain ⟨he8, heI⟩ := isSh_nI he
      have hind : vp_in d 8 := by rw [hdI]; exact vp_in_nI hd8 (by decide)
      have hine : vp_in e 8 := by rw [heI]; exact vp_in_nI he8 (by decide)
      have hsd := hM.2.2.2.2.2.2.2 (ix d) hd8
      have hse := hM.2.2.2.2.2.2.2 (ix e) he8
      have hled := (hM.2.1.2.2 (ix d) hd8).1
      have hlee := (hM.2.1.2.2 (ix e) he8).1
      have d00 : nI (v.2.2 (ix d)).1 = 0 ↔ (v.2.2 (ix d)).1 = 0 := by rw [show (0 : Int32) = nI 0 from rfl, nI_eq (by omega) (by decide)]
      have e00 : nI (v.2.2 (ix e)).1 = 0 ↔ (v.2.2 (ix e)).1 = 0 := by rw [show (0 : Int32) = nI 0 from rfl, nI_eq (by omega) (by decide)]
      have d10 : nI (v.2.2 (ix d)).1 = 1 ↔ (v.2.2 (ix d)).1 = 1 := by rw [show (1 : Int32) = nI 1 from rfl, nI_eq (by omega) (by decide)]
      have e10 : nI (v.2.2 (ix e)).1 = 1 ↔ (v.2.2 (ix e)).1 = 1 := by rw [show (1 : Int32) = nI 1 from rfl, nI_eq (by omega) (by decide)]
      rw [show d.toNatClampNeg = ix d from rfl, show e.toNatClampNeg = ix e from rfl, hsd.1, d00]
      have no11 : ((v.2.2 (ix d)).1 = 0 ∨ (v.2.2 (ix e)).1 = 0) → Q (-11) S := fun w => by
        have hh := hno (fun y => by have := y.2.2.1; have := y.2.2.2.1; omega)
        unfold sp_copy at hh
        rw [if_pos hd, if_pos he, if_pos w] at hh; exact hh
      refine ⟨fun h0 => no11 (Or.inl h0), fun h0 => ⟨k0, _, r8, k8, by rw [l8]; exact hine, ?_⟩⟩
      rw [hse.1, e00]
      refine ⟨fun h0' => ⟨k0, _, r8, k8, by rw [l8]; exact hind, ?_⟩, fun h0' => no11 (Or.inr h0')⟩
      rw [hsd.1, d10]
      have spE : sp_copy v d i e j n = if (v.2.2 (ix d)).1 = 2 ∧ (v.2.2 (ix e)).1 = 2 ∧ (v.2.2 (ix d)).2.2.2.1 = (v.2.2 (ix e)).2.2.2.1 then (if strOk (v.2.2 (ix d)) i n ∧ strOk (v.2.2 (ix e)) j n then n else -13) else -12 := by
        unfold sp_copy
        rw [if_pos hd, if_pos he, if_neg (by omega)]
      rw [spE] at hno hQ
      have no12 : ¬ ((v.2.2 (ix d)).1 = 2 ∧ (v.2.2 (ix e)).1 = 2 ∧ (v.2.2 (ix d)).2.2.2.1 = (v.2.2 (ix e)).2.2.2.1) → Q (-12) S := fun w => by
        have hh := hno (fun y => w ⟨y.2.2.1, y.2.2.2.1, y.2.2.2.2.1⟩)
        rw [if_neg w] at hh; exact hh
      refine ⟨fun h1 => no12 (by omega), fun h1 => ⟨k0, _, r8, k8, by rw [l8]; exact hine, ?_⟩⟩
      rw [hse.1, e10]
      refine ⟨fun h1' => no12 (by omega), fun h1' => ⟨k0, _, r11, k11, by rw [l11]; exact hind, k0, _, r11, k11, by rw [l11]; exact hine, ?_⟩⟩
      have h2 : (v.2.2 (ix d)).1 = 2 := by omega
      have h2' : (v.2.2 (ix e)).1 = 2 := by omega
      have hcd := hsd.2.2 h2
      have hce := hse.2.2 h2'
      have hle := ((hM.2.1.2.2 (ix d) hd8).2.2 h2).2.2
      have hle' := ((hM.2.1.2.2 (ix e) he8).2.2 h2').2.2
      rw [hcd.1, hce.1]
      refine ⟨fun hs => ?_, fun hs => no12 (fun w => hs w.2.2)⟩
      rw [if_pos ⟨h2, h2', hs⟩] at hno hQ
      have no13 : ¬ (strOk (v.2.2 (ix d)) i n ∧ strOk (v.2.2 (ix e)) j n) → Q (-13) S := fun w => by
        have hh := hno (fun y => w ⟨y.2.2.2.2.2.1, y.2.2.2.2.2.2⟩)
        rw [if_neg w] at hh; exact hh
      have z0 : (0 : Int32).toInt = 0 := rfl
      have hhi := p_hi i
      have hhj := p_hi j
      rw [p_lt, p_lt, p_lt, z0]
      refine ⟨fun q1 => no13 (fun w => by have := w.1.2.1; omega), fun q1 => ⟨fun q2 => no13 (fun w => by have := w.1.1; omega), fun q2 => ⟨fun q3 => no13 (fun w => by have := w.2.1; omega), fun q3 => ⟨k0, _, r12, k12, by rw [l12]; exact hind, ?_⟩⟩⟩⟩
      have eLd : (nI (v.2.2 (ix d)).2.2.2.2.1).toInt = (v.2.2 (ix d)).2.2.2.2.1 := nI_toInt (by omega)
      have eLe : (nI (v.2.2 (ix e)).2.2.2.2.1).toInt = (v.2.2 (ix e)).2.2.2.2.1 := nI_toInt (by omega)
      rw [hcd.2.1, p_lt, p_sub (by omega) (by omega), eLd]
      refine ⟨fun q4 => no13 (fun w => by have := w.1.2.2; omega), fun q4 => ⟨k0, _, r12, k12, by rw [l12]; exact hine, ?_⟩⟩
      rw [hce.2.1, p_le, p_sub (by omega) (by omega), eLe]
      refine ⟨fun q5 => ?_, fun q5 => no13 (fun w => by have := w.2.2.2; omega)⟩
      have hi : strOk (v.2.2 (ix d)) i n := ⟨by omega, by omega, by omega⟩
      have hj : strOk (v.2.2 (ix e)) j n := ⟨by omega, by omega, by omega⟩
      have hok : cpOk v d i e j n := ⟨hd, he, h2, h2', hs, hi, hj⟩
      have hef : ef_copy v d i e j n = upS v (ix e) (setC (v.2.2 (ix e)) (cpF (v.2.2 (ix d)).2.2.2.2.2 (v.2.2 (ix e)).2.2.2.2.2 (ix i) (ix j) (ix n))) := if_pos hok
      rw [if_pos ⟨hi, hj⟩, hef] at hQ
      have ei : i = nI (ix i) := p_nat hi.1
      have ej : j = nI (ix j) := p_nat hj.1
      have en : n = nI (ix n) := p_nat hi.2.1
      have b1 : ix i + ix n ≤ (v.2.2 (ix d)).2.2.2.2.1 := by
        have e1 : (ix i : Int) = i.toInt := by unfold ix; omega
        have e2 : (ix n : Int) = n.toInt := by unfold ix; omega
        omega
      have b2 : ix j + ix n ≤ (v.2.2 (ix e)).2.2.2.2.1 := by
        have e1 : (ix j : Int) = j.toInt := by unfold ix; omega
        have e2 : (ix n : Int) = n.toInt := by unfold ix; omega
        omega
      have ad : ∀ k, 100 * d + i + nI k = nI (100 * ix d + ix i + k) := fun k => by
        conv => lhs; rw [hdI, ei]
        rw [show (100 : Int32) = nI 100 from rfl, pk_mul, nI_add, nI_add]
      have ae : ∀ k, 100 * e + j + nI k = nI (100 * ix e + ix j + k) := fun k => by
        conv => lhs; rw [heI, ej]
        rw [show (100 : Int32) = nI 100 from rfl, pk_mul, nI_add, nI_add]
      have ne1314 : a 13 ≠ a 14 := hM.1.ne (by decide) (by decide) (by decide)
      have hQ2 : ∀ S', MI a (upS v (ix e) (setC (v.2.2 (ix e)) (cpF (v.2.2 (ix d)).2.2.2.2.2 (v.2.2 (ix e)).2.2.2.2.2 (ix i) (ix j) (ix n)))) S' → Q (nI (ix n)) S' := fun S' h => by
        have := hQ S' h
        rw [en] at this
        exact this
      rw [en]
      refine it_up (ix n) (fun k x => ∃ S', x = (a 0, d, i, e, j, nI (ix n), nI k, S') ∧ FA (a 14) S S' ∧ ∀ q, q < k → gA S' (a 14) q = (v.2.2 (ix d)).2.2.2.2.2 (ix i + q)) ?_ _ ⟨S, rfl, FA.rf _ _, fun q hq => absurd hq (Nat.not_lt_zero q)⟩
      rintro C k x hk ⟨S1, rfl, f1, hm1⟩ hC
      simp only [L_X6_copy_122, forall_eq]
      rw [nI_leI (by omega) (by omega), ad]
      refine ⟨fun e1 => ?_, fun e1 => ⟨by rw [f1.1]; exact k0, _, by rw [f1.2.2.1]; exact r14, by rw [f1.1]; exact k0, _, by rw [f1.2.2.1]; exact r13, by rw [f1.1]; exact k13, by rw [f1.2.2.2.1, l13]; exact vp_in_nI (by omega) (by decide), by rw [f1.1]; exact k14, by rw [f1.2.2.2.1, l14]; exact vp_in_nI (by omega) (by decide), ?_⟩⟩
      · have hkn : k = ix n := by omega
        subst hkn
        refine it_up (ix n) (fun k x => ∃ S', x = (a 0, e, j, nI (ix n), nI k, S') ∧ FA (a 13) S1 S' ∧ ∀ q, gA S' (a 13) q = if 100 * ix e + ix j ≤ q ∧ q < 100 * ix e + ix j + k then gA S1 (a 14) (q - (100 * ix e + ix j)) else gA S (a 13) q) ?_ _ ⟨S1, rfl, FA.rf _ _, fun q => by rw [if_neg (by omega), f1.2.2.2.2.2 _ ne1314]⟩
        rintro C2 k x hk2 ⟨S2, rfl, f2, hm2⟩ hC2
        simp only [L_X6_copy_159, forall_eq]
        have kk : kd S2 = kd S := f2.1.trans f1.1
        have rr : gR S2 = gR S := f2.2.2.1.trans f1.2.2.1
        have ll : ln S2 = ln S := f2.2.2.2.1.trans f1.2.2.2.1
        rw [nI_leI (by omega) (by omega), ae, kk, rr, ll]
        refine ⟨fun e2 => ?_, fun e2 => ⟨k0, _, r13, k0, _, r14, k14, by rw [l14]; exact vp_in_nI (by omega) (by decide), k13, by rw [l13]; exact vp_in_nI (by omega) (by decide), ?_⟩⟩
        · have hkn : k = ix n := by omega
          subst hkn
          have hgo : ∀ x, x < 15 → x ≠ 13 → x ≠ 14 → gA S2 (a x) = gA S (a x) := fun x hx h13 h14 => (f2.2.2.2.2.2 _ (hM.1.ne hx (by decide) h13)).trans (f1.2.2.2.2.2 _ (hM.1.ne hx (by decide) h14))
          refine hQ2 S2 (hM.shelf (setC_ok (hM.2.1.2.2 (ix e) he8) _) kk (f2.2.1.trans f1.2.1) rr ll (fun x h1 h3 => hgo x h1 (by omega) (by omega)) (fun x h1 h3 q _ => by rw [hgo x (by omega) (by omega) (by omega)]) (fun q hq => by rw [hm2 q, if_neg (by omega)]) ?_)
          unfold MSh
          rw [hgo 8 (by decide) (by decide) (by decide), hgo 9 (by decide) (by decide) (by decide), hgo 10 (by decide) (by decide) (by decide), hgo 11 (by decide) (by decide) (by decide), hgo 12 (by decide) (by decide) (by decide)]
          refine ⟨hse.1, hse.2.1, fun _ => ⟨hce.1, hce.2.1, fun q hq => ?_⟩⟩
          show gA S2 (a 13) (100 * ix e + q) = cpF (v.2.2 (ix d)).2.2.2.2.2 (v.2.2 (ix e)).2.2.2.2.2 (ix i) (ix j) (ix n) q
          have hq : q < (v.2.2 (ix e)).2.2.2.2.1 := hq
          rw [hm2]
          unfold cpF
          by_cases q6 : ix j ≤ q ∧ q < ix j + ix n
          · rw [if_pos (by omega), if_pos q6, hm1 _ (by omega)]
            rw [show ix i + (100 * ix e + q - (100 * ix e + ix j)) = ix i + (q - ix j) by omega]
          · rw [if_neg (by omega), if_neg q6]; exact hce.2.2 q hq
        · refine hC2 (by omega) _ ⟨_, by rw [nI_1], f2.set _ _, fun q => ?_⟩
          rw [gA_sA, nI_clamp (by omega), nI_clamp (by omega), f2.2.2.2.2.2 _ (Ne.symm ne1314)]
          by_cases q6 : q = 100 * ix e + ix j + k
          · subst q6
            rw [upd_s, if_pos (by omega), show 100 * ix e + ix j + k - (100 * ix e + ix j) = k by omega]
          · rw [upd_n _ _ q6, hm2]
            by_cases q7 : 100 * ix e + ix j ≤ q ∧ q < 100 * ix e + ix j + k
            · rw [if_pos q7, if_pos (by omega)]
            · rw [if_neg q7, if_neg (by omega)]
      · refine hC (by omega) _ ⟨_, by rw [nI_1], f1.set _ _, fun q hq => ?_⟩
        rw [gA_sA, nI_clamp (by omega), nI_clamp (by omega), f1.2.2.2.2.2 _ ne1314]
        by_cases q6 : q = k
        · subst q6
          rw [upd_s, Nat.add_assoc]; exact hcd.2.2 _ (by omega)
        · rw [upd_n _ _ q6]; exact hm1 q (by omega)
    · have hh := hno (fun w => he w.2.1)
      unfold sp_copy at hh
      rw [if_pos hd, if_neg he] at hh
      exact hh
  · have hh := hno (fun w => hd w.1)
    unfold sp_copy at hh
    rw [if_neg hd] at hh
    exact hh
-- elements
def elC (v : AS) (d i : Int32) : Nat := if isSh d then (if (v.2.2 (ix d)).1 = 2 ∧ (0 ≤ i.toInt ∧ i.toInt < (v.2.2 (ix d)).2.2.2.2.1) then 0 else 2) else 1
def elV (v : AS) (d i : Int32) : Int64 := ((v.2.2 (ix d)).2.2.2.2.2 (ix i)).toInt64
theorem m_element {a : Nat → Nat} {v : AS} {S : Hp} {d i : Int32} {Q : Int64 → Hp → Prop} (hM : MI a v S) (hQ : ∀ S', MI a v S' → gI S' 101 (a 0) = nI (elC v d i) → Q (if elC v d i = 0 then elV v d i else 0) S') : wp_X6_element (a 0) d i S Q := by
  obtain ⟨k0, k1, k2, k3, k4, k5, k6, k7, k8, k9, k10, k11, k12, k13, k14, r1, r2, r3, r4, r5, r6, r7, r8, r9, r10, r11, r12, r13, r14, l1, l2, l3, l4, l5, l6, l7, l8, l9, l10, l11, l12, l13, l14⟩ := hM.1.all
  have hMt : ∀ x, MI a v (sI S 101 (a 0) x) := fun x => by
    refine hM.fw (P := fun _ => False) (J := fun i _ => i = 101) ((FW.rf (fun _ => False) (fun i _ => i = 101) S).i (show (101 : Nat) = 101 from rfl) x) (fun c z => z.elim) hM.2.1 rfl ?_ hM.2.2.2.1 hM.2.2.2.2.1 ?_ ?_
    · rw [h_gI_sI, if_neg (fun z => absurd z.1 (by decide))]; exact hM.2.2.1
    · rw [h_gI_sI, if_neg (fun z => absurd z.1 (by decide))]; exact hM.2.2.2.2.2.1
    · rw [h_gI_sI, if_neg (fun z => absurd z.1 (by decide)), h_gI_sI, if_neg (fun z => absurd z.1 (by decide))]; exact hM.2.2.2.2.2.2.1
  have hgt : ∀ x, gI (sI S 101 (a 0) x) 101 (a 0) = x := fun x => by rw [h_gI_sI, if_pos ⟨rfl, rfl⟩]
  have go12 : ∀ c, c = elC v d i → c ≠ 0 → c < 3 → J_X6_element_43 Q (a 0) d i (a 0) (nI c) S := fun c hc h0 h3 => by
    simp only [J_X6_element_43, forall_eq]
    rw [hgt]
    have hh := hQ _ (hMt (nI c)) (by rw [hgt, hc])
    rw [← hc, if_neg h0] at hh
    refine ⟨k0, k0, fun _ => hh, fun z => ?_⟩
    rw [show (0 : Int32) = nI 0 from rfl, nI_eq (by omega) (by decide)] at z
    exact absurd z h0
  unfold wp_X6_element
  rw [e_mSh]
  refine br1 (fun hd => ⟨k0, _, r8, k8, ?_, ?_⟩) (fun hd => go12 1 (by unfold elC; rw [if_neg hd]) (by decide) (by decide))
  · obtain ⟨h8, hdI⟩ := isSh_nI hd
    rw [l8, hdI]; exact vp_in_nI h8 (by decide)
  · obtain ⟨h8, hdI⟩ := isSh_nI hd
    have hin : vp_in d 8 := by rw [hdI]; exact vp_in_nI h8 (by decide)
    have hs := hM.2.2.2.2.2.2.2 (ix d) h8
    have hle := (hM.2.1.2.2 (ix d) h8).1
    have h20 : nI (v.2.2 (ix d)).1 = 2 ↔ (v.2.2 (ix d)).1 = 2 := by rw [show (2 : Int32) = nI 2 from rfl, nI_eq (by omega) (by decide)]
    rw [show d.toNatClampNeg = ix d from rfl, hs.1, h20]
    refine ⟨fun h2 => go12 2 (by unfold elC; rw [if_pos hd, if_neg (fun w => h2 w.1)]) (by decide) (by decide), fun h2 => ⟨k0, _, r12, k12, by rw [l12]; exact hin, ?_⟩⟩
    have hh := hs.2.2 h2
    have hsz := ((hM.2.1.2.2 (ix d) h8).2.2 h2).2.2
    have e1 : (nI (v.2.2 (ix d)).2.2.2.2.1 - (1 : Int32)).toInt = ((v.2.2 (ix d)).2.2.2.2.1 : Int) - 1 := by
      rw [p_sub (by rw [nI_toInt (by omega), show (1 : Int32).toInt = 1 from rfl]; omega) (by rw [nI_toInt (by omega), show (1 : Int32).toInt = 1 from rfl]; omega), nI_toInt (by omega)]; rfl
    rw [hh.2.1, e_isInL (lo := 0) rfl e1]
    refine br1 (fun hi => ?_) (fun hi => go12 2 (by unfold elC; rw [if_pos hd, if_neg (fun w => hi ⟨w.2.1, by have := w.2.2; omega⟩)]) (by decide) (by decide))
    have hc0 : elC v d i = 0 := by unfold elC; rw [if_pos hd, if_pos ⟨h2, hi.1, by omega⟩]
    simp only [J_X6_element_43, forall_eq]
    rw [hgt]
    refine ⟨k0, k0, fun z => absurd rfl z, fun _ => ⟨k0, _, r13, k13, ?_, ?_⟩⟩
    · have hixl : ix i < 100 := by unfold ix; omega
      have hix : 100 * d + i = nI (100 * ix d + ix i) := by
        conv => lhs; rw [hdI, p_nat hi.1]
        rw [show (100 : Int32) = nI 100 from rfl, pk_mul, nI_add]; rfl
      rw [hix]
      show vp_in _ (ln S (a 13))
      rw [l13]; exact vp_in_nI (by omega) (by decide)
    · have hixz := ix_Z hi.1
      have hixl : ix i < (v.2.2 (ix d)).2.2.2.2.1 := by omega
      have hix : 100 * d + i = nI (100 * ix d + ix i) := by
        conv => lhs; rw [hdI, p_nat hi.1]
        rw [show (100 : Int32) = nI 100 from rfl, pk_mul, nI_add]; rfl
      rw [hix, nI_clamp (by omega), h_gA_sI, hh.2.2 _ hixl]
      have hq := hQ _ (hMt 0) (by rw [hgt, hc0]; rfl)
      rw [if_pos hc0] at hq
      exact hq
def tossF (k f : Int32) : Int32 := if k = 5 ∨ f = 0 then -15 else if k = 6 then 100 + f else if k = 7 then 200 + costF k f else f
def sp_toss (v : AS) (d : Int32) : Int32 := if isSh d then onSc (v.2.2 (ix d)) (tossF (v.2.2 (ix d)).2.1 (v.2.2 (ix d)).2.2.1) else -1
theorem m_toss {a : Nat → Nat} {v : AS} {S : Hp} {d : Int32} {Q : Int32 → Hp → Prop} (hM : MI a v S) (hQ : ∀ S', MI a v S' → Q (sp_toss v d) S') : wp_X6_toss (a 0) d S Q := by
  obtain ⟨k0, k1, k2, k3, k4, k5, k6, k7, k8, k9, k10, k11, k12, k13, k14, r1, r2, r3, r4, r5, r6, r7, r8, r9, r10, r11, r12, r13, r14, l1, l2, l3, l4, l5, l6, l7, l8, l9, l10, l11, l12, l13, l14⟩ := hM.1.all
  replace hQ := hQ S hM
  unfold sp_toss onSc at hQ
  unfold wp_X6_toss
  rw [e_mSh]
  refine br1 (fun hd => ⟨k0, ?_⟩) (fun hd => ?_)
  · rw [if_pos hd] at hQ
    obtain ⟨h8, hdI⟩ := isSh_nI hd
    have hin : vp_in d 8 := by rw [hdI]; exact vp_in_nI h8 (by decide)
    refine t_noScale hM hd (bz0 (scN_0 (hM.2.1.2.2 _ h8).1) (fun h1 => ⟨k0, ?_⟩) (fun h1 => ⟨k0, ?_⟩))
    · rw [if_pos h1] at hQ
      exact t_noScale hM hd hQ
    · rw [if_neg h1] at hQ
      have h11 := Decidable.not_not.mp h1
      have hs := (hM.2.2.2.2.2.2.2 (ix d) h8).2.1 h11
      unfold tossF at hQ
      refine ⟨_, r10, k10, by rw [l10]; exact hin, fun y6 e6 => ⟨k0, _, r9, k9, by rw [l9]; exact hin, ?_⟩⟩
      rw [show d.toNatClampNeg = ix d from rfl] at e6 ⊢
      rw [hs.2] at e6
      rw [hs.1, e6]
      refine ⟨fun e => ?_, fun e => ⟨fun e2 => ⟨k0, _, r9, k9, by rw [l9]; exact hin, ?_⟩, fun e2 => ?_⟩⟩
      · rw [if_pos (Or.inl e)] at hQ; exact hQ
      · rw [if_neg (fun w => w.elim e e2)] at hQ
        rw [hs.1]
        refine ⟨fun e3 => ⟨k0, _, r9, k9, by rw [l9]; exact hin, ?_⟩, fun e3 => ?_⟩
        · rw [if_neg e3] at hQ
          rw [hs.1]
          refine ⟨fun e4 => ?_, fun e4 => ⟨k0, t_costOf hM hd h11 ?_⟩⟩
          · rw [if_neg e4] at hQ; exact hQ
          · rw [if_pos e4] at hQ; exact hQ
        · rw [if_pos e3] at hQ; exact hQ
      · rw [if_pos (Or.inr e2)] at hQ; exact hQ
  · rw [if_neg hd] at hQ; exact hQ
