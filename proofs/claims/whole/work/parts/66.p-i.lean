/-! put; told weighings judged -/
def setC (s : ASh) (ce : Nat → Int32) : ASh := (s.1, s.2.1, s.2.2.1, s.2.2.2.1, s.2.2.2.2.1, ce)
theorem setC_ok {s : ASh} (h : ShOk s) (ce : Nat → Int32) : ShOk (setC s ce) := h
theorem XI.cells {a : Nat → Nat} {v : AS} {S S' : Hp} {d z c : Nat} (h : XI a v S) (hd : d < 8) (h2 : (v.2.2 d).1 = 2) (hz : gQ S (a 21) d = some z) (hR : RwS S z c (v.2.2 d)) (hc : ∀ i, i < 30 → c ≠ a i) (f : FA c S S') (ce : Nat → Int32) (hce : ∀ j, j < (v.2.2 d).2.2.2.2.1 → gA S' c j = ce j) : XI a (upS v d (setC (v.2.2 d) ce)) S' := by
  have e5 : ∀ i, i < 30 → gA S' (a i) = gA S (a i) := fun i hi => f.2.2.2.2.2 _ (Ne.symm (hc i hi))
  refine ⟨?_, h.2.1.up (setC_ok (h.2.1.2.2 d hd) ce), ?_, ?_, ?_, ?_, ?_, ?_⟩
  · have h1 := h.1
    unfold XS at h1 ⊢
    rw [f.1, f.2.1, f.2.2.1, f.2.2.2.1]
    exact h1
  · have h1 := h.2.2.1
    unfold StR at h1 ⊢
    rw [f.2.1, e5 2 (by decide), e5 3 (by decide)]
    exact h1
  · have h1 := h.2.2.2.1
    unfold LyD at h1 ⊢
    rw [f.2.1, e5 5 (by decide), e5 6 (by decide), e5 7 (by decide), e5 8 (by decide)]
    exact h1
  · rw [f.2.1]; exact h.2.2.2.2.1
  · intro t ht
    have h1 := h.2.2.2.2.2.1 t ht
    unfold StR at h1 ⊢
    rw [f.2.1, e5 10 (by decide), e5 11 (by decide)]
    exact h1
  · intro e he
    by_cases e6 : e = d
    · subst e6
      rw [upS_s]
      have h1 := h.2.2.2.2.2.2.1 e hd
      unfold XSh at h1 ⊢
      rw [f.2.2.2.2.1]
      obtain ⟨g1, -⟩ := h1.2.2 h2
      refine ⟨fun w => absurd (h2.symm.trans w) (by decide), fun w => absurd (h2.symm.trans w) (by decide), fun _ => ⟨g1, z, c, hz, ?_, ?_, ?_, ?_, ?_, hce, hc⟩⟩
      · rw [f.1]; exact hR.1
      · rw [f.2.1]; exact hR.2.1
      · rw [f.2.2.1]; exact hR.2.2.1
      · rw [f.1]; exact hR.2.2.2.1
      · rw [f.2.2.2.1]; exact hR.2.2.2.2.1
    · rw [upS_n v _ e6]
      have h1 := h.2.2.2.2.2.2.1 e he
      unfold XSh ScS at h1 ⊢
      rw [f.1, f.2.1, f.2.2.1, f.2.2.2.1, f.2.2.2.2.1]
      refine ⟨h1.1, h1.2.1, fun w => ?_⟩
      obtain ⟨g1, y, c', g2, g3, g4, g5, g6, g7, g8, g9⟩ := h1.2.2 w
      refine ⟨g1, y, c', g2, g3, g4, g5, g6, g7, fun j hj => ?_, g9⟩
      rw [f.2.2.2.2.2 c' (h.2.2.2.2.2.2.2.1 e d he hd e6 y z c' c g2 hz g5 hR.2.2.1)]
      exact g8 j hj
  · have h1 := h.2.2.2.2.2.2.2
    unfold XSep XZ at h1 ⊢
    rw [f.2.2.1, f.2.2.2.2.1, e5 16 (by decide), e5 17 (by decide), e5 18 (by decide), e5 19 (by decide)]
    exact h1
def narB (so x : Int32) : Int32 := if so.toInt = 0 then x.toInt8.toInt32 else if so.toInt = 1 then x.toInt16.toInt32 else x
abbrev plOk (v : AS) (d i : Int32) : Prop := isSh d ∧ (v.2.2 (ix d)).1 = 2 ∧ 0 ≤ i.toInt ∧ i.toInt < (v.2.2 (ix d)).2.2.2.2.1
def sp_put (v : AS) (d i : Int32) : Int32 := if isSh d then (if (v.2.2 (ix d)).1 = 2 then (if 0 ≤ i.toInt ∧ i.toInt < (v.2.2 (ix d)).2.2.2.2.1 then 0 else -13) else rwN (v.2.2 (ix d)).1) else -1
def ef_put (v : AS) (d i x : Int32) : AS := if plOk v d i then upS v (ix d) (setC (v.2.2 (ix d)) (upd (v.2.2 (ix d)).2.2.2.2.2 (ix i) (narB (v.2.2 (ix d)).2.2.2.1 x))) else v
theorem x_isPlace {S : Hp} {z c : Nat} {s : ASh} {i : Int32} {Q : Int32 → Hp → Prop} (hR : RwS S z c s) (hs : s.2.2.2.2.1 ≤ 100) (h : ∀ y, (y = 0 ↔ ¬ (0 ≤ i.toInt ∧ i.toInt < s.2.2.2.2.1)) → Q y S) : wp_X1_isPlace z i S Q := by
  unfold wp_X1_isPlace
  rw [p_lt, show (0 : Int32).toInt = 0 from rfl]
  refine ⟨fun e => h 0 ⟨fun _ w => by omega, fun _ => rfl⟩, fun e => ⟨hR.1, c, hR.2.2.1, hR.2.2.2.1, ?_⟩⟩
  rw [hR.2.2.2.2.1, p_le, show Int32.ofNat s.2.2.2.2.1 = nI s.2.2.2.2.1 from rfl, nI_toInt (by omega)]
  exact ⟨fun e2 => h 0 ⟨fun _ w => by omega, fun _ => rfl⟩, fun e2 => h 1 ⟨fun w => absurd w (by decide), fun w => absurd ⟨by omega, by omega⟩ w⟩⟩
theorem x_putc {a : Nat → Nat} {v : AS} {S : Hp} {d i x : Int32} {Q : Int32 → Hp → Prop} (hX : XI a v S) (hQ : ∀ S', XI a (ef_put v d i x) S' → Q (sp_put v d i) S') : wp_X5_put (a 0) d i x S Q := by
  unfold ef_put sp_put at hQ
  unfold wp_X5_put
  rw [e_xSh]
  refine br1 (fun hd => ?_) (fun hd => ?_)
  · rw [if_pos hd] at hQ
    obtain ⟨h8, hdI⟩ := isSh_nI hd
    obtain ⟨i1, i2, i3, i4⟩ := x_in hX.1 hd
    refine ⟨hX.1.k0, _, hX.1.r57_0, i4, i2, x_row hX hd (fun h1 => ⟨hX.1.k0, x_notHeld hX hd ?_⟩) (fun z c h2 hR hc hz => ⟨hR.1, ?_⟩)⟩
    · rw [if_neg (fun w => h1 w.2.1), if_neg h1] at hQ; exact hQ S hX
    · rw [if_pos h2] at hQ
      have hle := ((hX.2.1.2.2 (ix d) h8).2.2 h2).2.2
      refine x_isPlace hR hle fun y hy => bz1 hy (fun hi => ⟨hR.1, c, hR.2.2.1, hR.1, ?_⟩) (fun hi => ?_)
      · have hok : plOk v d i := ⟨hd, h2, hi⟩
        rw [if_pos hok, if_pos hi] at hQ
        have hin : vp_in i (ln S c) := by rw [hR.2.2.2.2.1, p_nat hi.1]; exact vp_in_nI (by omega) (by omega)
        have hcl : i.toNatClampNeg = ix i := rfl
        have go : ∀ x', x' = narB (v.2.2 (ix d)).2.2.2.1 x → (kd S c = 8 ∧ vp_in i (ln S c) ∧ ∀ S12, S12 = sA S c i.toNatClampNeg x' → Q 0 S12) := by
          intro x' hx'
          refine ⟨hR.2.2.2.1, hin, fun S12 e12 => ?_⟩
          subst e12
          refine hQ _ (hX.cells h8 h2 hz hR hc ((FA.rf c S).set _ _) _ (fun j hj => ?_))
          rw [gA_sA, hcl, ← hx']
          unfold upd
          by_cases e : j = ix i
          · rw [if_pos e, if_pos e]
          · rw [if_neg e, if_neg e]; exact hR.2.2.2.2.2 j hj
        unfold wp_X1_lowestBits
        rw [hR.2.1]
        refine ⟨hR.1, fun e => go _ ?_, fun e => go _ ?_, fun e => go _ ?_⟩
        · unfold narB; rw [if_pos e]
        · unfold narB; rw [if_neg (by omega), if_pos e]
        · unfold narB; rw [if_neg e.1, if_neg e.2]
      · rw [if_neg (fun w => hi w.2.2), if_neg hi] at hQ; exact hQ S hX
  · rw [if_neg (fun w => hd w.1), if_neg hd] at hQ; exact hQ S hX
theorem m_putc {a : Nat → Nat} {v : AS} {S : Hp} {d i x : Int32} {Q : Int32 → Hp → Prop} (hM : MI a v S) (hQ : ∀ S', MI a (ef_put v d i x) S' → Q (sp_put v d i) S') : wp_X6_put (a 0) d i x S Q := by
  obtain ⟨k0, k1, k2, k3, k4, k5, k6, k7, k8, k9, k10, k11, k12, k13, k14, r1, r2, r3, r4, r5, r6, r7, r8, r9, r10, r11, r12, r13, r14, l1, l2, l3, l4, l5, l6, l7, l8, l9, l10, l11, l12, l13, l14⟩ := hM.1.all
  unfold ef_put sp_put at hQ
  unfold wp_X6_put
  rw [e_mSh]
  refine br1 (fun hd => ?_) (fun hd => ?_)
  · rw [if_pos hd] at hQ
    obtain ⟨h8, hdI⟩ := isSh_nI hd
    have hin : vp_in d 8 := by rw [hdI]; exact vp_in_nI h8 (by decide)
    have hcl : d.toNatClampNeg = ix d := rfl
    have hs := hM.2.2.2.2.2.2.2 (ix d) h8
    have hok0 := hM.2.1.2.2 (ix d) h8
    have h20 : nI (v.2.2 (ix d)).1 = 2 ↔ (v.2.2 (ix d)).1 = 2 := by rw [show (2 : Int32) = nI 2 from rfl, nI_eq (by have := hok0.1; omega) (by decide)]
    have h00 : nI (v.2.2 (ix d)).1 = 0 ↔ (v.2.2 (ix d)).1 = 0 := by rw [show (0 : Int32) = nI 0 from rfl, nI_eq (by have := hok0.1; omega) (by decide)]
    rw [hcl]
    refine ⟨k0, _, r8, k8, by rw [l8]; exact hin, ?_⟩
    rw [hs.1, h20]
    refine ⟨fun h2 => ⟨k0, _, r12, k12, by rw [l12]; exact hin, ?_⟩, fun h2 => ⟨k0, _, r8, k8, by rw [l8]; exact hin, ?_⟩⟩
    · rw [if_pos h2] at hQ
      have hle := (hok0.2.2 h2).2.2
      have hh := hs.2.2 h2
      have e1 : (nI (v.2.2 (ix d)).2.2.2.2.1 - (1 : Int32)).toInt = ((v.2.2 (ix d)).2.2.2.2.1 : Int) - 1 := by
        rw [p_sub (by rw [nI_toInt (by omega), show (1 : Int32).toInt = 1 from rfl]; omega) (by rw [nI_toInt (by omega), show (1 : Int32).toInt = 1 from rfl]; omega), nI_toInt (by omega)]; rfl
      rw [hh.2.1, e_isInL (lo := 0) rfl e1]
      refine br1 (fun hi => ⟨k0, _, r13, k0, _, r11, k11, by rw [l11]; exact hin, ?_⟩) (fun hi => ?_)
      · have hok : plOk v d i := ⟨hd, h2, by omega, by omega⟩
        rw [if_pos hok, if_pos ⟨by omega, by omega⟩] at hQ
        have hix : 100 * d + i = nI (100 * ix d + ix i) := by
          conv => lhs; rw [hdI, p_nat hi.1]
          rw [show (100 : Int32) = nI 100 from rfl, pk_mul, nI_add]; rfl
        have hixl : ix i < 100 := by unfold ix; omega
        rw [hix, nI_clamp (by omega), hh.1]
        have go : ∀ x', x' = narB (v.2.2 (ix d)).2.2.2.1 x → (kd S (a 13) = 8 ∧ vp_in (nI (100 * ix d + ix i)) (ln S (a 13)) ∧ ∀ S12, S12 = sA S (a 13) (100 * ix d + ix i) x' → Q 0 S12) := by
          intro x' hx'
          refine ⟨k13, by rw [l13]; exact vp_in_nI (by omega) (by decide), fun S12 e12 => ?_⟩
          subst e12
          have ne : ∀ j, j < 13 → a j ≠ a 13 := fun j hj => hM.1.ne (by omega) (by decide) (by omega)
          refine hQ _ (hM.shelf (setC_ok hok0 _) rfl rfl rfl rfl (fun j h1 h3 => by rw [gA_sAn _ _ _ (ne j (by omega))]) (fun j h1 h3 k _ => by rw [gA_sAn _ _ _ (ne j (by omega))]) (fun j hj => by rw [gA_sA, upd_n _ _ (by omega)]) ?_)
          unfold MSh
          rw [gA_sAn _ _ _ (ne 8 (by decide)), gA_sAn _ _ _ (ne 9 (by decide)), gA_sAn _ _ _ (ne 10 (by decide)), gA_sAn _ _ _ (ne 11 (by decide)), gA_sAn _ _ _ (ne 12 (by decide)), gA_sA]
          refine ⟨hs.1, hs.2.1, fun _ => ⟨hh.1, hh.2.1, fun j hj => ?_⟩⟩
          show upd (gA S (a 13)) (100 * ix d + ix i) x' (100 * ix d + j) = upd (v.2.2 (ix d)).2.2.2.2.2 (ix i) (narB (v.2.2 (ix d)).2.2.2.1 x) j
          rw [← hx']
          by_cases e : j = ix i
          · rw [e, upd_s, upd_s]
          · rw [upd_n _ _ (by omega), upd_n _ _ e]; exact hh.2.2 j hj
        have s0 : (v.2.2 (ix d)).2.2.2.1 = 0 ↔ (v.2.2 (ix d)).2.2.2.1.toInt = 0 := p_eq _ _
        have s1 : (v.2.2 (ix d)).2.2.2.1 = 1 ↔ (v.2.2 (ix d)).2.2.2.1.toInt = 1 := p_eq _ _
        rw [s0]
        refine ⟨fun e => ⟨k0, _, r11, k11, by rw [l11]; exact hin, ?_⟩, fun e => go _ ?_⟩
        · rw [hh.1, s1]
          exact ⟨fun e2 => go _ (by unfold narB; rw [if_neg e, if_neg e2]), fun e2 => go _ (by unfold narB; rw [if_neg e, if_pos e2])⟩
        · unfold narB; rw [if_pos e]
      · rw [if_neg (fun w => by have := w.2.2.1; have := w.2.2.2; omega), if_neg (by omega)] at hQ; exact hQ S hM
    · rw [if_neg (fun w => h2 w.2.1), if_neg h2] at hQ
      rw [hs.1, h00]
      unfold rwN at hQ
      refine ⟨fun e => ?_, fun e => ?_⟩
      · rw [if_neg e] at hQ; exact hQ S hM
      · rw [if_pos e] at hQ; exact hQ S hM
  · rw [if_neg (fun w => hd w.1), if_neg hd] at hQ; exact hQ S hM
-- judged
def okP (s r : ASh) (t : ASt) (p : Nat) : Bool := decide (isLy t.1 (r.2.2.2.2.2 (2 * p))) && hitQ s t (r.2.2.2.2.2 (2 * p + 1)) (ix (r.2.2.2.2.2 (2 * p)))
def jdg (s r : ASh) (t : ASt) : Int32 := match fsq (fun p => !okP s r t p) (r.2.2.2.2.1 / 2) with
  | some p => nI (2 * p)
  | none => if r.2.2.2.2.1 % 2 = 1 then nI r.2.2.2.2.1 else -4
def sp_judge (v : AS) (d e : Int32) : Int32 := if isSh d then (if isSh e then (if (v.2.2 (ix d)).1 = 1 then (if (v.2.2 (ix e)).1 = 2 then jdg (v.2.2 (ix d)) (v.2.2 (ix e)) v.1 else rwN (v.2.2 (ix e)).1) else scN (v.2.2 (ix d)).1) else -1) else -1
theorem odd2 {n : Nat} (h : n ≤ 100) : (nI n - nI n / 2 * 2 = 1) ↔ n % 2 = 1 := by
  rw [show (2 : Int32) = nI 2 from rfl, pk_rem (by omega) (by decide) (by decide), show (1 : Int32) = nI 1 from rfl, nI_eq (by omega) (by decide)]
theorem jdg_end {s r : ASh} {t : ASt} {p : Nat} (h : ∀ j, j < p → okP s r t j = true) (hp : p = r.2.2.2.2.1 / 2) : jdg s r t = if r.2.2.2.2.1 % 2 = 1 then nI r.2.2.2.2.1 else -4 := by
  unfold jdg
  rw [← hp, fsq_none.mpr (fun j hj => by simp [h j hj])]
theorem jdg_at {s r : ASh} {t : ASt} {p : Nat} (h : ∀ j, j < p → okP s r t j = true) (h2 : okP s r t p = false) (hp : p < r.2.2.2.2.1 / 2) : jdg s r t = nI (2 * p) := by
  unfold jdg
  rw [fsq_at (P := fun p => !okP s r t p) (k := p) (fun j hj => by simp [h j hj]) (by simp [h2]) hp]
theorem x_judge {a : Nat → Nat} {v : AS} {S : Hp} {d e : Int32} {Q : Int32 → Hp → Prop} (hX : XI a v S) (hQ : Q (sp_judge v d e) S) : wp_X5_judge (a 0) d e S Q := by
  have hn := hX.2.1.1
  have h3 := p3_6 hn.1
  unfold sp_judge at hQ
  unfold wp_X5_judge
  rw [e_xSh]
  refine br0 (fun hd => ?_) (fun hd => ?_)
  · rw [if_pos hd] at hQ
    rw [e_xSh]
    refine br1 (fun he => ?_) (fun he => ?_)
    · rw [if_pos he] at hQ
      obtain ⟨i1, i2, i3, i4⟩ := x_in hX.1 hd
      obtain ⟨j1, j2, j3, j4⟩ := x_in hX.1 he
      refine ⟨hX.1.k0, _, hX.1.r56_0, i3, i1, x_scale hX hd (fun h1 hh => ⟨hX.1.k0, x_notHeld hX hd ?_⟩) (fun z h1 hz => ⟨hX.1.k0, _, hX.1.r57_0, j4, j2, x_row hX he (fun h2 => ⟨hX.1.k0, x_notHeld hX he ?_⟩) (fun y c h2 hR hc _ => ⟨hR.1, c, hR.2.2.1, hR.2.2.2.1, ?_⟩)⟩)⟩
      · rw [if_neg h1] at hQ; rw [hh]; exact hQ
      · rw [if_pos h1, if_neg h2] at hQ; exact hQ
      · rw [if_pos h1, if_pos h2] at hQ
        have hle := ((hX.2.1.2.2 (ix e) (isSh_nI he).1).2.2 h2).2.2
        simp only [forall_eq]
        rw [hR.2.2.2.2.1]
        refine it_up ((v.2.2 (ix e)).2.2.2.2.1 / 2) (fun p x => x = (a 0, z, y, nI (v.2.2 (ix e)).2.2.2.2.1, nI (2 * p), S) ∧ ∀ j, j < p → okP (v.2.2 (ix d)) (v.2.2 (ix e)) v.1 j = true) ?_ _ ⟨rfl, fun j hj => absurd hj (Nat.not_lt_zero j)⟩
        rintro C p x hp ⟨rfl, hj⟩ hC
        simp only [L_X5_judge_63, forall_eq]
        rw [nI_1, nI_leI (by omega) (by omega), odd2 hle]
        refine ⟨fun g => ?_, fun g => ⟨hR.1, c, hR.2.2.1, hR.2.2.2.1, by rw [hR.2.2.2.2.1]; exact vp_in_nI (by omega) (by omega), hX.1.k0, _, hX.1.r51_0, hX.1.k4, ?_⟩⟩
        · rw [jdg_end hj (by omega)] at hQ
          exact ⟨fun w => by rw [if_neg w] at hQ; exact hQ, fun w => by rw [if_pos w] at hQ; exact hQ⟩
        · rw [nI_clamp (by omega), hR.2.2.2.2.2 _ (by omega)]
          refine x_isLying hX.1.ly hX.2.2.2.1 hn.1 fun w hw => bz0 hw (fun hl => ⟨hX.1.k0, _, hX.1.r51_0, hR.1, c, hR.2.2.1, hR.2.2.2.1, by rw [hR.2.2.2.2.1]; exact vp_in_nI (by omega) (by omega), hz.1, ?_⟩) (fun hl => ?_)
          · obtain ⟨q1, q2⟩ := isLy_nI hl
            rw [nI_clamp (by omega), hR.2.2.2.2.2 _ (by omega)]
            rw [q2]
            refine x_hits hX.1.ly hX.2.2.2.1 hz hn q1 (br1 (fun hh => hC (by omega) _ ⟨?_, fun j hj' => ?_⟩) (fun hh => ?_))
            · rw [show (2 : Int32) = nI 2 from rfl, nI_add]; rfl
            · by_cases e3 : j = p
              · subst e3; unfold okP; rw [decide_eq_true hl, hh]; rfl
              · exact hj j (by omega)
            · rw [jdg_at hj (by unfold okP; rw [Bool.not_eq_true] at hh; rw [hh, Bool.and_false]) (by omega)] at hQ; exact hQ
          · rw [jdg_at hj (by unfold okP; rw [decide_eq_false hl, Bool.false_and]) (by omega)] at hQ; exact hQ
    · rw [if_neg he] at hQ; exact hQ
  · rw [if_neg hd] at hQ; exact hQ
theorem m_judge {a : Nat → Nat} {v : AS} {S : Hp} {d e : Int32} {Q : Int32 → Hp → Prop} (hM : MI a v S) (hQ : ∀ S', MI a v S' → Q (sp_judge v d e) S') : wp_X6_judge (a 0) d e S Q := by
  have h3 := p3_6 hM.2.1.1.1
  unfold sp_judge at hQ
  unfold wp_X6_judge
  rw [e_mSh]
  refine br0 (fun hd => ?_) (fun hd => ?_)
  · rw [if_pos hd] at hQ
    rw [e_mSh]
    refine br1 (fun he => ⟨hM.1.1, ?_⟩) (fun he => ?_)
    · rw [if_pos he] at hQ
      obtain ⟨h8, hdI⟩ := isSh_nI hd
      obtain ⟨g8, heI⟩ := isSh_nI he
      refine t_noScale hM hd (bz0 (scN_0 (hM.2.1.2.2 _ h8).1) (fun h1 => ⟨hM.1.1, ?_⟩) (fun h1 => ?_))
      · rw [if_neg h1] at hQ
        exact t_noScale hM hd (hQ _ hM)
      · have h1 := Decidable.not_not.mp h1
        rw [if_pos h1] at hQ
        have hin : vp_in e 8 := by rw [heI]; exact vp_in_nI g8 (by decide)
        have hcl : e.toNatClampNeg = ix e := rfl
        have hok0 := hM.2.1.2.2 (ix e) g8
        have h20 : nI (v.2.2 (ix e)).1 = 2 ↔ (v.2.2 (ix e)).1 = 2 := by rw [show (2 : Int32) = nI 2 from rfl, nI_eq (by have := hok0.1; omega) (by decide)]
        have h00 : nI (v.2.2 (ix e)).1 = 0 ↔ (v.2.2 (ix e)).1 = 0 := by rw [show (0 : Int32) = nI 0 from rfl, nI_eq (by have := hok0.1; omega) (by decide)]
        obtain ⟨k0, k1, k2, k3, k4, k5, k6, k7, k8, k9, k10, k11, k12, k13, k14, r1, r2, r3, r4, r5, r6, r7, r8, r9, r10, r11, r12, r13, r14, l1, l2, l3, l4, l5, l6, l7, l8, l9, l10, l11, l12, l13, l14⟩ := hM.1.all
        rw [hcl]
        refine ⟨k0, _, r8, k8, by rw [l8]; exact hin, ?_⟩
        rw [(hM.2.2.2.2.2.2.2 (ix e) g8).1, h20]
        refine ⟨fun h2 => ?_, fun h2 => ⟨k0, _, r8, k8, by rw [l8]; exact hin, ?_⟩⟩
        · rw [if_pos h2] at hQ
          have hle := (hok0.2.2 h2).2.2
          refine it_up ((v.2.2 (ix e)).2.2.2.2.1 / 2) (fun p x => ∃ S', x = (a 0, d, e, nI (2 * p), S') ∧ MI a v S' ∧ ∀ j, j < p → okP (v.2.2 (ix d)) (v.2.2 (ix e)) v.1 j = true) ?_ _ ⟨S, rfl, hM, fun j hj => absurd hj (Nat.not_lt_zero j)⟩
          rintro C p x hp ⟨S', rfl, hM', hj⟩ hC
          obtain ⟨k0, k1, k2, k3, k4, k5, k6, k7, k8, k9, k10, k11, k12, k13, k14, r1, r2, r3, r4, r5, r6, r7, r8, r9, r10, r11, r12, r13, r14, l1, l2, l3, l4, l5, l6, l7, l8, l9, l10, l11, l12, l13, l14⟩ := hM'.1.all
          have hh := (hM'.2.2.2.2.2.2.2 (ix e) g8).2.2 h2
          have hix : 100 * e + nI (2 * p) = nI (100 * ix e + 2 * p) := by
            conv => lhs; rw [heI]
            rw [show (100 : Int32) = nI 100 from rfl, pk_mul, nI_add]
          simp only [L_X6_judge_59, forall_eq]
          rw [hcl]
          refine ⟨k0, _, r12, k12, by rw [l12]; exact hin, ?_⟩
          rw [hh.2.1, hix, nI_1, nI_1, nI_leI (by omega) (by omega)]
          refine ⟨fun g => ⟨k0, _, r12, k12, by rw [l12]; exact hin, ?_⟩, fun g => ⟨k0, _, r13, k13, by rw [l13]; exact vp_in_nI (by omega) (by decide), k0, ?_⟩⟩
          · have h := hQ S' hM'
            rw [jdg_end hj (by omega)] at h
            rw [hh.2.1, odd2 hle]
            exact ⟨fun w => by rw [if_neg w] at h; exact h, fun w => ⟨k0, _, r12, k12, by rw [l12]; exact hin, by rw [if_pos w] at h; rw [hh.2.1]; exact h⟩⟩
          · rw [nI_clamp (by omega), hh.2.2 _ (by omega)]
            refine t_isLying hM' fun w hw _ => bz0 hw (fun hl => ⟨k0, _, r13, k13, by rw [l13]; exact vp_in_nI (by omega) (by decide), k0, ?_⟩) (fun hl => ?_)
            · obtain ⟨q1, q2⟩ := isLy_nI hl
              rw [nI_clamp (by omega), show 100 * ix e + 2 * p + 1 = 100 * ix e + (2 * p + 1) by omega, hh.2.2 _ (by omega)]
              rw [q2]
              refine t_isWeight hM' hd h1 q1 ?_
              intro S'' c _ _
              have hM'' := hM'.sc c
              refine br1 (fun hh => hC (by omega) _ ⟨S'', ?_, hM'', fun j hj' => ?_⟩) (fun hh => ?_)
              · rw [show (2 : Int32) = nI 2 from rfl, nI_add]; rfl
              · by_cases e3 : j = p
                · subst e3; unfold okP; rw [decide_eq_true hl, hh]; rfl
                · exact hj j (by omega)
              · have h := hQ S'' hM''
                rw [jdg_at hj (by unfold okP; rw [Bool.not_eq_true] at hh; rw [hh, Bool.and_false]) (by omega)] at h; exact h
            · have h := hQ S' hM'
              rw [jdg_at hj (by unfold okP; rw [decide_eq_false hl, Bool.false_and]) (by omega)] at h; exact h
        · rw [if_neg h2] at hQ
          rw [(hM.2.2.2.2.2.2.2 (ix e) g8).1, h00]
          unfold rwN at hQ
          refine ⟨fun g => ?_, fun g => ?_⟩
          · rw [if_neg g] at hQ; exact hQ S hM
          · rw [if_pos g] at hQ; exact hQ S hM
    · rw [if_neg he] at hQ; exact hQ S hM
  · rw [if_neg hd] at hQ; exact hQ S hM
