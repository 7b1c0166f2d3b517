/-! the class's calls of stones and scales -/
def XSh (a : Nat → Nat) (S : Hp) (d : Nat) (s : ASh) : Prop := (s.1 = 0 → gQ S (a 20) d = none ∧ gQ S (a 21) d = none) ∧ (s.1 = 1 → (∃ z, gQ S (a 20) d = some z ∧ ScS S z s) ∧ gQ S (a 21) d = none) ∧ (s.1 = 2 → gQ S (a 20) d = none ∧ ∃ z c, gQ S (a 21) d = some z ∧ kd S z = 2 ∧ gI S 10 z = s.2.2.2.1 ∧ gR S 11 z = some c ∧ kd S c = 8 ∧ ln S c = s.2.2.2.2.1 ∧ (∀ j, j < s.2.2.2.2.1 → gA S c j = s.2.2.2.2.2 j) ∧ ∀ i, i < 30 → c ≠ a i)
/-- the lying with all stones off, of the stones to be thought of -/
def XZ (a : Nat → Nat) (S : Hp) : Prop := gA S (a 16) 0 = 0 ∧ gA S (a 17) 0 = 0 ∧ gA S (a 18) 0 = 0 ∧ gA S (a 19) 0 = 0
def XSep (a : Nat → Nat) (S : Hp) : Prop := (∀ d e, d < 8 → e < 8 → d ≠ e → ∀ z z' c c', gQ S (a 21) d = some z → gQ S (a 21) e = some z' → gR S 11 z = some c → gR S 11 z' = some c' → c ≠ c') ∧ XZ a S
def XD (a : Nat → Nat) (v : AS) (S : Hp) : Prop := StR S (a 1) (a 2) (a 3) v.1 ∧ LyD S (a 4) (a 5) (a 6) (a 7) (a 8) v.1 ∧ (v.2.1 = none → gI S 53 (a 0) = 0) ∧ (∀ t, v.2.1 = some t → gI S 53 (a 0) = 1 ∧ StR S (a 9) (a 10) (a 11) t) ∧ (∀ d, d < 8 → XSh a S d (v.2.2 d)) ∧ XSep a S
def XI (a : Nat → Nat) (v : AS) (S : Hp) : Prop := XS a S ∧ AOk v ∧ XD a v S
theorem XS.ly {a : Nat → Nat} {S : Hp} (h : XS a S) : LyS S (a 4) (a 5) (a 6) (a 7) (a 8) := ⟨h.k4, h.r0_4, h.r1_4, h.r2_4, h.r3_4, h.k5, h.k6, h.k7, h.k8, h.l5, h.l6, h.l7, h.l8, h.ne (by decide) (by decide) (by decide), h.ne (by decide) (by decide) (by decide), h.ne (by decide) (by decide) (by decide), h.ne (by decide) (by decide) (by decide), h.ne (by decide) (by decide) (by decide), h.ne (by decide) (by decide) (by decide)⟩
theorem e_xSh (d : Int32) (S : Hp) (Q : Int32 → Hp → Prop) : wp_X5_isShelf d S Q ↔ Q (b2 (0 ≤ d.toInt ∧ d.toInt ≤ 7)) S := by
  unfold wp_X5_isShelf
  rw [p_lt, p_le, show (0 : Int32).toInt = 0 from rfl, show (8 : Int32).toInt = 8 from rfl]
  by_cases h1 : d.toInt < 0
  · rw [b2_f (by omega)]; simp [h1]
  · by_cases h2 : 8 ≤ d.toInt
    · rw [b2_f (by omega)]; simp [h1, h2]
    · rw [b2_t (by omega)]; simp [h1, h2]
theorem e_xNum (w : Int32) (S : Hp) (Q : Int32 → Hp → Prop) : wp_X5_isNumber w S Q ↔ Q (b2 (-9999 ≤ w.toInt ∧ w.toInt ≤ 9999)) S := by
  unfold wp_X5_isNumber
  rw [p_lt, p_lt, show (-9999 : Int32).toInt = -9999 from rfl, show (9999 : Int32).toInt = 9999 from rfl]
  by_cases h1 : w.toInt < -9999
  · rw [b2_f (by omega)]; simp [h1]
  · by_cases h2 : 9999 < w.toInt
    · rw [b2_f (by omega)]; simp [h1, h2]
    · rw [b2_t (by omega)]; simp [h1, h2]
theorem x_notHeld {a : Nat → Nat} {v : AS} {S : Hp} {d : Int32} {Q : Int32 → Hp → Prop} (hX : XI a v S) (hd : isSh d) (h : Q (if (v.2.2 (ix d)).1 = 0 then -11 else -12) S) : wp_X5_notHeld (a 0) d S Q := by
  obtain ⟨h8, hdI⟩ := isSh_nI hd
  have hin : vp_in d 8 := by rw [hdI]; exact vp_in_nI h8 (by decide)
  have hcl : d.toNatClampNeg = ix d := rfl
  have hs := hX.2.2.2.2.2.2.1 (ix d) h8
  have hle := (hX.2.1.2.2 (ix d) h8).1
  have hk0 := hX.1.k0
  simp only [wp_X5_notHeld, wp_X5_holdsNothing, hX.1.k0, hX.1.r56_0, hX.1.r57_0, hX.1.k20, hX.1.k21, hX.1.l20, hX.1.l21, hin, hcl, true_and, Option.some.injEq, exists_eq_left', or_true, true_or]
  unfold XSh at hs
  rcases (by omega : (v.2.2 (ix d)).1 = 0 ∨ (v.2.2 (ix d)).1 = 1 ∨ (v.2.2 (ix d)).1 = 2) with e | e | e
  · rw [if_pos e] at h
    obtain ⟨e1, e2⟩ := hs.1 e
    simp [e1, e2]; exact h
  · rw [if_neg (by omega)] at h
    obtain ⟨⟨z, e1, -⟩, e2⟩ := hs.2.1 e
    simp [e1, e2]; exact h
  · rw [if_neg (by omega)] at h
    obtain ⟨e1, z, c, e2, -⟩ := hs.2.2 e
    simp [e1, e2]; exact h
theorem x_scale {a : Nat → Nat} {v : AS} {S : Hp} {d : Int32} (hX : XI a v S) (hd : isSh d) {A : Prop} {B : Nat → Prop} (h1 : (v.2.2 (ix d)).1 ≠ 1 → (if (v.2.2 (ix d)).1 = 0 then (-11 : Int32) else -12) = scN (v.2.2 (ix d)).1 → A) (h2 : ∀ z, (v.2.2 (ix d)).1 = 1 → ScS S z (v.2.2 (ix d)) → B z) : (gQ S (a 20) d.toNatClampNeg = none → A) ∧ (∀ r, gQ S (a 20) d.toNatClampNeg = some r → B r) := by
  obtain ⟨h8, hdI⟩ := isSh_nI hd
  have hcl : d.toNatClampNeg = ix d := rfl
  have hs := hX.2.2.2.2.2.2.1 (ix d) h8
  have hle := (hX.2.1.2.2 (ix d) h8).1
  unfold XSh at hs
  rw [hcl]
  rcases (by omega : (v.2.2 (ix d)).1 = 0 ∨ (v.2.2 (ix d)).1 = 1 ∨ (v.2.2 (ix d)).1 = 2) with e | e | e
  · obtain ⟨e1, e2⟩ := hs.1 e
    exact ⟨fun _ => h1 (by omega) (by rw [e]; rfl), fun r hr => by rw [e1] at hr; cases hr⟩
  · obtain ⟨⟨z, e1, e3⟩, e2⟩ := hs.2.1 e
    refine ⟨fun hr => (by rw [e1] at hr; cases hr), fun r hr => ?_⟩
    rw [e1] at hr
    cases hr
    exact h2 _ e e3
  · obtain ⟨e1, z, c, e2, -⟩ := hs.2.2 e
    exact ⟨fun _ => h1 (by omega) (by rw [e]; rfl), fun r hr => by rw [e1] at hr; cases hr⟩
/-- what leads to the scale on a shelf -/
theorem x_in {a : Nat → Nat} {S : Hp} {d : Int32} (hX : XS a S) (hd : isSh d) : vp_in d (ln S (a 20)) ∧ vp_in d (ln S (a 21)) ∧ (kd S (a 20) = 10 ∨ kd S (a 20) = 11) ∧ (kd S (a 21) = 10 ∨ kd S (a 21) = 11) := by
  obtain ⟨h8, hdI⟩ := isSh_nI hd
  have hin : vp_in d 8 := by rw [hdI]; exact vp_in_nI h8 (by decide)
  rw [hX.l20, hX.l21]
  exact ⟨hin, hin, Or.inr hX.k20, Or.inl hX.k21⟩
theorem x_may {a : Nat → Nat} {v : AS} {S : Hp} {d q : Int32} {Q : Int32 → Hp → Prop} (hX : XI a v S) (hQ : Q (sp_may v d q) S) : wp_X5_may (a 0) d q S Q := by
  have hn := hX.2.1.1
  unfold sp_may onSc at hQ
  unfold wp_X5_may
  rw [e_xSh]
  refine br0 (fun hd => ⟨hX.1.k0, _, hX.1.r51_0, hX.1.k4, ?_⟩) (fun hd => ?_)
  · rw [if_pos hd] at hQ
    obtain ⟨i1, i2, i3, i4⟩ := x_in hX.1 hd
    refine x_isLying hX.1.ly hX.2.2.2.1 hn.1 fun z hz => bz1 hz (fun hq => ⟨hX.1.k0, _, hX.1.r56_0, i3, i1, x_scale hX hd (fun h1 he => ⟨hX.1.k0, x_notHeld hX hd ?_⟩) (fun z h1 hz => ⟨hX.1.k0, _, hX.1.r51_0, hz.1, ?_⟩)⟩) (fun hq => ?_)
    · rw [if_pos hq, if_pos h1] at hQ; rw [he]; exact hQ
    · rw [if_pos hq, if_neg (by omega)] at hQ
      obtain ⟨hq3, hqI⟩ := isLy_nI hq
      rw [hqI]
      refine x_allows hX.1.ly hX.2.2.2.1 hz hn.1 hq3 (br0 (fun hm => ?_) (fun hm => ?_))
      · rw [b2_t hm] at hQ; exact hQ
      · rw [b2_f hm] at hQ; exact hQ
    · rw [if_neg hq] at hQ; exact hQ
  · rw [if_neg hd] at hQ; exact hQ
theorem x_weighs {a : Nat → Nat} {v : AS} {S : Hp} {d q : Int32} {Q : Int32 → Hp → Prop} (hX : XI a v S) (hQ : Q (sp_weighs v d q) S) : wp_X5_weighs (a 0) d q S Q := by
  have hn := hX.2.1.1
  unfold sp_weighs at hQ
  unfold wp_X5_weighs
  rw [e_xSh]
  refine br0 (fun hd => ⟨hX.1.k0, _, hX.1.r51_0, hX.1.k4, ?_⟩) (fun hd => ?_)
  · rw [if_pos hd] at hQ
    obtain ⟨i1, i2, i3, i4⟩ := x_in hX.1 hd
    refine x_isLying hX.1.ly hX.2.2.2.1 hn.1 fun z hz => bz1 hz (fun hq => ⟨hX.1.k0, _, hX.1.r56_0, i3, i1, x_scale hX hd (fun h1 he => ⟨hX.1.k0, x_notHeld hX hd ?_⟩) (fun z h1 hz => ⟨hX.1.k0, _, hX.1.r51_0, hz.1, ?_⟩)⟩) (fun hq => ?_)
    · rw [if_pos hq, if_pos h1] at hQ; rw [he]
      have hle := (hX.2.1.2.2 (ix d) (isSh_nI hd).1).1
      generalize (v.2.2 (ix d)).1 = x at hQ hle
      rw [show (-1000000000 : Int32) + scN x = scN x - 1000000000 by rcases (by omega : x = 0 ∨ x = 1 ∨ x = 2) with rfl | rfl | rfl <;> decide]
      exact hQ
    · rw [if_pos hq, if_neg (by omega)] at hQ
      obtain ⟨hq3, hqI⟩ := isLy_nI hq
      rw [hqI]
      refine x_allows hX.1.ly hX.2.2.2.1 hz hn.1 hq3 (br0 (fun hm => ⟨hX.1.k0, _, hX.1.r51_0, hz.1, x_weightOf hX.1.ly hX.2.2.2.1 hz hn hq3 ?_⟩) (fun hm => ?_))
      · rw [if_pos hm] at hQ; exact hQ
      · rw [if_neg hm] at hQ; exact hQ
    · rw [if_neg hq] at hQ; exact hQ
  · rw [if_neg hd] at hQ; exact hQ
theorem x_isStone {S : Hp} {c w p : Nat} {t : ASt} {q : Int32} {Q : Int32 → Hp → Prop} (hk : kd S c = 5) (hD : StR S c w p t) (hn : t.1 ≤ 6) (h : ∀ z, (z = 0 ↔ ¬ isSt t.1 q) → Q z S) : wp_X4_isStone c q S Q := by
  unfold wp_X4_isStone
  rw [hD.1, p_lt, p_le, nI_toInt (by omega), show (0 : Int32).toInt = 0 from rfl]
  refine ⟨fun z => h 0 ?_, fun z => ⟨hk, fun z2 => h 0 ?_, fun z2 => h 1 ?_⟩⟩
  · unfold isSt; exact ⟨fun _ w => by omega, fun _ => rfl⟩
  · unfold isSt; exact ⟨fun _ w => by omega, fun _ => rfl⟩
  · unfold isSt
    exact ⟨fun w => absurd w (by decide), fun w => absurd ⟨by omega, by omega⟩ w⟩
theorem x_stone {a : Nat → Nat} {v : AS} {S : Hp} {q w : Int32} {Q : Int32 → Hp → Prop} (hX : XI a v S) (hQ : Q (sp_stone v q w) S) : wp_X5_stone (a 0) q w S Q := by
  have hn := hX.2.1.1.1
  unfold sp_stone at hQ
  unfold wp_X5_stone
  refine ⟨hX.1.k0, _, hX.1.r50_0, hX.1.k1, x_isStone hX.1.k1 hX.2.2.1 hn fun z hz => bz0 hz (fun hq => ?_) (fun hq => ?_)⟩
  · rw [if_pos hq] at hQ
    obtain ⟨hq3, hqI⟩ := isSt_nI hq
    have hin : vp_in q 6 := by rw [hqI]; exact vp_in_nI (by omega) (by decide)
    have hcl : q.toNatClampNeg = ix q := rfl
    rw [p_lt, p_le, show (0 : Int32).toInt = 0 from rfl, show (1 : Int32).toInt = 1 from rfl]
    simp only [hX.1.k0, hX.1.r50_0, hX.1.k1, hX.1.r40_1, hX.1.r41_1, hX.1.k2, hX.1.k3, hX.1.l2, hX.1.l3, hin, hcl, hX.2.2.1.2.1 _ hq3, hX.2.2.1.2.2 _ hq3, true_and, Option.some.injEq, exists_eq_left']
    refine ⟨fun h1 => ?_, fun h1 => ⟨fun h2 => ⟨fun h3 => ?_, fun h3 => ?_⟩, fun h2 => ?_⟩⟩
    · rw [if_neg (by omega)] at hQ; exact hQ
    · rw [if_pos (by omega), if_neg h3] at hQ; exact hQ
    · rw [if_pos (by omega), if_pos h3] at hQ; exact hQ
    · rw [if_neg (by omega)] at hQ; exact hQ
  · rw [if_neg hq] at hQ; exact hQ
theorem x_ways {a : Nat → Nat} {v : AS} {S : Hp} {d w : Int32} {Q : Int32 → Hp → Prop} (hX : XI a v S) (hQ : Q (sp_ways v d w) S) : wp_X5_ways (a 0) d w S Q := by
  have hn := hX.2.1.1
  have h3 := p3_6 hn.1
  unfold sp_ways onSc at hQ
  unfold wp_X5_ways
  rw [e_xSh]
  refine br0 (fun hd => ?_) (fun hd => ?_)
  · rw [if_pos hd] at hQ
    obtain ⟨i1, i2, i3, i4⟩ := x_in hX.1 hd
    rw [e_xNum]
    refine br1 (fun hw => ⟨hX.1.k0, _, hX.1.r56_0, i3, i1, x_scale hX hd (fun h1 he => ⟨hX.1.k0, x_notHeld hX hd ?_⟩) (fun z h1 hz => ?_)⟩) (fun hw => ?_)
    · rw [if_pos hw, if_pos h1] at hQ; rw [he]; exact hQ
    · rw [if_pos hw, if_neg (by omega)] at hQ
      refine it_up (3 ^ v.1.1) (fun k x => x = (a 0, w, z, nI (cnt (hitQ (v.2.2 (ix d)) v.1 w) k), nI k, S)) ?_ _ rfl
      rintro C k x hk rfl hC
      simp only [L_X5_ways_39]
      refine ⟨hX.1.k0, _, hX.1.r51_0, hX.1.k4, ?_⟩
      rw [hX.2.2.2.1.1, nI_leI (by omega) (by omega)]
      refine ⟨fun hc => ?_, fun hc => ⟨hX.1.k0, _, hX.1.r51_0, hz.1, x_hits hX.1.ly hX.2.2.2.1 hz hn (by omega) ?_⟩⟩
      · rw [show k = 3 ^ v.1.1 by omega]; exact hQ
      · have hstep := hC (by omega)
        simp only [J_X5_ways_68, forall_eq]
        refine br0 (fun y => ?_) (fun y => ?_)
        · refine hstep _ ?_
          rw [nI_1, nI_1, cnt, if_pos y]
        · refine hstep _ ?_
          rw [nI_1, cnt, if_neg y]
          rfl
    · rw [if_neg hw] at hQ; exact hQ
  · rw [if_neg hd] at hQ; exact hQ
theorem x_first {a : Nat → Nat} {v : AS} {S : Hp} {d w : Int32} {Q : Int32 → Hp → Prop} (hX : XI a v S) (hQ : Q (sp_first v d w) S) : wp_X5_first (a 0) d w S Q := by
  have hn := hX.2.1.1
  have h3 := p3_6 hn.1
  unfold sp_first onSc at hQ
  unfold wp_X5_first
  rw [e_xSh]
  refine br0 (fun hd => ?_) (fun hd => ?_)
  · rw [if_pos hd] at hQ
    obtain ⟨i1, i2, i3, i4⟩ := x_in hX.1 hd
    rw [e_xNum]
    refine br1 (fun hw => ⟨hX.1.k0, _, hX.1.r56_0, i3, i1, x_scale hX hd (fun h1 he => ⟨hX.1.k0, x_notHeld hX hd ?_⟩) (fun z h1 hz => ?_)⟩) (fun hw => ?_)
    · rw [if_pos hw, if_pos h1] at hQ; rw [he]; exact hQ
    · rw [if_pos hw, if_neg (by omega)] at hQ
      refine it_up (3 ^ v.1.1) (fun k x => x = (a 0, w, z, nI k, S) ∧ fsq (hitQ (v.2.2 (ix d)) v.1 w) k = none) ?_ _ ⟨rfl, rfl⟩
      rintro C k x hk ⟨rfl, hf⟩ hC
      simp only [L_X5_first_36]
      refine ⟨hX.1.k0, _, hX.1.r51_0, hX.1.k4, ?_⟩
      rw [hX.2.2.2.1.1, nI_leI (by omega) (by omega)]
      refine ⟨fun hc => ?_, fun hc => ⟨hX.1.k0, _, hX.1.r51_0, hz.1, x_hits hX.1.ly hX.2.2.2.1 hz hn (by omega) ?_⟩⟩
      · rw [show 3 ^ v.1.1 = k by omega, hf] at hQ; exact hQ
      · have hstep := hC (by omega)
        simp only [forall_eq]
        refine br0 (fun y => ?_) (fun y => ?_)
        · rw [fsq_up (k := k + 1) (q := k) _ (by omega) (by unfold fsq; rw [hf]; exact if_pos y)] at hQ
          exact hQ
        · exact hstep _ ⟨by rw [nI_1], by unfold fsq; rw [hf]; exact if_neg y⟩
    · rw [if_neg hw] at hQ; exact hQ
  · rw [if_neg hd] at hQ; exact hQ
