/-! the abstract state, and what the reference holds of it -/
abbrev ASh : Type := Nat × Int32 × Int32 × Int32 × Nat × (Nat → Int32)
abbrev ASt : Type := Nat × (Nat → Int32) × (Nat → Int32)
abbrev AS : Type := ASt × Option ASt × (Nat → ASh)
def StOk (t : ASt) : Prop := t.1 ≤ 6 ∧ (∀ j, j < t.1 → 1 ≤ (t.2.1 j).toInt ∧ (t.2.1 j).toInt ≤ 99) ∧ (∀ j, j < t.1 → 0 ≤ (t.2.2 j).toInt ∧ (t.2.2 j).toInt ≤ 99)
def ShOk (s : ASh) : Prop := s.1 ≤ 2 ∧ (s.1 = 1 → 0 ≤ s.2.1.toInt ∧ s.2.1.toInt ≤ 7 ∧ 0 ≤ s.2.2.1.toInt ∧ s.2.2.1.toInt ≤ 9) ∧ (s.1 = 2 → 0 ≤ s.2.2.2.1.toInt ∧ s.2.2.2.1.toInt ≤ 2 ∧ s.2.2.2.2.1 ≤ 100)
def AOk (v : AS) : Prop := StOk v.1 ∧ (∀ t, v.2.1 = some t → StOk t) ∧ ∀ d, d < 8 → ShOk (v.2.2 d)
abbrev isSh (d : Int32) : Prop := 0 ≤ d.toInt ∧ d.toInt ≤ 7
abbrev isLy (n : Nat) (q : Int32) : Prop := 0 ≤ q.toInt ∧ q.toInt < ((3 ^ n : Nat) : Int)
abbrev isSt (n : Nat) (q : Int32) : Prop := 0 ≤ q.toInt ∧ q.toInt < (n : Int)
def ix (d : Int32) : Nat := d.toInt.toNat
theorem isSh_nI {d : Int32} (h : isSh d) : ix d < 8 ∧ d = nI (ix d) := ⟨by unfold ix; have := h.2; omega, p_nat h.1⟩
theorem isLy_nI {n : Nat} {d : Int32} (h : isLy n d) : ix d < 3 ^ n ∧ d = nI (ix d) := ⟨by unfold ix; have := h.2; have := h.1; omega, p_nat h.1⟩
theorem isSt_nI {n : Nat} {d : Int32} (h : isSt n d) : ix d < n ∧ d = nI (ix d) := ⟨by unfold ix; have := h.2; have := h.1; omega, p_nat h.1⟩
theorem p3_6 {n : Nat} (h : n ≤ 6) : 3 ^ n ≤ 729 := Nat.pow_le_pow_right (n := 3) (by decide) h
theorem p3_pos (n : Nat) : 0 < 3 ^ n := Nat.pow_pos (by decide)
def scN (h : Nat) : Int32 := if h = 0 then -11 else if h = 2 then -12 else 0
def mayB (k : Int32) (rc lc : Nat) : Bool := if k = 1 ∨ k = 6 then decide (lc = 0) else decide (k = 4 → rc ≤ 2)
/-- does a lying hit a weight on a scale; may it be -/
def mayQ (s : ASh) (n q : Nat) : Bool := mayB s.2.1 (rct n q) (lct n q)
def wgQ (s : ASh) (t : ASt) (q : Nat) : Int32 := weig s.2.1 s.2.2.1 (rgt t.2.1 t.1 q) (lft t.2.1 t.1 q)
def hitQ (s : ASh) (t : ASt) (w : Int32) (q : Nat) : Bool := mayQ s t.1 q && decide (wgQ s t q = w)
def mF : Nat → Nat
  | 1 => 71
  | 2 => 72
  | 3 => 75
  | 4 => 76
  | 5 => 83
  | 6 => 86
  | 7 => 87
  | 8 => 94
  | 9 => 95
  | 10 => 96
  | 11 => 97
  | 12 => 98
  | 13 => 99
  | 14 => 100
  | _ => 0
def mL : Nat → Nat
  | 1 => 6
  | 2 => 6
  | 3 => 6
  | 4 => 6
  | 5 => 1001
  | 6 => 3
  | 7 => 6
  | 8 => 8
  | 9 => 8
  | 10 => 8
  | 11 => 8
  | 12 => 8
  | 13 => 800
  | 14 => 100
  | _ => 0
/-- where the reference and its rows lie -/
def MS (a : Nat → Nat) (S : Hp) : Prop := kd S (a 0) = 7 ∧ kd S (a 5) = 9 ∧ (∀ i, i < 15 → i ≠ 0 → i ≠ 5 → kd S (a i) = 8) ∧ (∀ i j, i < 15 → j < 15 → a i = a j → i = j) ∧ (∀ i, i < 15 → i ≠ 0 → gR S (mF i) (a 0) = some (a i)) ∧ (∀ i, i < 15 → i ≠ 0 → ln S (a i) = mL i)
theorem MS.all {a : Nat → Nat} {S : Hp} (h : MS a S) : kd S (a 0) = 7 ∧ kd S (a 1) = 8 ∧ kd S (a 2) = 8 ∧ kd S (a 3) = 8 ∧ kd S (a 4) = 8 ∧ kd S (a 5) = 9 ∧ kd S (a 6) = 8 ∧ kd S (a 7) = 8 ∧ kd S (a 8) = 8 ∧ kd S (a 9) = 8 ∧ kd S (a 10) = 8 ∧ kd S (a 11) = 8 ∧ kd S (a 12) = 8 ∧ kd S (a 13) = 8 ∧ kd S (a 14) = 8 ∧ gR S 71 (a 0) = some (a 1) ∧ gR S 72 (a 0) = some (a 2) ∧ gR S 75 (a 0) = some (a 3) ∧ gR S 76 (a 0) = some (a 4) ∧ gR S 83 (a 0) = some (a 5) ∧ gR S 86 (a 0) = some (a 6) ∧ gR S 87 (a 0) = some (a 7) ∧ gR S 94 (a 0) = some (a 8) ∧ gR S 95 (a 0) = some (a 9) ∧ gR S 96 (a 0) = some (a 10) ∧ gR S 97 (a 0) = some (a 11) ∧ gR S 98 (a 0) = some (a 12) ∧ gR S 99 (a 0) = some (a 13) ∧ gR S 100 (a 0) = some (a 14) ∧ ln S (a 1) = 6 ∧ ln S (a 2) = 6 ∧ ln S (a 3) = 6 ∧ ln S (a 4) = 6 ∧ ln S (a 5) = 1001 ∧ ln S (a 6) = 3 ∧ ln S (a 7) = 6 ∧ ln S (a 8) = 8 ∧ ln S (a 9) = 8 ∧ ln S (a 10) = 8 ∧ ln S (a 11) = 8 ∧ ln S (a 12) = 8 ∧ ln S (a 13) = 800 ∧ ln S (a 14) = 100 := ⟨h.1, h.2.2.1 1 (by decide) (by decide) (by decide), h.2.2.1 2 (by decide) (by decide) (by decide), h.2.2.1 3 (by decide) (by decide) (by decide), h.2.2.1 4 (by decide) (by decide) (by decide), h.2.1, h.2.2.1 6 (by decide) (by decide) (by decide), h.2.2.1 7 (by decide) (by decide) (by decide), h.2.2.1 8 (by decide) (by decide) (by decide), h.2.2.1 9 (by decide) (by decide) (by decide), h.2.2.1 10 (by decide) (by decide) (by decide), h.2.2.1 11 (by decide) (by decide) (by decide), h.2.2.1 12 (by decide) (by decide) (by decide), h.2.2.1 13 (by decide) (by decide) (by decide), h.2.2.1 14 (by decide) (by decide) (by decide), h.2.2.2.2.1 1 (by decide) (by decide), h.2.2.2.2.1 2 (by decide) (by decide), h.2.2.2.2.1 3 (by decide) (by decide), h.2.2.2.2.1 4 (by decide) (by decide), h.2.2.2.2.1 5 (by decide) (by decide), h.2.2.2.2.1 6 (by decide) (by decide), h.2.2.2.2.1 7 (by decide) (by decide), h.2.2.2.2.1 8 (by decide) (by decide), h.2.2.2.2.1 9 (by decide) (by decide), h.2.2.2.2.1 10 (by decide) (by decide), h.2.2.2.2.1 11 (by decide) (by decide), h.2.2.2.2.1 12 (by decide) (by decide), h.2.2.2.2.1 13 (by decide) (by decide), h.2.2.2.2.1 14 (by decide) (by decide), h.2.2.2.2.2 1 (by decide) (by decide), h.2.2.2.2.2 2 (by decide) (by decide), h.2.2.2.2.2 3 (by decide) (by decide), h.2.2.2.2.2 4 (by decide) (by decide), h.2.2.2.2.2 5 (by decide) (by decide), h.2.2.2.2.2 6 (by decide) (by decide), h.2.2.2.2.2 7 (by decide) (by decide), h.2.2.2.2.2 8 (by decide) (by decide), h.2.2.2.2.2 9 (by decide) (by decide), h.2.2.2.2.2 10 (by decide) (by decide), h.2.2.2.2.2 11 (by decide) (by decide), h.2.2.2.2.2 12 (by decide) (by decide), h.2.2.2.2.2 13 (by decide) (by decide), h.2.2.2.2.2 14 (by decide) (by decide)⟩
theorem MS.ne {a : Nat → Nat} {S : Hp} (h : MS a S) {i j : Nat} (hi : i < 15) (hj : j < 15) (n : i ≠ j) : a i ≠ a j := fun z => n (h.2.2.2.1 i j hi hj z)
def MSh (a : Nat → Nat) (S : Hp) (d : Nat) (s : ASh) : Prop := gA S (a 8) d = nI s.1 ∧ (s.1 = 1 → gA S (a 9) d = s.2.1 ∧ gA S (a 10) d = s.2.2.1) ∧ (s.1 = 2 → gA S (a 11) d = s.2.2.2.1 ∧ gA S (a 12) d = nI s.2.2.2.2.1 ∧ ∀ j, j < s.2.2.2.2.1 → gA S (a 13) (100 * d + j) = s.2.2.2.2.2 j)
def MD (a : Nat → Nat) (v : AS) (S : Hp) : Prop := gI S 70 (a 0) = nI v.1.1 ∧ (∀ j, j < v.1.1 → gA S (a 1) j = v.1.2.1 j) ∧ (∀ j, j < v.1.1 → gA S (a 2) j = v.1.2.2 j) ∧ (v.2.1 = none → gI S 73 (a 0) = 0) ∧ (∀ t, v.2.1 = some t → gI S 73 (a 0) = 1 ∧ gI S 74 (a 0) = nI t.1 ∧ (∀ j, j < t.1 → gA S (a 3) j = t.2.1 j) ∧ (∀ j, j < t.1 → gA S (a 4) j = t.2.2 j)) ∧ ∀ d, d < 8 → MSh a S d (v.2.2 d)
/-- how many stones, what shelves hold: all that the reference's rows ask of the state -/
def MOk (v : AS) : Prop := (v.1.1 ≤ 6 ∧ True) ∧ (∀ t, v.2.1 = some t → t.1 ≤ 6 ∧ True) ∧ ∀ d, d < 8 → ShOk (v.2.2 d)
theorem AOk.m {v : AS} (h : AOk v) : MOk v := ⟨⟨h.1.1, trivial⟩, fun t ht => ⟨(h.2.1 t ht).1, trivial⟩, h.2.2⟩
def MI (a : Nat → Nat) (v : AS) (S : Hp) : Prop := MS a S ∧ MOk v ∧ MD a v S
theorem MS.sc {a : Nat → Nat} {S S' : Hp} (h : MS a S) (c : SC S S') : MS a S' := by
  unfold MS at h ⊢
  rw [c.k, c.r, c.l]
  exact h
theorem MI.sc {a : Nat → Nat} {v : AS} {S S' : Hp} (h : MI a v S) (c : SC S S') : MI a v S' := by
  refine ⟨h.1.sc c, h.2.1, ?_⟩
  have hd := h.2.2
  unfold MD MSh at hd ⊢
  rw [c.a, c.2.2 70 _ (by omega), c.2.2 73 _ (by omega), c.2.2 74 _ (by omega)]
  exact hd
-- reading by shelves
theorem e_mSh (d : Int32) (S : Hp) (Q : Int32 → Hp → Prop) : wp_X6_isShelf d S Q ↔ Q (b2 (0 ≤ d.toInt ∧ d.toInt ≤ 7)) S := by
  simp only [wp_X6_isShelf, e_isIn, b2_nar, true_and, show (0 : Int32).toInt = 0 from rfl, show ((8 : Int32) - (1 : Int32)).toInt = 7 from rfl, show (7 : Int32).toInt = 7 from rfl]
theorem e_readBy (k f r l : Int32) (S : Hp) (Q : Int32 → Hp → Prop) : wp_X6_readBy k f r l S Q ↔ Q (weig k f r l) S := by
  unfold wp_X6_readBy weig
  by_cases h2 : k.toInt = 2
  · simp [h2]
  by_cases h3 : k.toInt = 3
  · simp [h3]
  by_cases h4 : k.toInt = 4
  · simp [h4]
  by_cases h5 : k.toInt = 5
  · simp [h5]
  by_cases h6 : k.toInt = 6
  · simp [h6]
  by_cases h7 : k.toInt = 7
  · by_cases hl : l ≤ 0
    · simp [h7, hl]
    · simp [h7, hl]
  simp only [h2, h3, h4, h5, h6, h7, if_false, false_implies, true_and]
  exact ⟨fun h => h (by omega), fun h _ => h⟩
theorem t_mayBe {m : Nat} {k : Int32} {rc lc : Nat} {S : Hp} {Q : Int32 → Hp → Prop} (h0 : kd S m = 7) (h79 : gI S 79 m = nI rc) (h80 : gI S 80 m = nI lc) (hr : rc ≤ 6) (hl : lc ≤ 6) (h : Q (b2 (mayB k rc lc = true)) S) : wp_X6_mayBe m k S Q := by
  have h800 : (gI S 80 m = 0) ↔ lc = 0 := by rw [h80, show (0 : Int32) = nI 0 from rfl, nI_eq (by omega) (by omega)]
  have h792 : ((2 : Int32) < gI S 79 m) ↔ 2 < rc := by rw [h79, show (2 : Int32) = nI 2 from rfl, nI_ltI (by omega) (by omega)]
  simp only [wp_X6_mayBe, J_X6_mayBe_11, h0, true_and, h800, h792]
  unfold mayB b2 at h
  by_cases k1 : k = 1
  · subst k1
    by_cases hz : lc = 0 <;> simp [hz] at h ⊢ <;> exact h
  · by_cases k6 : k = 6
    · subst k6
      by_cases hz : lc = 0 <;> simp [hz] at h ⊢ <;> exact h
    · by_cases k4 : k = 4
      · subst k4
        by_cases hz : 2 < rc
        · simp [hz, Nat.not_le.mpr hz] at h ⊢; exact h
        · simp [hz, Nat.not_lt.mp hz] at h ⊢; exact h
      · simp [k1, k6, k4] at h ⊢; exact h
theorem t_noScale {a : Nat → Nat} {v : AS} {S : Hp} {Q : Int32 → Hp → Prop} (hM : MI a v S) {d : Int32} (hd : isSh d) (h : Q (scN (v.2.2 (ix d)).1) S) : wp_X6_noScale (a 0) d S Q := by
  obtain ⟨k0, k1, k2, k3, k4, k5, k6, k7, k8, k9, k10, k11, k12, k13, k14, r1, r2, r3, r4, r5, r6, r7, r8, r9, r10, r11, r12, r13, r14, l1, l2, l3, l4, l5, l6, l7, l8, l9, l10, l11, l12, l13, l14⟩ := hM.1.all
  obtain ⟨h8, hdI⟩ := isSh_nI hd
  have hs := (hM.2.2.2.2.2.2.2 (ix d) h8).1
  have hle := (hM.2.1.2.2 (ix d) h8).1
  have hin : vp_in d 8 := by rw [hdI]; exact vp_in_nI h8 (by decide)
  have hcl : d.toNatClampNeg = ix d := rfl
  generalize (v.2.2 (ix d)).1 = x at hs hle h
  simp only [wp_X6_noScale, k0, r8, k8, l8, hin, hcl, hs, true_and, Option.some.injEq, exists_eq_left']
  unfold scN at h
  rcases (by omega : x = 0 ∨ x = 1 ∨ x = 2) with rfl | rfl | rfl
  · simp [show nI 0 = 0 from rfl] at h ⊢; exact h
  · simp [show nI 1 = 1 from rfl] at h ⊢; exact h
  · simp [show nI 2 = 2 from rfl] at h ⊢; exact h
theorem t_isLying {a : Nat → Nat} {v : AS} {S : Hp} {Q : Int32 → Hp → Prop} (hM : MI a v S) {q : Int32} (h : ∀ z, (z = 0 ↔ ¬ isLy v.1.1 q) → narrow .boolean (.int z) = .int z → Q z S) : wp_X6_isLying (a 0) q S Q := by
  have hn := hM.2.1.1.1
  have h3 := p3_6 hn
  have h3p := p3_pos v.1.1
  unfold wp_X6_isLying
  refine ⟨hM.1.1, ?_⟩
  rw [hM.2.2.1]
  refine t_power (by omega) ?_
  rw [e_isIn]
  have e1 : (nI (3 ^ v.1.1) - (1 : Int32)).toInt = ((3 ^ v.1.1 : Nat) : Int) - 1 := by
    rw [nI_sub1 h3p, nI_toInt (by omega)]; omega
  rw [e1]
  refine ⟨b2_nar _, h _ ?_ (b2_nar _)⟩
  rw [b2_0]
  unfold isLy
  rw [show (0 : Int32).toInt = 0 from rfl]
  omega
theorem t_mlook {a : Nat → Nat} {v : AS} {S : Hp} {Q : Hp → Prop} (hM : MI a v S) {q : Nat} (hq : q < 3 ^ v.1.1) (hQ : ∀ S', SC S S' → gI S' 77 (a 0) = rgt v.1.2.1 v.1.1 q → gI S' 78 (a 0) = lft v.1.2.1 v.1.1 q → gI S' 79 (a 0) = nI (rct v.1.1 q) → gI S' 80 (a 0) = nI (lct v.1.1 q) → gI S' 81 (a 0) = prs v.1.2.2 v.1.1 q → gI S' 82 (a 0) = nI (usd v.1.1 q) → Q S') : wp_X6_look (a 0) (nI q) S Q := by
  obtain ⟨k0, k1, k2, k3, k4, k5, k6, k7, k8, k9, k10, k11, k12, k13, k14, r1, r2, r3, r4, r5, r6, r7, r8, r9, r10, r11, r12, r13, r14, l1, l2, l3, l4, l5, l6, l7, l8, l9, l10, l11, l12, l13, l14⟩ := hM.1.all
  have := p3_6 hM.2.1.1.1
  exact t_look k0 hM.2.2.1 hM.2.1.1.1 r1 r2 k1 k2 l1 l2 hM.2.2.2.1 hM.2.2.2.2.1 (by omega) hQ
theorem t_isWeight {a : Nat → Nat} {v : AS} {S : Hp} {Q : Int32 → Hp → Prop} (hM : MI a v S) {d : Int32} (hd : isSh d) (h1 : (v.2.2 (ix d)).1 = 1) {q : Nat} (hq : q < 3 ^ v.1.1) {w : Int32} (hQ : ∀ S', SC S S' → gI S' 79 (a 0) = nI (rct v.1.1 q) → gI S' 80 (a 0) = nI (lct v.1.1 q) → Q (b2 (hitQ (v.2.2 (ix d)) v.1 w q = true)) S') : wp_X6_isWeight (a 0) d (nI q) w S Q := by
  obtain ⟨k0, k1, k2, k3, k4, k5, k6, k7, k8, k9, k10, k11, k12, k13, k14, r1, r2, r3, r4, r5, r6, r7, r8, r9, r10, r11, r12, r13, r14, l1, l2, l3, l4, l5, l6, l7, l8, l9, l10, l11, l12, l13, l14⟩ := hM.1.all
  obtain ⟨h8, hdI⟩ := isSh_nI hd
  have hs := (hM.2.2.2.2.2.2.2 (ix d) h8).2.1 h1
  have hin : vp_in d 8 := by rw [hdI]; exact vp_in_nI h8 (by decide)
  have hcl : d.toNatClampNeg = ix d := rfl
  unfold wp_X6_isWeight
  refine ⟨k0, t_mlook hM hq ?_⟩
  intro S' c g77 g78 g79 g80 g81 g82
  simp only [c.k, c.r, c.l, c.a, k0, r9, k9, l9, r10, k10, l10, hin, hcl, hs.1, hs.2, true_and, Option.some.injEq, exists_eq_left', g77, g78, e_readBy]
  have hn := hM.2.1.1.1
  refine t_mayBe (by rw [c.k]; exact k0) g79 g80 (Nat.le_trans (rct_le _ _) hn) (Nat.le_trans (lct_le _ _) hn) ?_
  rw [b2_0]
  simp only [c.k, c.r, c.l, c.a, k0, r9, k9, l9, r10, k10, l10, hin, hcl, hs.1, hs.2, true_and, Option.some.injEq, exists_eq_left', g77, g78, e_readBy]
  have hh := hQ S' c g79 g80
  unfold hitQ mayQ wgQ at hh
  by_cases hm : mayB (v.2.2 (ix d)).2.1 (rct v.1.1 q) (lct v.1.1 q) = true
  · by_cases hw : weig (v.2.2 (ix d)).2.1 (v.2.2 (ix d)).2.2.1 (rgt v.1.2.1 v.1.1 q) (lft v.1.2.1 v.1.1 q) = w
    · simp [hm, hw, b2] at hh ⊢; exact hh
    · simp [hm, hw, b2] at hh ⊢; exact hh
  · simp [hm, b2] at hh ⊢; exact hh
