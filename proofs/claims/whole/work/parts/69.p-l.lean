/-! stones known by what they weighed -/
def lyP (s : ASh) (n p : Nat) : Bool := decide (isLy n (s.2.2.2.2.2 (2 * p)))
abbrev wellU (s : ASh) (n : Nat) : Prop := s.2.2.2.2.1 % 2 = 0 ∧ allB (lyP s n) (s.2.2.2.2.1 / 2) = true
def fitU (s : ASh) (t : ASt) (k : Nat) (w : Int32) (p : Nat) : Bool := decide (rgt (upd t.2.1 k w) t.1 (ix (s.2.2.2.2.2 (2 * p))) - lft (upd t.2.1 k w) t.1 (ix (s.2.2.2.2.2 (2 * p))) = s.2.2.2.2.2 (2 * p + 1))
def unkF (s : ASh) (t : ASt) (k j : Nat) : Bool := allB (fitU s t k (nI (j + 1))) (s.2.2.2.2.1 / 2)
def unkN (s : ASh) (t : ASt) (k : Nat) (x : Int32) : Int32 := if x.toInt = 0 then nI (cnt (unkF s t k) 99) else oN ((fsq (unkF s t k) 99).map (fun y => y + 1))
def sp_unknown (v : AS) (q d x : Int32) : Int32 := if isSt v.1.1 q then (if isSh d then (if 0 ≤ x.toInt ∧ x.toInt ≤ 1 then (if (v.2.2 (ix d)).1 = 2 ∧ (v.2.2 (ix d)).2.2.2.1 = 2 then (if wellU (v.2.2 (ix d)) v.1.1 then unkN (v.2.2 (ix d)) v.1 (ix q) x else -13) else rwN (v.2.2 (ix d)).1) else -1) else -1) else -1
def plS : ASh := (1, 0, 0, 0, 0, fun _ => 0)
theorem XS.pl {a : Nat → Nat} {S : Hp} (h : XS a S) : ScS S (a 22) plS := ⟨h.k22, h.2.2.2.2.1, h.2.2.2.2.2⟩
theorem wg_pl (t : ASt) (q : Nat) : wgQ plS t q = rgt t.2.1 t.1 q - lft t.2.1 t.1 q := by
  unfold wgQ weig plS
  simp
theorem rgt_up (wt : Nat → Int32) (k : Nat) (w : Int32) (q : Nat) : ∀ n, rgt (upd wt k w) n q = rgt wt n q + (if k < n ∧ dg k q = 1 then w - wt k else 0)
  | 0 => by simp [rgt]
  | n + 1 => by
    unfold rgt
    rw [rgt_up wt k w q n]
    by_cases e : n = k
    · subst e
      rw [upd_s, if_neg (by omega)]
      by_cases e2 : dg n q = 1
      · rw [if_pos e2, if_pos e2, if_pos ⟨by omega, e2⟩]; grind
      · rw [if_neg e2, if_neg e2, if_neg (fun z => e2 z.2)]
    · rw [upd_n _ _ e]
      by_cases e2 : k < n ∧ dg k q = 1
      · rw [if_pos e2, if_pos (show k < n + 1 ∧ dg k q = 1 from ⟨by omega, e2.2⟩)]; grind
      · rw [if_neg e2, if_neg (show ¬ (k < n + 1 ∧ dg k q = 1) from fun z => e2 ⟨by omega, z.2⟩)]; grind
theorem lft_up (wt : Nat → Int32) (k : Nat) (w : Int32) (q : Nat) : ∀ n, lft (upd wt k w) n q = lft wt n q + (if k < n ∧ dg k q = 2 then w - wt k else 0)
  | 0 => by simp [lft]
  | n + 1 => by
    unfold lft
    rw [lft_up wt k w q n]
    by_cases e : n = k
    · subst e
      rw [upd_s, if_neg (by omega)]
      by_cases e2 : dg n q = 2
      · rw [if_pos e2, if_pos e2, if_pos ⟨by omega, e2⟩]; grind
      · rw [if_neg e2, if_neg e2, if_neg (fun z => e2 z.2)]
    · rw [upd_n _ _ e]
      by_cases e2 : k < n ∧ dg k q = 2
      · rw [if_pos e2, if_pos (show k < n + 1 ∧ dg k q = 2 from ⟨by omega, e2.2⟩)]; grind
      · rw [if_neg e2, if_neg (show ¬ (k < n + 1 ∧ dg k q = 2) from fun z => e2 ⟨by omega, z.2⟩)]; grind
theorem rbt_bit (q : Nat) : ∀ n k, (rbt n q).testBit k = (decide (k < n) && decide (dg k q = 1))
  | 0, k => by simp [rbt]
  | n + 1, k => by
    unfold rbt
    rw [Nat.testBit_or, rbt_bit q n k]
    by_cases e : dg n q = 1
    · rw [if_pos e, Nat.testBit_two_pow]
      by_cases hk : k = n
      · subst hk; simp [e]
      · simp [show (k < n + 1) ↔ k < n by omega, Ne.symm hk]
    · rw [if_neg e, Nat.zero_testBit, Bool.or_false]
      by_cases hk : k = n
      · subst hk; simp [e]
      · simp [show (k < n + 1) ↔ k < n by omega]
theorem lbt_bit (q : Nat) : ∀ n k, (lbt n q).testBit k = (decide (k < n) && decide (dg k q = 2))
  | 0, k => by simp [lbt]
  | n + 1, k => by
    unfold lbt
    rw [Nat.testBit_or, lbt_bit q n k]
    by_cases e : dg n q = 2
    · rw [if_pos e, Nat.testBit_two_pow]
      by_cases hk : k = n
      · subst hk; simp [e]
      · simp [show (k < n + 1) ↔ k < n by omega, Ne.symm hk]
    · rw [if_neg e, Nat.zero_testBit, Bool.or_false]
      by_cases hk : k = n
      · subst hk; simp [e]
      · simp [show (k < n + 1) ↔ k < n by omega]
def sid (k q : Nat) : Int32 := (if dg k q = 1 then 1 else 0) - (if dg k q = 2 then 1 else 0)
theorem plain_up (t : ASt) {k : Nat} (hk : k < t.1) (w : Int32) (q : Nat) : rgt (upd t.2.1 k w) t.1 q - lft (upd t.2.1 k w) t.1 q = rgt t.2.1 t.1 q - lft t.2.1 t.1 q + sid k q * (w - t.2.1 k) := by
  rw [rgt_up, lft_up]
  unfold sid
  have := dg_lt k q
  rcases (by omega : dg k q = 0 ∨ dg k q = 1 ∨ dg k q = 2) with e | e | e <;> simp [e, hk] <;> grind
theorem x_sideOf {S : Hp} {y r l c d k : Nat} {t : ASt} {q : Nat} {Q : Int32 → Hp → Prop} (hS : LyS S y r l c d) (hD : LyD S y r l c d t) (hn : t.1 ≤ 6) (hk : k < t.1) (hq : q < 3 ^ t.1) (h : Q (sid k q) S) : wp_X0_sideOf y (nI q) (nI k) S Q := by
  have h3 := p3_6 hn
  have hin : vp_in (nI q) 729 := vp_in_nI (by omega) (by decide)
  have hcl : (nI q).toNatClampNeg = q := nI_clamp (by omega)
  have hb := bits_of hn hq
  obtain ⟨s1, s2, s3, s4, s5, s6, s7, s8, s9, s10, s11, s12, s13, -⟩ := hS
  unfold wp_X0_sideOf
  refine ⟨s1, c, s4, s8, by rw [s12]; exact hin, s1, d, s5, s9, by rw [s13]; exact hin, ?_⟩
  rw [hcl, (hD.2 q hq).2.2.1, (hD.2 q hq).2.2.2, bit1 _ hb.1 k (by omega), bit1 _ hb.2.1 k (by omega), rbt_bit, lbt_bit]
  unfold sid at h
  simp only [hk, decide_true, Bool.true_and, decide_eq_true_eq]
  exact h
theorem x_areWeighings {a : Nat → Nat} {v : AS} {S : Hp} {z c : Nat} {s : ASh} {Q : Int32 → Hp → Prop} (hX : XI a v S) (hR : RwS S z c s) (hs : s.2.2.2.2.1 ≤ 100) (h : ∀ y, (y = 0 ↔ ¬ wellU s v.1.1) → Q y S) : wp_X5_areWeighings (a 0) z S Q := by
  have hn := hX.2.1.1.1
  unfold wp_X5_areWeighings
  refine ⟨hR.1, c, hR.2.2.1, hR.2.2.2.1, ?_⟩
  rw [hR.2.2.2.2.1, show Int32.ofNat s.2.2.2.2.1 = nI s.2.2.2.2.1 from rfl]
  simp only [forall_eq]
  rw [evn2 hs]
  refine ⟨fun e => ?_, fun e => h 0 ⟨fun _ w => e w.1, fun _ => rfl⟩⟩
  refine it_up (s.2.2.2.2.1 / 2) (fun p x => x = (a 0, z, nI s.2.2.2.2.1, nI (2 * p), S) ∧ ∀ j, j < p → lyP s v.1.1 j = true) ?_ _ ⟨rfl, fun j hj => absurd hj (Nat.not_lt_zero j)⟩
  rintro C p x hp ⟨rfl, hj⟩ hC
  simp only [L_X5_areWeighings_16, forall_eq]
  rw [nI_1, nI_leI (by omega) (by omega)]
  refine ⟨fun e2 => h 1 ⟨fun w => absurd w (by decide), fun w => absurd ⟨e, allB_iff.mpr (fun j hj' => hj j (by omega))⟩ w⟩, fun e2 => ?_⟩
  obtain ⟨i1, g1⟩ := hR.at hs (j := 2 * p) (by omega)
  refine ⟨hX.1.k0, _, hX.1.r51_0, hR.1, c, hR.2.2.1, hR.2.2.2.1, i1, hX.1.k4, ?_⟩
  rw [g1]
  refine x_isLying hX.1.ly hX.2.2.2.1 hn fun y hy => bz1 hy (fun e3 => hC (by omega) _ ⟨?_, fun j hj' => ?_⟩) (fun e3 => h 0 ⟨fun _ w => allB_no (j := p) (by omega) (fun w2 => e3 (of_decide_eq_true w2)) w.2, fun _ => rfl⟩)
  · rw [show (2 : Int32) = nI 2 from rfl, nI_add]; rfl
  · by_cases e7 : j = p
    · subst e7; exact decide_eq_true e3
    · exact hj j (by omega)
theorem lyP_q {s : ASh} {n p : Nat} (h : lyP s n p = true) : ix (s.2.2.2.2.2 (2 * p)) < 3 ^ n ∧ s.2.2.2.2.2 (2 * p) = nI (ix (s.2.2.2.2.2 (2 * p))) := isLy_nI (of_decide_eq_true h)
theorem x_isWeightBy {a : Nat → Nat} {v : AS} {S : Hp} {z c k : Nat} {w : Int32} {s : ASh} {Q : Int32 → Hp → Prop} (hX : XI a v S) (hR : RwS S z c s) (hs : s.2.2.2.2.1 ≤ 100) (hw : wellU s v.1.1) (hk : k < v.1.1) (h : Q (b2 (allB (fitU s v.1 k w) (s.2.2.2.2.1 / 2) = true)) S) : wp_X5_isWeightBy (a 0) z (nI k) w S Q := by
  have hn := hX.2.1.1
  have hn6 := hn.1
  unfold wp_X5_isWeightBy
  refine ⟨hX.1.k0, _, hX.1.r50_0, hX.1.k1, _, hX.1.r40_1, hX.1.k2, by rw [hX.1.l2]; exact vp_in_nI (by omega) (by decide), ?_⟩
  simp only [forall_eq]
  refine ⟨hR.1, c, hR.2.2.1, hR.2.2.2.1, ?_⟩
  rw [hR.2.2.2.2.1, show Int32.ofNat s.2.2.2.2.1 = nI s.2.2.2.2.1 from rfl, nI_clamp (by omega), hX.2.2.1.2.1 k hk]
  have hev := hw.1
  refine it_up (s.2.2.2.2.1 / 2) (fun p x => x = (a 0, z, nI k, w - v.1.2.1 k, nI s.2.2.2.2.1, nI (2 * p), S) ∧ ∀ j, j < p → fitU s v.1 k w j = true) ?_ _ ⟨rfl, fun j hj => absurd hj (Nat.not_lt_zero j)⟩
  rintro C p x hp ⟨rfl, hj⟩ hC
  simp only [L_X5_isWeightBy_23, forall_eq]
  rw [nI_1, nI_leI (by omega) (by omega)]
  refine ⟨fun e2 => ?_, fun e2 => ?_⟩
  · rw [b2_t (allB_iff.mpr (fun j hj' => hj j (by omega)))] at h; exact h
  · obtain ⟨i1, g1⟩ := hR.at hs (j := 2 * p) (by omega)
    obtain ⟨i2, g2⟩ := hR.at hs (j := 2 * p + 1) (by omega)
    obtain ⟨q2, q1⟩ := lyP_q (allB_iff.mp hw.2 p (by omega))
    refine ⟨hR.1, c, hR.2.2.1, hR.2.2.2.1, i1, hX.1.k0, _, hX.1.r51_0, hX.1.k4, ?_⟩
    rw [g1, q1]
    refine x_sideOf hX.1.ly hX.2.2.2.1 hn6 hk q2 ⟨hX.1.k0, _, hX.1.r58_0, hX.1.k0, _, hX.1.r51_0, hX.1.k22, x_weightOf hX.1.ly hX.2.2.2.1 hX.1.pl hn q2 ⟨hR.1, c, hR.2.2.1, hR.2.2.2.1, i2, ?_⟩⟩
    rw [g2, wg_pl, ← plain_up v.1 hk]
    refine ⟨fun e3 => hC (by omega) _ ⟨?_, fun j hj' => ?_⟩, fun e3 => ?_⟩
    · rw [show (2 : Int32) = nI 2 from rfl, nI_add]; rfl
    · by_cases e7 : j = p
      · subst e7; exact decide_eq_true e3
      · exact hj j (by omega)
    · rw [b2_f (allB_no (j := p) (by omega) (fun w => e3 (of_decide_eq_true w)))] at h; exact h
theorem x_unknown {a : Nat → Nat} {v : AS} {S : Hp} {q d x : Int32} {Q : Int32 → Hp → Prop} (hX : XI a v S) (hQ : Q (sp_unknown v q d x) S) : wp_X5_unknown (a 0) q d x S Q := by
  have hn6 := hX.2.1.1.1
  unfold sp_unknown at hQ
  unfold wp_X5_unknown
  refine ⟨hX.1.k0, _, hX.1.r50_0, hX.1.k1, x_isStone hX.1.k1 hX.2.2.1 hn6 fun z hz => bz0 hz (fun hq => ?_) (fun hq => ?_)⟩
  · rw [if_pos hq] at hQ
    obtain ⟨hq3, hqI⟩ := isSt_nI hq
    rw [e_xSh]
    refine br0 (fun hd => ?_) (fun hd => ?_)
    · rw [if_pos hd] at hQ
      obtain ⟨h8, hdI⟩ := isSh_nI hd
      rw [p_lt, p_le, show (0 : Int32).toInt = 0 from rfl, show (1 : Int32).toInt = 1 from rfl]
      refine ⟨fun h1 => ?_, fun h1 => ⟨fun h2 => ⟨hX.1.k0, ?_⟩, fun h2 => ?_⟩⟩
      · rw [if_neg (by omega)] at hQ; exact hQ
      · rw [if_pos (by omega)] at hQ
        have x0 : x = 0 ↔ x.toInt = 0 := p_eq _ _
        have x1 : x = 1 ↔ x.toInt = 1 := p_eq _ _
        refine x_rowOfSort hX hd (fun e => ⟨fun _ => ⟨hX.1.k0, x_notHeld hX hd ?_⟩, fun r w => by cases w⟩) (fun z c e hR hc hz => ⟨fun w => (by cases w), fun r w => ?_⟩)
        · rw [if_neg e] at hQ; exact hQ
        · have hzr := Option.some.inj w
          subst hzr
          rw [if_pos e] at hQ
          have hle := ((hX.2.1.2.2 (ix d) h8).2.2 e.1).2.2
          refine ⟨hX.1.k0, x_areWeighings hX hR hle fun y hy => bz1 hy (fun hw => ?_) (fun hw => ?_)⟩
          · rw [if_pos hw] at hQ
            unfold unkN at hQ
            refine it_up 99 (fun k u => u = (a 0, q, x, z, nI (cnt (unkF (v.2.2 (ix d)) v.1 (ix q)) k), nI (k + 1), S) ∧ (x = 1 → fsq (unkF (v.2.2 (ix d)) v.1 (ix q)) k = none)) ?_ _ ⟨rfl, fun _ => rfl⟩
            rintro C k u hk ⟨rfl, hf⟩ hC
            simp only [L_X5_unknown_66, J_X5_unknown_96, forall_eq]
            rw [show (99 : Int32) = nI 99 from rfl, nI_ltI (by decide) (by omega)]
            refine ⟨fun e2 => ?_, fun e2 => ⟨hX.1.k0, ?_⟩⟩
            · have hk9 : k = 99 := by omega
              subst hk9
              refine ⟨fun e3 => ?_, fun e3 => ?_⟩
              · rw [if_neg (fun w => e3 (x0.mpr w)), hf (by rw [x1]; rw [x0] at e3; omega)] at hQ; exact hQ
              · rw [if_pos (x0.mp e3)] at hQ; exact hQ
            · rw [hqI]
              refine x_isWeightBy hX hR hle hw hq3 (br0 (fun e3 => ⟨fun e4 => ?_, fun e4 => ?_⟩) (fun e3 => ?_))
              · refine hC (by omega) _ ⟨?_, fun w => absurd w e4⟩
                rw [← hqI, nI_1, nI_1, cnt, if_pos (show unkF (v.2.2 (ix d)) v.1 (ix q) k = true from e3)]
              · rw [if_neg (by rw [x1] at e4; omega), fsq_up (k := k + 1) (q := k) _ (by omega) (by unfold fsq; rw [hf e4]; exact if_pos e3)] at hQ
                exact hQ
              · refine hC (by omega) _ ⟨?_, fun w => by unfold fsq; rw [hf w]; exact if_neg e3⟩
                rw [← hqI, nI_1, cnt, if_neg (show ¬ unkF (v.2.2 (ix d)) v.1 (ix q) k = true from e3)]; rfl
          · rw [if_neg hw] at hQ; exact hQ
      · rw [if_neg (by omega)] at hQ; exact hQ
    · rw [if_neg hd] at hQ; exact hQ
  · rw [if_neg hq] at hQ; exact hQ
theorem cnt_fsq (P : Nat → Bool) : ∀ n, cnt P n = 0 ↔ fsq P n = none
  | 0 => ⟨fun _ => rfl, fun _ => rfl⟩
  | n + 1 => by
    unfold cnt fsq
    have ih := cnt_fsq P n
    cases hf : fsq P n with
    | none =>
      rw [ih.mpr hf]
      by_cases e : P n = true
      · simp [e]
      · simp [e]
    | some r =>
      have : ¬ cnt P n = 0 := fun w => by rw [ih.mp w] at hf; cases hf
      simp [this]
-- the reference
def upW (v : AS) (k : Nat) (w : Int32) : AS := ((v.1.1, upd v.1.2.1 k w, v.1.2.2), v.2.1, v.2.2)
theorem upd_self (f : Nat → Int32) (k : Nat) : upd f k (f k) = f := by
  funext j
  unfold upd
  split
  · rename_i h; rw [h]
  · rfl
theorem upd_upd (f : Nat → Int32) (k : Nat) (x y : Int32) : upd (upd f k x) k y = upd f k y := by
  funext j
  unfold upd
  split <;> rfl
theorem MI.upw {a : Nat → Nat} {v : AS} {S : Hp} {k : Nat} {x y : Int32} (h : MI a (upW v k x) S) (hk : k < v.1.1) : MI a (upW v k y) (sA S (a 1) k y) := by
  have f : FA (a 1) S (sA S (a 1) k y) := (FA.rf (a 1) S).set k y
  have ne : ∀ j, j < 15 → j ≠ 1 → gA (sA S (a 1) k y) (a j) = gA S (a j) := fun j hj hj1 => f.2.2.2.2.2 _ (h.1.ne hj (by decide) hj1)
  refine ⟨?_, ⟨⟨h.2.1.1.1, trivial⟩, h.2.1.2⟩, ?_⟩
  · have h1 := h.1
    unfold MS at h1 ⊢
    rw [f.1, f.2.2.1, f.2.2.2.1]
    exact h1
  · have hd := h.2.2
    unfold MD MSh at hd ⊢
    rw [f.2.1, ne 2 (by decide) (by decide), ne 3 (by decide) (by decide), ne 4 (by decide) (by decide), ne 8 (by decide) (by decide), ne 9 (by decide) (by decide), ne 10 (by decide) (by decide), ne 11 (by decide) (by decide), ne 12 (by decide) (by decide), ne 13 (by decide) (by decide)]
    refine ⟨hd.1, fun j hj => ?_, hd.2.2.1, hd.2.2.2.1, hd.2.2.2.2.1, hd.2.2.2.2.2⟩
    show gA (sA S (a 1) k y) (a 1) j = upd v.1.2.1 k y j
    have h2 : gA S (a 1) j = upd v.1.2.1 k x j := hd.2.1 j hj
    rw [gA_sA]
    by_cases e : j = k
    · rw [e, upd_s, upd_s]
    · rw [upd_n _ _ e, h2, upd_n _ _ e, upd_n _ _ e]
theorem m_unknown {a : Nat → Nat} {v : AS} {S : Hp} {q d x : Int32} {Q : Int32 → Hp → Prop} (hM : MI a v S) (hQ : ∀ S', MI a v S' → Q (sp_unknown v q d x) S') : wp_X6_unknown (a 0) q d x S Q := by
  have k0 := hM.1.1
  have hn6 := hM.2.1.1.1
  have h3 := p3_6 hn6
  unfold sp_unknown at hQ
  unfold wp_X6_unknown
  refine ⟨k0, t_isStone hM fun z hz => bz0 hz (fun hq => ?_) (fun hq => ?_)⟩
  · rw [if_pos hq] at hQ
    obtain ⟨hq3, hqI⟩ := isSt_nI hq
    rw [e_mSh]
    refine br0 (fun hd => ?_) (fun hd => ?_)
    · rw [if_pos hd] at hQ
      obtain ⟨h8, hdI⟩ := isSh_nI hd
      rw [e_isInL (lo := 0) (hi := 1) rfl rfl]
      refine br1 (fun hx => ?_) (fun hx => ?_)
      · rw [if_pos hx] at hQ
        have x0 : x = 0 ↔ x.toInt = 0 := p_eq _ _
        refine m_rowHd hM hd (fun e => ?_) (fun e e2 => ?_) (fun e e2 => ?_)
        · rw [if_pos e] at hQ
          have hle := ((hM.2.1.2.2 (ix d) h8).2.2 e.1).2.2
          obtain ⟨z1, z2, z3, z4, z5⟩ := m_size hM hd e.1
          generalize hsz : (v.2.2 (ix d)).2.2.2.2.1 = n at hle z5
          have go : ∀ w0 : Int32, (w0 = 0 ↔ ¬ n % 2 = 0) → J_X6_unknown_77 Q (a 0) q d x w0 S := by
            intro w0 hw0
            unfold J_X6_unknown_77
            refine it_up (n / 2) (fun p u => ∃ w, u = (a 0, q, d, x, w, nI (2 * p), S) ∧ (w = 0 ↔ ¬ (n % 2 = 0 ∧ allB (lyP (v.2.2 (ix d)) v.1.1) p = true))) ?_ _ ⟨w0, rfl, hw0.trans (by rw [show allB (lyP (v.2.2 (ix d)) v.1.1) 0 = true from rfl]; simp)⟩
            rintro C p u hp ⟨w, rfl, hw⟩ hC
            simp only [L_X6_unknown_82, forall_eq]
            have fin : (n % 2 = 0 ∧ allB (lyP (v.2.2 (ix d)) v.1.1) p = true ↔ wellU (v.2.2 (ix d)) v.1.1) → J_X6_unknown_122 Q (a 0) q d x w S := by
              intro hiff
              rw [hiff] at hw
              unfold J_X6_unknown_122
              refine bz1 hw (fun hwl => ⟨hM.1.1, _, hM.1.2.2.2.2.1 1 (by decide) (by decide), hM.1.2.2.1 1 (by decide) (by decide) (by decide), by rw [hM.1.2.2.2.2.2 1 (by decide) (by decide), hqI]; exact vp_in_nI (show ix q < 6 by omega) (by decide), ?_⟩) (fun hwl => ?_)
              · rw [if_pos hwl] at hQ
                have hev : n % 2 = 0 := by rw [← hsz]; exact hwl.1
                have hqc : q.toNatClampNeg = ix q := rfl
                rw [hqc, hM.2.2.2.1 _ hq3]
                simp only [forall_eq]
                unfold unkN at hQ
                refine it_up 99 (fun k u => ∃ S' y, u = (a 0, q, d, x, v.1.2.1 (ix q), nI (cnt (unkF (v.2.2 (ix d)) v.1 (ix q)) k), oN ((fsq (unkF (v.2.2 (ix d)) v.1 (ix q)) k).map (fun y => y + 1)), nI (k + 1), S') ∧ MI a (upW v (ix q) y) S') ?_ _ ⟨S, v.1.2.1 (ix q), rfl, by unfold upW; rw [upd_self]; exact hM⟩
                rintro C2 k u hk ⟨S', y, rfl, hM'⟩ hC2
                simp only [L_X6_unknown_148, forall_eq]
                have hl1 : vp_in q (ln S' (a 1)) := by rw [hM'.1.2.2.2.2.2 1 (by decide) (by decide), hqI]; exact vp_in_nI (show ix q < 6 by omega) (by decide)
                rw [show (100 : Int32) = nI 100 from rfl, nI_leI (by decide) (by omega)]
                refine ⟨fun e3 => ⟨hM'.1.1, _, hM'.1.2.2.2.2.1 1 (by decide) (by decide), hM'.1.2.2.1 1 (by decide) (by decide) (by decide), hl1, ?_⟩, fun e3 => ⟨hM'.1.1, _, hM'.1.2.2.2.2.1 1 (by decide) (by decide), hM'.1.2.2.1 1 (by decide) (by decide) (by decide), hl1, ?_⟩⟩
                · have hk9 : k = 99 := by omega
                  subst hk9
                  have hM2 := hM'.upw (y := v.1.2.1 (ix q)) hq3
                  unfold upW at hM2
                  rw [upd_self] at hM2
                  have h := hQ _ hM2
                  rw [hqc]
                  exact ⟨fun e4 => by rw [if_neg (fun w => e4 (x0.mpr w))] at h; exact h, fun e4 => by rw [if_pos (x0.mp e4)] at h; exact h⟩
                · rw [hqc]
                  have hM2 := hM'.upw (y := nI (k + 1)) hq3
                  have hst := hC2 (by omega)
                  refine it_up (n / 2) (fun p u => ∃ S', u = (a 0, q, d, x, v.1.2.1 (ix q), nI (cnt (unkF (v.2.2 (ix d)) v.1 (ix q)) k), oN ((fsq (unkF (v.2.2 (ix d)) v.1 (ix q)) k).map (fun y => y + 1)), nI (k + 1), b2 (allB (fitU (v.2.2 (ix d)) v.1 (ix q) (nI (k + 1))) p = true), nI (2 * p), S') ∧ MI a (upW v (ix q) (nI (k + 1))) S') ?_ _ ⟨_, rfl, hM2⟩
                  rintro C3 p u hp ⟨S3, rfl, hM3⟩ hC3
                  simp only [L_X6_unknown_169, J_X6_unknown_231, J_X6_unknown_232, J_X6_unknown_262, J_X6_unknown_257, forall_eq]
                  obtain ⟨y1, y2, y3, y4, y5⟩ := m_size hM3 hd (show ((upW v (ix q) (nI (k + 1))).2.2 (ix d)).1 = 2 from e.1)
                  refine ⟨y1, _, y2, y3, y4, ?_⟩
                  rw [y5, show ((upW v (ix q) (nI (k + 1))).2.2 (ix d)).2.2.2.2.1 = n from hsz, nI_leI (by omega) (by omega)]
                  refine ⟨fun e4 => ?_, fun e4 => ?_⟩
                  · have hpn : p = n / 2 := by omega
                    subst hpn
                    have hF : unkF (v.2.2 (ix d)) v.1 (ix q) k = allB (fitU (v.2.2 (ix d)) v.1 (ix q) (nI (k + 1))) (n / 2) := by unfold unkF; rw [hsz]
                    have hc0 : nI (cnt (unkF (v.2.2 (ix d)) v.1 (ix q)) k) = 0 ↔ cnt (unkF (v.2.2 (ix d)) v.1 (ix q)) k = 0 := by
                      have := cnt_le (unkF (v.2.2 (ix d)) v.1 (ix q)) k
                      rw [show (0 : Int32) = nI 0 from rfl, nI_eq (by omega) (by decide)]
                    rw [hc0]
                    have hcf := cnt_fsq (unkF (v.2.2 (ix d)) v.1 (ix q)) k
                    refine br0 (fun e5 => ⟨fun e6 => ?_, fun e6 => ?_⟩) (fun e5 => ?_)
                    · obtain ⟨r, hr⟩ : ∃ r, fsq (unkF (v.2.2 (ix d)) v.1 (ix q)) k = some r := by
                        cases hr : fsq (unkF (v.2.2 (ix d)) v.1 (ix q)) k with
                        | none => exact absurd (hcf.mpr hr) e6
                        | some r => exact ⟨r, rfl⟩
                      refine hst _ ⟨S3, _, ?_, hM3⟩
                      rw [nI_1, nI_1, cnt, if_pos (by rw [hF]; exact e5), hr, fsq_up (k := k) (q := r) (k + 1) (by omega) hr]
                    · refine hst _ ⟨S3, _, ?_, hM3⟩
                      rw [nI_1, nI_1, cnt, if_pos (by rw [hF]; exact e5), show fsq (unkF (v.2.2 (ix d)) v.1 (ix q)) (k + 1) = some k by unfold fsq; rw [hcf.mp e6]; exact if_pos (by rw [hF]; exact e5)]
                      rfl
                    · refine hst _ ⟨S3, _, ?_, hM3⟩
                      have e5' : ¬ unkF (v.2.2 (ix d)) v.1 (ix q) k = true := by rw [hF]; exact e5
                      rw [nI_1, cnt, if_neg e5', show fsq (unkF (v.2.2 (ix d)) v.1 (ix q)) (k + 1) = fsq (unkF (v.2.2 (ix d)) v.1 (ix q)) k by
                        conv => lhs; unfold fsq
                        cases hr : fsq (unkF (v.2.2 (ix d)) v.1 (ix q)) k with
                        | none => exact if_neg e5'
                        | some r => rfl]
                      rfl
                  · have hst2 := hC3 (by omega)
                    obtain ⟨c1, c2, c3⟩ := m_cell hM3 hd (show ((upW v (ix q) (nI (k + 1))).2.2 (ix d)).1 = 2 from e.1) (j := 2 * p) (by show 2 * p < (v.2.2 (ix d)).2.2.2.2.1; omega)
                    have r13 : gR S3 99 (a 0) = some (a 13) := hM3.1.2.2.2.2.1 13 (by decide) (by decide)
                    have k13 : kd S3 (a 13) = 8 := hM3.1.2.2.1 13 (by decide) (by decide) (by decide)
                    refine ⟨hM3.1.1, _, r13, k13, ?_⟩
                    rw [c1]
                    refine ⟨c2, hM3.1.1, ?_⟩
                    rw [c3]
                    obtain ⟨q2, q1⟩ := lyP_q (allB_iff.mp hwl.2 p (by omega))
                    rw [show ((upW v (ix q) (nI (k + 1))).2.2 (ix d)).2.2.2.2.2 (2 * p) = (v.2.2 (ix d)).2.2.2.2.2 (2 * p) from rfl, q1]
                    refine t_mlook hM3 q2 ?_
                    intro S4 sc g77 g78 g79 g80 g81 g82
                    have hM4 := hM3.sc sc
                    obtain ⟨d1, d2, d3⟩ := m_cell hM4 hd (show ((upW v (ix q) (nI (k + 1))).2.2 (ix d)).1 = 2 from e.1) (j := 2 * p + 1) (by show 2 * p + 1 < (v.2.2 (ix d)).2.2.2.2.1; omega)
                    refine br0 (fun e5 => ⟨hM4.1.1, hM4.1.1, hM4.1.1, a 13, hM4.1.2.2.2.2.1 13 (by decide) (by decide), hM4.1.2.2.1 13 (by decide) (by decide) (by decide), by rw [nI_1]; exact d2, ?_⟩) (fun e5 => hst2 _ ⟨S4, ?_, hM4⟩)
                    · rw [nI_1, show 100 * ix d + 2 * p + 1 = 100 * ix d + (2 * p + 1) from rfl, d3, g77, g78]
                      have hfit : fitU (v.2.2 (ix d)) v.1 (ix q) (nI (k + 1)) p = decide (rgt (upW v (ix q) (nI (k + 1))).1.2.1 (upW v (ix q) (nI (k + 1))).1.1 (ix ((v.2.2 (ix d)).2.2.2.2.2 (2 * p))) - lft (upW v (ix q) (nI (k + 1))).1.2.1 (upW v (ix q) (nI (k + 1))).1.1 (ix ((v.2.2 (ix d)).2.2.2.2.2 (2 * p))) = ((upW v (ix q) (nI (k + 1))).2.2 (ix d)).2.2.2.2.2 (2 * p + 1)) := rfl
                      refine ⟨fun e6 => hst2 _ ⟨S4, ?_, hM4⟩, fun e6 => hst2 _ ⟨S4, ?_, hM4⟩⟩
                      · rw [b2_f (allB_no (j := p) (by omega) (fun w => e6 (of_decide_eq_true (hfit ▸ w)))), show (2 : Int32) = nI 2 from rfl, nI_add]; rfl
                      · rw [b2_t (by rw [allB, e5, hfit]; exact decide_eq_true e6), show (2 : Int32) = nI 2 from rfl, nI_add]; rfl
                    · rw [b2_f (fun w => e5 (by rw [allB, Bool.and_eq_true] at w; exact w.1)), show (2 : Int32) = nI 2 from rfl, nI_add]; rfl
              · rw [if_neg hwl] at hQ; exact hQ S hM
            refine ⟨z1, _, z2, z3, z4, ?_⟩
            rw [z5, nI_leI (by omega) (by omega)]
            refine ⟨fun e3 => fin ?_, fun e3 => bz0 hw (fun e4 => ?_) (fun e4 => fin ?_)⟩
            · rw [show p = n / 2 by omega]; unfold wellU; rw [hsz]
            · have hst2 := hC (by omega)
              obtain ⟨c1, c2, c3⟩ := m_cell hM hd e.1 (j := 2 * p) (by omega)
              refine ⟨k0, _, hM.1.2.2.2.2.1 13 (by decide) (by decide), hM.1.2.2.1 13 (by decide) (by decide) (by decide), ?_⟩
              rw [c1]
              refine ⟨c2, k0, ?_⟩
              rw [c3]
              refine t_isLying hM fun y hy _ => hst2 _ ⟨y, ?_, hy.trans ?_⟩
              · rw [show (2 : Int32) = nI 2 from rfl, nI_add]; rfl
              · rw [allB, e4.2, Bool.true_and]
                unfold lyP
                rw [decide_eq_true_iff]
                exact ⟨fun w w2 => w w2.2, fun w w2 => w ⟨e4.1, w2⟩⟩
            · exact ⟨fun w => absurd w e4, fun w => absurd ⟨by rw [← hsz]; exact w.1, allB_iff.mpr (fun j hj => allB_iff.mp w.2 j (by rw [hsz]; omega))⟩ e4⟩
          refine ⟨z1, _, z2, z3, z4, ?_⟩
          rw [z5, evn2 hle]
          exact ⟨fun e2 => go 0 ⟨fun _ => e2, fun _ => rfl⟩, fun e2 => go 1 ⟨fun w => absurd w (by decide), fun w => absurd e2 w⟩⟩
        · rw [if_neg e, e2] at hQ; exact hQ S hM
        · rw [if_neg e, e2] at hQ; exact hQ S hM
      · rw [if_neg hx] at hQ; exact hQ S hM
    · rw [if_neg hd] at hQ; exact hQ S hM
  · rw [if_neg hq] at hQ; exact hQ S hM
