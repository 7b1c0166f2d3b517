/-! shops as texts: the reference -/
def MC (m b dd L : Nat) (T : Nat → Int32) (S : Hp) : Prop := (kd S m = 7 ∧ gR S 99 m = some b ∧ kd S b = 8 ∧ ln S b = 800) ∧ gI S 88 m = nI (100 * dd) ∧ gI S 89 m = nI L ∧ (∀ j, j < L → gA S b (100 * dd + j) = T j) ∧ dd < 8 ∧ L ≤ 100
theorem MC.fw {m b dd L : Nat} {T : Nat → Int32} {P : Nat → Prop} {J : Nat → Nat → Prop} {S S' : Hp} (h : MC m b dd L T S) (f : FW P J S S') (h1 : ¬ P b) (h2 : ¬ J 88 m) (h3 : ¬ J 89 m) : MC m b dd L T S' := by
  unfold MC at h ⊢
  rw [f.1, f.2.1, f.2.2.1, f.2.2.2.2.1 _ _ h2, f.2.2.2.2.1 _ _ h3, f.2.2.2.2.2 _ h1]
  exact h
abbrev J9 (m i x : Nat) : Prop := (90 ≤ i ∧ i ≤ 93) ∧ x = m
abbrev F9 (m : Nat) (S S' : Hp) : Prop := FW (fun _ => False) (J9 m) S S'
theorem MC.f9 {m b dd L : Nat} {T : Nat → Int32} {S S' : Hp} (h : MC m b dd L T S) (f : F9 m S S') : MC m b dd L T S' := h.fw f (fun z => z) (fun z => by omega) (fun z => by omega)
theorem F9.set {m : Nat} {S S' : Hp} (h : F9 m S S') {i : Nat} (h1 : 90 ≤ i) (h2 : i ≤ 93) (x : Int32) : F9 m S (sI S' i m x) := h.i ⟨⟨h1, h2⟩, rfl⟩ x
theorem F9.st (m : Nat) (S : Hp) {i : Nat} (h1 : 90 ≤ i) (h2 : i ≤ 93) (x : Int32) : F9 m S (sI S i m x) := F9.set (FW.rf _ _ S) h1 h2 x
theorem MC.cell {m b dd L : Nat} {T : Nat → Int32} {S : Hp} (h : MC m b dd L T S) {p : Nat} (hp : p < L) : vp_in (nI (100 * dd) + nI p) (ln S b) ∧ gA S b (nI (100 * dd) + nI p).toNatClampNeg = T p := by
  obtain ⟨⟨h1, h2, h3, h4⟩, h5, h6, h7, h8, h9⟩ := h
  rw [nI_add, nI_clamp (by omega), h4]
  exact ⟨vp_in_nI (by omega) (by decide), h7 p hp⟩
theorem t_isDigit {m b dd L p : Nat} {T : Nat → Int32} {S : Hp} {Q : Int32 → Hp → Prop} (h : MC m b dd L T S) (hp : gI S 90 m = nI p) (hp2 : p ≤ 1000) (hQ : Q (b2 (dgB T L p = true)) S) : wp_X6_isDigit m S Q := by
  have h' := h
  obtain ⟨⟨h1, h2, h3, h4⟩, h5, h6, h7, h8, h9⟩ := h'
  unfold wp_X6_isDigit
  rw [hp, h6, h5, nI_leI (by omega) (by omega)]
  have yes : dgB T L p = true → Q 1 S := fun w => by rw [b2_t w] at hQ; exact hQ
  have no : ¬ dgB T L p = true → Q 0 S := fun w => by rw [b2_f w] at hQ; exact hQ
  refine ⟨h1, h1, fun e => no (fun w => by have := (of_decide_eq_true w).1; omega), fun e => ?_⟩
  obtain ⟨c1, c2⟩ := h.cell (p := p) (by omega)
  refine ⟨h1, b, h2, h1, h1, h3, c1, ?_⟩
  rw [c2, p_lt, show (48 : Int32).toInt = 48 from rfl]
  refine ⟨fun e2 => no (fun w => by have := (of_decide_eq_true w).2.1; omega), fun e2 => ⟨h1, b, h2, h1, h1, h3, c1, ?_⟩⟩
  rw [c2, p_lt, show (57 : Int32).toInt = 57 from rfl]
  exact ⟨fun e3 => no (fun w => by have := (of_decide_eq_true w).2.2; omega), fun e3 => yes (decide_eq_true ⟨by omega, by omega, by omega⟩)⟩
theorem t_comes {m b dd L p : Nat} {T : Nat → Int32} {S : Hp} {ch : Int32} {Q : Int32 → Hp → Prop} (h : MC m b dd L T S) (hp : gI S 90 m = nI p) (hp2 : p ≤ 1000) (hQ : Q (b2 (sgB T L ch p = true)) S) : wp_X6_comes m ch S Q := by
  have h' := h
  obtain ⟨⟨h1, h2, h3, h4⟩, h5, h6, h7, h8, h9⟩ := h'
  unfold wp_X6_comes
  rw [hp, h6, h5, nI_leI (by omega) (by omega)]
  have yes : sgB T L ch p = true → Q 1 S := fun w => by rw [b2_t w] at hQ; exact hQ
  have no : ¬ sgB T L ch p = true → Q 0 S := fun w => by rw [b2_f w] at hQ; exact hQ
  refine ⟨h1, h1, fun e => no (fun w => by have := (of_decide_eq_true w).1; omega), fun e => ?_⟩
  obtain ⟨c1, c2⟩ := h.cell (p := p) (by omega)
  refine ⟨h1, b, h2, h1, h1, h3, c1, ?_⟩
  rw [c2]
  exact ⟨fun e2 => no (fun w => e2 (of_decide_eq_true w).2), fun e2 => yes (decide_eq_true ⟨by omega, e2⟩)⟩
theorem t_expect {m b dd L p : Nat} {w : Bool} {T : Nat → Int32} {S : Hp} {ch : Int32} {Q : Hp → Prop} (h : MC m b dd L T S) (hp : gI S 90 m = nI p) (hw : gI S 91 m = b1 w) (hp2 : p ≤ 1000) (hQ : ∀ S', F9 m S S' → gI S' 90 m = nI (if (w && sgB T L ch p) = true then p + 1 else p) → gI S' 91 m = b1 (w && sgB T L ch p) → gI S' 92 m = gI S 92 m → gI S' 93 m = gI S 93 m → Q S') : wp_X6_expect m ch S Q := by
  have h1 := h.1.1
  have fail : (w && sgB T L ch p) = false → Q (sI S 91 m 0) := fun e => by
    refine hQ _ (F9.st m S (by decide) (by decide) _) ?_ ?_ ?_ ?_
    · rw [h_gI_sI, if_neg (fun z => absurd z.1 (by decide)), hp, e]; rfl
    · rw [h_gI_sI, if_pos ⟨rfl, rfl⟩, e]; rfl
    · rw [h_gI_sI, if_neg (fun z => absurd z.1 (by decide))]
    · rw [h_gI_sI, if_neg (fun z => absurd z.1 (by decide))]
  unfold wp_X6_expect
  simp only [forall_eq]
  rw [hw, b1_0]
  refine ⟨h1, fun e => ⟨h1, fail (by rw [e]; rfl)⟩, fun e => ⟨h1, t_comes h hp hp2 (br0 (fun y => ⟨h1, h1, ?_⟩) (fun y => ⟨h1, fail (by rw [Bool.not_eq_true _ |>.mp y, Bool.and_false])⟩))⟩⟩
  have hw1 : w = true := by
    cases w with
    | true => rfl
    | false => exact absurd rfl e
  have ht : (w && sgB T L ch p) = true := by rw [hw1, y]; rfl
  refine hQ _ (F9.st m S (by decide) (by decide) _) ?_ ?_ ?_ ?_
  · rw [h_gI_sI, if_pos ⟨rfl, rfl⟩, hp, if_pos ht, nI_1]
  · rw [h_gI_sI, if_neg (fun z => absurd z.1 (by decide)), hw, ht, hw1]
  · rw [h_gI_sI, if_neg (fun z => absurd z.1 (by decide))]
  · rw [h_gI_sI, if_neg (fun z => absurd z.1 (by decide))]
def fgR (T : Nat → Int32) (L mx p : Nat) (w : Bool) : Nat × Option Nat := if w = true then fgN T L mx p else (p, none)
theorem t_figures {m b dd L p mx : Nat} {w : Bool} {T : Nat → Int32} {S : Hp} {Q : Int32 → Hp → Prop} (h : MC m b dd L T S) (hp : gI S 90 m = nI p) (hw : gI S 91 m = b1 w) (hp2 : p ≤ 900) (hmx : mx = 1 ∨ mx = 2) (hQ : ∀ S', F9 m S S' → gI S' 90 m = nI (fgR T L mx p w).1 → gI S' 91 m = b1 (fgR T L mx p w).2.isSome → gI S' 92 m = gI S 92 m → gI S' 93 m = gI S 93 m → Q (nI ((fgR T L mx p w).2.getD 0)) S') : wp_X6_figures m (nI mx) S Q := by
  have h' := h
  obtain ⟨⟨h1, h2, h3, h4⟩, h5, h6, h7, h8, h9⟩ := h'
  have fail : fgR T L mx p w = (p, none) → Q 0 (sI S 91 m 0) := fun e => by
    rw [e] at hQ
    refine hQ _ (F9.st m S (by decide) (by decide) _) ?_ ?_ ?_ ?_
    · rw [h_gI_sI, if_neg (fun z => absurd z.1 (by decide)), hp]
    · rw [h_gI_sI, if_pos ⟨rfl, rfl⟩]; rfl
    · rw [h_gI_sI, if_neg (fun z => absurd z.1 (by decide))]
    · rw [h_gI_sI, if_neg (fun z => absurd z.1 (by decide))]
  unfold wp_X6_figures
  simp only [forall_eq]
  rw [hw, b1_0]
  refine ⟨h1, fun e => ⟨h1, fail (by rw [e]; rfl)⟩, fun e => ⟨h1, t_isDigit h hp (by omega) (br1 (fun y => ⟨h1, b, h2, h1, h1, h3, ?_⟩) (fun y => ⟨h1, fail ?_⟩))⟩⟩
  · have hw1 : w = true := by
      cases w with
      | true => rfl
      | false => exact absurd rfl e
    have h9' := dgV_9 y
    obtain ⟨c1, c2⟩ := h.cell h9'.1
    rw [h5, hp, c2, h9'.2.2, nI_1]
    refine ⟨c1, h1, h1, ?_⟩
    have f1 : F9 m S (sI S 90 m (nI (p + 1))) := F9.st m S (by decide) (by decide) _
    have hr : fgR T L mx p w = fgN T L mx p := if_pos hw1
    rw [hr] at hQ
    refine it_up 1 (fun k x => ∃ S', F9 m S S' ∧ gI S' 91 m = 1 ∧ gI S' 92 m = gI S 92 m ∧ gI S' 93 m = gI S 93 m ∧ ((k = 0 ∧ x = (m, nI mx, nI (dgV T p), nI 1, S') ∧ gI S' 90 m = nI (p + 1)) ∨ (k = 1 ∧ mx = 2 ∧ x = (m, nI mx, nI ((fgN T L mx p).2.getD 0), nI 2, S') ∧ gI S' 90 m = nI (fgN T L mx p).1 ∧ (fgN T L mx p).2.isSome = true))) ?_ _ ⟨sI S 90 m (nI (p + 1)), f1, ?_, ?_, ?_, Or.inl ⟨rfl, rfl, ?_⟩⟩
    · rintro C k x hk ⟨S1, f, g91, g92, g93, hx⟩ hC
      have hM1 := h.f9 f
      rcases hx with ⟨rfl, rfl, g90⟩ | ⟨rfl, hm2, rfl, g90, gs⟩
      · have one : fgN T L mx p = (p + 1, some (dgV T p)) → Q (nI (dgV T p)) S1 := fun e2 => by
          rw [e2] at hQ
          exact hQ S1 f g90 (by rw [g91]; rfl) g92 g93
        simp only [L_X6_figures_51, forall_eq]
        rw [nI_leI (by omega) (by decide), show (0 : Int32) = nI 0 from rfl, nI_leI (by omega) (by decide)]
        refine ⟨fun e2 => one ?_, fun e2 => ⟨fun e3 => one ?_, fun e3 => ⟨hM1.1.1, t_isDigit hM1 g90 (by omega) (br0 (fun y2 => ⟨hM1.1.1, b, hM1.1.2.1, hM1.1.1, hM1.1.1, hM1.1.2.2.1, ?_⟩) (fun y2 => one ?_))⟩⟩⟩
        · unfold fgN
          rw [if_pos y, if_neg (fun z => by omega)]
        · unfold fgN
          rw [if_pos y, if_neg (fun z => by omega)]
        · have h92 := dgV_9 y2
          obtain ⟨d1, d2⟩ := hM1.cell h92.1
          have e4 : (10 : Int32) * nI (dgV T p) + T (p + 1) - (48 : Int32) = nI (10 * dgV T p + dgV T (p + 1)) := by
            rw [Int32.sub_eq_add_neg, Int32.add_assoc, ← Int32.sub_eq_add_neg, h92.2.2, show (10 : Int32) = nI 10 from rfl, pk_mul, nI_add]
          rw [hM1.2.1, g90, d2, e4, nI_1 (p + 1)]
          refine ⟨d1, hM1.1.1, hM1.1.1, hC (by decide) _ ⟨sI S1 90 m (nI (p + 1 + 1)), f.set (by decide) (by decide) _, ?_, ?_, ?_, Or.inr ⟨rfl, by omega, ?_, ?_, ?_⟩⟩⟩
          · rw [h_gI_sI, if_neg (fun z => absurd z.1 (by decide))]; exact g91
          · rw [h_gI_sI, if_neg (fun z => absurd z.1 (by decide))]; exact g92
          · rw [h_gI_sI, if_neg (fun z => absurd z.1 (by decide))]; exact g93
          · unfold fgN
            rw [if_pos y, if_pos ⟨by omega, by omega, y2⟩]
            rfl
          · unfold fgN
            rw [if_pos y, if_pos ⟨by omega, by omega, y2⟩, h_gI_sI, if_pos ⟨rfl, rfl⟩]
          · unfold fgN
            rw [if_pos y, if_pos ⟨by omega, by omega, y2⟩]
            rfl
        · unfold fgN
          rw [if_pos y, if_neg (fun z => y2 z.2.2)]
      · simp only [L_X6_figures_51]
        rw [nI_leI (by omega) (by decide)]
        exact ⟨fun _ => hQ S1 f g90 (by rw [g91, gs]; rfl) g92 g93, fun z => absurd (by omega) z⟩
    · rw [h_gI_sI, if_neg (fun z => absurd z.1 (by decide)), hw, hw1]; rfl
    · rw [h_gI_sI, if_neg (fun z => absurd z.1 (by decide))]
    · rw [h_gI_sI, if_neg (fun z => absurd z.1 (by decide))]
    · rw [h_gI_sI, if_pos ⟨rfl, rfl⟩]
  · unfold fgR
    by_cases c : w = true
    · rw [if_pos c]; exact if_neg y
    · rw [if_neg c]
/-- what a statement that is none, or one, leaves behind -/
def stP (m : Nat) (S : Hp) (r : SR) (Q : Int32 → Hp → Prop) (S' : Hp) : Prop := (∀ q z, r = (q, none) → gI S' 90 m = nI q → gI S' 91 m = 0 → Q z S') ∧ (∀ q l x y, r = (q, some (l, x, y)) → gI S' 90 m = nI q → gI S' 91 m = 1 → (l ≠ 120 → gI S' 92 m = nI x ∧ gI S' 93 m = nI y) → Q l S')
theorem t_st116 {m b dd L p x y : Nat} {w : Bool} {l : Int32} {T : Nat → Int32} {S0 S : Hp} {r : SR} {Q : Int32 → Hp → Prop} (h : MC m b dd L T S) (f0 : F9 m S0 S) (hp : gI S 90 m = nI p) (hw : gI S 91 m = b1 w) (hp2 : p ≤ 900) (h12 : w = true → l ≠ 120 → gI S 92 m = nI x ∧ gI S 93 m = nI y) (hr : r = if w = true then scE T L l x y p else (p, none)) (hQ : ∀ S', F9 m S0 S' → stP m S0 r Q S') : J_X6_statement_116 Q m l S := by
  unfold J_X6_statement_116
  refine ⟨h.1.1, t_expect h hp hw (by omega) (fun S' f g90 g91 g92 g93 => ?_)⟩
  have hq := hQ S' (f0.tr f)
  subst hr
  by_cases c : (w && sgB T L 59 p) = true
  · have cc := (Bool.and_eq_true _ _).mp c
    rw [if_pos c] at g90
    rw [c] at g91
    refine hq.2 (p + 1) l x y ?_ g90 g91 (fun hl => ?_)
    · rw [if_pos cc.1]; exact if_pos cc.2
    · rw [g92, g93]; exact h12 cc.1 hl
  · have cf := Bool.not_eq_true _ |>.mp c
    rw [if_neg c] at g90
    rw [cf] at g91
    refine hq.1 p l ?_ g90 g91
    by_cases c2 : w = true
    · rw [if_pos c2]
      exact if_neg (fun z => c ((Bool.and_eq_true _ _).mpr ⟨c2, z⟩))
    · rw [if_neg c2]
theorem t_st71 {m b dd L p mx : Nat} {l : Int32} {T : Nat → Int32} {S0 S : Hp} {Q : Int32 → Hp → Prop} (h : MC m b dd L T S) (f0 : F9 m S0 S) (hp : gI S 90 m = nI p) (hw : gI S 91 m = 1) (hp2 : p ≤ 500) (hmx : mx = if l = 115 then 2 else 1) (hQ : ∀ S', F9 m S0 S' → stP m S0 (sc1 T L l p) Q S') : J_X6_statement_71 Q m l m m (nI mx) S := by
  unfold J_X6_statement_71
  have hmx2 : mx = 1 ∨ mx = 2 := by
    rw [hmx]; split
    · exact Or.inr rfl
    · exact Or.inl rfl
  refine ⟨h.1.1, t_figures (w := true) h hp hw (by omega) hmx2 (fun S1 f1 a90 a91 a92 a93 => ?_)⟩
  have hM1 := h.f9 f1
  have hfr : fgR T L mx p true = fgN T L mx p := if_pos rfl
  rw [hfr] at a90 a91 ⊢
  simp only [forall_eq]
  have fS3 : F9 m S1 (sI S1 92 m (nI ((fgN T L mx p).2.getD 0))) := F9.st m S1 (by decide) (by decide) _
  have hM3 := hM1.f9 fS3
  have e1q : (fgN T L mx p).1 ≤ p + 2 := by
    unfold fgN
    split
    · split
      · exact Nat.le_refl _
      · show p + 1 ≤ p + 2; omega
    · show p ≤ p + 2; omega
  refine ⟨hM1.1.1, hM3.1.1, t_expect hM3 (p := (fgN T L mx p).1) (w := (fgN T L mx p).2.isSome) ?_ ?_ (by omega) (fun S4 f4 b90 b91 b92 b93 => ?_)⟩
  · rw [h_gI_sI, if_neg (fun z => absurd z.1 (by decide))]; exact a90
  · rw [h_gI_sI, if_neg (fun z => absurd z.1 (by decide))]; exact a91
  · have hM4 := hM3.f9 f4
    rw [h_gI_sI, if_pos ⟨rfl, rfl⟩] at b92
    refine ⟨hM4.1.1, t_figures hM4 b90 b91 (by split <;> omega) (Or.inr rfl) (fun S5 f5 c90 c91 c92 c93 => ?_)⟩
    have hM5 := hM4.f9 f5
    have fS7 : F9 m S5 (sI S5 93 m (nI ((fgR T L 2 (if ((fgN T L mx p).2.isSome && sgB T L 32 (fgN T L mx p).1) = true then (fgN T L mx p).1 + 1 else (fgN T L mx p).1) ((fgN T L mx p).2.isSome && sgB T L 32 (fgN T L mx p).1)).2.getD 0))) := F9.st m S5 (by decide) (by decide) _
    have f07 := (((f0.tr f1).tr fS3).tr f4).tr (f5.tr fS7)
    have hM7 := hM5.f9 fS7
    refine ⟨hM5.1.1, ?_⟩
    have d90 := c90
    have d91 := c91
    unfold sc1 at hQ
    rw [← hmx] at hQ
    -- the cases of what was read
    cases hf : fgN T L mx p with
    | mk q o =>
      rw [hf] at hQ c90 c91 e1q hM7 f07 b92
      cases o with
      | none =>
        refine t_st116 (p := q) (w := false) (x := 0) (y := 0) hM7 f07 ?_ ?_ (by omega) (fun z => by cases z) rfl hQ
        · rw [h_gI_sI, if_neg (fun z => absurd z.1 (by decide))]; exact c90
        · rw [h_gI_sI, if_neg (fun z => absurd z.1 (by decide))]; exact c91
      | some x =>
        have b92 : gI S4 92 m = nI x := b92
        have hQ : ∀ S', F9 m S0 S' → stP m S0 (sc2 T L l x q) Q S' := hQ
        unfold sc2 at hQ
        by_cases c : sgB T L 32 q = true
        · have hc1 : (((some x : Option Nat).isSome && sgB T L 32 q) = true) := by rw [c]; rfl
          simp only [hc1, if_true] at c90 c91 hM7 f07 ⊢
          have hfr2 : fgR T L 2 (q + 1) true = fgN T L 2 (q + 1) := if_pos rfl
          rw [hfr2] at c90 c91 hM7 f07 ⊢
          rw [if_pos c] at hQ
          cases hf2 : fgN T L 2 (q + 1) with
          | mk r o2 =>
            have hrb : r ≤ q + 3 := by
              have e2q : (fgN T L 2 (q + 1)).1 ≤ q + 1 + 2 := by
                unfold fgN
                split
                · split
                  · exact Nat.le_refl _
                  · show q + 1 + 1 ≤ q + 1 + 2; omega
                · show q + 1 ≤ q + 1 + 2; omega
              rw [hf2] at e2q
              exact e2q
            rw [hf2] at hQ c90 c91 hM7 f07
            cases o2 with
            | none =>
              refine t_st116 (p := r) (w := false) (x := 0) (y := 0) hM7 f07 ?_ ?_ (by have : q ≤ p + 2 := e1q; omega) (fun z => by cases z) rfl hQ
              · rw [h_gI_sI, if_neg (fun z => absurd z.1 (by decide))]; exact c90
              · rw [h_gI_sI, if_neg (fun z => absurd z.1 (by decide))]; exact c91
            | some y =>
              refine t_st116 (p := r) (w := true) (x := x) (y := y) hM7 f07 ?_ ?_ (by have : q ≤ p + 2 := e1q; omega) (fun _ _ => ⟨?_, ?_⟩) rfl hQ
              · rw [h_gI_sI, if_neg (fun z => absurd z.1 (by decide))]; exact c90
              · rw [h_gI_sI, if_neg (fun z => absurd z.1 (by decide))]; exact c91
              · rw [h_gI_sI, if_neg (fun z => absurd z.1 (by decide)), c92]; exact b92
              · rw [h_gI_sI, if_pos ⟨rfl, rfl⟩]; rfl
        · have hc1 : ((some x : Option Nat).isSome && sgB T L 32 q) = false := by rw [Bool.not_eq_true _ |>.mp c]; rfl
          simp only [hc1, Bool.false_eq_true, if_false] at c90 c91 hM7 f07 ⊢
          rw [if_neg c] at hQ
          refine t_st116 (p := q) (w := false) (x := 0) (y := 0) hM7 f07 ?_ ?_ (by have : q ≤ p + 2 := e1q; omega) (fun z => by cases z) rfl hQ
          · rw [h_gI_sI, if_neg (fun z => absurd z.1 (by decide))]; exact c90
          · rw [h_gI_sI, if_neg (fun z => absurd z.1 (by decide))]; exact c91
theorem t_statement {m b dd L p : Nat} {T : Nat → Int32} {S : Hp} {Q : Int32 → Hp → Prop} (h : MC m b dd L T S) (hp : gI S 90 m = nI p) (hw : gI S 91 m = 1) (hp2 : p ≤ L) (hQ : ∀ S', F9 m S S' → stP m S (scS T L p) Q S') : wp_X6_statement m S Q := by
  have h' := h
  obtain ⟨⟨h1, h2, h3, h4⟩, h5, h6, h7, h8, h9⟩ := h'
  have f1 : F9 m S (sI S 90 m (nI (p + 1))) := F9.st m S (by decide) (by decide) _
  have hM1 := h.f9 f1
  have g90 : gI (sI S 90 m (nI (p + 1))) 90 m = nI (p + 1) := by rw [h_gI_sI, if_pos ⟨rfl, rfl⟩]
  have g91 : gI (sI S 90 m (nI (p + 1))) 91 m = 1 := by rw [h_gI_sI, if_neg (fun z => absurd z.1 (by decide))]; exact hw
  have bad : ∀ w0 : Int32, ¬ (p < L ∧ (T p = 115 ∨ T p = 119 ∨ T p = 112)) → ¬ (p < L ∧ T p = 120) → (¬ w0 = 115 ∧ ¬ w0 = 119 ∧ ¬ w0 = 112 ∧ ¬ w0 = 120) → J_X6_statement_29 Q m w0 S := fun w0 e1 e2 e3 => by
    unfold J_X6_statement_29
    simp only [forall_eq]
    rw [hp, nI_1]
    refine ⟨h1, h1, fun z => absurd z e3.1, fun _ => ⟨fun z => absurd z e3.2.1, fun _ => ⟨fun _ => ⟨fun z => absurd z e3.2.2.2, fun _ => ⟨h1, h1, h1, ?_⟩⟩, fun z => absurd z e3.2.2.1⟩⟩⟩
    rw [g90, nI_pred]
    have f3 : F9 m S (sI (sI (sI S 90 m (nI (p + 1))) 90 m (nI p)) 91 m 0) := (f1.set (by decide) (by decide) _).set (by decide) (by decide) _
    refine t_st116 (p := p) (w := false) (x := 0) (y := 0) (h.f9 f3) f3 ?_ ?_ (by omega) (fun z => by cases z) rfl (fun S' f => ?_)
    · rw [h_gI_sI, if_neg (fun z => absurd z.1 (by decide)), h_gI_sI, if_pos ⟨rfl, rfl⟩]
    · rw [h_gI_sI, if_pos ⟨rfl, rfl⟩]; rfl
    · have := hQ S' f
      unfold scS at this
      rw [if_neg e1, if_neg e2] at this
      exact this
  unfold wp_X6_statement
  rw [hp, h6, h5, nI_leI (by omega) (by omega)]
  refine ⟨h1, h1, fun e => bad 0 (by omega) (by omega) ⟨by decide, by decide, by decide, by decide⟩, fun e => ?_⟩
  obtain ⟨c1, c2⟩ := h.cell (p := p) (by omega)
  refine ⟨h1, b, h2, h1, h1, h3, c1, ?_⟩
  rw [c2]
  have good : (T p = 115 ∨ T p = 119 ∨ T p = 112) → J_X6_statement_58 Q m (T p) (sI S 90 m (nI (p + 1))) := fun hl => by
    have hq : ∀ S', F9 m S S' → stP m S (sc1 T L (T p) (p + 1)) Q S' := fun S' f => by
      have := hQ S' f
      unfold scS at this
      rw [if_pos ⟨by omega, hl⟩] at this
      exact this
    unfold J_X6_statement_58
    exact ⟨fun e2 => t_st71 (mx := 1) hM1 f1 g90 g91 (by omega) (if_neg e2).symm hq, fun e2 => t_st71 (mx := 2) hM1 f1 g90 g91 (by omega) (if_pos e2).symm hq⟩
  by_cases c120 : T p = 120
  · have hq : ∀ S', F9 m S S' → stP m S (scE T L 120 0 0 (p + 1)) Q S' := fun S' f => by
      have := hQ S' f
      unfold scS at this
      rw [if_neg (fun w => by rw [c120] at w; rcases w.2 with w | w | w <;> exact absurd w (by decide)), if_pos ⟨by omega, c120⟩] at this
      exact this
    unfold J_X6_statement_29
    simp only [forall_eq]
    rw [hp, nI_1, c120]
    refine ⟨h1, h1, fun z => absurd z (by decide), fun _ => ⟨fun z => absurd z (by decide), fun _ => ⟨fun _ => ⟨fun _ => ?_, fun z => absurd rfl z⟩, fun z => absurd z (by decide)⟩⟩⟩
    exact t_st116 (p := p + 1) (w := true) (x := 0) (y := 0) hM1 f1 g90 g91 (by omega) (fun _ z => absurd rfl z) rfl hq
  · by_cases hl : T p = 115 ∨ T p = 119 ∨ T p = 112
    · have hg := good hl
      unfold J_X6_statement_29
      simp only [forall_eq]
      rw [hp, nI_1]
      exact ⟨h1, h1, fun _ => hg, fun e1 => ⟨fun _ => hg, fun e2 => ⟨fun e3 => absurd hl (fun w => w.elim e1 (fun w => w.elim e2 e3)), fun _ => hg⟩⟩⟩
    · exact bad (T p) (fun w => hl w.2) (fun w => c120 w.2) ⟨fun z => hl (Or.inl z), fun z => hl (Or.inr (Or.inl z)), fun z => hl (Or.inr (Or.inr z)), c120⟩
-- what the three passes come to
def P1 (T : Nat → Int32) (L : Nat) : Nat → Nat → Nat → Nat × Bool
  | 0, _, _ => (0, false)
  | f + 1, p, k => match scS T L p with
    | (q, none) => (q, false)
    | (q, some _) => if q < L then P1 T L f q (k + 1) else (k + 1, true)
def okN (n : Nat) (l : Int32) (x y : Nat) : Bool := if l = 115 then decide (1 ≤ x ∧ n < 6) else if l = 119 then decide (x < n ∧ 1 ≤ y) else if l = 112 then decide (x < n) else decide (0 < n)
def nxN (n : Nat) (l : Int32) : Nat := if l = 115 then n + 1 else if l = 120 then n - 1 else n
def P2 (T : Nat → Int32) (L : Nat) : Nat → Nat → Nat → Option Nat
  | 0, _, _ => none
  | f + 1, p, n => if p < L then (match scS T L p with
    | (_, none) => none
    | (q, some (l, x, y)) => if okN n l x y = true then P2 T L f q (nxN n l) else some p) else none
def P3 (T : Nat → Int32) (L : Nat) : Nat → Nat → ASt → ASt
  | 0, _, t => t
  | f + 1, p, t => if p < L then (match scS T L p with
    | (_, none) => t
    | (q, some (l, x, y)) => P3 T L f q ((apS t l x y).getD t)) else t
theorem P1_no {T : Nat → Int32} {L f p k q : Nat} (h : scS T L p = (q, none)) : P1 T L (f + 1) p k = (q, false) := by rw [P1, h]
theorem P1_yes {T : Nat → Int32} {L f p k q : Nat} {x : Int32 × Nat × Nat} (h : scS T L p = (q, some x)) : P1 T L (f + 1) p k = if q < L then P1 T L f q (k + 1) else (k + 1, true) := by rw [P1, h]
theorem P2_end {T : Nat → Int32} {L f p n : Nat} (h : ¬ p < L) : P2 T L f p n = none := by
  cases f with
  | zero => rfl
  | succ f => rw [P2, if_neg h]
theorem P3_end {T : Nat → Int32} {L f p : Nat} {t : ASt} (h : ¬ p < L) : P3 T L f p t = t := by
  cases f with
  | zero => rfl
  | succ f => rw [P3, if_neg h]
theorem P2_yes {T : Nat → Int32} {L f p n q x y : Nat} {l : Int32} (hp : p < L) (h : scS T L p = (q, some (l, x, y))) : P2 T L (f + 1) p n = if okN n l x y = true then P2 T L f q (nxN n l) else some p := by
  rw [P2, if_pos hp, h]
theorem P3_yes {T : Nat → Int32} {L f p q x y : Nat} {l : Int32} {t : ASt} (hp : p < L) (h : scS T L p = (q, some (l, x, y))) : P3 T L (f + 1) p t = P3 T L f q ((apS t l x y).getD t) := by
  rw [P3, if_pos hp, h]
theorem apS_n {t : ASt} {l : Int32} {x y : Nat} (hl : l = 115 ∨ l = 119 ∨ l = 112 ∨ l = 120) : (okN t.1 l x y = true → ∃ t', apS t l x y = some t' ∧ t'.1 = nxN t.1 l) ∧ (¬ okN t.1 l x y = true → apS t l x y = none) := by
  unfold okN apS nxN
  rcases hl with rfl | rfl | rfl | rfl
  · simp only [if_true]
    by_cases c : 1 ≤ x ∧ t.1 < 6
    · rw [decide_eq_true c, if_pos c]
      exact ⟨fun _ => ⟨_, rfl, rfl⟩, fun z => absurd rfl z⟩
    · rw [decide_eq_false c, if_neg c]
      exact ⟨fun z => absurd z (by decide), fun _ => rfl⟩
  · simp only [show ¬ ((119 : Int32) = 115) by decide, show ¬ ((119 : Int32) = 120) by decide, if_true, if_false]
    by_cases c : x < t.1 ∧ 1 ≤ y
    · rw [decide_eq_true c, if_pos c]
      exact ⟨fun _ => ⟨_, rfl, rfl⟩, fun z => absurd rfl z⟩
    · rw [decide_eq_false c, if_neg c]
      exact ⟨fun z => absurd z (by decide), fun _ => rfl⟩
  · simp only [show ¬ ((112 : Int32) = 115) by decide, show ¬ ((112 : Int32) = 119) by decide, show ¬ ((112 : Int32) = 120) by decide, if_true, if_false]
    by_cases c : x < t.1
    · rw [decide_eq_true c, if_pos c]
      exact ⟨fun _ => ⟨_, rfl, rfl⟩, fun z => absurd rfl z⟩
    · rw [decide_eq_false c, if_neg c]
      exact ⟨fun z => absurd z (by decide), fun _ => rfl⟩
  · simp only [show ¬ ((120 : Int32) = 115) by decide, show ¬ ((120 : Int32) = 119) by decide, show ¬ ((120 : Int32) = 112) by decide, if_true, if_false]
    by_cases c : 0 < t.1
    · rw [decide_eq_true c, if_pos c]
      exact ⟨fun _ => ⟨_, rfl, rfl⟩, fun z => absurd rfl z⟩
    · rw [decide_eq_false c, if_neg c]
      exact ⟨fun z => absurd z (by decide), fun _ => rfl⟩
theorem rd_some {T : Nat → Int32} {L : Nat} : ∀ {f p k K p0 : Nat} {t : ASt}, P1 T L f p k = (K, true) → rd T L f p k (some p0) t = (-2000 - nI p0, none)
  | 0, _, _, _, _, _, h => by cases h
  | f + 1, p, k, K, p0, t, h => by
    cases hs : scS T L p with
    | mk q o =>
      cases o with
      | none => rw [P1_no hs] at h; cases h
      | some lxy =>
        obtain ⟨l, x, y⟩ := lxy
        rw [P1_yes hs] at h
        rw [rd_yes hs]
        by_cases c : q < L
        · rw [if_pos c] at h ⊢; exact rd_some h
        · rw [if_neg c] at h ⊢; rfl
theorem rd_fail {T : Nat → Int32} {L : Nat} : ∀ {f p k q : Nat} {u : Option Nat} {t : ASt}, L - p < f → P1 T L f p k = (q, false) → rd T L f p k u t = (-1000 - nI q, none)
  | 0, p, _, _, _, _, hf, _ => absurd hf (Nat.not_lt_zero _)
  | f + 1, p, k, q', u, t, hf, h => by
    cases hs : scS T L p with
    | mk q o =>
      cases o with
      | none => rw [P1_no hs] at h; cases h; exact rd_no hs
      | some lxy =>
        obtain ⟨l, x, y⟩ := lxy
        have hk := scS_ok hs
        rw [P1_yes hs] at h
        rw [rd_yes hs]
        by_cases c : q < L
        · rw [if_pos c] at h ⊢; exact rd_fail (by omega) h
        · rw [if_neg c] at h; cases h
theorem rd_none {T : Nat → Int32} {L : Nat} : ∀ {f p k K : Nat} {t : ASt}, P1 T L f p k = (K, true) → rd T L f p k none t = match P2 T L f p t.1 with
    | some p0 => (-2000 - nI p0, none)
    | none => (nI K, some (P3 T L f p t))
  | 0, _, _, _, _, h => by cases h
  | f + 1, p, k, K, t, h => by
    cases hs : scS T L p with
    | mk q o =>
      cases o with
      | none => rw [P1_no hs] at h; cases h
      | some lxy =>
        obtain ⟨l, x, y⟩ := lxy
        have hk := scS_ok hs
        have hpl : p < L := by omega
        have hn := apS_n (t := t) (x := x) (y := y) hk.2.2.2.2
        rw [P1_yes hs] at h
        rw [rd_yes hs, P2_yes hpl hs, P3_yes hpl hs]
        by_cases ho : okN t.1 l x y = true
        · obtain ⟨t', ht', hn'⟩ := hn.1 ho
          rw [if_pos ho, ht']
          show (if q < L then rd T L f q (k + 1) none t' else fin none (k + 1) t') = match P2 T L f q (nxN t.1 l) with
            | some p0 => (-2000 - nI p0, none)
            | none => (nI K, some (P3 T L f q t'))
          rw [← hn']
          by_cases c : q < L
          · rw [if_pos c] at h ⊢; exact rd_none h
          · rw [if_neg c] at h ⊢
            cases h
            rw [P2_end c, P3_end c]; rfl
        · have ht' := hn.2 ho
          rw [if_neg ho, ht']
          show (if q < L then rd T L f q (k + 1) (some p) t else fin (some p) (k + 1) t) = (-2000 - nI p, none)
          by_cases c : q < L
          · rw [if_pos c] at h ⊢; exact rd_some h
          · rw [if_neg c]; rfl
/-- statements from here on are as told -/
def gd (T : Nat → Int32) (L p : Nat) : Prop := p < L → ∃ f k K, P1 T L f p k = (K, true)
theorem gd_go {T : Nat → Int32} {L p : Nat} (h : gd T L p) (hp : p < L) : ∃ q l x y, scS T L p = (q, some (l, x, y)) ∧ gd T L q := by
  obtain ⟨f, k, K, h1⟩ := h hp
  cases f with
  | zero => cases h1
  | succ f =>
    cases hs : scS T L p with
    | mk q o =>
      cases o with
      | none => rw [P1_no hs] at h1; cases h1
      | some lxy =>
        obtain ⟨l, x, y⟩ := lxy
        refine ⟨q, l, x, y, rfl, fun hq => ⟨f, k + 1, K, ?_⟩⟩
        rw [P1_yes hs, if_pos hq] at h1
        exact h1
theorem t_told {n x y : Nat} {l f1 f2 : Int32} {S : Hp} {Q : Int32 → Hp → Prop} (hn : n ≤ 100) (hx : x ≤ 99) (hy : y ≤ 99) (hl : l = 115 ∨ l = 119 ∨ l = 112 ∨ l = 120) (h12 : l ≠ 120 → f1 = nI x ∧ f2 = nI y) (hQ : Q (b2 (okN n l x y = true)) S) : wp_X6_isAsTold l f1 f2 (nI n) S Q := by
  have yes : okN n l x y = true → Q 1 S := fun w => by rw [b2_t w] at hQ; exact hQ
  have no : ¬ okN n l x y = true → Q 0 S := fun w => by rw [b2_f w] at hQ; exact hQ
  unfold okN at yes no
  unfold wp_X6_isAsTold
  rcases hl with rfl | rfl | rfl | rfl
  · obtain ⟨e1, e2⟩ := h12 (by decide)
    subst e1; subst e2
    simp only [if_true, decide_eq_true_iff] at yes no
    refine ⟨fun z => absurd z (by decide), fun _ => ?_, fun z => absurd z (by decide), fun z => absurd rfl z.2.1⟩
    rw [show (1 : Int32) = nI 1 from rfl, nI_ltI (by omega) (by decide), show (6 : Int32) = nI 6 from rfl, nI_leI (by decide) (by omega)]
    exact ⟨fun z => no (by omega), fun z => ⟨fun z2 => no (by omega), fun z2 => yes (by omega)⟩⟩
  · obtain ⟨e1, e2⟩ := h12 (by decide)
    subst e1; subst e2
    simp only [show ¬ ((119 : Int32) = 115) by decide, if_true, if_false, decide_eq_true_iff] at yes no
    refine ⟨fun z => absurd z (by decide), fun z => absurd z (by decide), fun _ => ?_, fun z => absurd rfl z.2.2⟩
    rw [nI_leI (by omega) (by omega), show (1 : Int32) = nI 1 from rfl, nI_ltI (by omega) (by decide)]
    exact ⟨fun z => no (by omega), fun z => ⟨fun z2 => no (by omega), fun z2 => yes (by omega)⟩⟩
  · obtain ⟨e1, e2⟩ := h12 (by decide)
    subst e1; subst e2
    simp only [show ¬ ((112 : Int32) = 115) by decide, show ¬ ((112 : Int32) = 119) by decide, if_true, if_false, decide_eq_true_iff] at yes no
    refine ⟨fun _ => ?_, fun z => absurd z (by decide), fun z => absurd z (by decide), fun z => absurd rfl z.1⟩
    rw [nI_leI (by omega) (by omega)]
    exact ⟨fun z => no (by omega), fun z => yes (by omega)⟩
  · simp only [show ¬ ((120 : Int32) = 115) by decide, show ¬ ((120 : Int32) = 119) by decide, show ¬ ((120 : Int32) = 112) by decide, if_false, decide_eq_true_iff] at yes no
    refine ⟨fun z => absurd z (by decide), fun z => absurd z (by decide), fun z => absurd z (by decide), fun _ => ?_⟩
    rw [show (0 : Int32) = nI 0 from rfl, nI_leI (by omega) (by decide)]
    exact ⟨fun z => no (by omega), fun z => yes (by omega)⟩
