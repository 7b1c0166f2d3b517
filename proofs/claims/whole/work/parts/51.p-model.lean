/-! the reference: its small methods, by what they answer -/
theorem e_isIn (x a b : Int32) (S : Hp) (Q : Int32 → Hp → Prop) : wp_X6_isIn x a b S Q ↔ Q (b2 (a.toInt ≤ x.toInt ∧ x.toInt ≤ b.toInt)) S := by
  unfold wp_X6_isIn
  rw [p_lt, p_lt]
  by_cases h1 : x.toInt < a.toInt
  · rw [b2_f (by omega)]; simp [h1]
  · by_cases h2 : b.toInt < x.toInt
    · rw [b2_f (by omega)]; simp [h1, h2]
    · rw [b2_t (by omega)]; simp [h1, h2]
theorem t_power {n : Nat} (hn : n ≤ 18) {S : Hp} {Q : Int32 → Hp → Prop} (h : Q (nI (3 ^ n)) S) : wp_X6_power (nI n) S Q := by
  unfold wp_X6_power
  refine it_up n (fun k x => x = (nI n, nI (3 ^ k), nI k, S)) ?_ _ rfl
  rintro C k x hk rfl hC
  simp only [L_X6_power_4]
  rw [nI_leI (by omega) (by omega)]
  refine ⟨fun hc => ?_, fun hc => ?_⟩
  · rw [show k = n by omega]; exact h
  · intro y1 e1 y2 e2
    refine hC (by omega) _ ?_
    rw [e1, e2, nI_1, show (3 : Int32) = nI 3 from rfl, pk_mul, Nat.pow_succ]
/-- what a look writes: the ints 77 to 82 alone -/
def SC (S S' : Hp) : Prop := S'.1 = S.1 ∧ S'.2.2 = S.2.2 ∧ ∀ i a, (i < 77 ∨ 82 < i) → gI S' i a = gI S i a
theorem SC.rf (S : Hp) : SC S S := ⟨rfl, rfl, fun _ _ _ => rfl⟩
theorem SC.tr {S S' S'' : Hp} (h : SC S S') (h' : SC S' S'') : SC S S'' := ⟨h'.1.trans h.1, h'.2.1.trans h.2.1, fun i a z => (h'.2.2 i a z).trans (h.2.2 i a z)⟩
theorem SC.k {S S' : Hp} (h : SC S S') : kd S' = kd S := by funext x; unfold kd; rw [h.1]
theorem SC.r {S S' : Hp} (h : SC S S') : gR S' = gR S := by funext i x; unfold gR; rw [h.2.1]
theorem SC.l {S S' : Hp} (h : SC S S') : ln S' = ln S := by funext x; unfold ln; rw [h.2.1]
theorem SC.a {S S' : Hp} (h : SC S S') : gA S' = gA S := by funext x j; unfold gA; rw [h.2.1]
theorem SC.q {S S' : Hp} (h : SC S S') : gQ S' = gQ S := by funext x j; unfold gQ; rw [h.2.1]
theorem SC.set {S S' : Hp} (h : SC S S') {i a : Nat} {v : Int32} (h1 : 77 ≤ i) (h2 : i ≤ 82) : SC S (sI S' i a v) := ⟨h.1, h.2.1, fun j b z => (h_gI_sI S' i a v j b).trans ((if_neg (fun w => by omega)).trans (h.2.2 j b z))⟩
theorem t_look {S : Hp} {m w p n q : Nat} {wt pr : Nat → Int32} {Q : Hp → Prop} (h0 : kd S m = 7) (hn : gI S 70 m = nI n) (hn6 : n ≤ 6) (hw : gR S 71 m = some w) (hp : gR S 72 m = some p) (kw : kd S w = 8) (kp : kd S p = 8) (lw : ln S w = 6) (lp : ln S p = 6) (hwt : ∀ j, j < n → gA S w j = wt j) (hpr : ∀ j, j < n → gA S p j = pr j) (hq : q < 2 ^ 31)
    (hQ : ∀ S', SC S S' → gI S' 77 m = rgt wt n q → gI S' 78 m = lft wt n q → gI S' 79 m = nI (rct n q) → gI S' 80 m = nI (lct n q) → gI S' 81 m = prs pr n q → gI S' 82 m = nI (usd n q) → Q S') : wp_X6_look m (nI q) S Q := by
  simp only [wp_X6_look, forall_eq, h_kd_sI, h0, true_and]
  refine it_up n (fun s x => ∃ S', x = (m, nI (q / 3 ^ s), nI s, S') ∧ SC S S' ∧ gI S' 77 m = rgt wt s q ∧ gI S' 78 m = lft wt s q ∧ gI S' 79 m = nI (rct s q) ∧ gI S' 80 m = nI (lct s q) ∧ gI S' 81 m = prs pr s q ∧ gI S' 82 m = nI (usd s q)) ?_ _ ⟨_, by rw [Nat.pow_zero, Nat.div_one]; rfl, ?_, ?_⟩
  · rintro C s x hs ⟨S', rfl, hSC, h77, h78, h79, h80, h81, h82⟩ hC
    have h70 : gI S' 70 m = nI n := (hSC.2.2 70 m (by omega)).trans hn
    simp only [L_X6_look_34, hSC.k, h0, true_and, h70]
    rw [nI_leI (by omega) (by omega)]
    refine ⟨fun hc => ?_, fun hc => ?_⟩
    · have hsn : s = n := by omega
      subst hsn
      exact hQ S' hSC h77 h78 h79 h80 h81 h82
    · have hsn : s < n := by omega
      have hin : vp_in (nI s) 6 := vp_in_nI (by omega) (by decide)
      have hd : q / 3 ^ s % 3 = dg s q := rfl
      have hb : q / 3 ^ s < 2 ^ 31 := Nat.lt_of_le_of_lt (Nat.div_le_self _ _) hq
      have hdd : nI (q / 3 ^ s) / (3 : Int32) = nI (q / 3 ^ (s + 1)) := by
        rw [show (3 : Int32) = nI 3 from rfl, pk_div hb (by decide) (by decide), Nat.pow_succ, Nat.div_div_eq_div_mul]
      have hdm : nI (q / 3 ^ s) - nI (q / 3 ^ s) / (3 : Int32) * (3 : Int32) = nI (dg s q) := by
        rw [show (3 : Int32) = nI 3 from rfl, pk_rem hb (by decide) (by decide)]; rfl
      have hsh : (1 : Int32) <<< (nI s &&& 31) = nI (2 ^ s) := by
        have : ∀ s, s < 6 → (1 : Int32) <<< (nI s &&& 31) = nI (2 ^ s) := by decide +kernel
        exact this s (by omega)
      have hor : ∀ a b, nI a ||| nI b = nI (a ||| b) := fun a b => by
        rw [← Int32.toBitVec_inj]; simp [nI, BitVec.ofNat_or]
      have hdlt := dg_lt s q
      have hcl : (nI s).toNatClampNeg = s := nI_clamp (by omega)
      have hor0 : nI (usd s q) ||| (0 : Int32) = nI (usd s q) := by
        rw [show (0 : Int32) = nI 0 from rfl, hor, Nat.or_zero]
      rw [hdm, hdd]
      simp only [forall_eq]
      rcases (by omega : dg s q = 0 ∨ dg s q = 1 ∨ dg s q = 2) with e | e | e
      all_goals
        rw [e]
        simp only [J_X6_look_72, J_X6_look_97, J_X6_look_117, J_X6_look_137, J_X6_look_161, J_X6_look_182, hSC.k, hSC.r, hSC.l, hSC.a, h0, hw, hp, kw, kp, lw, lp, hin, hcl, hsh, h_kd_sI, h_gR_sI, h_ln_sI, h_gA_sI, h_gI_sI, h77, h78, h79, h80, h81, h82, hwt s hsn, hpr s hsn, true_and, forall_eq, Option.some.injEq, exists_eq_left', show nI 0 = 0 from rfl, show nI 1 = 1 from rfl, show nI 2 = 2 from rfl, show ¬ ((0 : Int32) = 1) by decide, show ¬ ((0 : Int32) = 2) by decide, show ¬ ((1 : Int32) = 2) by decide, show ¬ ((1 : Int32) = 0) by decide, show ¬ ((2 : Int32) = 1) by decide, show ¬ ((2 : Int32) = 0) by decide, not_false_eq_true, not_true_eq_false, forall_const, false_implies, true_implies, and_true, reduceCtorEq]
        simp
        refine hC hsn _ ⟨_, by rw [nI_1], ?_, ?_⟩
        · exact (((((hSC.set (by decide) (by decide)).set (by decide) (by decide)).set (by decide) (by decide)).set (by decide) (by decide)).set (by decide) (by decide)).set (by decide) (by decide)
        · simp [h_gI_sI, rgt, lft, rct, lct, prs, usd, e, hor, hor0, nI_1, h77, h78, h79, h80, h81, h82]
  · exact ((((((SC.rf S).set (by decide) (by decide)).set (by decide) (by decide)).set (by decide) (by decide)).set (by decide) (by decide)).set (by decide) (by decide)).set (by decide) (by decide)
  · simp [h_gI_sI, rgt, lft, rct, lct, prs, usd, nI_0]
