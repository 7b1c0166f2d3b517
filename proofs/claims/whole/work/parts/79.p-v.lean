/-! shops as texts: what a text says; the class's reader -/
def dgB (T : Nat → Int32) (L p : Nat) : Bool := decide (p < L ∧ 48 ≤ (T p).toInt ∧ (T p).toInt ≤ 57)
def dgV (T : Nat → Int32) (p : Nat) : Nat := ((T p).toInt - 48).toNat
def sgB (T : Nat → Int32) (L : Nat) (c : Int32) (p : Nat) : Bool := decide (p < L ∧ T p = c)
def fgN (T : Nat → Int32) (L m p : Nat) : Nat × Option Nat := if dgB T L p = true then (if m = 2 ∧ 0 < dgV T p ∧ dgB T L (p + 1) = true then (p + 2, some (10 * dgV T p + dgV T (p + 1))) else (p + 1, some (dgV T p))) else (p, none)
abbrev SR : Type := Nat × Option (Int32 × Nat × Nat)
def scE (T : Nat → Int32) (L : Nat) (l : Int32) (x y r : Nat) : SR := if sgB T L 59 r = true then (r + 1, some (l, x, y)) else (r, none)
def sc2 (T : Nat → Int32) (L : Nat) (l : Int32) (x q : Nat) : SR := if sgB T L 32 q = true then (match fgN T L 2 (q + 1) with
  | (r, none) => (r, none)
  | (r, some y) => scE T L l x y r) else (q, none)
def sc1 (T : Nat → Int32) (L : Nat) (l : Int32) (p : Nat) : SR := match fgN T L (if l = 115 then 2 else 1) p with
  | (q, none) => (q, none)
  | (q, some x) => sc2 T L l x q
def scS (T : Nat → Int32) (L p : Nat) : SR := if p < L ∧ (T p = 115 ∨ T p = 119 ∨ T p = 112) then sc1 T L (T p) (p + 1) else if p < L ∧ T p = 120 then scE T L 120 0 0 (p + 1) else (p, none)
def apS (t : ASt) (l : Int32) (x y : Nat) : Option ASt := if l = 115 then (if 1 ≤ x ∧ t.1 < 6 then some (adT t (nI x) (nI y)) else none) else if l = 119 then (if x < t.1 ∧ 1 ≤ y then some (t.1, upd t.2.1 x (nI y), t.2.2) else none) else if l = 112 then (if x < t.1 then some (t.1, t.2.1, upd t.2.2 x (nI y)) else none) else (if 0 < t.1 then some (t.1 - 1, t.2.1, t.2.2) else none)
theorem dgV_9 {T : Nat → Int32} {L p : Nat} (h : dgB T L p = true) : p < L ∧ dgV T p ≤ 9 ∧ T p - (48 : Int32) = nI (dgV T p) := by
  have h := of_decide_eq_true h
  have e48 : (48 : Int32).toInt = 48 := rfl
  refine ⟨h.1, by unfold dgV; omega, ?_⟩
  rw [p_eq, p_sub (by omega) (by omega), e48, nI_toInt (by unfold dgV; omega)]
  unfold dgV; omega
theorem fgN_ok {T : Nat → Int32} {L m p q x : Nat} (h : fgN T L m p = (q, some x)) : p < q ∧ q ≤ L ∧ x ≤ 99 := by
  unfold fgN at h
  by_cases c : dgB T L p = true
  · have h1 := dgV_9 c
    rw [if_pos c] at h
    by_cases c2 : m = 2 ∧ 0 < dgV T p ∧ dgB T L (p + 1) = true
    · have h2 := dgV_9 c2.2.2
      rw [if_pos c2] at h
      cases h
      exact ⟨by omega, by omega, by omega⟩
    · rw [if_neg c2] at h
      cases h
      exact ⟨by omega, by omega, by omega⟩
  · rw [if_neg c] at h; cases h
theorem fgN_no {T : Nat → Int32} {L m p q : Nat} (h : fgN T L m p = (q, none)) : q = p ∧ ¬ dgB T L p = true := by
  unfold fgN at h
  by_cases c : dgB T L p = true
  · rw [if_pos c] at h
    split at h <;> cases h
  · rw [if_neg c] at h; cases h; exact ⟨rfl, c⟩
theorem sgB_lt {T : Nat → Int32} {L p : Nat} {c : Int32} (h : sgB T L c p = true) : p < L ∧ T p = c := of_decide_eq_true h
theorem scE_ok {T : Nat → Int32} {L x y r q x' y' : Nat} {l l' : Int32} (h : scE T L l x y r = (q, some (l', x', y'))) : q = r + 1 ∧ r < L ∧ l' = l ∧ x' = x ∧ y' = y := by
  unfold scE at h
  by_cases c : sgB T L 59 r = true
  · rw [if_pos c] at h; cases h; exact ⟨rfl, (sgB_lt c).1, rfl, rfl, rfl⟩
  · rw [if_neg c] at h; cases h
theorem sc2_ok {T : Nat → Int32} {L x q r x' y' : Nat} {l l' : Int32} (h : sc2 T L l x q = (r, some (l', x', y'))) : q + 3 ≤ r ∧ r ≤ L ∧ l' = l ∧ x' = x ∧ y' ≤ 99 := by
  unfold sc2 at h
  by_cases c : sgB T L 32 q = true
  · rw [if_pos c] at h
    cases hf : fgN T L 2 (q + 1) with
    | mk r1 o =>
      rw [hf] at h
      cases o with
      | none => cases h
      | some y =>
        have h1 := fgN_ok hf
        have h2 := scE_ok h
        exact ⟨by omega, by omega, h2.2.2.1, h2.2.2.2.1, by omega⟩
  · rw [if_neg c] at h; cases h
theorem scS_ok {T : Nat → Int32} {L p q x y : Nat} {l : Int32} (h : scS T L p = (q, some (l, x, y))) : p + 2 ≤ q ∧ q ≤ L ∧ x ≤ 99 ∧ y ≤ 99 ∧ (l = 115 ∨ l = 119 ∨ l = 112 ∨ l = 120) := by
  unfold scS at h
  by_cases c : p < L ∧ (T p = 115 ∨ T p = 119 ∨ T p = 112)
  · rw [if_pos c] at h
    unfold sc1 at h
    cases hf : fgN T L (if T p = 115 then 2 else 1) (p + 1) with
    | mk r1 o =>
      rw [hf] at h
      cases o with
      | none => cases h
      | some x1 =>
        have h1 := fgN_ok hf
        have h2 := sc2_ok h
        refine ⟨by omega, by omega, by omega, by omega, ?_⟩
        rw [h2.2.2.1]
        rcases c.2 with e | e | e
        · exact Or.inl e
        · exact Or.inr (Or.inl e)
        · exact Or.inr (Or.inr (Or.inl e))
  · rw [if_neg c] at h
    by_cases c2 : p < L ∧ T p = 120
    · rw [if_pos c2] at h
      have h2 := scE_ok h
      exact ⟨by omega, by omega, by omega, by omega, Or.inr (Or.inr (Or.inr h2.2.2.1))⟩
    · rw [if_neg c2] at h; cases h
theorem apS_ok {t t' : ASt} {l : Int32} {x y : Nat} (h : StOk t) (hx : x ≤ 99) (hy : y ≤ 99) (e : apS t l x y = some t') : StOk t' := by
  have ex : (nI x).toInt = x := nI_toInt (by omega)
  have ey : (nI y).toInt = y := nI_toInt (by omega)
  unfold apS at e
  by_cases c1 : l = 115
  · rw [if_pos c1] at e
    by_cases c2 : 1 ≤ x ∧ t.1 < 6
    · rw [if_pos c2] at e; cases e
      refine ⟨by show t.1 + 1 ≤ 6; omega, fun j hj => ?_, fun j hj => ?_⟩
      · show 1 ≤ (upd t.2.1 t.1 (nI x) j).toInt ∧ (upd t.2.1 t.1 (nI x) j).toInt ≤ 99
        have hj : j < t.1 + 1 := hj
        by_cases c3 : j = t.1
        · rw [c3, upd_s, ex]; omega
        · rw [upd_n _ _ c3]; exact h.2.1 j (by omega)
      · show 0 ≤ (upd t.2.2 t.1 (nI y) j).toInt ∧ (upd t.2.2 t.1 (nI y) j).toInt ≤ 99
        have hj : j < t.1 + 1 := hj
        by_cases c3 : j = t.1
        · rw [c3, upd_s, ey]; omega
        · rw [upd_n _ _ c3]; exact h.2.2 j (by omega)
    · rw [if_neg c2] at e; cases e
  · rw [if_neg c1] at e
    by_cases c2 : l = 119
    · rw [if_pos c2] at e
      by_cases c3 : x < t.1 ∧ 1 ≤ y
      · rw [if_pos c3] at e; cases e
        refine ⟨h.1, fun j hj => ?_, h.2.2⟩
        show 1 ≤ (upd t.2.1 x (nI y) j).toInt ∧ (upd t.2.1 x (nI y) j).toInt ≤ 99
        by_cases c4 : j = x
        · rw [c4, upd_s, ey]; omega
        · rw [upd_n _ _ c4]; exact h.2.1 j hj
      · rw [if_neg c3] at e; cases e
    · rw [if_neg c2] at e
      by_cases c3 : l = 112
      · rw [if_pos c3] at e
        by_cases c4 : x < t.1
        · rw [if_pos c4] at e; cases e
          refine ⟨h.1, h.2.1, fun j hj => ?_⟩
          show 0 ≤ (upd t.2.2 x (nI y) j).toInt ∧ (upd t.2.2 x (nI y) j).toInt ≤ 99
          by_cases c5 : j = x
          · rw [c5, upd_s, ey]; omega
          · rw [upd_n _ _ c5]; exact h.2.2 j hj
        · rw [if_neg c4] at e; cases e
      · rw [if_neg c3] at e
        by_cases c4 : 0 < t.1
        · rw [if_pos c4] at e; cases e
          exact ⟨by show t.1 - 1 ≤ 6; have := h.1; omega, fun j hj => h.2.1 j (by have : j < t.1 - 1 := hj; omega), fun j hj => h.2.2 j (by have : j < t.1 - 1 := hj; omega)⟩
        · rw [if_neg c4] at e; cases e
-- the class's reader
def stA (S : Hp) (m p : Nat) : Hp := sI S 31 m (nI p)
theorem stA_stA (S : Hp) (m p q : Nat) : stA (stA S m p) m q = stA S m q := by
  have e : (fun x b => if x = 31 ∧ b = m then nI q else (if x = 31 ∧ b = m then nI p else S.2.1 x b)) = (fun x b => if x = 31 ∧ b = m then nI q else S.2.1 x b) := by
    funext x b
    split <;> rfl
  unfold stA sI
  exact congrArg (fun f => (S.1, f, S.2.2)) e
theorem stA_at (S : Hp) (m p : Nat) : gI (stA S m p) 31 m = nI p := (h_gI_sI _ _ _ _ _ _).trans (if_pos ⟨rfl, rfl⟩)
theorem stA_st (S : Hp) (m p : Nat) : sI (stA S m p) 31 m (nI p + 1) = stA S m (p + 1) := by
  rw [nI_1]; exact stA_stA S m p (p + 1)
theorem stA_R {S : Hp} {m p y c : Nat} {e : ASh} (h : RwS S y c e) : RwS (stA S m p) y c e := by
  unfold RwS at h ⊢
  rw [show gI (stA S m p) 10 y = gI S 10 y from (h_gI_sI _ _ _ _ _ _).trans (if_neg (fun z => absurd z.1 (by decide)))]
  exact h
theorem x_readDigit {S : Hp} {m y c p : Nat} {e : ASh} {Q : Int32 → Hp → Prop} (hm : kd S m = 4) (hR : RwS S y c e) (hs : e.2.2.2.2.1 ≤ 100) (hp : p ≤ e.2.2.2.2.1) (h1 : dgB e.2.2.2.2.2 e.2.2.2.2.1 p = true → Q (nI (dgV e.2.2.2.2.2 p)) (stA S m (p + 1))) (h0 : ¬ dgB e.2.2.2.2.2 e.2.2.2.2.1 p = true → Q (-1) (stA S m p)) : wp_X3_readDigit m y (stA S m p) Q := by
  have hR' : RwS (stA S m p) y c e := stA_R hR
  have hm' : kd (stA S m p) m = 4 := hm
  unfold wp_X3_readDigit
  rw [stA_at]
  refine ⟨hm', hR'.1, x_isPlace hR' hs fun z hz => bz0 hz (fun hi => ?_) (fun hi => h0 (fun w => hi ?_))⟩
  · have hpl : p < e.2.2.2.2.1 := by have := hi.2; rw [nI_toInt (by omega)] at this; omega
    obtain ⟨q1, q2⟩ := hR'.at hs hpl
    rw [stA_at]
    refine ⟨hR'.1, c, hR'.2.2.1, hm', hR'.2.2.2.1, q1, ?_⟩
    rw [q2, p_lt, show (48 : Int32).toInt = 48 from rfl]
    refine ⟨fun a1 => h0 (fun w => by have := (of_decide_eq_true w).2.1; omega), fun a1 => ⟨hR'.1, c, hR'.2.2.1, hm', hR'.2.2.2.1, q1, ?_⟩⟩
    rw [q2, p_le, show (57 : Int32).toInt = 57 from rfl]
    refine ⟨fun a2 => ⟨hR'.1, c, hR'.2.2.1, hm', hR'.2.2.2.1, q1, ?_⟩, fun a2 => h0 (fun w => by have := (of_decide_eq_true w).2.2; omega)⟩
    have hd : dgB e.2.2.2.2.2 e.2.2.2.2.1 p = true := decide_eq_true ⟨hpl, by omega, a2⟩
    simp only [forall_eq]
    rw [q2, (dgV_9 hd).2.2, stA_st]
    exact ⟨hm', hm', h1 hd⟩
  · have := (of_decide_eq_true w).1
    rw [nI_toInt (by omega)]; omega
theorem x_readNumber {S : Hp} {m y c p : Nat} {e : ASh} {Q : Int32 → Hp → Prop} (hm : kd S m = 4) (hR : RwS S y c e) (hs : e.2.2.2.2.1 ≤ 100) (hp : p ≤ e.2.2.2.2.1) (h1 : ∀ q x, fgN e.2.2.2.2.2 e.2.2.2.2.1 2 p = (q, some x) → Q (nI x) (stA S m q)) (h0 : fgN e.2.2.2.2.2 e.2.2.2.2.1 2 p = (p, none) → Q (-1) (stA S m p)) : wp_X3_readNumber m y (stA S m p) Q := by
  unfold wp_X3_readNumber
  refine ⟨hm, x_readDigit hm hR hs hp (fun hd => ?_) (fun hd => ⟨fun z => absurd z (by decide), fun _ => h0 (if_neg hd)⟩)⟩
  have h9 := dgV_9 hd
  rw [show (0 : Int32) = nI 0 from rfl, nI_ltI (by decide) (by omega)]
  refine ⟨fun z => ⟨hm, x_readDigit hm hR hs (by omega) (fun hd2 => ?_) (fun hd2 => ⟨fun z2 => absurd z2 (by decide), fun _ => h1 _ _ ?_⟩)⟩, fun z => h1 _ _ ?_⟩
  · have h92 := dgV_9 hd2
    refine ⟨fun _ => ?_, fun z2 => absurd (nI_le (Nat.zero_le _) (by omega)) z2⟩
    rw [show (10 : Int32) = nI 10 from rfl, pk_mul, nI_add]
    refine h1 _ _ ?_
    unfold fgN
    rw [if_pos hd, if_pos ⟨rfl, z, hd2⟩]
  · unfold fgN
    rw [if_pos hd, if_neg (fun w => hd2 w.2.2)]
  · unfold fgN
    rw [if_pos hd, if_neg (fun w => z w.2.1)]
theorem x_readSign {S : Hp} {m y c p : Nat} {e : ASh} {ch : Int32} {Q : Int32 → Hp → Prop} (hm : kd S m = 4) (hR : RwS S y c e) (hs : e.2.2.2.2.1 ≤ 100) (hp : p ≤ e.2.2.2.2.1) (h1 : sgB e.2.2.2.2.2 e.2.2.2.2.1 ch p = true → Q 1 (stA S m (p + 1))) (h0 : ¬ sgB e.2.2.2.2.2 e.2.2.2.2.1 ch p = true → Q 0 (stA S m p)) : wp_X3_readSign m y ch (stA S m p) Q := by
  have hR' : RwS (stA S m p) y c e := stA_R hR
  have hm' : kd (stA S m p) m = 4 := hm
  unfold wp_X3_readSign
  rw [stA_at]
  refine ⟨hm', hR'.1, x_isPlace hR' hs fun z hz => bz0 hz (fun hi => ?_) (fun hi => h0 (fun w => hi ?_))⟩
  · have hpl : p < e.2.2.2.2.1 := by have := hi.2; rw [nI_toInt (by omega)] at this; omega
    obtain ⟨q1, q2⟩ := hR'.at hs hpl
    rw [stA_at]
    refine ⟨hR'.1, c, hR'.2.2.1, hm', hR'.2.2.2.1, q1, ?_⟩
    rw [q2]
    simp only [forall_eq]
    rw [stA_st]
    exact ⟨fun a1 => ⟨hm', hm', h1 (decide_eq_true ⟨hpl, a1⟩)⟩, fun a1 => h0 (fun w => a1 (of_decide_eq_true w).2)⟩
  · have := (of_decide_eq_true w).1
    rw [nI_toInt (by omega)]; omega
theorem x_readLetter {S : Hp} {m y c p : Nat} {e : ASh} {Q : Int32 → Hp → Prop} (hm : kd S m = 4) (hR : RwS S y c e) (hs : e.2.2.2.2.1 ≤ 100) (hp : p ≤ e.2.2.2.2.1) (h1 : p < e.2.2.2.2.1 → (e.2.2.2.2.2 p = 115 ∨ e.2.2.2.2.2 p = 119 ∨ e.2.2.2.2.2 p = 112 ∨ e.2.2.2.2.2 p = 120) → Q (e.2.2.2.2.2 p) (stA S m (p + 1))) (h0 : ¬ (p < e.2.2.2.2.1 ∧ (e.2.2.2.2.2 p = 115 ∨ e.2.2.2.2.2 p = 119 ∨ e.2.2.2.2.2 p = 112 ∨ e.2.2.2.2.2 p = 120)) → Q (-1) (stA S m p)) : wp_X3_readLetter m y (stA S m p) Q := by
  have hR' : RwS (stA S m p) y c e := stA_R hR
  have hm' : kd (stA S m p) m = 4 := hm
  unfold wp_X3_readLetter
  rw [stA_at]
  refine ⟨hm', hR'.1, x_isPlace hR' hs fun z hz => bz1 hz (fun hi => ?_) (fun hi => h0 (fun w => hi ?_))⟩
  · have hpl : p < e.2.2.2.2.1 := by have := hi.2; rw [nI_toInt (by omega)] at this; omega
    obtain ⟨q1, q2⟩ := hR'.at hs hpl
    rw [stA_at]
    refine ⟨hR'.1, c, hR'.2.2.1, hm', hR'.2.2.2.1, q1, ?_⟩
    rw [q2]
    simp only [forall_eq]
    rw [stA_st]
    refine ⟨fun a1 => ⟨hm', hm', h1 hpl (Or.inl a1)⟩, fun a1 => ⟨fun a2 => ⟨hm', hm', h1 hpl (Or.inr (Or.inl a2))⟩, fun a2 => ⟨fun a3 => ⟨hm', hm', h1 hpl (Or.inr (Or.inr (Or.inl a3)))⟩, fun a3 => ⟨fun a4 => ⟨hm', hm', h1 hpl (Or.inr (Or.inr (Or.inr a4)))⟩, fun a4 => h0 (fun w => ?_)⟩⟩⟩⟩
    rcases w.2 with w | w | w | w
    · exact a1 w
    · exact a2 w
    · exact a3 w
    · exact a4 w
  · have := w.1
    rw [nI_toInt (by omega)]; omega
theorem x_weighAnew {S : Hp} {c w p : Nat} {t : ASt} {x y : Nat} {Q : Int32 → Hp → Prop} (hS : StS S c w p) (hD : StR S c w p t) (ht : t.1 ≤ 6) (hx : x ≤ 99) (hy : y ≤ 99) (h0 : ¬ (x < t.1 ∧ 1 ≤ y) → Q 0 S) (h1 : x < t.1 → 1 ≤ y → ∀ S', FW (inS w p) (inC c) S S' → StR S' c w p (t.1, upd t.2.1 x (nI y), t.2.2) → Q 1 S') : wp_X4_weighAnew c (nI x) (nI y) S Q := by
  obtain ⟨hc, r1, r2, kw, kp, lw, lp, nwp⟩ := hS
  have ex : (nI x).toInt = x := nI_toInt (by omega)
  have ey : (nI y).toInt = y := nI_toInt (by omega)
  unfold wp_X4_weighAnew
  refine ⟨hc, x_isStone hc hD ht fun z hz => bz0 hz (fun hq => ?_) (fun hq => h0 (fun w => hq ⟨by omega, by omega⟩))⟩
  have hxt : x < t.1 := by have := hq.2; omega
  rw [e_isWt]
  refine br1 (fun hw => ⟨hc, w, r1, kw, by rw [lw]; exact vp_in_nI (by omega) (by decide), fun S6 e6 => ?_⟩) (fun hw => h0 (fun z => hw ⟨by omega, by omega⟩))
  refine h1 hxt (by have := hw.1; omega) S6 (by rw [e6]; exact (FW.rf _ _ S).a (Or.inl rfl) _ _) ⟨by rw [e6]; exact hD.1, fun j hj => ?_, fun j hj => ?_⟩
  · rw [e6, gA_sA, nI_clamp (by omega)]
    show upd (gA S w) x (nI y) j = upd t.2.1 x (nI y) j
    by_cases e : j = x
    · rw [e, upd_s, upd_s]
    · rw [upd_n _ _ e, upd_n _ _ e]; exact hD.2.1 j hj
  · rw [e6, gA_sAn _ _ _ (Ne.symm nwp)]; exact hD.2.2 j hj
theorem x_priceAnew {S : Hp} {c w p : Nat} {t : ASt} {x y : Nat} {Q : Int32 → Hp → Prop} (hS : StS S c w p) (hD : StR S c w p t) (ht : t.1 ≤ 6) (hx : x ≤ 99) (hy : y ≤ 99) (h0 : ¬ (x < t.1) → Q 0 S) (h1 : x < t.1 → ∀ S', FW (inS w p) (inC c) S S' → StR S' c w p (t.1, t.2.1, upd t.2.2 x (nI y)) → Q 1 S') : wp_X4_priceAnew c (nI x) (nI y) S Q := by
  obtain ⟨hc, r1, r2, kw, kp, lw, lp, nwp⟩ := hS
  have ex : (nI x).toInt = x := nI_toInt (by omega)
  have ey : (nI y).toInt = y := nI_toInt (by omega)
  unfold wp_X4_priceAnew
  refine ⟨hc, x_isStone hc hD ht fun z hz => bz0 hz (fun hq => ?_) (fun hq => h0 (fun w => hq ⟨by omega, by omega⟩))⟩
  have hxt : x < t.1 := by have := hq.2; omega
  rw [e_isPr]
  refine br1 (fun hw => ⟨hc, p, r2, kp, by rw [lp]; exact vp_in_nI (by omega) (by decide), fun S6 e6 => ?_⟩) (fun hw => absurd ⟨by omega, by omega⟩ hw)
  refine h1 hxt S6 (by rw [e6]; exact (FW.rf _ _ S).a (Or.inr rfl) _ _) ⟨by rw [e6]; exact hD.1, fun j hj => ?_, fun j hj => ?_⟩
  · rw [e6, gA_sAn _ _ _ nwp]; exact hD.2.1 j hj
  · rw [e6, gA_sA, nI_clamp (by omega)]
    show upd (gA S p) x (nI y) j = upd t.2.2 x (nI y) j
    by_cases e : j = x
    · rw [e, upd_s, upd_s]
    · rw [upd_n _ _ e, upd_n _ _ e]; exact hD.2.2 j hj
theorem x_dropLatest {S : Hp} {c w p : Nat} {t : ASt} {Q : Int32 → Hp → Prop} (hS : StS S c w p) (hD : StR S c w p t) (ht : t.1 ≤ 6) (h0 : ¬ (0 < t.1) → Q 0 S) (h1 : 0 < t.1 → ∀ S', FW (inS w p) (inC c) S S' → StR S' c w p (t.1 - 1, t.2.1, t.2.2) → Q 1 S') : wp_X4_dropLatest c S Q := by
  unfold wp_X4_dropLatest
  rw [hD.1, show (0 : Int32) = nI 0 from rfl, nI_eq (by omega) (by decide)]
  refine ⟨hS.1, fun e => ⟨hS.1, hS.1, fun S1 e1 => ?_⟩, fun e => h0 (by omega)⟩
  refine h1 (by omega) S1 (by rw [e1]; exact (FW.rf _ _ S).i ⟨rfl, rfl⟩ _) ⟨?_, fun j hj => ?_, fun j hj => ?_⟩
  · rw [e1, h_gI_sI, if_pos ⟨rfl, rfl⟩, nI_sub1 (by omega)]
  · rw [e1]; exact hD.2.1 j (by have : j < t.1 - 1 := hj; omega)
  · rw [e1]; exact hD.2.2 j (by have : j < t.1 - 1 := hj; omega)
theorem x_isDone {S : Hp} {m c w p : Nat} {t : ASt} {l : Int32} {x y : Nat} {Q : Int32 → Hp → Prop} (hm : kd S m = 4) (hr : gR S 30 m = some c) (hS : StS S c w p) (hD : StR S c w p t) (ht : t.1 ≤ 6) (hx : x ≤ 99) (hy : y ≤ 99) (h0 : apS t l x y = none → Q 0 S) (h1 : ∀ t', apS t l x y = some t' → ∀ S', FW (inS w p) (inC c) S S' → StR S' c w p t' → Q 1 S') : wp_X3_isDone m l (nI x) (nI y) S Q := by
  have n0 : narrow .boolean (.int (0 : Int32)) = .int 0 := by decide
  have n1 : narrow .boolean (.int (1 : Int32)) = .int 1 := by decide
  have ex : (nI x).toInt = x := nI_toInt (by omega)
  have ey : (nI y).toInt = y := nI_toInt (by omega)
  have l115 : l = 115 ↔ l.toInt = 115 := p_eq _ _
  have l119 : l = 119 ↔ l.toInt = 119 := p_eq _ _
  have l112 : l = 112 ↔ l.toInt = 112 := p_eq _ _
  unfold apS at h0 h1
  unfold wp_X3_isDone
  refine ⟨fun e => ⟨hm, c, hr, hS.1, ?_⟩, fun e => ⟨hm, c, hr, hS.1, ?_⟩, fun e => ⟨hm, c, hr, hS.1, ?_⟩, fun e => ⟨hm, c, hr, hS.1, ?_⟩⟩
  · rw [if_neg (by rw [l115]; omega), if_neg (by rw [l119]; omega), if_pos (by rw [l112]; omega)] at h0 h1
    refine x_priceAnew hS hD ht hx hy (fun a => ⟨n0, h0 (if_neg a)⟩) (fun a S' f hD' => ⟨n1, h1 _ (if_pos a) S' f hD'⟩)
  · rw [if_pos (by rw [l115]; omega)] at h0 h1
    refine x_add hS hD ht (fun a => ⟨n0, h0 (if_neg (fun b => a ⟨b.2, ⟨by omega, by omega⟩, ⟨by omega, by omega⟩⟩))⟩) (fun a b b2 S' f hD' => ⟨n1, h1 _ (if_pos ⟨by have := b.1; omega, a⟩) S' f hD'⟩)
  · rw [if_neg (by rw [l115]; omega), if_pos (by rw [l119]; omega)] at h0 h1
    refine x_weighAnew hS hD ht hx hy (fun a => ⟨n0, h0 (if_neg a)⟩) (fun a b S' f hD' => ⟨n1, h1 _ (if_pos ⟨a, b⟩) S' f hD'⟩)
  · rw [if_neg (by rw [l115]; omega), if_neg (by rw [l119]; omega), if_neg (by rw [l112]; omega)] at h0 h1
    refine x_dropLatest hS hD ht (fun a => ⟨n0, h0 (if_neg a)⟩) (fun a S' f hD' => ⟨n1, h1 _ (if_pos a) S' f hD'⟩)
theorem stA_S {S : Hp} {m q c w p : Nat} (h : StS S c w p) : StS (stA S m q) c w p := h
theorem stA_D {S : Hp} {m q c w p : Nat} {t : ASt} (h : StR S c w p t) : StR (stA S m q) c w p t := by
  unfold StR at h ⊢
  rw [show gI (stA S m q) 42 c = gI S 42 c from (h_gI_sI _ _ _ _ _ _).trans (if_neg (fun z => absurd z.1 (by decide)))]
  exact h
theorem stA_u (S : Hp) (m q : Nat) : gI (stA S m q) 32 m = gI S 32 m := (h_gI_sI _ _ _ _ _ _).trans (if_neg (fun z => absurd z.1 (by decide)))
theorem x_rs74 {S : Hp} {m y c p r x z k b d : Nat} {e : ASh} {t : ASt} {l : Int32} {Q : Int32 → Hp → Prop} (hm : kd S m = 4) (hR : RwS S y c e) (hs : e.2.2.2.2.1 ≤ 100) (hr : gR S 30 m = some k) (hS : StS S k b d) (hD : StR S k b d t) (ht : t.1 ≤ 6) (hp : r ≤ e.2.2.2.2.1) (hx : x ≤ 99) (hz : z ≤ 99)
    (h0 : ∀ q, scE e.2.2.2.2.2 e.2.2.2.2.1 l x z r = (q, none) → Q 0 (stA S m q))
    (h1 : ∀ q l' x' z', scE e.2.2.2.2.2 e.2.2.2.2.1 l x z r = (q, some (l', x', z')) → 0 ≤ gI S 32 m → Q 1 (stA S m q))
    (h2 : ∀ q l' x' z', scE e.2.2.2.2.2 e.2.2.2.2.1 l x z r = (q, some (l', x', z')) → ¬ 0 ≤ gI S 32 m → ∀ t', apS t l' x' z' = some t' → ∀ S', FW (inS b d) (inC k) (stA S m q) S' → StR S' k b d t' → Q 1 S')
    (h3 : ∀ q l' x' z', scE e.2.2.2.2.2 e.2.2.2.2.1 l x z r = (q, some (l', x', z')) → ¬ 0 ≤ gI S 32 m → apS t l' x' z' = none → Q 1 (sI (stA S m q) 32 m (nI p))) : J_X3_readStatement_74 Q m y (nI p) l (nI x) (nI z) (stA S m r) := by
  unfold J_X3_readStatement_74
  refine ⟨fun a => absurd a (nI_pos (by omega)), fun _ => ⟨hm, x_readSign hm hR hs hp (fun a => ⟨fun _ => ⟨hm, ?_⟩, fun w => absurd w (by decide)⟩) (fun a => ⟨fun w => absurd rfl w, fun _ => h0 _ (if_neg a)⟩)⟩⟩
  have hsc : scE e.2.2.2.2.2 e.2.2.2.2.1 l x z r = (r + 1, some (l, x, z)) := if_pos a
  rw [stA_u]
  refine ⟨fun u => h1 _ _ _ _ hsc u, fun u => ⟨hm, x_isDone hm hr (stA_S hS) (stA_D hD) ht hx hz (fun n => ⟨fun w => absurd rfl w, fun _ => ⟨hm, fun S5 e5 => ?_⟩⟩) (fun t' n S' f hD' => ⟨fun _ => h2 _ _ _ _ hsc u t' n S' f hD', fun w => absurd w (by decide)⟩)⟩⟩
  rw [e5]
  exact h3 _ _ _ _ hsc u n
theorem x_rs48 {S : Hp} {m y c p r x k b d : Nat} {e : ASh} {t : ASt} {l : Int32} {Q : Int32 → Hp → Prop} (hm : kd S m = 4) (hR : RwS S y c e) (hs : e.2.2.2.2.1 ≤ 100) (hr : gR S 30 m = some k) (hS : StS S k b d) (hD : StR S k b d t) (ht : t.1 ≤ 6) (hp : r ≤ e.2.2.2.2.1) (hx : x ≤ 99)
    (h0 : ∀ q, sc2 e.2.2.2.2.2 e.2.2.2.2.1 l x r = (q, none) → Q 0 (stA S m q))
    (h1 : ∀ q l' x' z', sc2 e.2.2.2.2.2 e.2.2.2.2.1 l x r = (q, some (l', x', z')) → 0 ≤ gI S 32 m → Q 1 (stA S m q))
    (h2 : ∀ q l' x' z', sc2 e.2.2.2.2.2 e.2.2.2.2.1 l x r = (q, some (l', x', z')) → ¬ 0 ≤ gI S 32 m → ∀ t', apS t l' x' z' = some t' → ∀ S', FW (inS b d) (inC k) (stA S m q) S' → StR S' k b d t' → Q 1 S')
    (h3 : ∀ q l' x' z', sc2 e.2.2.2.2.2 e.2.2.2.2.1 l x r = (q, some (l', x', z')) → ¬ 0 ≤ gI S 32 m → apS t l' x' z' = none → Q 1 (sI (stA S m q) 32 m (nI p))) : J_X3_readStatement_48 Q m y (nI p) l (nI x) (stA S m r) := by
  unfold J_X3_readStatement_48
  refine ⟨fun a => absurd a (nI_pos (by omega)), fun _ => ⟨hm, x_readSign hm hR hs hp (fun a => ⟨fun _ => ⟨hm, ?_⟩, fun w => absurd w (by decide)⟩) (fun a => ⟨fun w => absurd rfl w, fun _ => h0 _ (if_neg a)⟩)⟩⟩
  unfold sc2 at h0 h1 h2 h3
  rw [if_pos a] at h0 h1 h2 h3
  refine x_readNumber hm hR hs (by have := (sgB_lt a).1; omega) (fun q z hf => ?_) (fun hf => ?_)
  · rw [hf] at h0 h1 h2 h3
    have hk := fgN_ok hf
    exact x_rs74 hm hR hs hr hS hD ht (by omega) hx hk.2.2 h0 h1 h2 h3
  · rw [hf] at h0
    unfold J_X3_readStatement_74
    exact ⟨fun _ => h0 _ rfl, fun w => absurd (by decide) w⟩
theorem x_readStatement {S : Hp} {m y c p k b d : Nat} {e : ASh} {t : ASt} {Q : Int32 → Hp → Prop} (hm : kd S m = 4) (hR : RwS S y c e) (hs : e.2.2.2.2.1 ≤ 100) (hr : gR S 30 m = some k) (hS : StS S k b d) (hD : StR S k b d t) (ht : t.1 ≤ 6) (hp : p ≤ e.2.2.2.2.1)
    (h0 : ∀ q, scS e.2.2.2.2.2 e.2.2.2.2.1 p = (q, none) → Q 0 (stA S m q))
    (h1 : ∀ q l' x' z', scS e.2.2.2.2.2 e.2.2.2.2.1 p = (q, some (l', x', z')) → 0 ≤ gI S 32 m → Q 1 (stA S m q))
    (h2 : ∀ q l' x' z', scS e.2.2.2.2.2 e.2.2.2.2.1 p = (q, some (l', x', z')) → ¬ 0 ≤ gI S 32 m → ∀ t', apS t l' x' z' = some t' → ∀ S', FW (inS b d) (inC k) (stA S m q) S' → StR S' k b d t' → Q 1 S')
    (h3 : ∀ q l' x' z', scS e.2.2.2.2.2 e.2.2.2.2.1 p = (q, some (l', x', z')) → ¬ 0 ≤ gI S 32 m → apS t l' x' z' = none → Q 1 (sI (stA S m q) 32 m (nI p))) : wp_X3_readStatement m y (stA S m p) Q := by
  unfold wp_X3_readStatement
  refine ⟨hm, fun y5 e5 => ?_⟩
  rw [stA_at] at e5
  subst e5
  unfold scS at h0 h1 h2 h3
  refine ⟨hm, x_readLetter hm hR hs hp (fun hpl hl => ⟨fun _ => ?_, fun w => ?_⟩) (fun hn => ⟨fun w => absurd w (by decide), fun _ => ?_⟩)⟩
  · by_cases c120 : e.2.2.2.2.2 p = 120
    · rw [c120] at h0 h1 h2 h3 ⊢
      rw [if_neg (fun w => by rcases w.2 with w | w | w <;> exact absurd w (by decide)), if_pos ⟨hpl, rfl⟩] at h0 h1 h2 h3
      exact ⟨fun _ => x_rs74 (x := 0) (z := 0) hm hR hs hr hS hD ht (by omega) (by decide) (by decide) h0 h1 h2 h3, fun w => absurd rfl w⟩
    · have hl3 : e.2.2.2.2.2 p = 115 ∨ e.2.2.2.2.2 p = 119 ∨ e.2.2.2.2.2 p = 112 := by
        rcases hl with w | w | w | w
        · exact Or.inl w
        · exact Or.inr (Or.inl w)
        · exact Or.inr (Or.inr w)
        · exact absurd w c120
      rw [if_pos ⟨hpl, hl3⟩] at h0 h1 h2 h3
      unfold sc1 at h0 h1 h2 h3
      refine ⟨fun w => absurd w c120, fun _ => ⟨fun c115 => ⟨hm, x_readDigit hm hR hs (by omega) (fun hd => ?_) (fun hd => ?_)⟩, fun c115 => ⟨hm, x_readNumber hm hR hs (by omega) (fun q x hf => ?_) (fun hf => ?_)⟩⟩⟩
      · have hf : fgN e.2.2.2.2.2 e.2.2.2.2.1 (if e.2.2.2.2.2 p = 115 then 2 else 1) (p + 1) = (p + 1 + 1, some (dgV e.2.2.2.2.2 (p + 1))) := by
          unfold fgN
          rw [if_pos hd, if_neg c115, if_neg (fun w => absurd w.1 (by decide))]
        rw [hf] at h0 h1 h2 h3
        have h9 := dgV_9 hd
        exact x_rs48 hm hR hs hr hS hD ht (by omega) (by omega) h0 h1 h2 h3
      · have hf : fgN e.2.2.2.2.2 e.2.2.2.2.1 (if e.2.2.2.2.2 p = 115 then 2 else 1) (p + 1) = (p + 1, none) := if_neg hd
        rw [hf] at h0
        unfold J_X3_readStatement_48
        exact ⟨fun _ => h0 _ rfl, fun w => absurd (by decide) w⟩
      · rw [if_pos c115, hf] at h0 h1 h2 h3
        have hk := fgN_ok hf
        exact x_rs48 hm hR hs hr hS hD ht (by omega) hk.2.2 h0 h1 h2 h3
      · rw [if_pos c115, hf] at h0
        unfold J_X3_readStatement_48
        exact ⟨fun _ => h0 _ rfl, fun w => absurd (by decide) w⟩
  · rcases hl with e1 | e1 | e1 | e1 <;> rw [e1] at w <;> exact absurd (by decide) w
  · refine h0 p ?_
    have hn3 : ¬ (p < e.2.2.2.2.1 ∧ (e.2.2.2.2.2 p = 115 ∨ e.2.2.2.2.2 p = 119 ∨ e.2.2.2.2.2 p = 112)) := fun w => hn ⟨w.1, w.2.elim Or.inl (fun w2 => w2.elim (fun w3 => Or.inr (Or.inl w3)) (fun w3 => Or.inr (Or.inr (Or.inl w3))))⟩
    rw [if_neg hn3, if_neg (fun w => hn ⟨w.1, Or.inr (Or.inr (Or.inr w.2))⟩)]
