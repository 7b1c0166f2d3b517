/-! frames; the image; shops by seeds -/
/-- rows of ints and ints are written, here and there -/
def FW (P : Nat → Prop) (J : Nat → Nat → Prop) (S S' : Hp) : Prop := kd S' = kd S ∧ gR S' = gR S ∧ ln S' = ln S ∧ gQ S' = gQ S ∧ (∀ i x, ¬ J i x → gI S' i x = gI S i x) ∧ ∀ c, ¬ P c → gA S' c = gA S c
theorem FW.rf (P : Nat → Prop) (J : Nat → Nat → Prop) (S : Hp) : FW P J S S := ⟨rfl, rfl, rfl, rfl, fun _ _ _ => rfl, fun _ _ => rfl⟩
theorem FW.tr {P : Nat → Prop} {J : Nat → Nat → Prop} {S S' S'' : Hp} (h : FW P J S S') (h' : FW P J S' S'') : FW P J S S'' := ⟨h'.1.trans h.1, h'.2.1.trans h.2.1, h'.2.2.1.trans h.2.2.1, h'.2.2.2.1.trans h.2.2.2.1, fun i x z => (h'.2.2.2.2.1 i x z).trans (h.2.2.2.2.1 i x z), fun c z => (h'.2.2.2.2.2 c z).trans (h.2.2.2.2.2 c z)⟩
theorem FW.mono {P P' : Nat → Prop} {J J' : Nat → Nat → Prop} {S S' : Hp} (h : FW P J S S') (hP : ∀ c, P c → P' c) (hJ : ∀ i x, J i x → J' i x) : FW P' J' S S' := ⟨h.1, h.2.1, h.2.2.1, h.2.2.2.1, fun i x z => h.2.2.2.2.1 i x (fun w => z (hJ i x w)), fun c z => h.2.2.2.2.2 c (fun w => z (hP c w))⟩
theorem FW.a {P : Nat → Prop} {J : Nat → Nat → Prop} {S S' : Hp} (h : FW P J S S') {b : Nat} (hb : P b) (j : Nat) (x : Int32) : FW P J S (sA S' b j x) := ⟨h.1, h.2.1, h.2.2.1, h.2.2.2.1, h.2.2.2.2.1, fun c z => ((h_gA_sF S' b _ c).trans (if_neg (fun w : c = b => z (by rw [w]; exact hb)))).trans (h.2.2.2.2.2 c z)⟩
theorem FW.f {P : Nat → Prop} {J : Nat → Nat → Prop} {S S' : Hp} (h : FW P J S S') {b : Nat} (hb : P b) (g : Nat → Int32) : FW P J S (sF S' b g) := ⟨h.1, h.2.1, h.2.2.1, h.2.2.2.1, h.2.2.2.2.1, fun c z => ((h_gA_sF S' b _ c).trans (if_neg (fun w : c = b => z (by rw [w]; exact hb)))).trans (h.2.2.2.2.2 c z)⟩
theorem FW.i {P : Nat → Prop} {J : Nat → Nat → Prop} {S S' : Hp} (h : FW P J S S') {i b : Nat} (hb : J i b) (x : Int32) : FW P J S (sI S' i b x) := ⟨h.1, h.2.1, h.2.2.1, h.2.2.2.1, fun j c z => ((h_gI_sI S' i b x j c).trans (if_neg (fun w => z (by rw [w.1, w.2]; exact hb)))).trans (h.2.2.2.2.1 j c z), h.2.2.2.2.2⟩
theorem FA.w {P : Nat → Prop} {J : Nat → Nat → Prop} {b : Nat} {S S' : Hp} (h : FA b S S') (hb : P b) : FW P J S S' := ⟨h.1, h.2.2.1, h.2.2.2.1, h.2.2.2.2.1, fun i x _ => by rw [h.2.1], fun c z => h.2.2.2.2.2 c (fun w => z (w ▸ hb))⟩
theorem LyS.fw {P : Nat → Prop} {J : Nat → Nat → Prop} {S S' : Hp} {y r l c d : Nat} (h : LyS S y r l c d) (f : FW P J S S') : LyS S' y r l c d := by
  unfold LyS at h ⊢
  rw [f.1, f.2.1, f.2.2.1]
  exact h
theorem XS.fw {P : Nat → Prop} {J : Nat → Nat → Prop} {a : Nat → Nat} {S S' : Hp} (h : XS a S) (f : FW P J S S') (hJ : ∀ i x, J i x → i ≠ 20 ∧ i ≠ 21) : XS a S' := by
  have e1 : gI S' 20 (a 22) = gI S 20 (a 22) := f.2.2.2.2.1 _ _ (fun w => (hJ _ _ w).1 rfl)
  have e2 : gI S' 21 (a 22) = gI S 21 (a 22) := f.2.2.2.2.1 _ _ (fun w => (hJ _ _ w).2 rfl)
  unfold XS at h ⊢
  rw [f.1, f.2.1, f.2.2.1, e1, e2]
  exact h
theorem XI.fw {P : Nat → Prop} {J : Nat → Nat → Prop} {a : Nat → Nat} {v v' : AS} {S S' : Hp} (h : XI a v S) (f : FW P J S S') (hJ : ∀ i x, J i x → i ≠ 20 ∧ i ≠ 21 ∧ i ≠ 10) (hP : ∀ c, P c → ∃ i, i < 30 ∧ c = a i) (ok : AOk v') (e : v'.2.2 = v.2.2) (d1 : StR S' (a 1) (a 2) (a 3) v'.1) (d2 : LyD S' (a 4) (a 5) (a 6) (a 7) (a 8) v'.1) (d3 : v'.2.1 = none → gI S' 53 (a 0) = 0) (d4 : ∀ t, v'.2.1 = some t → gI S' 53 (a 0) = 1 ∧ StR S' (a 9) (a 10) (a 11) t) (d5 : XZ a S') : XI a v' S' := by
  refine ⟨h.1.fw f (fun i x z => ⟨(hJ i x z).1, (hJ i x z).2.1⟩), ok, d1, d2, d3, d4, ?_, ?_⟩
  · intro d hd
    have h1 := h.2.2.2.2.2.2.1 d hd
    rw [e]
    unfold XSh ScS at h1 ⊢
    have g10 : ∀ x, gI S' 10 x = gI S 10 x := fun x => f.2.2.2.2.1 _ _ (fun w => (hJ _ _ w).2.2 rfl)
    have g20 : ∀ x, gI S' 20 x = gI S 20 x := fun x => f.2.2.2.2.1 _ _ (fun w => (hJ _ _ w).1 rfl)
    have g21 : ∀ x, gI S' 21 x = gI S 21 x := fun x => f.2.2.2.2.1 _ _ (fun w => (hJ _ _ w).2.1 rfl)
    simp only [f.1, f.2.1, f.2.2.1, f.2.2.2.1, g10, g20, g21]
    refine ⟨h1.1, h1.2.1, fun w => ?_⟩
    obtain ⟨g1, z, c, g2, g3, g4, g5, g6, g7, g8, g9⟩ := h1.2.2 w
    refine ⟨g1, z, c, g2, g3, g4, g5, g6, g7, fun j hj => ?_, g9⟩
    rw [f.2.2.2.2.2 c (fun w => by obtain ⟨i, hi, e2⟩ := hP c w; exact g9 i hi e2)]
    exact g8 j hj
  · have h1 := h.2.2.2.2.2.2.2
    unfold XSep at h1 ⊢
    rw [f.2.1, f.2.2.2.1]
    exact ⟨h1.1, d5⟩
theorem MI.fw {P : Nat → Prop} {J : Nat → Nat → Prop} {a : Nat → Nat} {v v' : AS} {S S' : Hp} (h : MI a v S) (f : FW P J S S') (hP : ∀ c, P c → ∃ i, i < 15 ∧ (i < 8 ∨ i = 14) ∧ c = a i) (ok : MOk v') (e : v'.2.2 = v.2.2) (d1 : gI S' 70 (a 0) = nI v'.1.1) (d2 : ∀ j, j < v'.1.1 → gA S' (a 1) j = v'.1.2.1 j) (d3 : ∀ j, j < v'.1.1 → gA S' (a 2) j = v'.1.2.2 j) (d4 : v'.2.1 = none → gI S' 73 (a 0) = 0) (d5 : ∀ t, v'.2.1 = some t → gI S' 73 (a 0) = 1 ∧ gI S' 74 (a 0) = nI t.1 ∧ (∀ j, j < t.1 → gA S' (a 3) j = t.2.1 j) ∧ (∀ j, j < t.1 → gA S' (a 4) j = t.2.2 j)) : MI a v' S' := by
  have ne : ∀ j, j < 14 → 8 ≤ j → gA S' (a j) = gA S (a j) := fun j hj h8 => f.2.2.2.2.2 _ (fun w => by
    obtain ⟨i, hi, h2, e2⟩ := hP _ w
    exact h.1.ne (by omega) hi (by omega) e2)
  refine ⟨?_, ok, d1, d2, d3, d4, d5, fun d hd => ?_⟩
  · have h1 := h.1
    unfold MS at h1 ⊢
    rw [f.1, f.2.1, f.2.2.1]
    exact h1
  · have h1 := h.2.2.2.2.2.2.2 d hd
    rw [e]
    unfold MSh at h1 ⊢
    rw [ne 8 (by decide) (by decide), ne 9 (by decide) (by decide), ne 10 (by decide) (by decide), ne 11 (by decide) (by decide), ne 12 (by decide) (by decide), ne 13 (by decide) (by decide)]
    exact h1
theorem t_move {S : Hp} {b c L : Nat} {Q : Hp → Prop} (hb : kd S b = 8) (hc : kd S c = 8) (hl : ln S b = L) (hl2 : ln S c = L) (hL : L < 2 ^ 31) (hn : b ≠ c) (h : ∀ S', FA c S S' → (∀ j, j < L → gA S' c j = gA S b j) → Q S') : wp_X6_move b c S Q := by
  unfold wp_X6_move
  refine it_up L (fun k x => ∃ S', x = (b, c, nI k, S') ∧ FA c S S' ∧ ∀ j, j < k → gA S' c j = gA S b j) ?_ _ ⟨S, rfl, FA.rf c S, fun j hj => absurd hj (Nat.not_lt_zero j)⟩
  rintro C k x hk ⟨S', rfl, f, hj⟩ hC
  simp only [L_X6_move_2, forall_eq]
  rw [f.1, f.2.2.2.1, hl, hl2, show Int32.ofNat L = nI L from rfl, nI_leI hL (by omega)]
  refine ⟨hb, fun e => h S' f (fun j hj' => hj j (by omega)), fun e => ⟨hb, vp_in_nI (by omega) hL, hc, vp_in_nI (by omega) hL, ?_⟩⟩
  rw [nI_clamp (by omega)]
  refine hC (by omega) _ ⟨_, by rw [nI_1], f.set _ _, fun j hj' => ?_⟩
  rw [gA_sA]
  by_cases e2 : j = k
  · subst e2; rw [upd_s, f.2.2.2.2.2 b hn]
  · rw [upd_n _ _ e2]; exact hj j (by omega)
-- the class: stones taken over
theorem x_takeFrom {S : Hp} {c w p c0 w0 p0 : Nat} {t : ASt} {Q : Hp → Prop} (hc : kd S c = 5) (hc0 : kd S c0 = 5) (r1 : gR S 40 c = some w) (r2 : gR S 41 c = some p) (r3 : gR S 40 c0 = some w0) (r4 : gR S 41 c0 = some p0) (kw : kd S w = 8) (kp : kd S p = 8) (kw0 : kd S w0 = 8) (kp0 : kd S p0 = 8) (lw : ln S w = 6) (lp : ln S p = 6) (lw0 : ln S w0 = 6) (lp0 : ln S p0 = 6) (n1 : w ≠ p) (n2 : p0 ≠ w) (hD : StR S c0 w0 p0 t) (ht : t.1 ≤ 6) (h : ∀ S', FW (fun b => b = w ∨ b = p) (fun i x => i = 42 ∧ x = c) S S' → StR S' c w p t → Q S') : wp_X4_takeFrom c c0 S Q := by
  unfold wp_X4_takeFrom
  refine ⟨hc0, w0, r3, hc, w, r1, ⟨kw0, kw⟩, ⟨by decide, by decide, by decide⟩, ⟨by rw [lw0]; decide, by rw [lw]; decide⟩, fun S3 e3 => ?_⟩
  subst e3
  refine ⟨hc0, p0, r4, hc, p, r2, ⟨kp0, kp⟩, ⟨by decide, by decide, by decide⟩, ⟨by show _ ≤ ln S p0; rw [lp0]; decide, by show _ ≤ ln S p; rw [lp]; decide⟩, fun S6 e6 => ?_⟩
  subst e6
  refine ⟨hc0, hc, fun S7 e7 => ?_⟩
  subst e7
  have z0 : ((0 : Int32)).toNatClampNeg = 0 := by decide
  have z6 : ((6 : Int32)).toNatClampNeg = 6 := by decide
  have cp : ∀ (f g : Nat → Int32) (j : Nat), j < 6 → va_cpy f g 0 0 6 j = f j := fun f g j hj => by
    unfold va_cpy
    rw [if_pos ⟨Nat.zero_le _, by omega⟩, Nat.zero_add, Nat.sub_zero]
  refine h _ ?_ ⟨?_, fun j hj => ?_, fun j hj => ?_⟩
  · exact (((FW.rf _ _ S).f (Or.inl rfl) _).f (Or.inr rfl) _).i ⟨rfl, rfl⟩ _
  · rw [h_gI_sI, if_pos ⟨rfl, rfl⟩]; exact hD.1
  · rw [h_gA_sI, h_gA_sF, if_neg n1, h_gA_sF, if_pos rfl, z0, z6, cp _ _ j (by omega)]
    exact hD.2.1 j hj
  · rw [h_gA_sI, h_gA_sF, if_pos rfl, z0, z6, cp _ _ j (by omega), h_gA_sF, if_neg n2]
    exact hD.2.2 j hj
-- lyings laid out
theorem dg_up {k i m q : Nat} (hi : i < k) : dg i (m * 3 ^ k + q) = dg i q := by
  unfold dg
  obtain ⟨e, rfl⟩ : ∃ e, k = i + (e + 1) := ⟨k - i - 1, by omega⟩
  rw [Nat.pow_add, show m * (3 ^ i * 3 ^ (e + 1)) = 3 ^ i * (m * 3 ^ (e + 1)) by rw [Nat.mul_left_comm], Nat.mul_add_div (p3_pos i), Nat.pow_succ, ← Nat.mul_assoc, Nat.mul_comm _ 3, Nat.mul_add_mod]
theorem dg_top {k m q : Nat} (hm : m < 3) (hq : q < 3 ^ k) : dg k (m * 3 ^ k + q) = m := by
  unfold dg
  rw [Nat.mul_comm, Nat.mul_add_div (p3_pos k), Nat.div_eq_of_lt hq, Nat.add_zero, Nat.mod_eq_of_lt hm]
theorem rgt_top (wt : Nat → Int32) {k m q : Nat} : ∀ n, n ≤ k → rgt wt n (m * 3 ^ k + q) = rgt wt n q
  | 0, _ => rfl
  | n + 1, h => by
    unfold rgt
    rw [rgt_top wt n (by omega), dg_up (by omega)]
theorem lft_top (wt : Nat → Int32) {k m q : Nat} : ∀ n, n ≤ k → lft wt n (m * 3 ^ k + q) = lft wt n q
  | 0, _ => rfl
  | n + 1, h => by
    unfold lft
    rw [lft_top wt n (by omega), dg_up (by omega)]
theorem rbt_top {k m q : Nat} : ∀ n, n ≤ k → rbt n (m * 3 ^ k + q) = rbt n q
  | 0, _ => rfl
  | n + 1, h => by
    unfold rbt
    rw [rbt_top n (by omega), dg_up (by omega)]
theorem lbt_top {k m q : Nat} : ∀ n, n ≤ k → lbt n (m * 3 ^ k + q) = lbt n q
  | 0, _ => rfl
  | n + 1, h => by
    unfold lbt
    rw [lbt_top n (by omega), dg_up (by omega)]
def LyA (S : Hp) (r l c d : Nat) (wt : Nat → Int32) (n q : Nat) : Prop := gA S r q = rgt wt n q ∧ gA S l q = lft wt n q ∧ gA S c q = nI (rbt n q) ∧ gA S d q = nI (lbt n q)
theorem LyA.s0 {S : Hp} {r l c d : Nat} {wt : Nat → Int32} {k q : Nat} (h : LyA S r l c d wt k q) (hq : q < 3 ^ k) : LyA S r l c d wt (k + 1) q := by
  have ht := dg_top (k := k) (m := 0) (q := q) (by decide) hq
  rw [Nat.zero_mul, Nat.zero_add] at ht
  unfold LyA at h ⊢
  unfold rgt lft rbt lbt
  simp only [ht, show ¬ ((0 : Nat) = 1) by decide, show ¬ ((0 : Nat) = 2) by decide, if_false, Int32.add_zero, Nat.or_zero]
  exact h
theorem LyA.s1 {S : Hp} {r l c d : Nat} {wt : Nat → Int32} {k q : Nat} (hq : q < 3 ^ k) (h1 : gA S r (3 ^ k + q) = rgt wt k q + wt k) (h2 : gA S l (3 ^ k + q) = lft wt k q) (h3 : gA S c (3 ^ k + q) = nI (rbt k q ||| 2 ^ k)) (h4 : gA S d (3 ^ k + q) = nI (lbt k q)) : LyA S r l c d wt (k + 1) (3 ^ k + q) := by
  have ht := dg_top (k := k) (m := 1) (q := q) (by decide) hq
  have e1 := rgt_top wt (k := k) (m := 1) (q := q) k (Nat.le_refl k)
  have e2 := lft_top wt (k := k) (m := 1) (q := q) k (Nat.le_refl k)
  have e3 := rbt_top (k := k) (m := 1) (q := q) k (Nat.le_refl k)
  have e4 := lbt_top (k := k) (m := 1) (q := q) k (Nat.le_refl k)
  rw [Nat.one_mul] at ht e1 e2 e3 e4
  unfold LyA rgt lft rbt lbt
  rw [h1, h2, h3, h4]
  simp only [ht, e1, e2, e3, e4, show ¬ ((1 : Nat) = 2) by decide, if_false, if_true, Int32.add_zero, Nat.or_zero, and_self]
theorem LyA.s2 {S : Hp} {r l c d : Nat} {wt : Nat → Int32} {k q : Nat} (hq : q < 3 ^ k) (h1 : gA S r (2 * 3 ^ k + q) = rgt wt k q) (h2 : gA S l (2 * 3 ^ k + q) = lft wt k q + wt k) (h3 : gA S c (2 * 3 ^ k + q) = nI (rbt k q)) (h4 : gA S d (2 * 3 ^ k + q) = nI (lbt k q ||| 2 ^ k)) : LyA S r l c d wt (k + 1) (2 * 3 ^ k + q) := by
  have ht := dg_top (k := k) (m := 2) (q := q) (by decide) hq
  have e1 := rgt_top wt (k := k) (m := 2) (q := q) k (Nat.le_refl k)
  have e2 := lft_top wt (k := k) (m := 2) (q := q) k (Nat.le_refl k)
  have e3 := rbt_top (k := k) (m := 2) (q := q) k (Nat.le_refl k)
  have e4 := lbt_top (k := k) (m := 2) (q := q) k (Nat.le_refl k)
  unfold LyA rgt lft rbt lbt
  rw [h1, h2, h3, h4]
  simp only [ht, e1, e2, e3, e4, show ¬ ((2 : Nat) = 1) by decide, if_false, if_true, Int32.add_zero, Nat.or_zero, and_self]
abbrev inL (r l c d : Nat) (b : Nat) : Prop := b = r ∨ b = l ∨ b = c ∨ b = d
theorem x_layRight {S : Hp} {y r l c d i j k : Nat} {x : Int32} {Q : Hp → Prop} (hS : LyS S y r l c d) (hi : i < 729) (hj : j < 729) (h : ∀ S', FW (inL r l c d) (fun _ _ => False) S S' → gA S' r = upd (gA S r) i (gA S r j + x) → gA S' l = upd (gA S l) i (gA S l j) → gA S' c = upd (gA S c) i (gA S c j ||| ((1 : Int32) <<< (nI k &&& 31))) → gA S' d = upd (gA S d) i (gA S d j) → Q S') : wp_X0_layRight y (nI i) (nI j) (nI k) x S Q := by
  obtain ⟨s1, s2, s3, s4, s5, s6, s7, s8, s9, s10, s11, s12, s13, n1, n2, n3, n4, n5, n6⟩ := hS
  have i1 : ∀ {b}, ln S b = 729 → vp_in (nI i) (ln S b) := fun hb => by rw [hb]; exact vp_in_nI hi (by decide)
  have i2 : ∀ {b}, ln S b = 729 → vp_in (nI j) (ln S b) := fun hb => by rw [hb]; exact vp_in_nI hj (by decide)
  unfold wp_X0_layRight
  rw [nI_clamp (show i < 2 ^ 31 by omega), nI_clamp (show j < 2 ^ 31 by omega)]
  refine ⟨s1, r, s2, s1, r, s2, s6, i2 s10, s6, i1 s10, fun S3 e3 => ?_⟩
  subst e3
  refine ⟨s1, l, s3, s1, l, s3, s7, i2 s11, s7, i1 s11, fun S6 e6 => ?_⟩
  subst e6
  refine ⟨s1, c, s4, s1, c, s4, s8, i2 s12, s8, i1 s12, fun S9 e9 => ?_⟩
  subst e9
  refine ⟨s1, d, s5, s1, d, s5, s9, i2 s13, s9, i1 s13, fun S12 e12 => ?_⟩
  subst e12
  refine h _ ((((FW.rf _ _ S).a (Or.inl rfl) _ _).a (Or.inr (Or.inl rfl)) _ _).a (Or.inr (Or.inr (Or.inl rfl))) _ _ |>.a (Or.inr (Or.inr (Or.inr rfl))) _ _) ?_ ?_ ?_ ?_
  · rw [gA_sAn _ _ _ n3, gA_sAn _ _ _ n2, gA_sAn _ _ _ n1, gA_sA]
  · rw [gA_sAn _ _ _ n5, gA_sAn _ _ _ n4, gA_sA, gA_sAn _ _ _ (Ne.symm n1)]
  · rw [gA_sAn _ _ _ n6, gA_sA, gA_sAn _ _ _ (Ne.symm n4), gA_sAn _ _ _ (Ne.symm n2)]
  · rw [gA_sA, gA_sAn _ _ _ (Ne.symm n6), gA_sAn _ _ _ (Ne.symm n5), gA_sAn _ _ _ (Ne.symm n3)]
theorem x_layLeft {S : Hp} {y r l c d i j k : Nat} {x : Int32} {Q : Hp → Prop} (hS : LyS S y r l c d) (hi : i < 729) (hj : j < 729) (h : ∀ S', FW (inL r l c d) (fun _ _ => False) S S' → gA S' r = upd (gA S r) i (gA S r j) → gA S' l = upd (gA S l) i (gA S l j + x) → gA S' c = upd (gA S c) i (gA S c j) → gA S' d = upd (gA S d) i (gA S d j ||| ((1 : Int32) <<< (nI k &&& 31))) → Q S') : wp_X0_layLeft y (nI i) (nI j) (nI k) x S Q := by
  obtain ⟨s1, s2, s3, s4, s5, s6, s7, s8, s9, s10, s11, s12, s13, n1, n2, n3, n4, n5, n6⟩ := hS
  have i1 : ∀ {b}, ln S b = 729 → vp_in (nI i) (ln S b) := fun hb => by rw [hb]; exact vp_in_nI hi (by decide)
  have i2 : ∀ {b}, ln S b = 729 → vp_in (nI j) (ln S b) := fun hb => by rw [hb]; exact vp_in_nI hj (by decide)
  unfold wp_X0_layLeft
  rw [nI_clamp (show i < 2 ^ 31 by omega), nI_clamp (show j < 2 ^ 31 by omega)]
  refine ⟨s1, r, s2, s1, r, s2, s6, i2 s10, s6, i1 s10, fun S3 e3 => ?_⟩
  subst e3
  refine ⟨s1, l, s3, s1, l, s3, s7, i2 s11, s7, i1 s11, fun S6 e6 => ?_⟩
  subst e6
  refine ⟨s1, c, s4, s1, c, s4, s8, i2 s12, s8, i1 s12, fun S9 e9 => ?_⟩
  subst e9
  refine ⟨s1, d, s5, s1, d, s5, s9, i2 s13, s9, i1 s13, fun S12 e12 => ?_⟩
  subst e12
  refine h _ ((((FW.rf _ _ S).a (Or.inl rfl) _ _).a (Or.inr (Or.inl rfl)) _ _).a (Or.inr (Or.inr (Or.inl rfl))) _ _ |>.a (Or.inr (Or.inr (Or.inr rfl))) _ _) ?_ ?_ ?_ ?_
  · rw [gA_sAn _ _ _ n3, gA_sAn _ _ _ n2, gA_sAn _ _ _ n1, gA_sA]
  · rw [gA_sAn _ _ _ n5, gA_sAn _ _ _ n4, gA_sA, gA_sAn _ _ _ (Ne.symm n1)]
  · rw [gA_sAn _ _ _ n6, gA_sA, gA_sAn _ _ _ (Ne.symm n4), gA_sAn _ _ _ (Ne.symm n2)]
  · rw [gA_sA, gA_sAn _ _ _ (Ne.symm n6), gA_sAn _ _ _ (Ne.symm n5), gA_sAn _ _ _ (Ne.symm n3)]
theorem x_layOut {S : Hp} {y r l c d b w p : Nat} {t : ASt} {Q : Hp → Prop} (hS : LyS S y r l c d) (hb : kd S b = 5) (hr : gR S 40 b = some w) (hw : kd S w = 8) (hwl : ln S w = 6) (hD : StR S b w p t) (hn : t.1 ≤ 6) (hnw : ¬ inL r l c d w) (h0 : gA S r 0 = 0 ∧ gA S l 0 = 0 ∧ gA S c 0 = 0 ∧ gA S d 0 = 0) (h : ∀ S', FW (inL r l c d) (fun i x => i = 4 ∧ x = y) S S' → LyD S' y r l c d t → gA S' r 0 = 0 ∧ gA S' l 0 = 0 ∧ gA S' c 0 = 0 ∧ gA S' d 0 = 0 → Q S') : wp_X0_layOut y b S Q := by
  unfold wp_X0_layOut
  refine ⟨hS.1, fun S1 e1 => ?_⟩
  subst e1
  have hF1 : FW (inL r l c d) (fun i x => i = 4 ∧ x = y) S (sI S 4 y 1) := (FW.rf _ _ S).i ⟨rfl, rfl⟩ _
  have z0 : ∀ S', LyA S' r l c d t.2.1 0 0 → gA S' r 0 = 0 ∧ gA S' l 0 = 0 ∧ gA S' c 0 = 0 ∧ gA S' d 0 = 0 := fun S' h => h
  refine it_up t.1 (fun k x => ∃ S', x = (y, b, nI k, S') ∧ FW (inL r l c d) (fun i x => i = 4 ∧ x = y) S S' ∧ gI S' 4 y = nI (3 ^ k) ∧ (∀ q, q < 3 ^ k → LyA S' r l c d t.2.1 k q) ∧ (gA S' r 0 = 0 ∧ gA S' l 0 = 0 ∧ gA S' c 0 = 0 ∧ gA S' d 0 = 0)) ?_ _ ⟨_, rfl, hF1, by rw [h_gI_sI, if_pos ⟨rfl, rfl⟩]; rfl, fun q hq => ?_, h0⟩
  · rintro C k x hk ⟨S', rfl, f, h4, hA, hz⟩ hC
    have h3k := p3_6 (show k ≤ 6 by omega)
    simp only [L_X0_layOut_7]
    rw [f.1, f.2.2.2.2.1 42 b (fun z => absurd z.1 (by decide)), hD.1, nI_leI (by omega) (by omega)]
    refine ⟨hb, fun e => ?_, fun e => ?_⟩
    · rw [show k = t.1 by omega] at h4 hA
      exact h S' f ⟨h4, hA⟩ hz
    · have hst := hC (by omega)
      have h3s : 3 ^ (k + 1) = 3 * 3 ^ k := by rw [Nat.pow_succ, Nat.mul_comm]
      have h3n := p3_6 (show k + 1 ≤ 6 by omega)
      refine it_up (3 ^ k) (fun j x => ∃ S', x = (y, b, nI k, nI j, S') ∧ FW (inL r l c d) (fun i x => i = 4 ∧ x = y) S S' ∧ gI S' 4 y = nI (3 ^ k) ∧ (∀ q, q < 3 ^ k → LyA S' r l c d t.2.1 k q) ∧ (gA S' r 0 = 0 ∧ gA S' l 0 = 0 ∧ gA S' c 0 = 0 ∧ gA S' d 0 = 0) ∧ ∀ q, q < j → LyA S' r l c d t.2.1 (k + 1) (3 ^ k + q) ∧ LyA S' r l c d t.2.1 (k + 1) (2 * 3 ^ k + q)) ?_ _ ⟨S', rfl, f, h4, hA, hz, fun q hq => absurd hq (Nat.not_lt_zero q)⟩
      rintro C2 j x hj ⟨S2, rfl, f2, g4, gA2, gz, hB⟩ hC2
      have hS2 := hS.fw f2
      simp only [L_X0_layOut_17]
      rw [g4, nI_leI (by omega) (by omega)]
      refine ⟨hS2.1, fun e3 => ⟨hS2.1, hS2.1, fun S3 e4 => ?_⟩, fun e3 => ⟨hS2.1, by rw [f2.1]; exact hb, w, by rw [f2.2.1]; exact hr, by rw [f2.1]; exact hw, by rw [f2.2.2.1, hwl]; exact vp_in_nI (by omega) (by decide), hS2.1, ?_⟩⟩
      · subst e4
        simp only [forall_eq]
        refine hst _ ⟨_, by rw [nI_1], f2.i ⟨rfl, rfl⟩ _, ?_, fun q hq => ?_, gz⟩
        · rw [h_gI_sI, if_pos ⟨rfl, rfl⟩, show (3 : Int32) = nI 3 from rfl, pk_mul, Nat.pow_succ]
        · show LyA S2 r l c d t.2.1 (k + 1) q
          have hjj : j = 3 ^ k := by omega
          rcases (by omega : q < 3 ^ k ∨ (3 ^ k ≤ q ∧ q < 2 * 3 ^ k) ∨ (2 * 3 ^ k ≤ q)) with e5 | e5 | e5
          · exact (gA2 q e5).s0 e5
          · have := (hB (q - 3 ^ k) (by omega)).1
            rw [show 3 ^ k + (q - 3 ^ k) = q by omega] at this
            exact this
          · have := (hB (q - 2 * 3 ^ k) (by omega)).2
            rw [show 2 * 3 ^ k + (q - 2 * 3 ^ k) = q by omega] at this
            exact this
      · have hjk : j < 3 ^ k := by omega
        have hwk : gA S2 w (nI k).toNatClampNeg = t.2.1 k := by
          rw [nI_clamp (by omega), f2.2.2.2.2.2 w hnw]; exact hD.2.1 k (by omega)
        rw [hwk, nI_add]
        refine x_layRight hS2 (by omega) (by omega) ?_
        intro S4 f4 a1 a2 a3 a4
        have hS4 := hS2.fw f4
        have f24 : FW (inL r l c d) (fun i x => i = 4 ∧ x = y) S S4 := f2.tr (f4.mono (fun _ z => z) (fun _ _ z => z.elim))
        have g44 : gI S4 4 y = nI (3 ^ k) := (f4.2.2.2.2.1 4 y (fun z => z)).trans g4
        have hwk4 : gA S4 w (nI k).toNatClampNeg = t.2.1 k := by rw [f4.2.2.2.2.2 w hnw]; exact hwk
        refine ⟨hS4.1, by rw [f24.1]; exact hb, w, by rw [f24.2.1]; exact hr, by rw [f24.1]; exact hw, by rw [f24.2.2.1, hwl]; exact vp_in_nI (by omega) (by decide), hS4.1, ?_⟩
        rw [hwk4, g44, show (2 : Int32) = nI 2 from rfl, pk_mul, nI_add]
        refine x_layLeft hS4 (by omega) (by omega) ?_
        intro S6 f6 b1 b2 b3 b4
        have f26 : FW (inL r l c d) (fun i x => i = 4 ∧ x = y) S S6 := f24.tr (f6.mono (fun _ z => z) (fun _ _ z => z.elim))
        have g46 : gI S6 4 y = nI (3 ^ k) := (f6.2.2.2.2.1 4 y (fun z => z)).trans g44
        obtain ⟨o1, o2, o3, o4⟩ := gA2 j hjk
        have h3p := p3_pos k
        have hlow : ∀ q, q ≠ 3 ^ k + j → q ≠ 2 * 3 ^ k + j → gA S6 r q = gA S2 r q ∧ gA S6 l q = gA S2 l q ∧ gA S6 c q = gA S2 c q ∧ gA S6 d q = gA S2 d q := fun q h1 h2 => by
          rw [b1, b2, b3, b4, a1, a2, a3, a4]
          simp only [upd_n _ _ h1, upd_n _ _ h2, and_self]
        have hL : ∀ n q, q ≠ 3 ^ k + j → q ≠ 2 * 3 ^ k + j → LyA S2 r l c d t.2.1 n q → LyA S6 r l c d t.2.1 n q := fun n q h1 h2 h5 => by
          obtain ⟨l1, l2, l3, l4⟩ := hlow q h1 h2
          unfold LyA at h5 ⊢
          rw [l1, l2, l3, l4]
          exact h5
        simp only [forall_eq]
        refine hC2 (by omega) _ ⟨S6, by rw [nI_1], f26, g46, fun q hq => hL k q (by omega) (by omega) (gA2 q hq), ?_, fun q hq => ?_⟩
        · obtain ⟨l1, l2, l3, l4⟩ := hlow 0 (by omega) (by omega)
          rw [l1, l2, l3, l4]; exact gz
        · by_cases e5 : q = j
          · subst e5
            have n1 : 3 ^ k + q ≠ 2 * 3 ^ k + q := by omega
            have n2 : q ≠ 3 ^ k + q := by omega
            refine ⟨LyA.s1 hjk ?_ ?_ ?_ ?_, LyA.s2 hjk ?_ ?_ ?_ ?_⟩
            · rw [b1, upd_n _ _ n1, a1, upd_s, o1]
            · rw [b2, upd_n _ _ n1, a2, upd_s, o2]
            · rw [b3, upd_n _ _ n1, a3, upd_s, o3, or_sh _ _ (by omega)]
            · rw [b4, upd_n _ _ n1, a4, upd_s, o4]
            · rw [b1, upd_s, a1, upd_n _ _ n2, o1]
            · rw [b2, upd_s, a2, upd_n _ _ n2, o2]
            · rw [b3, upd_s, a3, upd_n _ _ n2, o3]
            · rw [b4, upd_s, a4, upd_n _ _ n2, o4, or_sh _ _ (by omega)]
          · exact ⟨hL (k + 1) _ (by omega) (by omega) (hB q (by omega)).1, hL (k + 1) _ (by omega) (by omega) (hB q (by omega)).2⟩
  · have hq0 : q = 0 := by
      have : q < 1 := hq
      omega
    subst hq0
    exact h0
