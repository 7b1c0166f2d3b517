/-! what can be had: reach, hole, what is lost, the stone that harms least -/
theorem nI_and (a b : Nat) : nI a &&& nI b = nI (a &&& b) := by
  rw [← Int32.toBitVec_inj]; simp [nI, BitVec.ofNat_and]
theorem nI_andnot : ∀ u, u < 64 → ∀ m, m < 64 → (nI u &&& (nI m ^^^ (-1 : Int32))) = nI (u &&& (63 ^^^ m)) := by decide +kernel
def hadB (s : ASh) (t : ASt) (w0 : Nat) : Nat → Nat → Bool
  | 0, _ => false
  | m + 1, w => hadB s t w0 m w || (decide (usd t.1 m &&& w0 = 0) && mayQ s t.1 m && decide (wgQ s t m = nI w))
def had (s : ASh) (t : ASt) (w0 w : Nat) : Bool := hadB s t w0 (3 ^ t.1) w
def rch (H : Nat → Bool) : Nat := (fsq (fun j => !H (j + 1)) 999).getD 999
theorem rch_none {H : Nat → Bool} (h : ∀ j, j < 999 → H (j + 1) = true) : rch H = 999 := by
  unfold rch
  rw [fsq_none.mpr (fun j hj => by simp [h j hj])]; rfl
theorem rch_at {H : Nat → Bool} {k : Nat} (h : ∀ j, j < k → H (j + 1) = true) (h2 : ¬ H (k + 1) = true) (hk : k < 999) : rch H = k := by
  unfold rch
  rw [fsq_at (P := fun j => !H (j + 1)) (k := k) (fun j hj => by simp [h j hj]) (by simpa using h2) hk]; rfl
theorem rch_le (H : Nat → Bool) : rch H ≤ 999 := by
  unfold rch
  cases h : fsq (fun j => !H (j + 1)) 999 with
  | none => exact Nat.le_refl _
  | some q =>
    show q ≤ 999
    have key : ∀ m, fsq (fun j => !H (j + 1)) m = some q → q < m := by
      intro m
      induction m with
      | zero => intro z; cases z
      | succ m ih =>
        intro z
        rw [fsq] at z
        cases h5 : fsq (fun j => !H (j + 1)) m with
        | some r => rw [h5] at z; cases z; have := ih h5; omega
        | none =>
          rw [h5] at z
          by_cases h6 : (!H (m + 1)) = true
          · simp only [h6, if_true] at z; cases z; omega
          · simp [h6] at z
    have := key 999 h
    omega
def lostN (s : ASh) (t : ASt) (k : Nat) : Nat := cnt (fun j => !had s t (2 ^ k) (j + 1)) (rch (had s t 0))
def sp_reach (v : AS) (d : Int32) : Int32 := if isSh d then onSc (v.2.2 (ix d)) (nI (rch (had (v.2.2 (ix d)) v.1 0))) else -1
def sp_hole (v : AS) (d : Int32) : Int32 := if isSh d then onSc (v.2.2 (ix d)) (if rch (had (v.2.2 (ix d)) v.1 0) = 999 then -4 else nI (rch (had (v.2.2 (ix d)) v.1 0) + 1)) else -1
def sp_lost (v : AS) (d q : Int32) : Int32 := if isSh d then (if isSt v.1.1 q then onSc (v.2.2 (ix d)) (nI (lostN (v.2.2 (ix d)) v.1 (ix q))) else -1) else -1
def sp_harms (v : AS) (d : Int32) : Int32 := if isSh d then onSc (v.2.2 (ix d)) (oN ((bsq (fun _ => true) (lostN (v.2.2 (ix d)) v.1) v.1.1).map (fun y => y.2))) else -1
/-- one row of ints alone is written -/
def FA (b : Nat) (S S' : Hp) : Prop := kd S' = kd S ∧ gI S' = gI S ∧ gR S' = gR S ∧ ln S' = ln S ∧ gQ S' = gQ S ∧ ∀ c, c ≠ b → gA S' c = gA S c
theorem FA.rf (b : Nat) (S : Hp) : FA b S S := ⟨rfl, rfl, rfl, rfl, rfl, fun _ _ => rfl⟩
theorem FA.tr {b : Nat} {S S' S'' : Hp} (h : FA b S S') (h' : FA b S' S'') : FA b S S'' := ⟨h'.1.trans h.1, h'.2.1.trans h.2.1, h'.2.2.1.trans h.2.2.1, h'.2.2.2.1.trans h.2.2.2.1, h'.2.2.2.2.1.trans h.2.2.2.2.1, fun c z => (h'.2.2.2.2.2 c z).trans (h.2.2.2.2.2 c z)⟩
theorem FA.set {b : Nat} {S S' : Hp} (h : FA b S S') (j : Nat) (x : Int32) : FA b S (sA S' b j x) := ⟨h.1, h.2.1, h.2.2.1, h.2.2.2.1, h.2.2.2.2.1, fun c z => (h_gA_sF S' b _ c).trans ((if_neg z).trans (h.2.2.2.2.2 c z))⟩
theorem gA_sA (S : Hp) (b j : Nat) (x : Int32) : gA (sA S b j x) b = upd (gA S b) j x := (h_gA_sF _ _ _ _).trans (if_pos rfl)
theorem LyS.fa {S S' : Hp} {b y r l c d : Nat} (h : LyS S y r l c d) (f : FA b S S') : LyS S' y r l c d := by
  unfold LyS at h ⊢
  rw [f.1, f.2.2.1, f.2.2.2.1]
  exact h
theorem LyD.fa {S S' : Hp} {b y r l c d : Nat} {t : ASt} (h : LyD S y r l c d t) (f : FA b S S') (n1 : r ≠ b) (n2 : l ≠ b) (n3 : c ≠ b) (n4 : d ≠ b) : LyD S' y r l c d t := by
  unfold LyD at h ⊢
  rw [f.2.1, f.2.2.2.2.2 r n1, f.2.2.2.2.2 l n2, f.2.2.2.2.2 c n3, f.2.2.2.2.2 d n4]
  exact h
theorem ScS.fa {S S' : Hp} {b z : Nat} {s : ASh} (h : ScS S z s) (f : FA b S S') : ScS S' z s := by
  unfold ScS at h ⊢
  rw [f.1, f.2.1]
  exact h
theorem t_fill {S : Hp} {b L : Nat} {x : Int32} {Q : Hp → Prop} (hk : kd S b = 8) (hl : ln S b = L) (hL : L < 2 ^ 31) (h : ∀ S', FA b S S' → (∀ j, j < L → gA S' b j = x) → Q S') : wp_J7_fill_53178 b x S Q := by
  unfold wp_J7_fill_53178
  refine ⟨hk, fun y3 e3 => ?_⟩
  rw [hl] at e3
  subst e3
  refine it_up L (fun k z => ∃ S', z = (b, x, nI k, Int32.ofNat L, S') ∧ FA b S S' ∧ ∀ j, j < k → gA S' b j = x) ?_ _ ⟨S, rfl, FA.rf b S, fun j hj => absurd hj (Nat.not_lt_zero j)⟩
  rintro C k z hkL ⟨S', rfl, f, hj⟩ hC
  simp only [L_J7_fill_53178_5]
  rw [show Int32.ofNat L = nI L from rfl, nI_leI hL (by omega)]
  refine ⟨fun e => ?_, fun e => ⟨by rw [f.1]; exact hk, ?_, ?_⟩⟩
  · exact h S' f (fun j hj' => hj j (by omega))
  · rw [f.2.2.2.1, hl]; exact vp_in_nI (by omega) hL
  · simp only [forall_eq]
    refine hC (by omega) _ ⟨_, by rw [nI_1, nI_clamp (by omega)]; rfl, f.set k x, fun j hj' => ?_⟩
    rw [gA_sA]
    unfold upd
    by_cases e2 : j = k
    · rw [if_pos e2]
    · rw [if_neg e2]; exact hj j (by omega)
theorem e_canBeHad (w : Int32) (S : Hp) (Q : Int32 → Hp → Prop) : wp_X5_canBeHad w S Q ↔ Q (b2 (1 ≤ w.toInt ∧ w.toInt ≤ 999)) S := by
  unfold wp_X5_canBeHad
  rw [p_lt, p_lt, show (1 : Int32).toInt = 1 from rfl, show (999 : Int32).toInt = 999 from rfl]
  by_cases h1 : w.toInt < 1
  · rw [b2_f (by omega)]; simp [h1]
  · by_cases h2 : 999 < w.toInt
    · rw [b2_f (by omega)]; simp [h1, h2]
    · rw [b2_t (by omega)]; simp [h1, h2]
def HdA (S : Hp) (b : Nat) (H : Nat → Bool) : Prop := ∀ w, 1 ≤ w → w ≤ 999 → gA S b w = if H w = true then 1 else 0
theorem hadB_s (s : ASh) (t : ASt) (w0 m w : Nat) : hadB s t w0 (m + 1) w = (hadB s t w0 m w || (decide (usd t.1 m &&& w0 = 0) && mayQ s t.1 m && decide (wgQ s t m = nI w))) := rfl
theorem HdA.keep {S : Hp} {b : Nat} {s : ASh} {t : ASt} {w0 m : Nat} (h : HdA S b (hadB s t w0 m)) (h2 : ∀ w, 1 ≤ w → w ≤ 999 → ¬ (decide (usd t.1 m &&& w0 = 0) && mayQ s t.1 m && decide (wgQ s t m = nI w)) = true) : HdA S b (hadB s t w0 (m + 1)) := by
  intro w h3 h4
  rw [h w h3 h4, hadB_s]
  have := h2 w h3 h4
  rw [Bool.not_eq_true] at this
  rw [this, Bool.or_false]
theorem x_markHad {S : Hp} {x b z y r l c d w0 : Nat} {s : ASh} {t : ASt} {Q : Hp → Prop} (hx : kd S x = 6) (hr : gR S 60 x = some b) (hb : kd S b = 8) (hbl : ln S b = 1000) (hS : LyS S y r l c d) (hD : LyD S y r l c d t) (n1 : r ≠ b) (n2 : l ≠ b) (n3 : c ≠ b) (n4 : d ≠ b) (hZ : ScS S z s) (ht : StOk t) (h : ∀ S', FA b S S' → HdA S' b (had s t w0) → Q S') : wp_X5_markHad x z y (nI w0) S Q := by
  have hn6 : t.1 ≤ 6 := ht.1
  have h3 := p3_6 hn6
  unfold wp_X5_markHad
  refine ⟨hx, b, hr, t_fill hb hbl (by decide) ?_⟩
  intro S1 f1 h1
  refine it_up (3 ^ t.1) (fun k u => ∃ S', u = (x, z, y, nI w0, nI k, S') ∧ FA b S S' ∧ HdA S' b (hadB s t w0 k)) ?_ _ ⟨S1, rfl, f1, fun w hw1 hw2 => by rw [h1 w (by omega)]; rfl⟩
  rintro C k u hk ⟨S', rfl, f, hH⟩ hC
  have hS' := hS.fa f
  have hD' := hD.fa f n1 n2 n3 n4
  have hZ' := hZ.fa f
  simp only [L_X5_markHad_11, J_X5_markHad_66, forall_eq]
  refine ⟨hS'.1, ?_⟩
  rw [hD'.1, nI_leI (by omega) (by omega)]
  refine ⟨fun e => ?_, fun e => ⟨hS'.1, x_notOff hS' hD' hn6 (by omega) ?_⟩⟩
  · have hkk : k = 3 ^ t.1 := by omega
    subst hkk
    exact h S' f hH
  · have hstep := hC (by omega)
    have hu := usd_64 (n := t.1) (q := k) hn6
    have hua : usd t.1 k &&& w0 < 64 := Nat.lt_of_le_of_lt Nat.and_le_left hu
    rw [nI_and, show (0 : Int32) = nI 0 from rfl, nI_eq (by omega) (by decide), nI_1]
    refine ⟨fun e1 => hstep _ ⟨S', rfl, f, hH.keep (fun w _ _ => by simp [e1])⟩, fun e1 => ⟨hZ'.1, x_allows hS' hD' hZ' hn6 (by omega) (br0 (fun e2 => ⟨hZ'.1, x_weightOf hS' hD' hZ' ht (by omega) ?_⟩) (fun e2 => hstep _ ⟨S', rfl, f, hH.keep (fun w _ _ => by simp [e2])⟩))⟩⟩
    rw [e_canBeHad]
    refine br0 (fun e3 => ⟨by rw [f.1]; exact hx, b, by rw [f.2.2.1]; exact hr, by rw [f.1]; exact hb, ?_, ?_⟩) (fun e3 => hstep _ ⟨S', rfl, f, hH.keep (fun w hw1 hw2 z => ?_)⟩)
    · rw [f.2.2.2.1, hbl, p_nat (x := wgQ s t k) (by omega)]; exact vp_in_nI (by omega) (by decide)
    · refine hstep _ ⟨_, rfl, f.set _ _, fun w hw1 hw2 => ?_⟩
      have hcl : (wgQ s t k).toNatClampNeg = (wgQ s t k).toInt.toNat := rfl
      have hww : (decide (wgQ s t k = nI w) = true) ↔ w = (wgQ s t k).toInt.toNat := by
        rw [decide_eq_true_iff, p_eq, nI_toInt (by omega)]; omega
      rw [gA_sA, hcl, hadB_s]
      unfold upd
      by_cases e4 : w = (wgQ s t k).toInt.toNat
      · rw [if_pos e4, hww.mpr e4, e2]; simp [e1]
      · rw [if_neg e4, hH w hw1 hw2]
        have : decide (wgQ s t k = nI w) = false := by
          rw [← Bool.not_eq_true]; exact fun z => e4 (hww.mp z)
        rw [this, Bool.and_false, Bool.or_false]
    · rw [Bool.and_eq_true] at z
      have h5 := of_decide_eq_true z.2
      rw [h5, nI_toInt (by omega)] at e3
      omega
theorem x_firstNotHad {S : Hp} {x b z y r l c d : Nat} {s : ASh} {t : ASt} {Q : Int32 → Hp → Prop} (hx : kd S x = 6) (hr : gR S 60 x = some b) (hb : kd S b = 8) (hbl : ln S b = 1000) (hS : LyS S y r l c d) (hD : LyD S y r l c d t) (n1 : r ≠ b) (n2 : l ≠ b) (n3 : c ≠ b) (n4 : d ≠ b) (hZ : ScS S z s) (ht : StOk t) (h : ∀ S', FA b S S' → Q (nI (rch (had s t 0) + 1)) S') : wp_X5_firstNotHad x z y S Q := by
  unfold wp_X5_firstNotHad
  refine ⟨hx, x_markHad (w0 := 0) hx hr hb hbl hS hD n1 n2 n3 n4 hZ ht ?_⟩
  intro S' f hH
  refine it_up 999 (fun k u => u = (x, nI (k + 1), S') ∧ ∀ j, j < k → had s t 0 (j + 1) = true) ?_ _ ⟨rfl, fun j hj => absurd hj (Nat.not_lt_zero j)⟩
  rintro C k u hk ⟨rfl, hj⟩ hC
  simp only [L_X5_firstNotHad_9, forall_eq]
  rw [show (999 : Int32) = nI 999 from rfl, nI_ltI (by decide) (by omega)]
  refine ⟨fun e => ?_, fun e => ⟨by rw [f.1]; exact hx, b, by rw [f.2.2.1]; exact hr, by rw [f.1]; exact hb, by rw [f.2.2.2.1, hbl]; exact vp_in_nI (by omega) (by decide), ?_⟩⟩
  · have hh := h S' f
    rw [rch_none (fun j hj' => hj j (by omega))] at hh
    rw [show k = 999 by omega]; exact hh
  · rw [nI_clamp (by omega), hH (k + 1) (by omega) (by omega), nI_1]
    by_cases e2 : had s t 0 (k + 1) = true
    · rw [if_pos e2]
      refine ⟨fun z => absurd rfl z, fun _ => hC (by omega) _ ⟨rfl, fun j hj' => ?_⟩⟩
      by_cases e3 : j = k
      · subst e3; exact e2
      · exact hj j (by omega)
    · rw [if_neg e2]
      have hh := h S' f
      rw [rch_at hj e2 (by omega)] at hh
      exact ⟨fun _ => hh, fun z => absurd z (by decide)⟩
theorem x_lostWithout {S : Hp} {x b z y r l c d : Nat} {s : ASh} {t : ASt} {k R : Nat} {Q : Int32 → Hp → Prop} (hx : kd S x = 6) (hr : gR S 60 x = some b) (hy : gR S 51 x = some y) (hb : kd S b = 8) (hbl : ln S b = 1000) (hS : LyS S y r l c d) (hD : LyD S y r l c d t) (n1 : r ≠ b) (n2 : l ≠ b) (n3 : c ≠ b) (n4 : d ≠ b) (hZ : ScS S z s) (ht : StOk t) (hk : k < 6) (hR : R ≤ 999) (h : ∀ S', FA b S S' → Q (nI (cnt (fun j => !had s t (2 ^ k) (j + 1)) R)) S') : wp_X5_lostWithout x z (nI k) (nI R) S Q := by
  have hsh : ∀ k, k < 6 → (1 : Int32) <<< (nI k &&& 31) = nI (2 ^ k) := by decide +kernel
  unfold wp_X5_lostWithout
  refine ⟨hx, y, hy, hx, ?_⟩
  rw [hsh k hk]
  refine x_markHad hx hr hb hbl hS hD n1 n2 n3 n4 hZ ht ?_
  intro S' f hH
  refine it_up R (fun j u => u = (x, nI R, nI (cnt (fun j => !had s t (2 ^ k) (j + 1)) j), nI (j + 1), S')) ?_ _ rfl
  rintro C j u hj rfl hC
  simp only [L_X5_lostWithout_18, J_X5_lostWithout_37, forall_eq]
  rw [nI_ltI (by omega) (by omega)]
  refine ⟨fun e => ?_, fun e => ⟨by rw [f.1]; exact hx, b, by rw [f.2.2.1]; exact hr, by rw [f.1]; exact hb, by rw [f.2.2.2.1, hbl]; exact vp_in_nI (by omega) (by decide), ?_⟩⟩
  · rw [show j = R by omega]; exact h S' f
  · rw [nI_clamp (by omega), hH (j + 1) (by omega) (by omega), nI_1, nI_1]
    by_cases e2 : had s t (2 ^ k) (j + 1) = true
    · rw [if_pos e2]
      refine ⟨fun _ => hC (by omega) _ ?_, fun z => absurd z (by decide)⟩
      rw [cnt, if_neg (by simp [e2])]; rfl
    · rw [if_neg e2]
      refine ⟨fun z => absurd rfl z, fun _ => hC (by omega) _ ?_⟩
      rw [cnt, if_pos (by simpa using e2)]
theorem XI.fa {a : Nat → Nat} {v : AS} {S S' : Hp} {i : Nat} (h : XI a v S) (hi : 27 ≤ i) (hi2 : i < 30) (f : FA (a i) S S') : XI a v S' := by
  have ne : ∀ j, j < 27 → a j ≠ a i := fun j hj => h.1.ne (by omega) hi2 (by omega)
  refine ⟨?_, h.2.1, ?_, ?_, ?_, ?_, ?_, ?_⟩
  · have h1 := h.1
    unfold XS at h1 ⊢
    rw [f.1, f.2.1, f.2.2.1, f.2.2.2.1]
    exact h1
  · have h1 := h.2.2.1
    unfold StR at h1 ⊢
    rw [f.2.1, f.2.2.2.2.2 _ (ne 2 (by decide)), f.2.2.2.2.2 _ (ne 3 (by decide))]
    exact h1
  · exact h.2.2.2.1.fa f (ne 5 (by decide)) (ne 6 (by decide)) (ne 7 (by decide)) (ne 8 (by decide))
  · rw [f.2.1]; exact h.2.2.2.2.1
  · intro t ht
    have h1 := h.2.2.2.2.2.1 t ht
    unfold StR at h1 ⊢
    rw [f.2.1, f.2.2.2.2.2 _ (ne 10 (by decide)), f.2.2.2.2.2 _ (ne 11 (by decide))]
    exact h1
  · intro d hd
    have h1 := h.2.2.2.2.2.2.1 d hd
    unfold XSh ScS at h1 ⊢
    rw [f.1, f.2.1, f.2.2.1, f.2.2.2.1, f.2.2.2.2.1]
    refine ⟨h1.1, h1.2.1, fun e => ?_⟩
    obtain ⟨g1, z, c, g2, g3, g4, g5, g6, g7, g8, g9⟩ := h1.2.2 e
    refine ⟨g1, z, c, g2, g3, g4, g5, g6, g7, ?_, g9⟩
    rw [f.2.2.2.2.2 c (g9 i hi2)]
    exact g8
  · have h1 := h.2.2.2.2.2.2.2
    unfold XSep XZ at h1 ⊢
    rw [f.2.2.1, f.2.2.2.2.1, f.2.2.2.2.2 _ (ne 16 (by decide)), f.2.2.2.2.2 _ (ne 17 (by decide)), f.2.2.2.2.2 _ (ne 18 (by decide)), f.2.2.2.2.2 _ (ne 19 (by decide))]
    exact h1
