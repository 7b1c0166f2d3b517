/-! sets of weights by which all is had: the search -/
abbrev ST : Type := Nat × Option Nat
def stp (p : Bool) (x : Nat) (s : ST) : ST := if p = true then (s.1 + 1, some (s.2.getD x)) else s
def fo (F : Nat → ST → ST) : Nat → ST → ST
  | 0, s => s
  | n + 1, s => F n (fo F n s)
def PP (n a b c : Nat) : Bool := hvP a b c n
def CD (a b c : Nat) : Nat := a * 10000 + b * 100 + c
def fG (P : Nat → Bool) (cd : Nat → Nat) (lo : Nat) : Nat → ST → ST := fun w s => if lo < w then stp (P w) (cd w) s else s
def lvG (P : Nat → Bool) (cd : Nat → Nat) (lo m : Nat) (s : ST) : ST := fo (fG P cd lo) (m + 1) s
def fB (P : Nat → Nat → Bool) (cd : Nat → Nat → Nat) (m lo : Nat) : Nat → ST → ST := fun b s => if lo < b then lvG (P b) (cd b) b m s else s
def lvB (P : Nat → Nat → Bool) (cd : Nat → Nat → Nat) (lo m : Nat) (s : ST) : ST := fo (fB P cd m lo) (m + 1) s
def fC (P : Nat → Nat → Nat → Bool) (cd : Nat → Nat → Nat → Nat) (m lo : Nat) : Nat → ST → ST := fun a s => if lo < a then lvB (P a) (cd a) a m s else s
def lvC (P : Nat → Nat → Nat → Bool) (cd : Nat → Nat → Nat → Nat) (lo m : Nat) (s : ST) : ST := fo (fC P cd m lo) (m + 1) s
def setsR (k m n : Nat) : ST := if k = 1 then lvG (PP n 0 0) (CD 0 0) 0 m (0, none) else if k = 2 then lvB (PP n 0) (CD 0) 0 m (0, none) else lvC (PP n) CD 0 m (0, none)
def stR (s : ST) (f : Bool) : Int32 := if f = true then oN s.2 else nI s.1
abbrev okS (k m n w : Int32) : Prop := (1 ≤ k.toInt ∧ k.toInt ≤ 3) ∧ (1 ≤ m.toInt ∧ m.toInt ≤ 30) ∧ (1 ≤ n.toInt ∧ n.toInt ≤ 13) ∧ isW2 w
def sp_sets (k m n w : Int32) : Int32 := if okS k m n w then stR (setsR (ix k) (ix m) (ix n)) (decide (w = 1)) else -1
theorem fo_skip {F : Nat → ST → ST} {s : ST} : ∀ {k : Nat}, (∀ i, i < k → F i s = s) → fo F k s = s
  | 0, _ => rfl
  | k + 1, h => by
    unfold fo
    rw [fo_skip (fun i hi => h i (by omega))]
    exact h k (by omega)
def Kp (F : ST → ST) : Prop := ∀ s x, s.2 = some x → (F s).2 = some x
theorem fo_kp {F : Nat → ST → ST} (h : ∀ i, Kp (F i)) {k : Nat} {s : ST} {x : Nat} (e : (fo F k s).2 = some x) : ∀ {n : Nat}, k ≤ n → (fo F n s).2 = some x
  | 0, hn => by rw [show k = 0 by omega] at e; exact e
  | n + 1, hn => by
    by_cases c : k = n + 1
    · rw [← c]; exact e
    · exact h n _ _ (fo_kp h e (by omega))
theorem stp_kp (p : Bool) (x : Nat) : Kp (stp p x) := fun s y hy => by
  unfold stp
  split
  · show some (s.2.getD x) = some y
    rw [hy]; rfl
  · exact hy
theorem fG_kp (P : Nat → Bool) (cd : Nat → Nat) (lo i : Nat) : Kp (fG P cd lo i) := fun s y hy => by
  unfold fG
  split
  · exact stp_kp _ _ s y hy
  · exact hy
theorem lvG_kp (P : Nat → Bool) (cd : Nat → Nat) (lo m : Nat) : Kp (lvG P cd lo m) := fun s y hy => fo_kp (k := 0) (fG_kp P cd lo) hy (by omega)
theorem fB_kp (P : Nat → Nat → Bool) (cd : Nat → Nat → Nat) (m lo i : Nat) : Kp (fB P cd m lo i) := fun s y hy => by
  unfold fB
  split
  · exact lvG_kp _ _ _ _ s y hy
  · exact hy
theorem lvB_kp (P : Nat → Nat → Bool) (cd : Nat → Nat → Nat) (lo m : Nat) : Kp (lvB P cd lo m) := fun s y hy => fo_kp (k := 0) (fB_kp P cd m lo) hy (by omega)
theorem fC_kp (P : Nat → Nat → Nat → Bool) (cd : Nat → Nat → Nat → Nat) (m lo i : Nat) : Kp (fC P cd m lo i) := fun s y hy => by
  unfold fC
  split
  · exact lvB_kp _ _ _ _ s y hy
  · exact hy
-- the class
theorem x_ssG {S : Hp} {k m n a b : Nat} {f : Bool} {s : ST} {v5 v6 : Int32} {C39 : Int32 × Int32 × Int32 × Int32 × Int32 × Int32 × Int32 × Int32 × Hp → Prop} {C61 : Int32 × Int32 × Int32 × Int32 × Int32 × Int32 × Int32 × Int32 × Int32 × Hp → Prop} {Q : Int32 → Hp → Prop} (ha : a ≤ b) (hb : b ≤ m) (hm : m ≤ 30) (hn : n ≤ 13) (h0 : f = true → s.2 = none) (hd : (f = true → (lvG (PP n a b) (CD a b) b m s).2 = none) → C61 (nI k, nI m, nI n, b1 f, nI (lvG (PP n a b) (CD a b) b m s).1, v5, v6, nI a, nI (b + 1), S)) (hq : ∀ x, f = true → (lvG (PP n a b) (CD a b) b m s).2 = some x → Q (nI x) S) : ∃ i, it (L_X5_searchSets_74 C39 C61 Q) i (nI k, nI m, nI n, b1 f, nI s.1, v5, v6, nI a, nI b, nI (b + 1), S) := by
  have hskip : fo (fG (PP n a b) (CD a b) b) (b + 1) s = s := fo_skip (fun i hi => if_neg (by omega))
  refine it_up (m - b) (fun j x => x = (nI k, nI m, nI n, b1 f, nI (fo (fG (PP n a b) (CD a b) b) (b + 1 + j) s).1, v5, v6, nI a, nI b, nI (b + 1 + j), S) ∧ (f = true → (fo (fG (PP n a b) (CD a b) b) (b + 1 + j) s).2 = none)) ?_ _ ⟨by rw [Nat.add_zero, hskip], fun hf => by rw [Nat.add_zero, hskip]; exact h0 hf⟩
  rintro C j x hj ⟨rfl, hno⟩ hC
  simp only [L_X5_searchSets_74, J_X5_searchSets_119, forall_eq]
  rw [nI_ltI (by omega) (by omega)]
  refine ⟨fun e => ?_, fun e => ?_⟩
  · have hjm : b + 1 + j = m + 1 := by omega
    rw [hjm] at hno ⊢
    rw [nI_1 b]
    exact hd hno
  · have hst := hC (by omega)
    have hs : fo (fG (PP n a b) (CD a b) b) (b + 1 + j + 1) s = stp (PP n a b (b + 1 + j)) (CD a b (b + 1 + j)) (fo (fG (PP n a b) (CD a b) b) (b + 1 + j) s) := if_pos (by omega)
    refine x_haveAll ha (by omega) (by omega) hn (br1 (fun y => ?_) (fun y => ?_))
    · have y : PP n a b (b + 1 + j) = true := y
      unfold stp at hs
      rw [if_pos y] at hs
      cases f with
      | false =>
        refine ⟨fun _ => hst _ ⟨?_, fun z => by cases z⟩, fun z => absurd rfl z⟩
        rw [nI_1, nI_1, show b + 1 + (j + 1) = b + 1 + j + 1 from rfl, hs]
      | true =>
        refine ⟨fun z => absurd z (by decide), fun _ => ?_⟩
        rw [show (10000 : Int32) = nI 10000 from rfl, show (100 : Int32) = nI 100 from rfl, pk_mul, pk_mul, nI_add, nI_add]
        refine hq _ rfl (fo_kp (k := b + 1 + j + 1) (fG_kp _ _ _) ?_ (by omega))
        rw [hs, hno rfl]; rfl
    · have y : ¬ PP n a b (b + 1 + j) = true := y
      unfold stp at hs
      rw [if_neg y] at hs
      refine hst _ ⟨?_, fun hf => ?_⟩
      · rw [nI_1, show b + 1 + (j + 1) = b + 1 + j + 1 from rfl, hs]
      · rw [show b + 1 + (j + 1) = b + 1 + j + 1 from rfl, hs]; exact hno hf
theorem x_ssB {S : Hp} {k m n a : Nat} {f : Bool} {s : ST} {v5 : Int32} {C39 : Int32 × Int32 × Int32 × Int32 × Int32 × Int32 × Int32 × Int32 × Hp → Prop} {Q : Int32 → Hp → Prop} (ha : a ≤ m) (hm : m ≤ 30) (hn : n ≤ 13) (h0 : f = true → s.2 = none) (hd : (f = true → (lvB (PP n a) (CD a) a m s).2 = none) → C39 (nI k, nI m, nI n, b1 f, nI (lvB (PP n a) (CD a) a m s).1, v5, nI m, nI (a + 1), S)) (hq : ∀ x, f = true → (lvB (PP n a) (CD a) a m s).2 = some x → Q (nI x) S) : ∃ i, it (L_X5_searchSets_61 C39 Q) i (nI k, nI m, nI n, b1 f, nI s.1, v5, nI m, nI a, nI (a + 1), S) := by
  have hskip : fo (fB (PP n a) (CD a) m a) (a + 1) s = s := fo_skip (fun i hi => if_neg (by omega))
  refine it_up (m - a) (fun j x => x = (nI k, nI m, nI n, b1 f, nI (fo (fB (PP n a) (CD a) m a) (a + 1 + j) s).1, v5, nI m, nI a, nI (a + 1 + j), S) ∧ (f = true → (fo (fB (PP n a) (CD a) m a) (a + 1 + j) s).2 = none)) ?_ _ ⟨by rw [Nat.add_zero, hskip], fun hf => by rw [Nat.add_zero, hskip]; exact h0 hf⟩
  rintro C j x hj ⟨rfl, hno⟩ hC
  simp only [L_X5_searchSets_61, forall_eq]
  rw [nI_ltI (by omega) (by omega)]
  refine ⟨fun e => ?_, fun e => ?_⟩
  · have hjm : a + 1 + j = m + 1 := by omega
    rw [hjm] at hno ⊢
    rw [nI_1 a]
    exact hd hno
  · have hst := hC (by omega)
    have hs : fo (fB (PP n a) (CD a) m a) (a + 1 + j + 1) s = lvG (PP n a (a + 1 + j)) (CD a (a + 1 + j)) (a + 1 + j) m (fo (fB (PP n a) (CD a) m a) (a + 1 + j) s) := if_pos (by omega)
    rw [nI_1 (a + 1 + j)]
    refine x_ssG (by omega) (by omega) hm hn hno (fun h1 => hst _ ⟨?_, ?_⟩) (fun x hf h1 => hq x hf (fo_kp (k := a + 1 + j + 1) (fB_kp _ _ _ _) ?_ (by omega)))
    · rw [show a + 1 + (j + 1) = a + 1 + j + 1 from rfl, hs]
    · rw [show a + 1 + (j + 1) = a + 1 + j + 1 from rfl, hs]; exact h1
    · rw [hs]; exact h1
theorem b1_0 (f : Bool) : (b1 f = 0) ↔ f = false := by cases f <;> decide
theorem x_ss39 {S : Hp} {f : Bool} {s : ST} {v0 v1 v2 v4 v5 v6 v7 : Int32} {C : Int32 × Int32 × Int32 × Int32 × Int32 × Int32 × Int32 × Int32 × Hp → Prop} {Q : Int32 → Hp → Prop} (h57 : v5 < v7) (h4 : v4 = nI s.1) (h0 : f = true → s.2 = none) (hQ : Q (stR s f) S) : L_X5_searchSets_39 Q C (v0, v1, v2, b1 f, v4, v5, v6, v7, S) := by
  simp only [L_X5_searchSets_39]
  refine ⟨fun _ => ⟨fun z => ?_, fun z => ?_⟩, fun z => absurd h57 z⟩
  · have hf := (b1_0 f).mp z
    subst hf
    rw [h4]; exact hQ
  · cases f with
    | false => exact absurd rfl z
    | true =>
      have e := h0 rfl
      unfold stR at hQ
      rw [if_pos rfl, e] at hQ
      exact hQ
theorem x_searchSets {S : Hp} {k m n : Nat} {f : Bool} {Q : Int32 → Hp → Prop} (hk : 1 ≤ k ∧ k ≤ 3) (hm : 1 ≤ m ∧ m ≤ 30) (hn : n ≤ 13) (hQ : Q (stR (setsR k m n) f) S) : wp_X5_searchSets (nI k) (nI m) (nI n) (b1 f) S Q := by
  have k3 : nI k = 3 ↔ k = 3 := by rw [show (3 : Int32) = nI 3 from rfl, nI_eq (by omega) (by decide)]
  have k2 : nI k < 2 ↔ k < 2 := by rw [show (2 : Int32) = nI 2 from rfl, nI_ltI (by omega) (by decide)]
  have hqs : ∀ x, f = true → (setsR k m n).2 = some x → Q (nI x) S := fun x hf e => by
    unfold stR at hQ
    rw [if_pos hf, e] at hQ
    exact hQ
  unfold wp_X5_searchSets
  simp only [J_X5_searchSets_13, J_X5_searchSets_25, J_X5_searchSets_37, k3, k2]
  rcases (by omega : k = 1 ∨ k = 2 ∨ k = 3) with e | e | e
  · refine ⟨fun _ => ⟨fun _ => ⟨fun _ => ?_, fun z => by omega⟩, fun z => by omega⟩, fun z => by omega⟩
    have hS : setsR k m n = lvG (PP n 0 0) (CD 0 0) 0 m (0, none) := if_pos e
    refine it_up 1 (fun j x => (j = 0 ∧ x = (nI k, nI m, nI n, b1 f, nI 0, nI 0, nI 0, nI 0, S)) ∨ (j = 1 ∧ x = (nI k, nI m, nI n, b1 f, nI (setsR k m n).1, nI 0, nI 0, nI 1, S) ∧ (f = true → (setsR k m n).2 = none))) ?_ _ (Or.inl ⟨rfl, rfl⟩)
    rintro C j x hj (⟨rfl, rfl⟩ | ⟨rfl, rfl, h1⟩) hC
    · have hst := hC (by decide)
      simp only [L_X5_searchSets_39, J_X5_searchSets_59, k2]
      refine ⟨fun z => absurd z (by decide), fun _ => ⟨fun _ => ?_, fun z => by omega⟩⟩
      refine it_up 1 (fun j x => (j = 0 ∧ x = (nI k, nI m, nI n, b1 f, nI 0, nI 0, nI 0, nI 0, nI 0, S)) ∨ (j = 1 ∧ x = (nI k, nI m, nI n, b1 f, nI (setsR k m n).1, nI 0, nI 0, nI 0, nI 1, S) ∧ (f = true → (setsR k m n).2 = none))) ?_ _ (Or.inl ⟨rfl, rfl⟩)
      rintro C2 j x hj (⟨rfl, rfl⟩ | ⟨rfl, rfl, h1⟩) hC2
      · have hst2 := hC2 (by decide)
        simp only [L_X5_searchSets_61, forall_eq]
        refine ⟨fun z => absurd z (by decide), fun _ => ?_⟩
        exact x_ssG (a := 0) (b := 0) (s := (0, none)) (Nat.le_refl _) (by omega) hm.2 hn (fun _ => rfl) (fun h1 => hst2 _ (Or.inr ⟨rfl, by rw [hS], fun hf => by rw [hS]; exact h1 hf⟩)) (fun x hf h1 => hqs x hf (by rw [hS]; exact h1))
      · simp only [L_X5_searchSets_61, forall_eq]
        exact ⟨fun _ => hst _ (Or.inr ⟨rfl, rfl, h1⟩), fun z => absurd (by decide) z⟩
    · exact x_ss39 (s := setsR k m n) (by decide) rfl h1 hQ
  · refine ⟨fun _ => ⟨fun z => by omega, fun _ => ⟨fun _ => ?_, fun z => by omega⟩⟩, fun z => by omega⟩
    have hS : setsR k m n = lvB (PP n 0) (CD 0) 0 m (0, none) := (if_neg (by omega)).trans (if_pos e)
    refine it_up 1 (fun j x => (j = 0 ∧ x = (nI k, nI m, nI n, b1 f, nI 0, nI 0, nI m, nI 0, S)) ∨ (j = 1 ∧ x = (nI k, nI m, nI n, b1 f, nI (setsR k m n).1, nI 0, nI m, nI 1, S) ∧ (f = true → (setsR k m n).2 = none))) ?_ _ (Or.inl ⟨rfl, rfl⟩)
    rintro C j x hj (⟨rfl, rfl⟩ | ⟨rfl, rfl, h1⟩) hC
    · have hst := hC (by decide)
      simp only [L_X5_searchSets_39, J_X5_searchSets_59, k2]
      refine ⟨fun z => absurd z (by decide), fun _ => ⟨fun z => by omega, fun _ => ?_⟩⟩
      exact x_ssB (a := 0) (s := (0, none)) (by omega) hm.2 hn (fun _ => rfl) (fun h1 => hst _ (Or.inr ⟨rfl, by rw [hS], fun hf => by rw [hS]; exact h1 hf⟩)) (fun x hf h1 => hqs x hf (by rw [hS]; exact h1))
    · exact x_ss39 (s := setsR k m n) (by decide) rfl h1 hQ
  · refine ⟨fun z => by omega, fun _ => ⟨fun z => by omega, fun _ => ⟨fun z => by omega, fun _ => ?_⟩⟩⟩
    have hS : setsR k m n = lvC (PP n) CD 0 m (0, none) := (if_neg (by omega)).trans (if_neg (by omega))
    have hskip : fo (fC (PP n) CD m 0) 1 (0, none) = (0, none) := fo_skip (fun i hi => if_neg (by omega))
    refine it_up m (fun j x => x = (nI k, nI m, nI n, b1 f, nI (fo (fC (PP n) CD m 0) (1 + j) (0, none)).1, nI m, nI m, nI (1 + j), S) ∧ (f = true → (fo (fC (PP n) CD m 0) (1 + j) (0, none)).2 = none)) ?_ _ ⟨by rw [Nat.add_zero, hskip]; rfl, fun hf => by rw [Nat.add_zero, hskip]⟩
    rintro C j x hj ⟨rfl, hno⟩ hC
    by_cases c : m < 1 + j
    · have hjm : 1 + j = m + 1 := by omega
      rw [hjm] at hno ⊢
      exact x_ss39 (s := setsR k m n) ((nI_ltI (by omega) (by omega)).mpr (by omega)) (by rw [hS]; rfl) (fun hf => by rw [hS]; exact hno hf) hQ
    · have hst := hC (by omega)
      have hs : fo (fC (PP n) CD m 0) (1 + j + 1) (0, none) = lvB (PP n (1 + j)) (CD (1 + j)) (1 + j) m (fo (fC (PP n) CD m 0) (1 + j) (0, none)) := if_pos (by omega)
      simp only [L_X5_searchSets_39, J_X5_searchSets_59, k2]
      rw [nI_ltI (by omega) (by omega), nI_1 (1 + j)]
      refine ⟨fun z => absurd z c, fun _ => ⟨fun z => by omega, fun _ => ?_⟩⟩
      refine x_ssB (by omega) hm.2 hn hno (fun h1 => hst _ ⟨?_, ?_⟩) (fun x hf h1 => hqs x hf ?_)
      · rw [show 1 + (j + 1) = 1 + j + 1 from rfl, hs]
      · rw [show 1 + (j + 1) = 1 + j + 1 from rfl, hs]; exact h1
      · rw [hS]
        refine fo_kp (k := 1 + j + 1) (fC_kp _ _ _ _) ?_ (by omega)
        rw [hs]; exact h1
theorem x_sets {a : Nat → Nat} {S : Hp} {k m n w : Int32} {Q : Int32 → Hp → Prop} (hQ : Q (sp_sets k m n w) S) : wp_X5_sets (a 0) k m n w S Q := by
  unfold sp_sets at hQ
  unfold wp_X5_sets
  simp only [p_lt, p_le, J_X5_sets_59, show (1 : Int32).toInt = 1 from rfl, show (3 : Int32).toInt = 3 from rfl, show (30 : Int32).toInt = 30 from rfl, show (13 : Int32).toInt = 13 from rfl, show (0 : Int32).toInt = 0 from rfl]
  have no : ¬ okS k m n w → Q (-1) S := fun h => by rw [if_neg h] at hQ; exact hQ
  refine ⟨fun h1 => no (by omega), fun h1 => ⟨fun h2 => no (by omega), fun h2 => ⟨fun h3 => no (by omega), fun h3 => ⟨fun h4 => no (by omega), fun h4 => ⟨fun h5 => no (by omega), fun h5 => ⟨fun h6 => no (by omega), fun h6 => ⟨fun h7 => no (by omega), fun h7 => ⟨fun h8 => ?_, fun h8 => no (by omega)⟩⟩⟩⟩⟩⟩⟩⟩
  rw [if_pos (by omega)] at hQ
  have ekI : k = nI (ix k) := p_nat (by omega)
  have emI : m = nI (ix m) := p_nat (by omega)
  have enI : n = nI (ix n) := p_nat (by omega)
  have b1k : 1 ≤ ix k ∧ ix k ≤ 3 := by unfold ix; omega
  have b1m : 1 ≤ ix m ∧ ix m ≤ 30 := by unfold ix; omega
  have b1n : ix n ≤ 13 := by unfold ix; omega
  rw [ekI, emI, enI]
  refine ⟨fun e => ?_, fun e => ?_⟩
  · rw [decide_eq_false e] at hQ
    exact x_searchSets (f := false) b1k b1m b1n hQ
  · rw [decide_eq_true e] at hQ
    exact x_searchSets (f := true) b1k b1m b1n hQ
