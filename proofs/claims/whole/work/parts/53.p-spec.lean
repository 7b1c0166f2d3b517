/-! what the calls answer, of the abstract state -/
theorem br0 {p : Prop} [Decidable p] {A B : Prop} (ht : p → B) (hf : ¬ p → A) : (b2 p = 0 → A) ∧ (¬ b2 p = 0 → B) := ⟨fun h => hf (b2_0.mp h), fun h => ht (Decidable.byContradiction fun z => h (b2_0.mpr z))⟩
theorem br1 {p : Prop} [Decidable p] {A B : Prop} (ht : p → A) (hf : ¬ p → B) : (¬ b2 p = 0 → A) ∧ (b2 p = 0 → B) := ⟨(br0 ht hf).2, (br0 ht hf).1⟩
theorem bz0 {z : Int32} {p : Prop} (e : z = 0 ↔ ¬ p) {A B : Prop} (ht : p → B) (hf : ¬ p → A) : (z = 0 → A) ∧ (¬ z = 0 → B) := ⟨fun h => hf (e.mp h), fun h => ht (Classical.byContradiction fun y => h (e.mpr y))⟩
theorem bz1 {z : Int32} {p : Prop} (e : z = 0 ↔ ¬ p) {A B : Prop} (ht : p → A) (hf : ¬ p → B) : (¬ z = 0 → A) ∧ (z = 0 → B) := ⟨(bz0 e ht hf).2, (bz0 e ht hf).1⟩
theorem scN_0 {h : Nat} (hh : h ≤ 2) : scN h = 0 ↔ ¬ (h ≠ 1) := by
  rcases (by omega : h = 0 ∨ h = 1 ∨ h = 2) with rfl | rfl | rfl <;> decide
def cnt (P : Nat → Bool) : Nat → Nat
  | 0 => 0
  | n + 1 => cnt P n + (if P n = true then 1 else 0)
theorem cnt_le (P : Nat → Bool) : ∀ n, cnt P n ≤ n
  | 0 => Nat.le_refl _
  | n + 1 => by
    have := cnt_le P n
    unfold cnt
    split <;> omega
def fsq (P : Nat → Bool) : Nat → Option Nat
  | 0 => none
  | n + 1 => match fsq P n with
    | some q => some q
    | none => if P n = true then some n else none
theorem fsq_up {P : Nat → Bool} {k q : Nat} : ∀ n, k ≤ n → fsq P k = some q → fsq P n = some q
  | 0, h, e => by rw [show k = 0 by omega] at e; exact e
  | n + 1, h, e => by
    by_cases hk : k = n + 1
    · rw [← hk]; exact e
    · unfold fsq
      rw [fsq_up n (by omega) e]
def oN (o : Option Nat) : Int32 := match o with
  | some q => nI q
  | none => -4
def bsq (P : Nat → Bool) (L : Nat → Nat) : Nat → Option (Nat × Nat)
  | 0 => none
  | n + 1 => if P n = true then (match bsq P L n with
    | none => some (L n, n)
    | some x => if L n < x.1 then some (L n, n) else some x) else bsq P L n
theorem bsq_lt {P : Nat → Bool} {L : Nat → Nat} : ∀ {n : Nat} {x : Nat × Nat}, bsq P L n = some x → x.2 < n ∧ x.1 = L x.2
  | 0, x, h => by cases h
  | n + 1, x, h => by
    unfold bsq at h
    split at h
    · split at h
      · cases h; exact ⟨by show n < n + 1; omega, rfl⟩
      · split at h
        · cases h; exact ⟨by show n < n + 1; omega, rfl⟩
        · rename_i y hy _
          cases h
          have := bsq_lt hy
          exact ⟨by omega, this.2⟩
    · have := bsq_lt h
      exact ⟨by omega, this.2⟩
def lif (n q : Nat) : Nat := rct n q + lct n q
theorem lif_le (n q : Nat) : lif n q ≤ n := by
  unfold lif
  induction n with
  | zero => exact Nat.le_refl _
  | succ n ih =>
    unfold rct lct
    have := dg_lt n q
    rcases (by omega : dg n q = 0 ∨ dg n q = 1 ∨ dg n q = 2) with e | e | e <;> simp [e] <;> omega
/-- a call that wants a scale -/
def onSc (s : ASh) (x : Int32) : Int32 := if s.1 ≠ 1 then scN s.1 else x
abbrev isW (w : Int32) : Prop := -9999 ≤ w.toInt ∧ w.toInt ≤ 9999
abbrev isW2 (x : Int32) : Prop := 0 ≤ x.toInt ∧ x.toInt ≤ 1
def sp_may (v : AS) (d q : Int32) : Int32 := if isSh d then (if isLy v.1.1 q then onSc (v.2.2 (ix d)) (b2 (mayQ (v.2.2 (ix d)) v.1.1 (ix q) = true)) else -1) else -1
def sp_weighs (v : AS) (d q : Int32) : Int32 := if isSh d then (if isLy v.1.1 q then (if (v.2.2 (ix d)).1 ≠ 1 then scN (v.2.2 (ix d)).1 - 1000000000 else if mayQ (v.2.2 (ix d)) v.1.1 (ix q) = true then wgQ (v.2.2 (ix d)) v.1 (ix q) else -1000000003) else -1000000001) else -1000000001
def sp_stone (v : AS) (q w : Int32) : Int32 := if isSt v.1.1 q then (if isW2 w then (if w = 0 then v.1.2.1 (ix q) else v.1.2.2 (ix q)) else -1) else -1
def sp_lying (v : AS) (q w : Int32) : Int32 := if isLy v.1.1 q then (if 0 ≤ w.toInt ∧ w.toInt ≤ 3 then (if w = 0 then rgt v.1.2.1 v.1.1 (ix q) else if w = 1 then lft v.1.2.1 v.1.1 (ix q) else if w = 2 then nI (lif v.1.1 (ix q)) else prs v.1.2.2 v.1.1 (ix q)) else -1) else -1
def sp_ways (v : AS) (d w : Int32) : Int32 := if isSh d then (if isW w then onSc (v.2.2 (ix d)) (nI (cnt (hitQ (v.2.2 (ix d)) v.1 w) (3 ^ v.1.1))) else -1) else -1
def sp_first (v : AS) (d w : Int32) : Int32 := if isSh d then (if isW w then onSc (v.2.2 (ix d)) (oN (fsq (hitQ (v.2.2 (ix d)) v.1 w) (3 ^ v.1.1))) else -1) else -1
def sp_lifts (v : AS) (d w x : Int32) : Int32 := if isSh d then (if isW w then (if isW2 x then onSc (v.2.2 (ix d)) (oN ((bsq (hitQ (v.2.2 (ix d)) v.1 w) (lif v.1.1) (3 ^ v.1.1)).map (fun y => if x = 0 then y.1 else y.2))) else -1) else -1) else -1
theorem e_isInL {x a b : Int32} {S : Hp} {Q : Int32 → Hp → Prop} {lo hi : Int} (ha : a.toInt = lo) (hb : b.toInt = hi) : wp_X6_isIn x a b S Q ↔ Q (b2 (lo ≤ x.toInt ∧ x.toInt ≤ hi)) S := by
  subst ha hb
  exact e_isIn x a b S Q
