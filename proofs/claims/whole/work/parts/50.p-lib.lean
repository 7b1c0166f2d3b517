/-! pure facts: numbers, loops, lyings -/
theorem p_lt (a b : Int32) : a < b ↔ a.toInt < b.toInt := Int32.lt_iff_toInt_lt
theorem p_le (a b : Int32) : a ≤ b ↔ a.toInt ≤ b.toInt := Int32.le_iff_toInt_le
theorem p_eq (a b : Int32) : a = b ↔ a.toInt = b.toInt := Int32.toInt_inj.symm
theorem p_lo (a : Int32) : -2147483648 ≤ a.toInt := Int32.le_toInt a
theorem p_hi (a : Int32) : a.toInt < 2147483648 := Int32.toInt_lt a
theorem p_bm {z : Int} (h1 : -2147483648 ≤ z) (h2 : z < 2147483648) : z.bmod (2 ^ 32) = z := by
  rw [Int.bmod_eq_of_le (by omega) (by omega)]
theorem p_add {a b : Int32} (h1 : -2147483648 ≤ a.toInt + b.toInt) (h2 : a.toInt + b.toInt < 2147483648) : (a + b).toInt = a.toInt + b.toInt := by
  rw [Int32.toInt_add, p_bm h1 h2]
theorem p_sub {a b : Int32} (h1 : -2147483648 ≤ a.toInt - b.toInt) (h2 : a.toInt - b.toInt < 2147483648) : (a - b).toInt = a.toInt - b.toInt := by
  rw [Int32.toInt_sub, p_bm h1 h2]
theorem p_mul {a b : Int32} (h1 : -2147483648 ≤ a.toInt * b.toInt) (h2 : a.toInt * b.toInt < 2147483648) : (a * b).toInt = a.toInt * b.toInt := by
  rw [Int32.toInt_mul, p_bm h1 h2]
theorem p_nat {x : Int32} (h : 0 ≤ x.toInt) : x = nI x.toInt.toNat := by
  rw [p_eq, nI_toInt (by have := p_hi x; omega)]; omega
theorem p_idx {x : Int32} {n : Nat} (h0 : 0 ≤ x.toInt) (h : x.toInt < n) : ∃ k, k < n ∧ x = nI k := ⟨x.toInt.toNat, by omega, p_nat h0⟩
theorem nI_sub1 {n : Nat} (h : 0 < n) : nI n - 1 = nI (n - 1) := by
  obtain ⟨k, rfl⟩ : ∃ k, n = k + 1 := ⟨n - 1, by omega⟩
  exact nI_pred k
theorem it_i {X : Type} {B : (X → Prop) → X → Prop} (I : Nat → X → Prop) (hs : ∀ (C : X → Prop) (k : Nat) (x : X), I k x → (∀ j x', j < k → I j x' → C x') → B C x) (k : Nat) (x : X) (h : I k x) : ∃ n, it B n x := by
  have key : ∀ (n : Nat) (k : Nat) (x : X), k < n → I k x → it B n x := by
    intro n
    induction n with
    | zero => intro k x h; omega
    | succ n ih => intro k x hk hx; exact hs _ k x hx (fun j x' hj hx' => ih j x' (by omega) hx')
  exact ⟨k + 1, key (k + 1) k x (by omega) h⟩
/-- a loop that counts up to n: the invariant by how often it has run -/
theorem it_up {X : Type} {B : (X → Prop) → X → Prop} (n : Nat) (I : Nat → X → Prop) (hs : ∀ (C : X → Prop) (k : Nat) (x : X), k ≤ n → I k x → (k < n → ∀ x', I (k + 1) x' → C x') → B C x) (x : X) (h : I 0 x) : ∃ m, it B m x := by
  refine it_i (fun r x => ∃ k, k + r = n ∧ I k x) ?_ n x ⟨0, by omega, h⟩
  rintro C r x ⟨k, hk, hx⟩ hC
  exact hs C k x (by omega) hx (fun hkn x' hx' => hC (n - (k + 1)) x' (by omega) ⟨k + 1, by omega, hx'⟩)
def b2 (p : Prop) [Decidable p] : Int32 := if p then 1 else 0
theorem b2_t {p : Prop} [Decidable p] (h : p) : b2 p = 1 := if_pos h
theorem b2_f {p : Prop} [Decidable p] (h : ¬ p) : b2 p = 0 := if_neg h
theorem b2_0 {p : Prop} [Decidable p] : b2 p = 0 ↔ ¬ p := by
  unfold b2
  split <;> simp_all
theorem b2_nar (p : Prop) [Decidable p] : narrow .boolean (.int (b2 p)) = .int (b2 p) := by
  unfold b2
  split <;> decide
theorem b2_congr {p q : Prop} [Decidable p] [Decidable q] (h : p ↔ q) : b2 p = b2 q := by
  by_cases hp : p
  · rw [b2_t hp, b2_t (h.mp hp)]
  · rw [b2_f hp, b2_f (fun z => hp (h.mpr z))]
-- lyings
def dg (t q : Nat) : Nat := q / 3 ^ t % 3
theorem dg_lt (t q : Nat) : dg t q < 3 := Nat.mod_lt _ (by decide)
def rgt (wt : Nat → Int32) : Nat → Nat → Int32
  | 0, _ => 0
  | n + 1, q => rgt wt n q + (if dg n q = 1 then wt n else 0)
def lft (wt : Nat → Int32) : Nat → Nat → Int32
  | 0, _ => 0
  | n + 1, q => lft wt n q + (if dg n q = 2 then wt n else 0)
def rct : Nat → Nat → Nat
  | 0, _ => 0
  | n + 1, q => rct n q + (if dg n q = 1 then 1 else 0)
def lct : Nat → Nat → Nat
  | 0, _ => 0
  | n + 1, q => lct n q + (if dg n q = 2 then 1 else 0)
def prs (pr : Nat → Int32) : Nat → Nat → Int32
  | 0, _ => 0
  | n + 1, q => prs pr n q + (if dg n q = 0 then 0 else pr n)
def usd : Nat → Nat → Nat
  | 0, _ => 0
  | n + 1, q => usd n q ||| (if dg n q = 0 then 0 else 2 ^ n)
theorem rct_le : ∀ n q, rct n q ≤ n
  | 0, _ => Nat.le_refl _
  | n + 1, q => by
    have := rct_le n q
    unfold rct
    split <;> omega
theorem lct_le : ∀ n q, lct n q ≤ n
  | 0, _ => Nat.le_refl _
  | n + 1, q => by
    have := lct_le n q
    unfold lct
    split <;> omega
theorem usd_lt : ∀ n q, usd n q < 2 ^ n
  | 0, _ => Nat.lt_of_lt_of_eq Nat.zero_lt_one (by rfl)
  | n + 1, q => by
    have := usd_lt n q
    unfold usd
    refine Nat.or_lt_two_pow (by omega) ?_
    split
    · exact Nat.two_pow_pos _
    · exact Nat.pow_lt_pow_right (by decide) (by omega)
/-- may it be, what it weighs -/
def mayb (k : Int32) (rc lc : Nat) : Prop := if k = 1 ∨ k = 6 then lc = 0 else k = 4 → rc ≤ 2
def weig (k f r l : Int32) : Int32 := if k.toInt = 2 then (f + 1) * r - l else if k.toInt = 3 then r - l - f else if k.toInt = 4 then (f + 1) * r - l + r else if k.toInt = 5 then (if 0 ≤ r - l then r - l else 0 - (r - l)) else if k.toInt = 6 then (r - l) / 2 else if k.toInt = 7 then (if l ≤ 0 then r - l - f + 0 else r - l - f + 1) else r - l
def dmay (k : Int32) (rc lc : Nat) : Decidable (mayb k rc lc) := by unfold mayb; exact inferInstance
