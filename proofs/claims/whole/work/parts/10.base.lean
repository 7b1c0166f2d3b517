/-! the pure heap: kinds, int fields, reference fields, lengths, int rows, reference rows, each by the address. Kind k+1: an object of the class k of vwCl; 8 int[], 9 boolean[], 10 Row[], 11 Scale[]. -/
abbrev Hp : Type := (Nat → Nat) × (Nat → Nat → Int32) × (Nat → Nat → Option Nat) × (Nat → Nat) × (Nat → Nat → Int32) × (Nat → Nat → Option Nat)
def kd (S : Hp) (a : Nat) : Nat := S.1 a
def gI (S : Hp) (i a : Nat) : Int32 := S.2.1 i a
def gR (S : Hp) (i a : Nat) : Option Nat := S.2.2.1 i a
def ln (S : Hp) (a : Nat) : Nat := S.2.2.2.1 a
def gA (S : Hp) (a j : Nat) : Int32 := S.2.2.2.2.1 a j
def gQ (S : Hp) (a j : Nat) : Option Nat := S.2.2.2.2.2 a j
def sI (S : Hp) (i a : Nat) (v : Int32) : Hp := (S.1, (fun x b => if x = i ∧ b = a then v else S.2.1 x b), S.2.2)
def sR (S : Hp) (i a : Nat) (v : Option Nat) : Hp := (S.1, S.2.1, (fun x b => if x = i ∧ b = a then v else S.2.2.1 x b), S.2.2.2)
def sF (S : Hp) (a : Nat) (f : Nat → Int32) : Hp := (S.1, S.2.1, S.2.2.1, S.2.2.2.1, (fun b => if b = a then f else S.2.2.2.2.1 b), S.2.2.2.2.2)
def sA (S : Hp) (a j : Nat) (v : Int32) : Hp := sF S a (upd (gA S a) j v)
def sQ (S : Hp) (a j : Nat) (v : Option Nat) : Hp := (S.1, S.2.1, S.2.2.1, S.2.2.2.1, S.2.2.2.2.1, (fun b => if b = a then va_up (S.2.2.2.2.2 a) j v else S.2.2.2.2.2 b))
def nO (S : Hp) (q k : Nat) : Hp := ((fun b => if b = q then k else S.1 b), (fun x b => if b = q then 0 else S.2.1 x b), (fun x b => if b = q then none else S.2.2.1 x b), S.2.2.2)
def nA (S : Hp) (q k n : Nat) : Hp := ((fun b => if b = q then k else S.1 b), S.2.1, S.2.2.1, (fun b => if b = q then n else S.2.2.2.1 b), (fun b => if b = q then (fun _ => 0) else S.2.2.2.2.1 b), (fun b => if b = q then (fun _ => none) else S.2.2.2.2.2 b))

theorem h_kd_sI (S : Hp) (i a : Nat) (v : Int32) (b : Nat) : kd (sI S i a v) b = (kd S b) := rfl
theorem h_gI_sI (S : Hp) (i a : Nat) (v : Int32) (x b : Nat) : gI (sI S i a v) x b = (if x = i ∧ b = a then v else gI S x b) := rfl
theorem h_gR_sI (S : Hp) (i a : Nat) (v : Int32) (x b : Nat) : gR (sI S i a v) x b = (gR S x b) := rfl
theorem h_ln_sI (S : Hp) (i a : Nat) (v : Int32) (b : Nat) : ln (sI S i a v) b = (ln S b) := rfl
theorem h_gA_sI (S : Hp) (i a : Nat) (v : Int32) (b : Nat) : gA (sI S i a v) b = (gA S b) := rfl
theorem h_gQ_sI (S : Hp) (i a : Nat) (v : Int32) (b : Nat) : gQ (sI S i a v) b = (gQ S b) := rfl
theorem h_kd_sR (S : Hp) (i a : Nat) (v : Option Nat) (b : Nat) : kd (sR S i a v) b = (kd S b) := rfl
theorem h_gI_sR (S : Hp) (i a : Nat) (v : Option Nat) (x b : Nat) : gI (sR S i a v) x b = (gI S x b) := rfl
theorem h_gR_sR (S : Hp) (i a : Nat) (v : Option Nat) (x b : Nat) : gR (sR S i a v) x b = (if x = i ∧ b = a then v else gR S x b) := rfl
theorem h_ln_sR (S : Hp) (i a : Nat) (v : Option Nat) (b : Nat) : ln (sR S i a v) b = (ln S b) := rfl
theorem h_gA_sR (S : Hp) (i a : Nat) (v : Option Nat) (b : Nat) : gA (sR S i a v) b = (gA S b) := rfl
theorem h_gQ_sR (S : Hp) (i a : Nat) (v : Option Nat) (b : Nat) : gQ (sR S i a v) b = (gQ S b) := rfl
theorem h_kd_sF (S : Hp) (a : Nat) (f : Nat → Int32) (b : Nat) : kd (sF S a f) b = (kd S b) := rfl
theorem h_gI_sF (S : Hp) (a : Nat) (f : Nat → Int32) (x b : Nat) : gI (sF S a f) x b = (gI S x b) := rfl
theorem h_gR_sF (S : Hp) (a : Nat) (f : Nat → Int32) (x b : Nat) : gR (sF S a f) x b = (gR S x b) := rfl
theorem h_ln_sF (S : Hp) (a : Nat) (f : Nat → Int32) (b : Nat) : ln (sF S a f) b = (ln S b) := rfl
theorem h_gA_sF (S : Hp) (a : Nat) (f : Nat → Int32) (b : Nat) : gA (sF S a f) b = (if b = a then f else gA S b) := rfl
theorem h_gQ_sF (S : Hp) (a : Nat) (f : Nat → Int32) (b : Nat) : gQ (sF S a f) b = (gQ S b) := rfl
theorem h_kd_sQ (S : Hp) (a j : Nat) (v : Option Nat) (b : Nat) : kd (sQ S a j v) b = (kd S b) := rfl
theorem h_gI_sQ (S : Hp) (a j : Nat) (v : Option Nat) (x b : Nat) : gI (sQ S a j v) x b = (gI S x b) := rfl
theorem h_gR_sQ (S : Hp) (a j : Nat) (v : Option Nat) (x b : Nat) : gR (sQ S a j v) x b = (gR S x b) := rfl
theorem h_ln_sQ (S : Hp) (a j : Nat) (v : Option Nat) (b : Nat) : ln (sQ S a j v) b = (ln S b) := rfl
theorem h_gA_sQ (S : Hp) (a j : Nat) (v : Option Nat) (b : Nat) : gA (sQ S a j v) b = (gA S b) := rfl
theorem h_gQ_sQ (S : Hp) (a j : Nat) (v : Option Nat) (b : Nat) : gQ (sQ S a j v) b = (if b = a then va_up (gQ S a) j v else gQ S b) := rfl
theorem h_kd_nO (S : Hp) (q k : Nat) (b : Nat) : kd (nO S q k) b = (if b = q then k else kd S b) := rfl
theorem h_kd_nA (S : Hp) (q k n : Nat) (b : Nat) : kd (nA S q k n) b = (if b = q then k else kd S b) := rfl
theorem h_gI_nO (S : Hp) (q k : Nat) (x b : Nat) : gI (nO S q k) x b = (if b = q then 0 else gI S x b) := rfl
theorem h_gI_nA (S : Hp) (q k n : Nat) (x b : Nat) : gI (nA S q k n) x b = (gI S x b) := rfl
theorem h_gR_nO (S : Hp) (q k : Nat) (x b : Nat) : gR (nO S q k) x b = (if b = q then none else gR S x b) := rfl
theorem h_gR_nA (S : Hp) (q k n : Nat) (x b : Nat) : gR (nA S q k n) x b = (gR S x b) := rfl
theorem h_ln_nO (S : Hp) (q k : Nat) (b : Nat) : ln (nO S q k) b = (ln S b) := rfl
theorem h_ln_nA (S : Hp) (q k n : Nat) (b : Nat) : ln (nA S q k n) b = (if b = q then n else ln S b) := rfl
theorem h_gA_nO (S : Hp) (q k : Nat) (b : Nat) : gA (nO S q k) b = (gA S b) := rfl
theorem h_gA_nA (S : Hp) (q k n : Nat) (b : Nat) : gA (nA S q k n) b = (if b = q then (fun _ => 0) else gA S b) := rfl
theorem h_gQ_nO (S : Hp) (q k : Nat) (b : Nat) : gQ (nO S q k) b = (gQ S b) := rfl
theorem h_gQ_nA (S : Hp) (q k n : Nat) (b : Nat) : gQ (nA S q k n) b = (if b = q then (fun _ => none) else gQ S b) := rfl
/-- what the pure heap says of an address, in the kit's words -/
def cO (κ : Nat → ClassId) (S : Hp) (a : Nat) : Option va_E := match kd S a with
  | 1 => some (.inr (0, [va_rf (gR S 0 a), va_rf (gR S 1 a), va_rf (gR S 2 a), va_rf (gR S 3 a), .int (gI S 4 a)]))
  | 2 => some (.inr (1, [.int (gI S 10 a), va_rf (gR S 11 a)]))
  | 3 => some (.inr (2, [.int (gI S 20 a), .int (gI S 21 a)]))
  | 4 => some (.inr (3, [va_rf (gR S 30 a), .int (gI S 31 a), .int (gI S 32 a)]))
  | 5 => some (.inr (4, [va_rf (gR S 40 a), va_rf (gR S 41 a), .int (gI S 42 a)]))
  | 6 => some (.inr (5, [va_rf (gR S 50 a), va_rf (gR S 51 a), va_rf (gR S 52 a), .int (gI S 53 a), va_rf (gR S 54 a), va_rf (gR S 55 a), va_rf (gR S 56 a), va_rf (gR S 57 a), va_rf (gR S 58 a), va_rf (gR S 59 a), va_rf (gR S 60 a), va_rf (gR S 61 a), va_rf (gR S 62 a)]))
  | 7 => some (.inr (6, [.int (gI S 70 a), va_rf (gR S 71 a), va_rf (gR S 72 a), .int (gI S 73 a), .int (gI S 74 a), va_rf (gR S 75 a), va_rf (gR S 76 a), .int (gI S 77 a), .int (gI S 78 a), .int (gI S 79 a), .int (gI S 80 a), .int (gI S 81 a), .int (gI S 82 a), va_rf (gR S 83 a), .int (gI S 84 a), .int (gI S 85 a), va_rf (gR S 86 a), va_rf (gR S 87 a), .int (gI S 88 a), .int (gI S 89 a), .int (gI S 90 a), .int (gI S 91 a), .int (gI S 92 a), .int (gI S 93 a), va_rf (gR S 94 a), va_rf (gR S 95 a), va_rf (gR S 96 a), va_rf (gR S 97 a), va_rf (gR S 98 a), va_rf (gR S 99 a), va_rf (gR S 100 a), .int (gI S 101 a)]))
  | 8 => some (.inl (κ 0, ln S a, .inl (gA S a)))
  | 9 => some (.inl (κ 1, ln S a, .inl (gA S a)))
  | 10 => some (.inl (κ 2, ln S a, .inr (.inr (.inr (.inr (gQ S a))))))
  | 11 => some (.inl (κ 3, ln S a, .inr (.inr (.inr (.inr (gQ S a))))))
  | _ => none
theorem cO_eq {κ : Nat → ClassId} {S S' : Hp} {a : Nat} (h1 : kd S' a = kd S a) (h2 : ∀ i, gI S' i a = gI S i a) (h3 : ∀ i, gR S' i a = gR S i a) (h4 : ln S' a = ln S a) (h5 : gA S' a = gA S a) (h6 : gQ S' a = gQ S a) : cO κ S' a = cO κ S a := by
  unfold cO
  simp only [h1, h2, h3, h4, h5, h6]
def TYS (κ : Nat → ClassId) : List (ClassId × FieldType) := [(κ 0, .int), (κ 1, .boolean), (κ 2, .object "FourStones$Row"), (κ 3, .object "FourStones$Scale")]
def GG (D : va_G) (κ : Nat → ClassId) (A : Nat → Prop) (S : Hp) (H : Heap) : Prop := ∀ a e, cO κ S a = some e → va_at D vwCl (a, e) H ∧ A a
def KK (D : va_G) (κ : Nat → ClassId) (U : State) : Prop := va_K D vwCl (TYS κ) U
def XX (U : State) : Prop := va_AO "FourStones$Row" U ∧ va_AO "FourStones$Scale" U ∧ va_Nw (.methodLinkNest RX5 9 yX4_init RX5) U ∧ va_Nw (.methodLinkNest RX5 18 yX0_init RX5) U ∧ va_Nw (.methodLinkNest RX5 53 yX3_init RX5) U ∧ va_Nw (.methodLinkNest RX3 11 yX4_init RX5) U
theorem XX.warm {s U : State} (hW : s.WarmedH U.vm) (h : XX s) : XX U := ⟨va_AO.moved hW.alike h.1, va_AO.moved hW.alike h.2.1, va_Nw.warmM hW h.2.2.1, va_Nw.warmM hW h.2.2.2.1, va_Nw.warmM hW h.2.2.2.2.1, va_Nw.warmM hW h.2.2.2.2.2⟩
theorem XX.same {u U : State} (e : u.vm = U.vm) (h : XX u) : XX U := ⟨va_AO.moved (by rw [e]; exact Vm.Alike.refl _) h.1, va_AO.moved (by rw [e]; exact Vm.Alike.refl _) h.2.1, va_Nw.same rfl e h.2.2.1, va_Nw.same rfl e h.2.2.2.1, va_Nw.same rfl e h.2.2.2.2.1, va_Nw.same rfl e h.2.2.2.2.2⟩
def BG (D : va_G) (κ : Nat → ClassId) (A : Nat → Prop) (S : Hp) (U : State) : Prop := GG D κ A S U.heap ∧ KK D κ U ∧ XX U
theorem KK.moved {D : va_G} {κ : Nat → ClassId} {u U : State} (hvm : u.vm.Alike U.vm) (h : KK D κ u) : KK D κ U := va_K.moved hvm h
/-- a contract's start -/
def PG (D : va_G) (κ : Nat → ClassId) (A : Nat → Prop) (S : Hp) (av : List Value) : Array Value → State → Prop := va_Pc av (fun U => (∀ q, U.heap.size ≤ q → A q) ∧ BG D κ A S U)
theorem GG.set {D : va_G} {κ : Nat → ClassId} {A : Nat → Prop} {S S' : Hp} {H H1 : Heap} {a : Nat} (h : GG D κ A S H) (oq : ∀ q : Nat, q ≠ a → H1[q]? = H[q]?) (hb : ∀ b, b ≠ a → cO κ S' b = cO κ S b) (ha : ∀ e, cO κ S' a = some e → va_at D vwCl (a, e) H1) (hA : A a) : GG D κ A S' H1 := by
  intro b e he
  by_cases hba : b = a
  · subst hba; exact ⟨ha e he, hA⟩
  · rw [hb b hba] at he
    obtain ⟨h1, h2⟩ := h b e he
    exact ⟨h1.kept (oq b hba), h2⟩
theorem GG.new {D : va_G} {κ : Nat → ClassId} {A : Nat → Prop} {S S' : Hp} {H H1 : Heap} (h : GG D κ A S H) (oq : ∀ q : Nat, q < H.size → H1[q]? = H[q]?) (hb : ∀ b, b ≠ H.size → cO κ S' b = cO κ S b) (ha : ∀ e, cO κ S' H.size = some e → va_at D vwCl (H.size, e) H1) (hA : A H.size) : GG D κ A S' H1 := by
  intro b e he
  by_cases hba : b = H.size
  · subst hba; exact ⟨ha e he, hA⟩
  · rw [hb b hba] at he
    obtain ⟨h1, h2⟩ := h b e he
    exact ⟨h1.kept (oq b h1.lt), h2⟩
theorem GG.fresh {D : va_G} {κ : Nat → ClassId} {A : Nat → Prop} {S : Hp} {H : Heap} (h : GG D κ A S H) : cO κ S H.size = none := by
  cases hc : cO κ S H.size with
  | none => rfl
  | some e => exact absurd (h _ _ hc).1.lt (Nat.lt_irrefl _)
theorem GG.P {D : va_G} {κ : Nat → ClassId} {A : Nat → Prop} {S : Hp} {H : Heap} (h : GG D κ A S H) {a : Nat} {e : va_E} (he : cO κ S a = some e) : va_P D vwCl [(a, e)] H := by
  intro k q hk
  have hz : k < 1 := (List.getElem?_eq_some_iff.mp hk).1
  rw [show k = 0 by omega] at hk
  cases hk
  exact (h _ _ he).1
theorem up_ne {α : Sort _} {b a : Nat} {x y : α} (h : b ≠ a) : (if b = a then x else y) = y := if_neg h
theorem up_ne2 {α : Sort _} {p : Prop} {b a : Nat} {x y : α} [Decidable p] (h : b ≠ a) : (if p ∧ b = a then x else y) = y := if_neg (fun z => h z.2)
theorem cO_sI {κ : Nat → ClassId} {S : Hp} {i a b : Nat} {v : Int32} (h : b ≠ a) : cO κ (sI S i a v) b = cO κ S b := cO_eq rfl (fun x => (h_gI_sI S i a v x b).trans (if_neg (fun z => h z.2))) (fun _ => rfl) rfl rfl rfl
theorem cO_sR {κ : Nat → ClassId} {S : Hp} {i a b : Nat} {v : Option Nat} (h : b ≠ a) : cO κ (sR S i a v) b = cO κ S b := cO_eq rfl (fun _ => rfl) (fun x => (h_gR_sR S i a v x b).trans (if_neg (fun z => h z.2))) rfl rfl rfl
theorem cO_sF {κ : Nat → ClassId} {S : Hp} {a b : Nat} {f : Nat → Int32} (h : b ≠ a) : cO κ (sF S a f) b = cO κ S b := cO_eq rfl (fun _ => rfl) (fun _ => rfl) rfl ((h_gA_sF S a f b).trans (if_neg h)) rfl
theorem cO_sQ {κ : Nat → ClassId} {S : Hp} {a j b : Nat} {v : Option Nat} (h : b ≠ a) : cO κ (sQ S a j v) b = cO κ S b := cO_eq rfl (fun _ => rfl) (fun _ => rfl) rfl rfl ((h_gQ_sQ S a j v b).trans (if_neg h))
theorem cO_nO {κ : Nat → ClassId} {S : Hp} {q k b : Nat} (h : b ≠ q) : cO κ (nO S q k) b = cO κ S b := cO_eq ((h_kd_nO S q k b).trans (if_neg h)) (fun x => (h_gI_nO S q k x b).trans (if_neg h)) (fun x => (h_gR_nO S q k x b).trans (if_neg h)) rfl rfl rfl
theorem cO_nA {κ : Nat → ClassId} {S : Hp} {q k n b : Nat} (h : b ≠ q) : cO κ (nA S q k n) b = cO κ S b := cO_eq ((h_kd_nA S q k n b).trans (if_neg h)) (fun _ => rfl) (fun _ => rfl) ((h_ln_nA S q k n b).trans (if_neg h)) ((h_gA_nA S q k n b).trans (if_neg h)) ((h_gQ_nA S q k n b).trans (if_neg h))
/-- fresh: no cell of the pure heap -/
def fr (S : Hp) (q : Nat) : Prop := kd S q = 0 ∨ 11 < kd S q

theorem kc_1 {κ : Nat → ClassId} {S : Hp} {a : Nat} (h : kd S a = 1) : cO κ S a = some (.inr (0, [va_rf (gR S 0 a), va_rf (gR S 1 a), va_rf (gR S 2 a), va_rf (gR S 3 a), .int (gI S 4 a)])) := by unfold cO; simp only [h]
theorem kc_2 {κ : Nat → ClassId} {S : Hp} {a : Nat} (h : kd S a = 2) : cO κ S a = some (.inr (1, [.int (gI S 10 a), va_rf (gR S 11 a)])) := by unfold cO; simp only [h]
theorem kc_3 {κ : Nat → ClassId} {S : Hp} {a : Nat} (h : kd S a = 3) : cO κ S a = some (.inr (2, [.int (gI S 20 a), .int (gI S 21 a)])) := by unfold cO; simp only [h]
theorem kc_4 {κ : Nat → ClassId} {S : Hp} {a : Nat} (h : kd S a = 4) : cO κ S a = some (.inr (3, [va_rf (gR S 30 a), .int (gI S 31 a), .int (gI S 32 a)])) := by unfold cO; simp only [h]
theorem kc_5 {κ : Nat → ClassId} {S : Hp} {a : Nat} (h : kd S a = 5) : cO κ S a = some (.inr (4, [va_rf (gR S 40 a), va_rf (gR S 41 a), .int (gI S 42 a)])) := by unfold cO; simp only [h]
theorem kc_6 {κ : Nat → ClassId} {S : Hp} {a : Nat} (h : kd S a = 6) : cO κ S a = some (.inr (5, [va_rf (gR S 50 a), va_rf (gR S 51 a), va_rf (gR S 52 a), .int (gI S 53 a), va_rf (gR S 54 a), va_rf (gR S 55 a), va_rf (gR S 56 a), va_rf (gR S 57 a), va_rf (gR S 58 a), va_rf (gR S 59 a), va_rf (gR S 60 a), va_rf (gR S 61 a), va_rf (gR S 62 a)])) := by unfold cO; simp only [h]
theorem kc_7 {κ : Nat → ClassId} {S : Hp} {a : Nat} (h : kd S a = 7) : cO κ S a = some (.inr (6, [.int (gI S 70 a), va_rf (gR S 71 a), va_rf (gR S 72 a), .int (gI S 73 a), .int (gI S 74 a), va_rf (gR S 75 a), va_rf (gR S 76 a), .int (gI S 77 a), .int (gI S 78 a), .int (gI S 79 a), .int (gI S 80 a), .int (gI S 81 a), .int (gI S 82 a), va_rf (gR S 83 a), .int (gI S 84 a), .int (gI S 85 a), va_rf (gR S 86 a), va_rf (gR S 87 a), .int (gI S 88 a), .int (gI S 89 a), .int (gI S 90 a), .int (gI S 91 a), .int (gI S 92 a), .int (gI S 93 a), va_rf (gR S 94 a), va_rf (gR S 95 a), va_rf (gR S 96 a), va_rf (gR S 97 a), va_rf (gR S 98 a), va_rf (gR S 99 a), va_rf (gR S 100 a), .int (gI S 101 a)])) := by unfold cO; simp only [h]
theorem kc_8 {κ : Nat → ClassId} {S : Hp} {a : Nat} (h : kd S a = 8) : cO κ S a = some (.inl (κ 0, ln S a, .inl (gA S a))) := by unfold cO; simp only [h]
theorem kc_9 {κ : Nat → ClassId} {S : Hp} {a : Nat} (h : kd S a = 9) : cO κ S a = some (.inl (κ 1, ln S a, .inl (gA S a))) := by unfold cO; simp only [h]
theorem kc_10 {κ : Nat → ClassId} {S : Hp} {a : Nat} (h : kd S a = 10) : cO κ S a = some (.inl (κ 2, ln S a, .inr (.inr (.inr (.inr (gQ S a)))))) := by unfold cO; simp only [h]
theorem kc_11 {κ : Nat → ClassId} {S : Hp} {a : Nat} (h : kd S a = 11) : cO κ S a = some (.inl (κ 3, ln S a, .inr (.inr (.inr (.inr (gQ S a)))))) := by unfold cO; simp only [h]
theorem cO_kd {κ : Nat → ClassId} {S : Hp} {a : Nat} (h : cO κ S a = none) : fr S a := by
  unfold fr
  rcases (by omega : kd S a = 0 ∨ kd S a = 1 ∨ kd S a = 2 ∨ kd S a = 3 ∨ kd S a = 4 ∨ kd S a = 5 ∨ kd S a = 6 ∨ kd S a = 7 ∨ kd S a = 8 ∨ kd S a = 9 ∨ kd S a = 10 ∨ kd S a = 11 ∨ 11 < kd S a) with h1 | h1 | h1 | h1 | h1 | h1 | h1 | h1 | h1 | h1 | h1 | h1 | h1
  · exact Or.inl h1
  · exact absurd ((kc_1 (κ := κ) h1).symm.trans h) (fun z => by cases z)
  · exact absurd ((kc_2 (κ := κ) h1).symm.trans h) (fun z => by cases z)
  · exact absurd ((kc_3 (κ := κ) h1).symm.trans h) (fun z => by cases z)
  · exact absurd ((kc_4 (κ := κ) h1).symm.trans h) (fun z => by cases z)
  · exact absurd ((kc_5 (κ := κ) h1).symm.trans h) (fun z => by cases z)
  · exact absurd ((kc_6 (κ := κ) h1).symm.trans h) (fun z => by cases z)
  · exact absurd ((kc_7 (κ := κ) h1).symm.trans h) (fun z => by cases z)
  · exact absurd ((kc_8 (κ := κ) h1).symm.trans h) (fun z => by cases z)
  · exact absurd ((kc_9 (κ := κ) h1).symm.trans h) (fun z => by cases z)
  · exact absurd ((kc_10 (κ := κ) h1).symm.trans h) (fun z => by cases z)
  · exact absurd ((kc_11 (κ := κ) h1).symm.trans h) (fun z => by cases z)
  · exact Or.inr h1
theorem cs_0 {κ : Nat → ClassId} {S : Hp} {a : Nat} {v : Option Nat} (h : kd S a = 1) : cO κ (sR S 0 a v) a = some (.inr (0, ([va_rf (gR S 0 a), va_rf (gR S 1 a), va_rf (gR S 2 a), va_rf (gR S 3 a), .int (gI S 4 a)] : List Value).set 0 (va_rf v))) := (kc_1 (S := sR S 0 a v) h).trans (by simp [h_gI_sI, h_gR_sR, h_gI_sR, h_gR_sI])
theorem cs_1 {κ : Nat → ClassId} {S : Hp} {a : Nat} {v : Option Nat} (h : kd S a = 1) : cO κ (sR S 1 a v) a = some (.inr (0, ([va_rf (gR S 0 a), va_rf (gR S 1 a), va_rf (gR S 2 a), va_rf (gR S 3 a), .int (gI S 4 a)] : List Value).set 1 (va_rf v))) := (kc_1 (S := sR S 1 a v) h).trans (by simp [h_gI_sI, h_gR_sR, h_gI_sR, h_gR_sI])
theorem cs_2 {κ : Nat → ClassId} {S : Hp} {a : Nat} {v : Option Nat} (h : kd S a = 1) : cO κ (sR S 2 a v) a = some (.inr (0, ([va_rf (gR S 0 a), va_rf (gR S 1 a), va_rf (gR S 2 a), va_rf (gR S 3 a), .int (gI S 4 a)] : List Value).set 2 (va_rf v))) := (kc_1 (S := sR S 2 a v) h).trans (by simp [h_gI_sI, h_gR_sR, h_gI_sR, h_gR_sI])
theorem cs_3 {κ : Nat → ClassId} {S : Hp} {a : Nat} {v : Option Nat} (h : kd S a = 1) : cO κ (sR S 3 a v) a = some (.inr (0, ([va_rf (gR S 0 a), va_rf (gR S 1 a), va_rf (gR S 2 a), va_rf (gR S 3 a), .int (gI S 4 a)] : List Value).set 3 (va_rf v))) := (kc_1 (S := sR S 3 a v) h).trans (by simp [h_gI_sI, h_gR_sR, h_gI_sR, h_gR_sI])
theorem cs_4 {κ : Nat → ClassId} {S : Hp} {a : Nat} {v : Int32} (h : kd S a = 1) : cO κ (sI S 4 a v) a = some (.inr (0, ([va_rf (gR S 0 a), va_rf (gR S 1 a), va_rf (gR S 2 a), va_rf (gR S 3 a), .int (gI S 4 a)] : List Value).set 4 (.int v))) := (kc_1 (S := sI S 4 a v) h).trans (by simp [h_gI_sI, h_gR_sR, h_gI_sR, h_gR_sI])
theorem cs_10 {κ : Nat → ClassId} {S : Hp} {a : Nat} {v : Int32} (h : kd S a = 2) : cO κ (sI S 10 a v) a = some (.inr (1, ([.int (gI S 10 a), va_rf (gR S 11 a)] : List Value).set 0 (.int v))) := (kc_2 (S := sI S 10 a v) h).trans (by simp [h_gI_sI, h_gR_sR, h_gI_sR, h_gR_sI])
theorem cs_11 {κ : Nat → ClassId} {S : Hp} {a : Nat} {v : Option Nat} (h : kd S a = 2) : cO κ (sR S 11 a v) a = some (.inr (1, ([.int (gI S 10 a), va_rf (gR S 11 a)] : List Value).set 1 (va_rf v))) := (kc_2 (S := sR S 11 a v) h).trans (by simp [h_gI_sI, h_gR_sR, h_gI_sR, h_gR_sI])
theorem cs_20 {κ : Nat → ClassId} {S : Hp} {a : Nat} {v : Int32} (h : kd S a = 3) : cO κ (sI S 20 a v) a = some (.inr (2, ([.int (gI S 20 a), .int (gI S 21 a)] : List Value).set 0 (.int v))) := (kc_3 (S := sI S 20 a v) h).trans (by simp [h_gI_sI, h_gR_sR, h_gI_sR, h_gR_sI])
theorem cs_21 {κ : Nat → ClassId} {S : Hp} {a : Nat} {v : Int32} (h : kd S a = 3) : cO κ (sI S 21 a v) a = some (.inr (2, ([.int (gI S 20 a), .int (gI S 21 a)] : List Value).set 1 (.int v))) := (kc_3 (S := sI S 21 a v) h).trans (by simp [h_gI_sI, h_gR_sR, h_gI_sR, h_gR_sI])
theorem cs_30 {κ : Nat → ClassId} {S : Hp} {a : Nat} {v : Option Nat} (h : kd S a = 4) : cO κ (sR S 30 a v) a = some (.inr (3, ([va_rf (gR S 30 a), .int (gI S 31 a), .int (gI S 32 a)] : List Value).set 0 (va_rf v))) := (kc_4 (S := sR S 30 a v) h).trans (by simp [h_gI_sI, h_gR_sR, h_gI_sR, h_gR_sI])
theorem cs_31 {κ : Nat → ClassId} {S : Hp} {a : Nat} {v : Int32} (h : kd S a = 4) : cO κ (sI S 31 a v) a = some (.inr (3, ([va_rf (gR S 30 a), .int (gI S 31 a), .int (gI S 32 a)] : List Value).set 1 (.int v))) := (kc_4 (S := sI S 31 a v) h).trans (by simp [h_gI_sI, h_gR_sR, h_gI_sR, h_gR_sI])
theorem cs_32 {κ : Nat → ClassId} {S : Hp} {a : Nat} {v : Int32} (h : kd S a = 4) : cO κ (sI S 32 a v) a = some (.inr (3, ([va_rf (gR S 30 a), .int (gI S 31 a), .int (gI S 32 a)] : List Value).set 2 (.int v))) := (kc_4 (S := sI S 32 a v) h).trans (by simp [h_gI_sI, h_gR_sR, h_gI_sR, h_gR_sI])
theorem cs_40 {κ : Nat → ClassId} {S : Hp} {a : Nat} {v : Option Nat} (h : kd S a = 5) : cO κ (sR S 40 a v) a = some (.inr (4, ([va_rf (gR S 40 a), va_rf (gR S 41 a), .int (gI S 42 a)] : List Value).set 0 (va_rf v))) := (kc_5 (S := sR S 40 a v) h).trans (by simp [h_gI_sI, h_gR_sR, h_gI_sR, h_gR_sI])
theorem cs_41 {κ : Nat → ClassId} {S : Hp} {a : Nat} {v : Option Nat} (h : kd S a = 5) : cO κ (sR S 41 a v) a = some (.inr (4, ([va_rf (gR S 40 a), va_rf (gR S 41 a), .int (gI S 42 a)] : List Value).set 1 (va_rf v))) := (kc_5 (S := sR S 41 a v) h).trans (by simp [h_gI_sI, h_gR_sR, h_gI_sR, h_gR_sI])
theorem cs_42 {κ : Nat → ClassId} {S : Hp} {a : Nat} {v : Int32} (h : kd S a = 5) : cO κ (sI S 42 a v) a = some (.inr (4, ([va_rf (gR S 40 a), va_rf (gR S 41 a), .int (gI S 42 a)] : List Value).set 2 (.int v))) := (kc_5 (S := sI S 42 a v) h).trans (by simp [h_gI_sI, h_gR_sR, h_gI_sR, h_gR_sI])
theorem cs_50 {κ : Nat → ClassId} {S : Hp} {a : Nat} {v : Option Nat} (h : kd S a = 6) : cO κ (sR S 50 a v) a = some (.inr (5, ([va_rf (gR S 50 a), va_rf (gR S 51 a), va_rf (gR S 52 a), .int (gI S 53 a), va_rf (gR S 54 a), va_rf (gR S 55 a), va_rf (gR S 56 a), va_rf (gR S 57 a), va_rf (gR S 58 a), va_rf (gR S 59 a), va_rf (gR S 60 a), va_rf (gR S 61 a), va_rf (gR S 62 a)] : List Value).set 0 (va_rf v))) := (kc_6 (S := sR S 50 a v) h).trans (by simp [h_gI_sI, h_gR_sR, h_gI_sR, h_gR_sI])
theorem cs_51 {κ : Nat → ClassId} {S : Hp} {a : Nat} {v : Option Nat} (h : kd S a = 6) : cO κ (sR S 51 a v) a = some (.inr (5, ([va_rf (gR S 50 a), va_rf (gR S 51 a), va_rf (gR S 52 a), .int (gI S 53 a), va_rf (gR S 54 a), va_rf (gR S 55 a), va_rf (gR S 56 a), va_rf (gR S 57 a), va_rf (gR S 58 a), va_rf (gR S 59 a), va_rf (gR S 60 a), va_rf (gR S 61 a), va_rf (gR S 62 a)] : List Value).set 1 (va_rf v))) := (kc_6 (S := sR S 51 a v) h).trans (by simp [h_gI_sI, h_gR_sR, h_gI_sR, h_gR_sI])
theorem cs_52 {κ : Nat → ClassId} {S : Hp} {a : Nat} {v : Option Nat} (h : kd S a = 6) : cO κ (sR S 52 a v) a = some (.inr (5, ([va_rf (gR S 50 a), va_rf (gR S 51 a), va_rf (gR S 52 a), .int (gI S 53 a), va_rf (gR S 54 a), va_rf (gR S 55 a), va_rf (gR S 56 a), va_rf (gR S 57 a), va_rf (gR S 58 a), va_rf (gR S 59 a), va_rf (gR S 60 a), va_rf (gR S 61 a), va_rf (gR S 62 a)] : List Value).set 2 (va_rf v))) := (kc_6 (S := sR S 52 a v) h).trans (by simp [h_gI_sI, h_gR_sR, h_gI_sR, h_gR_sI])
theorem cs_53 {κ : Nat → ClassId} {S : Hp} {a : Nat} {v : Int32} (h : kd S a = 6) : cO κ (sI S 53 a v) a = some (.inr (5, ([va_rf (gR S 50 a), va_rf (gR S 51 a), va_rf (gR S 52 a), .int (gI S 53 a), va_rf (gR S 54 a), va_rf (gR S 55 a), va_rf (gR S 56 a), va_rf (gR S 57 a), va_rf (gR S 58 a), va_rf (gR S 59 a), va_rf (gR S 60 a), va_rf (gR S 61 a), va_rf (gR S 62 a)] : List Value).set 3 (.int v))) := (kc_6 (S := sI S 53 a v) h).trans (by simp [h_gI_sI, h_gR_sR, h_gI_sR, h_gR_sI])
theorem cs_54 {κ : Nat → ClassId} {S : Hp} {a : Nat} {v : Option Nat} (h : kd S a = 6) : cO κ (sR S 54 a v) a = some (.inr (5, ([va_rf (gR S 50 a), va_rf (gR S 51 a), va_rf (gR S 52 a), .int (gI S 53 a), va_rf (gR S 54 a), va_rf (gR S 55 a), va_rf (gR S 56 a), va_rf (gR S 57 a), va_rf (gR S 58 a), va_rf (gR S 59 a), va_rf (gR S 60 a), va_rf (gR S 61 a), va_rf (gR S 62 a)] : List Value).set 4 (va_rf v))) := (kc_6 (S := sR S 54 a v) h).trans (by simp [h_gI_sI, h_gR_sR, h_gI_sR, h_gR_sI])
theorem cs_55 {κ : Nat → ClassId} {S : Hp} {a : Nat} {v : Option Nat} (h : kd S a = 6) : cO κ (sR S 55 a v) a = some (.inr (5, ([va_rf (gR S 50 a), va_rf (gR S 51 a), va_rf (gR S 52 a), .int (gI S 53 a), va_rf (gR S 54 a), va_rf (gR S 55 a), va_rf (gR S 56 a), va_rf (gR S 57 a), va_rf (gR S 58 a), va_rf (gR S 59 a), va_rf (gR S 60 a), va_rf (gR S 61 a), va_rf (gR S 62 a)] : List Value).set 5 (va_rf v))) := (kc_6 (S := sR S 55 a v) h).trans (by simp [h_gI_sI, h_gR_sR, h_gI_sR, h_gR_sI])
theorem cs_56 {κ : Nat → ClassId} {S : Hp} {a : Nat} {v : Option Nat} (h : kd S a = 6) : cO κ (sR S 56 a v) a = some (.inr (5, ([va_rf (gR S 50 a), va_rf (gR S 51 a), va_rf (gR S 52 a), .int (gI S 53 a), va_rf (gR S 54 a), va_rf (gR S 55 a), va_rf (gR S 56 a), va_rf (gR S 57 a), va_rf (gR S 58 a), va_rf (gR S 59 a), va_rf (gR S 60 a), va_rf (gR S 61 a), va_rf (gR S 62 a)] : List Value).set 6 (va_rf v))) := (kc_6 (S := sR S 56 a v) h).trans (by simp [h_gI_sI, h_gR_sR, h_gI_sR, h_gR_sI])
theorem cs_57 {κ : Nat → ClassId} {S : Hp} {a : Nat} {v : Option Nat} (h : kd S a = 6) : cO κ (sR S 57 a v) a = some (.inr (5, ([va_rf (gR S 50 a), va_rf (gR S 51 a), va_rf (gR S 52 a), .int (gI S 53 a), va_rf (gR S 54 a), va_rf (gR S 55 a), va_rf (gR S 56 a), va_rf (gR S 57 a), va_rf (gR S 58 a), va_rf (gR S 59 a), va_rf (gR S 60 a), va_rf (gR S 61 a), va_rf (gR S 62 a)] : List Value).set 7 (va_rf v))) := (kc_6 (S := sR S 57 a v) h).trans (by simp [h_gI_sI, h_gR_sR, h_gI_sR, h_gR_sI])
theorem cs_58 {κ : Nat → ClassId} {S : Hp} {a : Nat} {v : Option Nat} (h : kd S a = 6) : cO κ (sR S 58 a v) a = some (.inr (5, ([va_rf (gR S 50 a), va_rf (gR S 51 a), va_rf (gR S 52 a), .int (gI S 53 a), va_rf (gR S 54 a), va_rf (gR S 55 a), va_rf (gR S 56 a), va_rf (gR S 57 a), va_rf (gR S 58 a), va_rf (gR S 59 a), va_rf (gR S 60 a), va_rf (gR S 61 a), va_rf (gR S 62 a)] : List Value).set 8 (va_rf v))) := (kc_6 (S := sR S 58 a v) h).trans (by simp [h_gI_sI, h_gR_sR, h_gI_sR, h_gR_sI])
theorem cs_59 {κ : Nat → ClassId} {S : Hp} {a : Nat} {v : Option Nat} (h : kd S a = 6) : cO κ (sR S 59 a v) a = some (.inr (5, ([va_rf (gR S 50 a), va_rf (gR S 51 a), va_rf (gR S 52 a), .int (gI S 53 a), va_rf (gR S 54 a), va_rf (gR S 55 a), va_rf (gR S 56 a), va_rf (gR S 57 a), va_rf (gR S 58 a), va_rf (gR S 59 a), va_rf (gR S 60 a), va_rf (gR S 61 a), va_rf (gR S 62 a)] : List Value).set 9 (va_rf v))) := (kc_6 (S := sR S 59 a v) h).trans (by simp [h_gI_sI, h_gR_sR, h_gI_sR, h_gR_sI])
theorem cs_60 {κ : Nat → ClassId} {S : Hp} {a : Nat} {v : Option Nat} (h : kd S a = 6) : cO κ (sR S 60 a v) a = some (.inr (5, ([va_rf (gR S 50 a), va_rf (gR S 51 a), va_rf (gR S 52 a), .int (gI S 53 a), va_rf (gR S 54 a), va_rf (gR S 55 a), va_rf (gR S 56 a), va_rf (gR S 57 a), va_rf (gR S 58 a), va_rf (gR S 59 a), va_rf (gR S 60 a), va_rf (gR S 61 a), va_rf (gR S 62 a)] : List Value).set 10 (va_rf v))) := (kc_6 (S := sR S 60 a v) h).trans (by simp [h_gI_sI, h_gR_sR, h_gI_sR, h_gR_sI])
theorem cs_61 {κ : Nat → ClassId} {S : Hp} {a : Nat} {v : Option Nat} (h : kd S a = 6) : cO κ (sR S 61 a v) a = some (.inr (5, ([va_rf (gR S 50 a), va_rf (gR S 51 a), va_rf (gR S 52 a), .int (gI S 53 a), va_rf (gR S 54 a), va_rf (gR S 55 a), va_rf (gR S 56 a), va_rf (gR S 57 a), va_rf (gR S 58 a), va_rf (gR S 59 a), va_rf (gR S 60 a), va_rf (gR S 61 a), va_rf (gR S 62 a)] : List Value).set 11 (va_rf v))) := (kc_6 (S := sR S 61 a v) h).trans (by simp [h_gI_sI, h_gR_sR, h_gI_sR, h_gR_sI])
theorem cs_62 {κ : Nat → ClassId} {S : Hp} {a : Nat} {v : Option Nat} (h : kd S a = 6) : cO κ (sR S 62 a v) a = some (.inr (5, ([va_rf (gR S 50 a), va_rf (gR S 51 a), va_rf (gR S 52 a), .int (gI S 53 a), va_rf (gR S 54 a), va_rf (gR S 55 a), va_rf (gR S 56 a), va_rf (gR S 57 a), va_rf (gR S 58 a), va_rf (gR S 59 a), va_rf (gR S 60 a), va_rf (gR S 61 a), va_rf (gR S 62 a)] : List Value).set 12 (va_rf v))) := (kc_6 (S := sR S 62 a v) h).trans (by simp [h_gI_sI, h_gR_sR, h_gI_sR, h_gR_sI])
theorem cs_70 {κ : Nat → ClassId} {S : Hp} {a : Nat} {v : Int32} (h : kd S a = 7) : cO κ (sI S 70 a v) a = some (.inr (6, ([.int (gI S 70 a), va_rf (gR S 71 a), va_rf (gR S 72 a), .int (gI S 73 a), .int (gI S 74 a), va_rf (gR S 75 a), va_rf (gR S 76 a), .int (gI S 77 a), .int (gI S 78 a), .int (gI S 79 a), .int (gI S 80 a), .int (gI S 81 a), .int (gI S 82 a), va_rf (gR S 83 a), .int (gI S 84 a), .int (gI S 85 a), va_rf (gR S 86 a), va_rf (gR S 87 a), .int (gI S 88 a), .int (gI S 89 a), .int (gI S 90 a), .int (gI S 91 a), .int (gI S 92 a), .int (gI S 93 a), va_rf (gR S 94 a), va_rf (gR S 95 a), va_rf (gR S 96 a), va_rf (gR S 97 a), va_rf (gR S 98 a), va_rf (gR S 99 a), va_rf (gR S 100 a), .int (gI S 101 a)] : List Value).set 0 (.int v))) := (kc_7 (S := sI S 70 a v) h).trans (by simp [h_gI_sI, h_gR_sR, h_gI_sR, h_gR_sI])
theorem cs_71 {κ : Nat → ClassId} {S : Hp} {a : Nat} {v : Option Nat} (h : kd S a = 7) : cO κ (sR S 71 a v) a = some (.inr (6, ([.int (gI S 70 a), va_rf (gR S 71 a), va_rf (gR S 72 a), .int (gI S 73 a), .int (gI S 74 a), va_rf (gR S 75 a), va_rf (gR S 76 a), .int (gI S 77 a), .int (gI S 78 a), .int (gI S 79 a), .int (gI S 80 a), .int (gI S 81 a), .int (gI S 82 a), va_rf (gR S 83 a), .int (gI S 84 a), .int (gI S 85 a), va_rf (gR S 86 a), va_rf (gR S 87 a), .int (gI S 88 a), .int (gI S 89 a), .int (gI S 90 a), .int (gI S 91 a), .int (gI S 92 a), .int (gI S 93 a), va_rf (gR S 94 a), va_rf (gR S 95 a), va_rf (gR S 96 a), va_rf (gR S 97 a), va_rf (gR S 98 a), va_rf (gR S 99 a), va_rf (gR S 100 a), .int (gI S 101 a)] : List Value).set 1 (va_rf v))) := (kc_7 (S := sR S 71 a v) h).trans (by simp [h_gI_sI, h_gR_sR, h_gI_sR, h_gR_sI])
theorem cs_72 {κ : Nat → ClassId} {S : Hp} {a : Nat} {v : Option Nat} (h : kd S a = 7) : cO κ (sR S 72 a v) a = some (.inr (6, ([.int (gI S 70 a), va_rf (gR S 71 a), va_rf (gR S 72 a), .int (gI S 73 a), .int (gI S 74 a), va_rf (gR S 75 a), va_rf (gR S 76 a), .int (gI S 77 a), .int (gI S 78 a), .int (gI S 79 a), .int (gI S 80 a), .int (gI S 81 a), .int (gI S 82 a), va_rf (gR S 83 a), .int (gI S 84 a), .int (gI S 85 a), va_rf (gR S 86 a), va_rf (gR S 87 a), .int (gI S 88 a), .int (gI S 89 a), .int (gI S 90 a), .int (gI S 91 a), .int (gI S 92 a), .int (gI S 93 a), va_rf (gR S 94 a), va_rf (gR S 95 a), va_rf (gR S 96 a), va_rf (gR S 97 a), va_rf (gR S 98 a), va_rf (gR S 99 a), va_rf (gR S 100 a), .int (gI S 101 a)] : List Value).set 2 (va_rf v))) := (kc_7 (S := sR S 72 a v) h).trans (by simp [h_gI_sI, h_gR_sR, h_gI_sR, h_gR_sI])
theorem cs_73 {κ : Nat → ClassId} {S : Hp} {a : Nat} {v : Int32} (h : kd S a = 7) : cO κ (sI S 73 a v) a = some (.inr (6, ([.int (gI S 70 a), va_rf (gR S 71 a), va_rf (gR S 72 a), .int (gI S 73 a), .int (gI S 74 a), va_rf (gR S 75 a), va_rf (gR S 76 a), .int (gI S 77 a), .int (gI S 78 a), .int (gI S 79 a), .int (gI S 80 a), .int (gI S 81 a), .int (gI S 82 a), va_rf (gR S 83 a), .int (gI S 84 a), .int (gI S 85 a), va_rf (gR S 86 a), va_rf (gR S 87 a), .int (gI S 88 a), .int (gI S 89 a), .int (gI S 90 a), .int (gI S 91 a), .int (gI S 92 a), .int (gI S 93 a), va_rf (gR S 94 a), va_rf (gR S 95 a), va_rf (gR S 96 a), va_rf (gR S 97 a), va_rf (gR S 98 a), va_rf (gR S 99 a), va_rf (gR S 100 a), .int (gI S 101 a)] : List Value).set 3 (.int v))) := (kc_7 (S := sI S 73 a v) h).trans (by simp [h_gI_sI, h_gR_sR, h_gI_sR, h_gR_sI])
theorem cs_74 {κ : Nat → ClassId} {S : Hp} {a : Nat} {v : Int32} (h : kd S a = 7) : cO κ (sI S 74 a v) a = some (.inr (6, ([.int (gI S 70 a), va_rf (gR S 71 a), va_rf (gR S 72 a), .int (gI S 73 a), .int (gI S 74 a), va_rf (gR S 75 a), va_rf (gR S 76 a), .int (gI S 77 a), .int (gI S 78 a), .int (gI S 79 a), .int (gI S 80 a), .int (gI S 81 a), .int (gI S 82 a), va_rf (gR S 83 a), .int (gI S 84 a), .int (gI S 85 a), va_rf (gR S 86 a), va_rf (gR S 87 a), .int (gI S 88 a), .int (gI S 89 a), .int (gI S 90 a), .int (gI S 91 a), .int (gI S 92 a), .int (gI S 93 a), va_rf (gR S 94 a), va_rf (gR S 95 a), va_rf (gR S 96 a), va_rf (gR S 97 a), va_rf (gR S 98 a), va_rf (gR S 99 a), va_rf (gR S 100 a), .int (gI S 101 a)] : List Value).set 4 (.int v))) := (kc_7 (S := sI S 74 a v) h).trans (by simp [h_gI_sI, h_gR_sR, h_gI_sR, h_gR_sI])
theorem cs_75 {κ : Nat → ClassId} {S : Hp} {a : Nat} {v : Option Nat} (h : kd S a = 7) : cO κ (sR S 75 a v) a = some (.inr (6, ([.int (gI S 70 a), va_rf (gR S 71 a), va_rf (gR S 72 a), .int (gI S 73 a), .int (gI S 74 a), va_rf (gR S 75 a), va_rf (gR S 76 a), .int (gI S 77 a), .int (gI S 78 a), .int (gI S 79 a), .int (gI S 80 a), .int (gI S 81 a), .int (gI S 82 a), va_rf (gR S 83 a), .int (gI S 84 a), .int (gI S 85 a), va_rf (gR S 86 a), va_rf (gR S 87 a), .int (gI S 88 a), .int (gI S 89 a), .int (gI S 90 a), .int (gI S 91 a), .int (gI S 92 a), .int (gI S 93 a), va_rf (gR S 94 a), va_rf (gR S 95 a), va_rf (gR S 96 a), va_rf (gR S 97 a), va_rf (gR S 98 a), va_rf (gR S 99 a), va_rf (gR S 100 a), .int (gI S 101 a)] : List Value).set 5 (va_rf v))) := (kc_7 (S := sR S 75 a v) h).trans (by simp [h_gI_sI, h_gR_sR, h_gI_sR, h_gR_sI])
theorem cs_76 {κ : Nat → ClassId} {S : Hp} {a : Nat} {v : Option Nat} (h : kd S a = 7) : cO κ (sR S 76 a v) a = some (.inr (6, ([.int (gI S 70 a), va_rf (gR S 71 a), va_rf (gR S 72 a), .int (gI S 73 a), .int (gI S 74 a), va_rf (gR S 75 a), va_rf (gR S 76 a), .int (gI S 77 a), .int (gI S 78 a), .int (gI S 79 a), .int (gI S 80 a), .int (gI S 81 a), .int (gI S 82 a), va_rf (gR S 83 a), .int (gI S 84 a), .int (gI S 85 a), va_rf (gR S 86 a), va_rf (gR S 87 a), .int (gI S 88 a), .int (gI S 89 a), .int (gI S 90 a), .int (gI S 91 a), .int (gI S 92 a), .int (gI S 93 a), va_rf (gR S 94 a), va_rf (gR S 95 a), va_rf (gR S 96 a), va_rf (gR S 97 a), va_rf (gR S 98 a), va_rf (gR S 99 a), va_rf (gR S 100 a), .int (gI S 101 a)] : List Value).set 6 (va_rf v))) := (kc_7 (S := sR S 76 a v) h).trans (by simp [h_gI_sI, h_gR_sR, h_gI_sR, h_gR_sI])
theorem cs_77 {κ : Nat → ClassId} {S : Hp} {a : Nat} {v : Int32} (h : kd S a = 7) : cO κ (sI S 77 a v) a = some (.inr (6, ([.int (gI S 70 a), va_rf (gR S 71 a), va_rf (gR S 72 a), .int (gI S 73 a), .int (gI S 74 a), va_rf (gR S 75 a), va_rf (gR S 76 a), .int (gI S 77 a), .int (gI S 78 a), .int (gI S 79 a), .int (gI S 80 a), .int (gI S 81 a), .int (gI S 82 a), va_rf (gR S 83 a), .int (gI S 84 a), .int (gI S 85 a), va_rf (gR S 86 a), va_rf (gR S 87 a), .int (gI S 88 a), .int (gI S 89 a), .int (gI S 90 a), .int (gI S 91 a), .int (gI S 92 a), .int (gI S 93 a), va_rf (gR S 94 a), va_rf (gR S 95 a), va_rf (gR S 96 a), va_rf (gR S 97 a), va_rf (gR S 98 a), va_rf (gR S 99 a), va_rf (gR S 100 a), .int (gI S 101 a)] : List Value).set 7 (.int v))) := (kc_7 (S := sI S 77 a v) h).trans (by simp [h_gI_sI, h_gR_sR, h_gI_sR, h_gR_sI])
theorem cs_78 {κ : Nat → ClassId} {S : Hp} {a : Nat} {v : Int32} (h : kd S a = 7) : cO κ (sI S 78 a v) a = some (.inr (6, ([.int (gI S 70 a), va_rf (gR S 71 a), va_rf (gR S 72 a), .int (gI S 73 a), .int (gI S 74 a), va_rf (gR S 75 a), va_rf (gR S 76 a), .int (gI S 77 a), .int (gI S 78 a), .int (gI S 79 a), .int (gI S 80 a), .int (gI S 81 a), .int (gI S 82 a), va_rf (gR S 83 a), .int (gI S 84 a), .int (gI S 85 a), va_rf (gR S 86 a), va_rf (gR S 87 a), .int (gI S 88 a), .int (gI S 89 a), .int (gI S 90 a), .int (gI S 91 a), .int (gI S 92 a), .int (gI S 93 a), va_rf (gR S 94 a), va_rf (gR S 95 a), va_rf (gR S 96 a), va_rf (gR S 97 a), va_rf (gR S 98 a), va_rf (gR S 99 a), va_rf (gR S 100 a), .int (gI S 101 a)] : List Value).set 8 (.int v))) := (kc_7 (S := sI S 78 a v) h).trans (by simp [h_gI_sI, h_gR_sR, h_gI_sR, h_gR_sI])
theorem cs_79 {κ : Nat → ClassId} {S : Hp} {a : Nat} {v : Int32} (h : kd S a = 7) : cO κ (sI S 79 a v) a = some (.inr (6, ([.int (gI S 70 a), va_rf (gR S 71 a), va_rf (gR S 72 a), .int (gI S 73 a), .int (gI S 74 a), va_rf (gR S 75 a), va_rf (gR S 76 a), .int (gI S 77 a), .int (gI S 78 a), .int (gI S 79 a), .int (gI S 80 a), .int (gI S 81 a), .int (gI S 82 a), va_rf (gR S 83 a), .int (gI S 84 a), .int (gI S 85 a), va_rf (gR S 86 a), va_rf (gR S 87 a), .int (gI S 88 a), .int (gI S 89 a), .int (gI S 90 a), .int (gI S 91 a), .int (gI S 92 a), .int (gI S 93 a), va_rf (gR S 94 a), va_rf (gR S 95 a), va_rf (gR S 96 a), va_rf (gR S 97 a), va_rf (gR S 98 a), va_rf (gR S 99 a), va_rf (gR S 100 a), .int (gI S 101 a)] : List Value).set 9 (.int v))) := (kc_7 (S := sI S 79 a v) h).trans (by simp [h_gI_sI, h_gR_sR, h_gI_sR, h_gR_sI])
theorem cs_80 {κ : Nat → ClassId} {S : Hp} {a : Nat} {v : Int32} (h : kd S a = 7) : cO κ (sI S 80 a v) a = some (.inr (6, ([.int (gI S 70 a), va_rf (gR S 71 a), va_rf (gR S 72 a), .int (gI S 73 a), .int (gI S 74 a), va_rf (gR S 75 a), va_rf (gR S 76 a), .int (gI S 77 a), .int (gI S 78 a), .int (gI S 79 a), .int (gI S 80 a), .int (gI S 81 a), .int (gI S 82 a), va_rf (gR S 83 a), .int (gI S 84 a), .int (gI S 85 a), va_rf (gR S 86 a), va_rf (gR S 87 a), .int (gI S 88 a), .int (gI S 89 a), .int (gI S 90 a), .int (gI S 91 a), .int (gI S 92 a), .int (gI S 93 a), va_rf (gR S 94 a), va_rf (gR S 95 a), va_rf (gR S 96 a), va_rf (gR S 97 a), va_rf (gR S 98 a), va_rf (gR S 99 a), va_rf (gR S 100 a), .int (gI S 101 a)] : List Value).set 10 (.int v))) := (kc_7 (S := sI S 80 a v) h).trans (by simp [h_gI_sI, h_gR_sR, h_gI_sR, h_gR_sI])
theorem cs_81 {κ : Nat → ClassId} {S : Hp} {a : Nat} {v : Int32} (h : kd S a = 7) : cO κ (sI S 81 a v) a = some (.inr (6, ([.int (gI S 70 a), va_rf (gR S 71 a), va_rf (gR S 72 a), .int (gI S 73 a), .int (gI S 74 a), va_rf (gR S 75 a), va_rf (gR S 76 a), .int (gI S 77 a), .int (gI S 78 a), .int (gI S 79 a), .int (gI S 80 a), .int (gI S 81 a), .int (gI S 82 a), va_rf (gR S 83 a), .int (gI S 84 a), .int (gI S 85 a), va_rf (gR S 86 a), va_rf (gR S 87 a), .int (gI S 88 a), .int (gI S 89 a), .int (gI S 90 a), .int (gI S 91 a), .int (gI S 92 a), .int (gI S 93 a), va_rf (gR S 94 a), va_rf (gR S 95 a), va_rf (gR S 96 a), va_rf (gR S 97 a), va_rf (gR S 98 a), va_rf (gR S 99 a), va_rf (gR S 100 a), .int (gI S 101 a)] : List Value).set 11 (.int v))) := (kc_7 (S := sI S 81 a v) h).trans (by simp [h_gI_sI, h_gR_sR, h_gI_sR, h_gR_sI])
theorem cs_82 {κ : Nat → ClassId} {S : Hp} {a : Nat} {v : Int32} (h : kd S a = 7) : cO κ (sI S 82 a v) a = some (.inr (6, ([.int (gI S 70 a), va_rf (gR S 71 a), va_rf (gR S 72 a), .int (gI S 73 a), .int (gI S 74 a), va_rf (gR S 75 a), va_rf (gR S 76 a), .int (gI S 77 a), .int (gI S 78 a), .int (gI S 79 a), .int (gI S 80 a), .int (gI S 81 a), .int (gI S 82 a), va_rf (gR S 83 a), .int (gI S 84 a), .int (gI S 85 a), va_rf (gR S 86 a), va_rf (gR S 87 a), .int (gI S 88 a), .int (gI S 89 a), .int (gI S 90 a), .int (gI S 91 a), .int (gI S 92 a), .int (gI S 93 a), va_rf (gR S 94 a), va_rf (gR S 95 a), va_rf (gR S 96 a), va_rf (gR S 97 a), va_rf (gR S 98 a), va_rf (gR S 99 a), va_rf (gR S 100 a), .int (gI S 101 a)] : List Value).set 12 (.int v))) := (kc_7 (S := sI S 82 a v) h).trans (by simp [h_gI_sI, h_gR_sR, h_gI_sR, h_gR_sI])
theorem cs_83 {κ : Nat → ClassId} {S : Hp} {a : Nat} {v : Option Nat} (h : kd S a = 7) : cO κ (sR S 83 a v) a = some (.inr (6, ([.int (gI S 70 a), va_rf (gR S 71 a), va_rf (gR S 72 a), .int (gI S 73 a), .int (gI S 74 a), va_rf (gR S 75 a), va_rf (gR S 76 a), .int (gI S 77 a), .int (gI S 78 a), .int (gI S 79 a), .int (gI S 80 a), .int (gI S 81 a), .int (gI S 82 a), va_rf (gR S 83 a), .int (gI S 84 a), .int (gI S 85 a), va_rf (gR S 86 a), va_rf (gR S 87 a), .int (gI S 88 a), .int (gI S 89 a), .int (gI S 90 a), .int (gI S 91 a), .int (gI S 92 a), .int (gI S 93 a), va_rf (gR S 94 a), va_rf (gR S 95 a), va_rf (gR S 96 a), va_rf (gR S 97 a), va_rf (gR S 98 a), va_rf (gR S 99 a), va_rf (gR S 100 a), .int (gI S 101 a)] : List Value).set 13 (va_rf v))) := (kc_7 (S := sR S 83 a v) h).trans (by simp [h_gI_sI, h_gR_sR, h_gI_sR, h_gR_sI])
theorem cs_84 {κ : Nat → ClassId} {S : Hp} {a : Nat} {v : Int32} (h : kd S a = 7) : cO κ (sI S 84 a v) a = some (.inr (6, ([.int (gI S 70 a), va_rf (gR S 71 a), va_rf (gR S 72 a), .int (gI S 73 a), .int (gI S 74 a), va_rf (gR S 75 a), va_rf (gR S 76 a), .int (gI S 77 a), .int (gI S 78 a), .int (gI S 79 a), .int (gI S 80 a), .int (gI S 81 a), .int (gI S 82 a), va_rf (gR S 83 a), .int (gI S 84 a), .int (gI S 85 a), va_rf (gR S 86 a), va_rf (gR S 87 a), .int (gI S 88 a), .int (gI S 89 a), .int (gI S 90 a), .int (gI S 91 a), .int (gI S 92 a), .int (gI S 93 a), va_rf (gR S 94 a), va_rf (gR S 95 a), va_rf (gR S 96 a), va_rf (gR S 97 a), va_rf (gR S 98 a), va_rf (gR S 99 a), va_rf (gR S 100 a), .int (gI S 101 a)] : List Value).set 14 (.int v))) := (kc_7 (S := sI S 84 a v) h).trans (by simp [h_gI_sI, h_gR_sR, h_gI_sR, h_gR_sI])
theorem cs_85 {κ : Nat → ClassId} {S : Hp} {a : Nat} {v : Int32} (h : kd S a = 7) : cO κ (sI S 85 a v) a = some (.inr (6, ([.int (gI S 70 a), va_rf (gR S 71 a), va_rf (gR S 72 a), .int (gI S 73 a), .int (gI S 74 a), va_rf (gR S 75 a), va_rf (gR S 76 a), .int (gI S 77 a), .int (gI S 78 a), .int (gI S 79 a), .int (gI S 80 a), .int (gI S 81 a), .int (gI S 82 a), va_rf (gR S 83 a), .int (gI S 84 a), .int (gI S 85 a), va_rf (gR S 86 a), va_rf (gR S 87 a), .int (gI S 88 a), .int (gI S 89 a), .int (gI S 90 a), .int (gI S 91 a), .int (gI S 92 a), .int (gI S 93 a), va_rf (gR S 94 a), va_rf (gR S 95 a), va_rf (gR S 96 a), va_rf (gR S 97 a), va_rf (gR S 98 a), va_rf (gR S 99 a), va_rf (gR S 100 a), .int (gI S 101 a)] : List Value).set 15 (.int v))) := (kc_7 (S := sI S 85 a v) h).trans (by simp [h_gI_sI, h_gR_sR, h_gI_sR, h_gR_sI])
theorem cs_86 {κ : Nat → ClassId} {S : Hp} {a : Nat} {v : Option Nat} (h : kd S a = 7) : cO κ (sR S 86 a v) a = some (.inr (6, ([.int (gI S 70 a), va_rf (gR S 71 a), va_rf (gR S 72 a), .int (gI S 73 a), .int (gI S 74 a), va_rf (gR S 75 a), va_rf (gR S 76 a), .int (gI S 77 a), .int (gI S 78 a), .int (gI S 79 a), .int (gI S 80 a), .int (gI S 81 a), .int (gI S 82 a), va_rf (gR S 83 a), .int (gI S 84 a), .int (gI S 85 a), va_rf (gR S 86 a), va_rf (gR S 87 a), .int (gI S 88 a), .int (gI S 89 a), .int (gI S 90 a), .int (gI S 91 a), .int (gI S 92 a), .int (gI S 93 a), va_rf (gR S 94 a), va_rf (gR S 95 a), va_rf (gR S 96 a), va_rf (gR S 97 a), va_rf (gR S 98 a), va_rf (gR S 99 a), va_rf (gR S 100 a), .int (gI S 101 a)] : List Value).set 16 (va_rf v))) := (kc_7 (S := sR S 86 a v) h).trans (by simp [h_gI_sI, h_gR_sR, h_gI_sR, h_gR_sI])
theorem cs_87 {κ : Nat → ClassId} {S : Hp} {a : Nat} {v : Option Nat} (h : kd S a = 7) : cO κ (sR S 87 a v) a = some (.inr (6, ([.int (gI S 70 a), va_rf (gR S 71 a), va_rf (gR S 72 a), .int (gI S 73 a), .int (gI S 74 a), va_rf (gR S 75 a), va_rf (gR S 76 a), .int (gI S 77 a), .int (gI S 78 a), .int (gI S 79 a), .int (gI S 80 a), .int (gI S 81 a), .int (gI S 82 a), va_rf (gR S 83 a), .int (gI S 84 a), .int (gI S 85 a), va_rf (gR S 86 a), va_rf (gR S 87 a), .int (gI S 88 a), .int (gI S 89 a), .int (gI S 90 a), .int (gI S 91 a), .int (gI S 92 a), .int (gI S 93 a), va_rf (gR S 94 a), va_rf (gR S 95 a), va_rf (gR S 96 a), va_rf (gR S 97 a), va_rf (gR S 98 a), va_rf (gR S 99 a), va_rf (gR S 100 a), .int (gI S 101 a)] : List Value).set 17 (va_rf v))) := (kc_7 (S := sR S 87 a v) h).trans (by simp [h_gI_sI, h_gR_sR, h_gI_sR, h_gR_sI])
theorem cs_88 {κ : Nat → ClassId} {S : Hp} {a : Nat} {v : Int32} (h : kd S a = 7) : cO κ (sI S 88 a v) a = some (.inr (6, ([.int (gI S 70 a), va_rf (gR S 71 a), va_rf (gR S 72 a), .int (gI S 73 a), .int (gI S 74 a), va_rf (gR S 75 a), va_rf (gR S 76 a), .int (gI S 77 a), .int (gI S 78 a), .int (gI S 79 a), .int (gI S 80 a), .int (gI S 81 a), .int (gI S 82 a), va_rf (gR S 83 a), .int (gI S 84 a), .int (gI S 85 a), va_rf (gR S 86 a), va_rf (gR S 87 a), .int (gI S 88 a), .int (gI S 89 a), .int (gI S 90 a), .int (gI S 91 a), .int (gI S 92 a), .int (gI S 93 a), va_rf (gR S 94 a), va_rf (gR S 95 a), va_rf (gR S 96 a), va_rf (gR S 97 a), va_rf (gR S 98 a), va_rf (gR S 99 a), va_rf (gR S 100 a), .int (gI S 101 a)] : List Value).set 18 (.int v))) := (kc_7 (S := sI S 88 a v) h).trans (by simp [h_gI_sI, h_gR_sR, h_gI_sR, h_gR_sI])
theorem cs_89 {κ : Nat → ClassId} {S : Hp} {a : Nat} {v : Int32} (h : kd S a = 7) : cO κ (sI S 89 a v) a = some (.inr (6, ([.int (gI S 70 a), va_rf (gR S 71 a), va_rf (gR S 72 a), .int (gI S 73 a), .int (gI S 74 a), va_rf (gR S 75 a), va_rf (gR S 76 a), .int (gI S 77 a), .int (gI S 78 a), .int (gI S 79 a), .int (gI S 80 a), .int (gI S 81 a), .int (gI S 82 a), va_rf (gR S 83 a), .int (gI S 84 a), .int (gI S 85 a), va_rf (gR S 86 a), va_rf (gR S 87 a), .int (gI S 88 a), .int (gI S 89 a), .int (gI S 90 a), .int (gI S 91 a), .int (gI S 92 a), .int (gI S 93 a), va_rf (gR S 94 a), va_rf (gR S 95 a), va_rf (gR S 96 a), va_rf (gR S 97 a), va_rf (gR S 98 a), va_rf (gR S 99 a), va_rf (gR S 100 a), .int (gI S 101 a)] : List Value).set 19 (.int v))) := (kc_7 (S := sI S 89 a v) h).trans (by simp [h_gI_sI, h_gR_sR, h_gI_sR, h_gR_sI])
theorem cs_90 {κ : Nat → ClassId} {S : Hp} {a : Nat} {v : Int32} (h : kd S a = 7) : cO κ (sI S 90 a v) a = some (.inr (6, ([.int (gI S 70 a), va_rf (gR S 71 a), va_rf (gR S 72 a), .int (gI S 73 a), .int (gI S 74 a), va_rf (gR S 75 a), va_rf (gR S 76 a), .int (gI S 77 a), .int (gI S 78 a), .int (gI S 79 a), .int (gI S 80 a), .int (gI S 81 a), .int (gI S 82 a), va_rf (gR S 83 a), .int (gI S 84 a), .int (gI S 85 a), va_rf (gR S 86 a), va_rf (gR S 87 a), .int (gI S 88 a), .int (gI S 89 a), .int (gI S 90 a), .int (gI S 91 a), .int (gI S 92 a), .int (gI S 93 a), va_rf (gR S 94 a), va_rf (gR S 95 a), va_rf (gR S 96 a), va_rf (gR S 97 a), va_rf (gR S 98 a), va_rf (gR S 99 a), va_rf (gR S 100 a), .int (gI S 101 a)] : List Value).set 20 (.int v))) := (kc_7 (S := sI S 90 a v) h).trans (by simp [h_gI_sI, h_gR_sR, h_gI_sR, h_gR_sI])
theorem cs_91 {κ : Nat → ClassId} {S : Hp} {a : Nat} {v : Int32} (h : kd S a = 7) : cO κ (sI S 91 a v) a = some (.inr (6, ([.int (gI S 70 a), va_rf (gR S 71 a), va_rf (gR S 72 a), .int (gI S 73 a), .int (gI S 74 a), va_rf (gR S 75 a), va_rf (gR S 76 a), .int (gI S 77 a), .int (gI S 78 a), .int (gI S 79 a), .int (gI S 80 a), .int (gI S 81 a), .int (gI S 82 a), va_rf (gR S 83 a), .int (gI S 84 a), .int (gI S 85 a), va_rf (gR S 86 a), va_rf (gR S 87 a), .int (gI S 88 a), .int (gI S 89 a), .int (gI S 90 a), .int (gI S 91 a), .int (gI S 92 a), .int (gI S 93 a), va_rf (gR S 94 a), va_rf (gR S 95 a), va_rf (gR S 96 a), va_rf (gR S 97 a), va_rf (gR S 98 a), va_rf (gR S 99 a), va_rf (gR S 100 a), .int (gI S 101 a)] : List Value).set 21 (.int v))) := (kc_7 (S := sI S 91 a v) h).trans (by simp [h_gI_sI, h_gR_sR, h_gI_sR, h_gR_sI])
theorem cs_92 {κ : Nat → ClassId} {S : Hp} {a : Nat} {v : Int32} (h : kd S a = 7) : cO κ (sI S 92 a v) a = some (.inr (6, ([.int (gI S 70 a), va_rf (gR S 71 a), va_rf (gR S 72 a), .int (gI S 73 a), .int (gI S 74 a), va_rf (gR S 75 a), va_rf (gR S 76 a), .int (gI S 77 a), .int (gI S 78 a), .int (gI S 79 a), .int (gI S 80 a), .int (gI S 81 a), .int (gI S 82 a), va_rf (gR S 83 a), .int (gI S 84 a), .int (gI S 85 a), va_rf (gR S 86 a), va_rf (gR S 87 a), .int (gI S 88 a), .int (gI S 89 a), .int (gI S 90 a), .int (gI S 91 a), .int (gI S 92 a), .int (gI S 93 a), va_rf (gR S 94 a), va_rf (gR S 95 a), va_rf (gR S 96 a), va_rf (gR S 97 a), va_rf (gR S 98 a), va_rf (gR S 99 a), va_rf (gR S 100 a), .int (gI S 101 a)] : List Value).set 22 (.int v))) := (kc_7 (S := sI S 92 a v) h).trans (by simp [h_gI_sI, h_gR_sR, h_gI_sR, h_gR_sI])
theorem cs_93 {κ : Nat → ClassId} {S : Hp} {a : Nat} {v : Int32} (h : kd S a = 7) : cO κ (sI S 93 a v) a = some (.inr (6, ([.int (gI S 70 a), va_rf (gR S 71 a), va_rf (gR S 72 a), .int (gI S 73 a), .int (gI S 74 a), va_rf (gR S 75 a), va_rf (gR S 76 a), .int (gI S 77 a), .int (gI S 78 a), .int (gI S 79 a), .int (gI S 80 a), .int (gI S 81 a), .int (gI S 82 a), va_rf (gR S 83 a), .int (gI S 84 a), .int (gI S 85 a), va_rf (gR S 86 a), va_rf (gR S 87 a), .int (gI S 88 a), .int (gI S 89 a), .int (gI S 90 a), .int (gI S 91 a), .int (gI S 92 a), .int (gI S 93 a), va_rf (gR S 94 a), va_rf (gR S 95 a), va_rf (gR S 96 a), va_rf (gR S 97 a), va_rf (gR S 98 a), va_rf (gR S 99 a), va_rf (gR S 100 a), .int (gI S 101 a)] : List Value).set 23 (.int v))) := (kc_7 (S := sI S 93 a v) h).trans (by simp [h_gI_sI, h_gR_sR, h_gI_sR, h_gR_sI])
theorem cs_94 {κ : Nat → ClassId} {S : Hp} {a : Nat} {v : Option Nat} (h : kd S a = 7) : cO κ (sR S 94 a v) a = some (.inr (6, ([.int (gI S 70 a), va_rf (gR S 71 a), va_rf (gR S 72 a), .int (gI S 73 a), .int (gI S 74 a), va_rf (gR S 75 a), va_rf (gR S 76 a), .int (gI S 77 a), .int (gI S 78 a), .int (gI S 79 a), .int (gI S 80 a), .int (gI S 81 a), .int (gI S 82 a), va_rf (gR S 83 a), .int (gI S 84 a), .int (gI S 85 a), va_rf (gR S 86 a), va_rf (gR S 87 a), .int (gI S 88 a), .int (gI S 89 a), .int (gI S 90 a), .int (gI S 91 a), .int (gI S 92 a), .int (gI S 93 a), va_rf (gR S 94 a), va_rf (gR S 95 a), va_rf (gR S 96 a), va_rf (gR S 97 a), va_rf (gR S 98 a), va_rf (gR S 99 a), va_rf (gR S 100 a), .int (gI S 101 a)] : List Value).set 24 (va_rf v))) := (kc_7 (S := sR S 94 a v) h).trans (by simp [h_gI_sI, h_gR_sR, h_gI_sR, h_gR_sI])
theorem cs_95 {κ : Nat → ClassId} {S : Hp} {a : Nat} {v : Option Nat} (h : kd S a = 7) : cO κ (sR S 95 a v) a = some (.inr (6, ([.int (gI S 70 a), va_rf (gR S 71 a), va_rf (gR S 72 a), .int (gI S 73 a), .int (gI S 74 a), va_rf (gR S 75 a), va_rf (gR S 76 a), .int (gI S 77 a), .int (gI S 78 a), .int (gI S 79 a), .int (gI S 80 a), .int (gI S 81 a), .int (gI S 82 a), va_rf (gR S 83 a), .int (gI S 84 a), .int (gI S 85 a), va_rf (gR S 86 a), va_rf (gR S 87 a), .int (gI S 88 a), .int (gI S 89 a), .int (gI S 90 a), .int (gI S 91 a), .int (gI S 92 a), .int (gI S 93 a), va_rf (gR S 94 a), va_rf (gR S 95 a), va_rf (gR S 96 a), va_rf (gR S 97 a), va_rf (gR S 98 a), va_rf (gR S 99 a), va_rf (gR S 100 a), .int (gI S 101 a)] : List Value).set 25 (va_rf v))) := (kc_7 (S := sR S 95 a v) h).trans (by simp [h_gI_sI, h_gR_sR, h_gI_sR, h_gR_sI])
theorem cs_96 {κ : Nat → ClassId} {S : Hp} {a : Nat} {v : Option Nat} (h : kd S a = 7) : cO κ (sR S 96 a v) a = some (.inr (6, ([.int (gI S 70 a), va_rf (gR S 71 a), va_rf (gR S 72 a), .int (gI S 73 a), .int (gI S 74 a), va_rf (gR S 75 a), va_rf (gR S 76 a), .int (gI S 77 a), .int (gI S 78 a), .int (gI S 79 a), .int (gI S 80 a), .int (gI S 81 a), .int (gI S 82 a), va_rf (gR S 83 a), .int (gI S 84 a), .int (gI S 85 a), va_rf (gR S 86 a), va_rf (gR S 87 a), .int (gI S 88 a), .int (gI S 89 a), .int (gI S 90 a), .int (gI S 91 a), .int (gI S 92 a), .int (gI S 93 a), va_rf (gR S 94 a), va_rf (gR S 95 a), va_rf (gR S 96 a), va_rf (gR S 97 a), va_rf (gR S 98 a), va_rf (gR S 99 a), va_rf (gR S 100 a), .int (gI S 101 a)] : List Value).set 26 (va_rf v))) := (kc_7 (S := sR S 96 a v) h).trans (by simp [h_gI_sI, h_gR_sR, h_gI_sR, h_gR_sI])
theorem cs_97 {κ : Nat → ClassId} {S : Hp} {a : Nat} {v : Option Nat} (h : kd S a = 7) : cO κ (sR S 97 a v) a = some (.inr (6, ([.int (gI S 70 a), va_rf (gR S 71 a), va_rf (gR S 72 a), .int (gI S 73 a), .int (gI S 74 a), va_rf (gR S 75 a), va_rf (gR S 76 a), .int (gI S 77 a), .int (gI S 78 a), .int (gI S 79 a), .int (gI S 80 a), .int (gI S 81 a), .int (gI S 82 a), va_rf (gR S 83 a), .int (gI S 84 a), .int (gI S 85 a), va_rf (gR S 86 a), va_rf (gR S 87 a), .int (gI S 88 a), .int (gI S 89 a), .int (gI S 90 a), .int (gI S 91 a), .int (gI S 92 a), .int (gI S 93 a), va_rf (gR S 94 a), va_rf (gR S 95 a), va_rf (gR S 96 a), va_rf (gR S 97 a), va_rf (gR S 98 a), va_rf (gR S 99 a), va_rf (gR S 100 a), .int (gI S 101 a)] : List Value).set 27 (va_rf v))) := (kc_7 (S := sR S 97 a v) h).trans (by simp [h_gI_sI, h_gR_sR, h_gI_sR, h_gR_sI])
theorem cs_98 {κ : Nat → ClassId} {S : Hp} {a : Nat} {v : Option Nat} (h : kd S a = 7) : cO κ (sR S 98 a v) a = some (.inr (6, ([.int (gI S 70 a), va_rf (gR S 71 a), va_rf (gR S 72 a), .int (gI S 73 a), .int (gI S 74 a), va_rf (gR S 75 a), va_rf (gR S 76 a), .int (gI S 77 a), .int (gI S 78 a), .int (gI S 79 a), .int (gI S 80 a), .int (gI S 81 a), .int (gI S 82 a), va_rf (gR S 83 a), .int (gI S 84 a), .int (gI S 85 a), va_rf (gR S 86 a), va_rf (gR S 87 a), .int (gI S 88 a), .int (gI S 89 a), .int (gI S 90 a), .int (gI S 91 a), .int (gI S 92 a), .int (gI S 93 a), va_rf (gR S 94 a), va_rf (gR S 95 a), va_rf (gR S 96 a), va_rf (gR S 97 a), va_rf (gR S 98 a), va_rf (gR S 99 a), va_rf (gR S 100 a), .int (gI S 101 a)] : List Value).set 28 (va_rf v))) := (kc_7 (S := sR S 98 a v) h).trans (by simp [h_gI_sI, h_gR_sR, h_gI_sR, h_gR_sI])
theorem cs_99 {κ : Nat → ClassId} {S : Hp} {a : Nat} {v : Option Nat} (h : kd S a = 7) : cO κ (sR S 99 a v) a = some (.inr (6, ([.int (gI S 70 a), va_rf (gR S 71 a), va_rf (gR S 72 a), .int (gI S 73 a), .int (gI S 74 a), va_rf (gR S 75 a), va_rf (gR S 76 a), .int (gI S 77 a), .int (gI S 78 a), .int (gI S 79 a), .int (gI S 80 a), .int (gI S 81 a), .int (gI S 82 a), va_rf (gR S 83 a), .int (gI S 84 a), .int (gI S 85 a), va_rf (gR S 86 a), va_rf (gR S 87 a), .int (gI S 88 a), .int (gI S 89 a), .int (gI S 90 a), .int (gI S 91 a), .int (gI S 92 a), .int (gI S 93 a), va_rf (gR S 94 a), va_rf (gR S 95 a), va_rf (gR S 96 a), va_rf (gR S 97 a), va_rf (gR S 98 a), va_rf (gR S 99 a), va_rf (gR S 100 a), .int (gI S 101 a)] : List Value).set 29 (va_rf v))) := (kc_7 (S := sR S 99 a v) h).trans (by simp [h_gI_sI, h_gR_sR, h_gI_sR, h_gR_sI])
theorem cs_100 {κ : Nat → ClassId} {S : Hp} {a : Nat} {v : Option Nat} (h : kd S a = 7) : cO κ (sR S 100 a v) a = some (.inr (6, ([.int (gI S 70 a), va_rf (gR S 71 a), va_rf (gR S 72 a), .int (gI S 73 a), .int (gI S 74 a), va_rf (gR S 75 a), va_rf (gR S 76 a), .int (gI S 77 a), .int (gI S 78 a), .int (gI S 79 a), .int (gI S 80 a), .int (gI S 81 a), .int (gI S 82 a), va_rf (gR S 83 a), .int (gI S 84 a), .int (gI S 85 a), va_rf (gR S 86 a), va_rf (gR S 87 a), .int (gI S 88 a), .int (gI S 89 a), .int (gI S 90 a), .int (gI S 91 a), .int (gI S 92 a), .int (gI S 93 a), va_rf (gR S 94 a), va_rf (gR S 95 a), va_rf (gR S 96 a), va_rf (gR S 97 a), va_rf (gR S 98 a), va_rf (gR S 99 a), va_rf (gR S 100 a), .int (gI S 101 a)] : List Value).set 30 (va_rf v))) := (kc_7 (S := sR S 100 a v) h).trans (by simp [h_gI_sI, h_gR_sR, h_gI_sR, h_gR_sI])
theorem cs_101 {κ : Nat → ClassId} {S : Hp} {a : Nat} {v : Int32} (h : kd S a = 7) : cO κ (sI S 101 a v) a = some (.inr (6, ([.int (gI S 70 a), va_rf (gR S 71 a), va_rf (gR S 72 a), .int (gI S 73 a), .int (gI S 74 a), va_rf (gR S 75 a), va_rf (gR S 76 a), .int (gI S 77 a), .int (gI S 78 a), .int (gI S 79 a), .int (gI S 80 a), .int (gI S 81 a), .int (gI S 82 a), va_rf (gR S 83 a), .int (gI S 84 a), .int (gI S 85 a), va_rf (gR S 86 a), va_rf (gR S 87 a), .int (gI S 88 a), .int (gI S 89 a), .int (gI S 90 a), .int (gI S 91 a), .int (gI S 92 a), .int (gI S 93 a), va_rf (gR S 94 a), va_rf (gR S 95 a), va_rf (gR S 96 a), va_rf (gR S 97 a), va_rf (gR S 98 a), va_rf (gR S 99 a), va_rf (gR S 100 a), .int (gI S 101 a)] : List Value).set 31 (.int v))) := (kc_7 (S := sI S 101 a v) h).trans (by simp [h_gI_sI, h_gR_sR, h_gI_sR, h_gR_sI])
section GROWS
variable {p : Program} {l : Launch} {e : Env} {R : Room} {s : State} {m : MethodId} {args : Array Value} {below : List Frame} {meth : Method} {c : Code} {H : Heap} {locs : List Loc} {cells slots : Nat} {Q : State → Prop}
variable {cc : ByteArray} {pc : Nat} {ls : Array Slot} {rest : List Value} {D : va_G} {κ : Nat → ClassId} {A : Nat → Prop} {a : Nat} {S : Hp} {H0 : Heap}
theorem gg_get (hexec : p.tables.exec = Jvm.exec) (hb : c.code = cc) {own ref C : String} {T : u_T} {N ci index : Nat} {Ts : List Cond} (hts : ∀ w ∈ Ts, w.before args s = true) (hin : ∀ w ∈ u_ws C T N, w ∈ Ts) (hown : s.vm.findClass own = some m.cls) (hK : KK D κ s) (hG : GG D κ A S H) {fs : List Value} (he : cO κ S a = some (.inr (ci, fs))) (hc : vwCl[ci]? = some (C, T, N)) (k : Nat) (hk : k < N) (hlink : (Cond.fieldLink own index ref (T k).2.1 (T k).2.2.1).before args s = true) (hsame : ∀ x, s.fieldFound? (T k).1 (T k).2.1 (T k).2.2.1 = some x → s.fieldFound? ref (T k).2.1 (T k).2.2.1 = some x) {v : Value} (hv : fs[k]? = some v) (hdg : decode cc pc = .ok (.getfield index, 3))
    (kk : W p l e R s m args below meth c H locs cells slots Q (F0 m (pc + 3) ls (v :: rest))) : W p l e R s m args below meth c H locs cells slots Q (F0 m pc ls (.ref a :: rest)) := va_get hexec hb hts hin hown hK (hG.P he) 0 rfl hc k hk hlink hsame hv hdg kk
theorem gg_put (hexec : p.tables.exec = Jvm.exec) (hb : c.code = cc) {own ref C : String} {T : u_T} {N ci index : Nat} {Ts : List Cond} (hts : ∀ w ∈ Ts, w.before args s = true) (hin : ∀ w ∈ u_ws C T N, w ∈ Ts) (ty0 : Nat → FieldType) (hty : ∀ k, k < N → parseFieldDescriptor (T k).2.2.1 = some (ty0 k)) (hnm : ∀ a, a < N → ∀ b, b < N → a ≠ b → (T a).2.1 ≠ (T b).2.1) (hown : s.vm.findClass own = some m.cls) (hK : KK D κ s) (hG : GG D κ A S H) (hS0 : va_S A H0 H locs) {fs : List Value} (he : cO κ S a = some (.inr (ci, fs))) (hc : vwCl[ci]? = some (C, T, N)) (k : Nat) (hk : k < N) (hlink : (Cond.fieldLink own index ref (T k).2.1 (T k).2.2.1).before args s = true) (hsame : ∀ x, s.fieldFound? (T k).1 (T k).2.1 (T k).2.2.1 = some x → s.fieldFound? ref (T k).2.1 (T k).2.2.1 = some x) (hfin : (T k).2.2.2 = false) {ty : FieldType} {v : Value} (hd : parseFieldDescriptor (T k).2.2.1 = some ty) (hn : narrow ty v = v) (hfit : fits ty v = true) (hl : k < fs.length)
    (hdg : decode cc pc = .ok (.putfield index, 3)) {S' : Hp} (hb' : ∀ b, b ≠ a → cO κ S' b = cO κ S b) (ha' : cO κ S' a = some (.inr (ci, fs.set k v))) (kk : ∀ (H1 : Heap) (locs1 : List Loc), GG D κ A S' H1 → va_S A H0 H1 locs1 → W p l e R s m args below meth c H1 locs1 cells slots Q (F0 m (pc + 3) ls rest)) : W p l e R s m args below meth c H locs cells slots Q (F0 m pc ls (v :: .ref a :: rest)) := by
  have hap := va_apart (own := own) hts hin ty0 hty hnm hK hc
  obtain ⟨⟨r, h1, cell, q1, q2, q3, q4⟩, hAa⟩ := hG a _ he
  have hr : r = (C, T, N) := Option.some.inj (h1.symm.trans hc)
  subst hr
  obtain ⟨hS, hfc, kC, hkC, hkind⟩ := hK.1 ci _ hc
  obtain ⟨cf, kf, fi, f, hi, hsl⟩ := hS k hk
  have hlay := hts _ (hin _ (u_in_lay hk))
  unfold u_lay at hlay
  rw [if_neg (by rw [hfin]; decide)] at hlay
  have hst := (u_facts hfc hkC (u_lays hts hin hk) hi).1
  have h6 := u_store hfc hkC hkind hlay hi hd hn hfit
  refine W.putK hexec hb (f := f) ⟨hown, hlink, ⟨_, _, _, hsame _ hi⟩, hst⟩ (by rw [q2]; exact h6) q1 q3 (by rw [hsl]; exact k2_hasslot (q4 k hk)) rfl rfl hdg fun H' e1 e2 e3 => ?_
  rw [hsl] at e1 ⊢
  refine kk H' _ (hG.set e3 hb' (fun e he => ?_) hAa) (hS0.put e2 e3 hAa)
  cases ha'.symm.trans he
  exact ⟨_, hc, t_OB.to (V := updV (vp_V fs) k v) ⟨_, e1, q2, q3, t_set q4 hap hk v⟩ (fun j _ => vp_updV_set hl v j)⟩
theorem gg_putF (hexec : p.tables.exec = Jvm.exec) (hb : c.code = cc) {own ref C : String} {T : u_T} {N ci index : Nat} {Ts : List Cond} (hts : ∀ w ∈ Ts, w.before args s = true) (hin : ∀ w ∈ u_ws C T N, w ∈ Ts) (ty0 : Nat → FieldType) (hty : ∀ k, k < N → parseFieldDescriptor (T k).2.2.1 = some (ty0 k)) (hnm : ∀ a, a < N → ∀ b, b < N → a ≠ b → (T a).2.1 ≠ (T b).2.1) (hown : s.vm.findClass own = some m.cls) (hK : KK D κ s) (hG : GG D κ A S H) (hS0 : va_S A H0 H locs) {fs : List Value} (he : cO κ S a = some (.inr (ci, fs))) (hc : vwCl[ci]? = some (C, T, N)) (k : Nat) (hk : k < N) (hlink : (Cond.fieldLink own index ref (T k).2.1 (T k).2.2.1).before args s = true) (hsame : ∀ x, s.fieldFound? (T k).1 (T k).2.1 (T k).2.2.1 = some x → s.fieldFound? ref (T k).2.1 (T k).2.2.1 = some x) (hfin : (T k).2.2.2 = true) (hin2 : meth.name = "<init>") (hdecl : (T k).1 = own) {ty : FieldType} {v : Value} (hd : parseFieldDescriptor (T k).2.2.1 = some ty) (hn : narrow ty v = v) (hfit : fits ty v = true) (hl : k < fs.length)
    (hdg : decode cc pc = .ok (.putfield index, 3)) {S' : Hp} (hb' : ∀ b, b ≠ a → cO κ S' b = cO κ S b) (ha' : cO κ S' a = some (.inr (ci, fs.set k v))) (kk : ∀ (H1 : Heap) (locs1 : List Loc), GG D κ A S' H1 → va_S A H0 H1 locs1 → W p l e R s m args below meth c H1 locs1 cells slots Q (F0 m (pc + 3) ls rest)) : W p l e R s m args below meth c H locs cells slots Q (F0 m pc ls (v :: .ref a :: rest)) := by
  have hap := va_apart (own := own) hts hin ty0 hty hnm hK hc
  obtain ⟨⟨r, h1, cell, q1, q2, q3, q4⟩, hAa⟩ := hG a _ he
  have hr : r = (C, T, N) := Option.some.inj (h1.symm.trans hc)
  subst hr
  obtain ⟨hS, hfc, kC, hkC, hkind⟩ := hK.1 ci _ hc
  obtain ⟨cf, kf, fi, f, hi, hsl⟩ := hS k hk
  have hlay := hts _ (hin _ (u_in_lay hk))
  unfold u_lay at hlay
  rw [if_pos hfin] at hlay
  have hst := (u_facts hfc hkC (u_lays hts hin hk) hi).1
  have hcf : m.cls = cf := by
    obtain ⟨_, _, c', _, _, _, -, -, hf', -, -, -, hown2, -⟩ := Cond.laysFinal_spec hlay
    have e1 : c' = cf := by have := hi.symm.trans hf'; simp at this; exact this.1.symm
    rw [hdecl] at hown2
    rw [← e1]; exact Option.some.inj (hown.symm.trans hown2)
  have h6 := u_fits hfc hkC hkind (Or.inr hlay) hi hd hn hfit
  refine W.putFinK hexec hb hown hlink (hsame _ hi) hst hcf hin2 (by rw [q2]; exact h6) q1 q3 (by rw [hsl]; exact k2_hasslot (q4 k hk)) rfl rfl hdg fun H' e1 e2 e3 => ?_
  rw [hsl] at e1 ⊢
  refine kk H' _ (hG.set e3 hb' (fun e he => ?_) hAa) (hS0.put e2 e3 hAa)
  cases ha'.symm.trans he
  exact ⟨_, hc, t_OB.to (V := updV (vp_V fs) k v) ⟨_, e1, q2, q3, t_set q4 hap hk v⟩ (fun j _ => vp_updV_set hl v j)⟩
theorem gg_iald (hexec : p.tables.exec = Jvm.exec) (hb : c.code = cc) (hK : KK D κ s) (hG : GG D κ A S H) (hk : kd S a = 8) {i : Int32} (hin : vp_in i (ln S a)) (hdg : decode cc pc = .ok (.iaload, 1))
    (kk : W p l e R s m args below meth c H locs cells slots Q (F0 m (pc + 1) ls (.int (gA S a i.toNatClampNeg) :: rest))) : W p l e R s m args below meth c H locs cells slots Q (F0 m pc ls (.int i :: .ref a :: rest)) := va_iald hexec hb hK (hG.P (kc_8 hk)) 0 0 rfl rfl hin hdg kk
theorem gg_zald (hexec : p.tables.exec = Jvm.exec) (hb : c.code = cc) (hK : KK D κ s) (hG : GG D κ A S H) (hk : kd S a = 9) {i : Int32} (hin : vp_in i (ln S a)) (hdg : decode cc pc = .ok (.baload, 1))
    (kk : W p l e R s m args below meth c H locs cells slots Q (F0 m (pc + 1) ls (.int (gA S a i.toNatClampNeg) :: rest))) : W p l e R s m args below meth c H locs cells slots Q (F0 m pc ls (.int i :: .ref a :: rest)) := va_zald hexec hb hK (hG.P (kc_9 hk)) 0 1 rfl rfl hin hdg kk
theorem gg_iast (hexec : p.tables.exec = Jvm.exec) (hb : c.code = cc) (hK : KK D κ s) (hG : GG D κ A S H) (hS : va_S A H0 H locs) (hk : kd S a = 8) {i x : Int32} (hin : vp_in i (ln S a)) (hdg : decode cc pc = .ok (.iastore, 1))
    (kk : ∀ (H1 : Heap) (locs1 : List Loc), GG D κ A (sA S a i.toNatClampNeg x) H1 → va_S A H0 H1 locs1 → W p l e R s m args below meth c H1 locs1 cells slots Q (F0 m (pc + 1) ls rest)) : W p l e R s m args below meth c H locs cells slots Q (F0 m pc ls (.int x :: .int i :: .ref a :: rest)) := by
  obtain ⟨h1, hAa⟩ := hG a _ (kc_8 hk)
  refine W.iast hexec hb h1 ((hK.2 0 _ rfl).1 (ln S a) (fun j => .int (gA S a j))) (fun q => by cases q) (by show ¬ (i < 0 ∨ (arrV _ _ _).slots.size ≤ _); rw [arrV_size]; exact hin) rfl rfl hdg fun H1 e z oq => ?_
  refine kk H1 _ (hG.set oq (fun b hb => cO_sF hb) (fun e' he => ?_) hAa) (hS.put z oq hAa)
  cases (kc_8 (S := sA S a i.toNatClampNeg x) hk).symm.trans he
  show H1[a]? = some (vp_cell _ _)
  rw [e, show gA (sA S a i.toNatClampNeg x) a = upd (gA S a) i.toNatClampNeg x from (h_gA_sF _ _ _ _).trans (if_pos rfl), show ln (sA S a i.toNatClampNeg x) a = ln S a from rfl]
  rw [vp_cell_i, vp_cell_i, arrV_store]
  congr 2
  funext q
  by_cases hq : q = i.toNatClampNeg
  · subst hq
    simp [updV, upd]
  · simp [updV, upd, hq]
theorem gg_zast (hexec : p.tables.exec = Jvm.exec) (hb : c.code = cc) (hK : KK D κ s) (hG : GG D κ A S H) (hS : va_S A H0 H locs) (hk : kd S a = 9) {i x : Int32} (hin : vp_in i (ln S a)) (hdg : decode cc pc = .ok (.bastore, 1))
    (kk : ∀ (H1 : Heap) (locs1 : List Loc), GG D κ A (sA S a i.toNatClampNeg (vp_nar .boolean x)) H1 → va_S A H0 H1 locs1 → W p l e R s m args below meth c H1 locs1 cells slots Q (F0 m (pc + 1) ls rest)) : W p l e R s m args below meth c H locs cells slots Q (F0 m pc ls (.int x :: .int i :: .ref a :: rest)) := by
  obtain ⟨h1, hAa⟩ := hG a _ (kc_9 hk)
  refine W.zast hexec hb h1 ((hK.2 1 _ rfl).1 (ln S a) (fun j => .int (gA S a j))) (fun q => by cases q) (by show ¬ (i < 0 ∨ (arrV _ _ _).slots.size ≤ _); rw [arrV_size]; exact hin) rfl rfl hdg fun H1 e z oq => ?_
  refine kk H1 _ (hG.set oq (fun b hb => cO_sF hb) (fun e' he => ?_) hAa) (hS.put z oq hAa)
  cases (kc_9 (S := sA S a i.toNatClampNeg (vp_nar .boolean x)) hk).symm.trans he
  show H1[a]? = some (vp_cell _ _)
  rw [e, show gA (sA S a i.toNatClampNeg (vp_nar .boolean x)) a = upd (gA S a) i.toNatClampNeg (vp_nar .boolean x) from (h_gA_sF _ _ _ _).trans (if_pos rfl), show ln (sA S a i.toNatClampNeg (vp_nar .boolean x)) a = ln S a from rfl]
  rw [vp_cell_i, vp_cell_i, arrV_store]
  congr 2
  funext q
  by_cases hq : q = i.toNatClampNeg
  · subst hq
    simp [updV, upd, vp_nar]
    try rfl
  · simp [updV, upd, hq]
theorem gg_alen8 (hexec : p.tables.exec = Jvm.exec) (hb : c.code = cc) (hK : KK D κ s) (hG : GG D κ A S H) (hk : kd S a = 8) (hdg : decode cc pc = .ok (.arraylength, 1))
    (kk : W p l e R s m args below meth c H locs cells slots Q (F0 m (pc + 1) ls (.int (Int32.ofNat (ln S a)) :: rest))) : W p l e R s m args below meth c H locs cells slots Q (F0 m pc ls (.ref a :: rest)) := va_alen hexec hb hK (hG.P (kc_8 hk)) 0 0 rfl rfl rfl hdg kk
theorem gg_aldq (hexec : p.tables.exec = Jvm.exec) (hb : c.code = cc) (hK : KK D κ s) (hG : GG D κ A S H) (hk : kd S a = 10 ∨ kd S a = 11) {i : Int32} (hin : vp_in i (ln S a)) (hdg : decode cc pc = .ok (.aaload, 1))
    (kn : gQ S a i.toNatClampNeg = none → W p l e R s m args below meth c H locs cells slots Q (F0 m (pc + 1) ls (.null :: rest))) (ks : ∀ x, gQ S a i.toNatClampNeg = some x → W p l e R s m args below meth c H locs cells slots Q (F0 m (pc + 1) ls (.ref x :: rest))) : W p l e R s m args below meth c H locs cells slots Q (F0 m pc ls (.int i :: .ref a :: rest)) := by
  have kk : W p l e R s m args below meth c H locs cells slots Q (F0 m (pc + 1) ls (va_rf (gQ S a i.toNatClampNeg) :: rest)) := by
    cases hx : gQ S a i.toNatClampNeg with
    | none => exact kn hx
    | some x => exact ks x hx
  rcases hk with hk | hk
  · exact va_aldq hexec hb hK (hG.P (kc_10 hk)) 0 2 (C := "FourStones$Row") rfl rfl hin hdg kk
  · exact va_aldq hexec hb hK (hG.P (kc_11 hk)) 0 3 (C := "FourStones$Scale") rfl rfl hin hdg kk
theorem gg_copyi (hexec : p.tables.exec = Jvm.exec) (hb : c.code = cc) (hml : c.maxLocals = ls.size) {own : String} {index : Nat} (hown : s.vm.findClass own = some m.cls) (hlink : (Cond.methodLink own index arraycopyName).before args s = true) (hnat : (Cond.native arraycopyName).before args s = true) (hstat : (Cond.static arraycopyName).before args s = true) (hini : (Cond.initialized "java/lang/System").before args s = true)
    (hK : KK D κ s) (hG : GG D κ A S H) (hS : va_S A H0 H locs) {a0 : Nat} (hk0 : kd S a0 = 8) (hk1 : kd S a = 8)
    {sp dp n : Int32} (h1 : ¬ sp < 0) (h2 : ¬ dp < 0) (h3 : ¬ n < 0) (h4 : sp.toNatClampNeg + n.toNatClampNeg ≤ ln S a0) (h5 : dp.toNatClampNeg + n.toNatClampNeg ≤ ln S a)
    (hframes : 1 ≤ R.frames) (hlocals : (rest.map fun v => v.category).sum + (nativeFrameWords "java/lang/System" "arraycopy" 5 + 11) ≤ R.locals) (hdg : decode cc pc = .ok (.invokestatic index, 3))
    (kk : ∀ (H1 : Heap) (locs1 : List Loc), GG D κ A (sF S a (va_cpy (gA S a0) (gA S a) sp.toNatClampNeg dp.toNatClampNeg n.toNatClampNeg)) H1 → va_S A H0 H1 locs1 → W p l e R s m args below meth c H1 locs1 cells slots Q (F0 m (pc + 3) ls rest)) : W p l e R s m args below meth c H locs cells slots Q (F0 m pc ls (.int n :: .int dp :: .ref a :: .int sp :: .ref a0 :: rest)) := by
  have nn : ∀ z : Int32, ¬ z < 0 → z.toInt = (z.toNatClampNeg : Int) := by
    intro z hz
    have hz0 : (0 : Int) ≤ z.toInt := by
      have := Int32.not_lt.mp hz
      simpa using Int32.le_iff_toInt_le.mp this
    show z.toInt = ((z.toInt.toNat : Nat) : Int)
    omega
  intro T hT X
  generalize hf : gA S a0 = f at kk
  generalize hg : gA S a = g at kk
  generalize hn0 : ln S a0 = n0 at h4
  generalize hn1 : ln S a = n1 at h5
  have hc0 : H[a0]? = some (vp_cell (κ 0) (n0, .inl f)) := by have := (hG a0 _ (kc_8 hk0)).1; rw [hf, hn0] at this; exact this
  obtain ⟨hc1', hAa⟩ := hG a _ (kc_8 hk1)
  have hc1 : H[a]? = some (vp_cell (κ 0) (n1, .inl g)) := by rw [hg, hn1] at hc1'; exact hc1'
  obtain ⟨-, k0, hk0', cm0, hkk0⟩ := (hK.2 0 _ rfl).1 n0 (fun j => .int (f j))
  obtain ⟨-, k1, hk1', cm1, hkk1⟩ := (hK.2 0 _ rfl).1 n1 (fun j => .int (g j))
  obtain ⟨vm', X', step⟩ := X.arraycopy hexec hown hlink hnat hstat hini (src := a0) (dst := a) (cs := vp_cell (κ 0) (n0, .inl f)) (cd := vp_cell (κ 0) (n1, .inl g)) (srcPos := sp) (destPos := dp) (n := n) (by rw [hT]; exact hc0) (by rw [hT]; exact hc1)
    (fun _ h => by cases h) (fun _ h => by cases h) (fun h => by cases h) (fun h => by cases h) hk0' hk1' hkk0 hkk1 (by simp [refKind]) h1 h2 h3
    (by rw [nn sp h1, nn n h3]; show ¬ _ > ((arrV (κ 0) n0 (fun j => .int (f j))).slots.size : Int); rw [arrV_size]; omega)
    (by rw [nn dp h2, nn n h3]; show ¬ _ > ((arrV (κ 0) n1 (fun j => .int (g j))).slots.size : Int); rw [arrV_size]; omega)
    (fun vm₁ _ i hi => by
      have e : (vp_cell (κ 0) (n0, .inl f)).slots.getD (sp.toNatClampNeg + i) .null = .int (f (sp.toNatClampNeg + i)) := by
        show (arrV (κ 0) n0 (fun j => .int (f j))).slots.getD _ _ = _
        rw [Array.getD_eq_getD_getElem?, arrV_read _ _ (by omega)]
        rfl
      refine ⟨?_, ?_⟩
      · rw [e]
        rfl
      · rw [e]
        exact trivial)
    (g := F0 m pc ls (.int n :: .int dp :: .ref a :: .int sp :: .ref a0 :: rest)) rfl (by rw [hml]) (rest := rest) rfl (by rw [hb]; exact hdg) hframes (by show 2 * 0 + _ + _ ≤ _; omega)
  have e1 : copied (vp_cell (κ 0) (n0, .inl f)) (vp_cell (κ 0) (n1, .inl g)) sp dp n = vp_cell (κ 0) (n1, .inl (va_cpy f g sp.toNatClampNeg dp.toNatClampNeg n.toNatClampNeg)) := va_copied (fun z => .int z) (κ 0) (κ 0) f g h4
  rw [e1] at X' step
  have hl : a < H.size := (Array.getElem?_eq_some_iff.mp hc1).1
  have hheap : ((T.setVm vm').setCell a (vp_cell (κ 0) (n1, .inl (va_cpy f g sp.toNatClampNeg dp.toNatClampNeg n.toNatClampNeg)))).heap = H.setIfInBounds a (vp_cell (κ 0) (n1, .inl (va_cpy f g sp.toNatClampNeg dp.toNatClampNeg n.toNatClampNeg))) := by rw [← hT]; rfl
  have oq : ∀ q : Nat, q ≠ a → (H.setIfInBounds a (vp_cell (κ 0) (n1, .inl (va_cpy f g sp.toNatClampNeg dp.toNatClampNeg n.toNatClampNeg))))[q]? = H[q]? := fun q hq => by simp [Array.getElem?_setIfInBounds, Ne.symm hq]
  obtain ⟨t, a1, b1⟩ := kk _ _ (hG.set oq (fun b hb => cO_sF hb) (fun e he => by
      cases (kc_8 (S := sF S a (va_cpy f g sp.toNatClampNeg dp.toNatClampNeg n.toNatClampNeg)) hk1).symm.trans he
      rw [show gA (sF S a (va_cpy f g sp.toNatClampNeg dp.toNatClampNeg n.toNatClampNeg)) a = va_cpy f g sp.toNatClampNeg dp.toNatClampNeg n.toNatClampNeg from (h_gA_sF _ _ _ _).trans (if_pos rfl), show ln (sF S a (va_cpy f g sp.toNatClampNeg dp.toNatClampNeg n.toNatClampNeg)) a = n1 from hn1]
      show (H.setIfInBounds a _)[a]? = some _
      simp [Array.getElem?_setIfInBounds, hl]) hAa) ⟨by simp; exact hS.1, fun q g1 g2 => by
      rw [oq q (fun e => g2 (by rw [e]; exact hAa))]
      exact hS.2.1 q g1 g2, fun q hq => by
      rcases List.mem_append.mp hq with h | h
      · exact hS.2.2 q h
      · obtain ⟨z, -, hz⟩ := List.mem_map.mp h
        rw [← hz]
        exact hAa⟩ _ hheap X'
  exact ⟨t, step t a1, b1⟩
theorem gg_newi {c0 : Code} (hexec : p.tables.exec = Jvm.exec) (hb : c0.code = cc) (harr : (Cond.arrayClass (newarray.typeOf .int)).before args s = true) (hK : KK D κ s) (hG : GG D κ A S H) (hS : va_S A H0 H locs) (hA : ∀ q, H0.size ≤ q → A q)
    {n : Int32} {N' : Nat} (hn : ¬ n < 0) (hN : n.toNatClampNeg = N') (hbytes : N' * 4 ≤ 536870912) (hcells : cells + 1 ≤ R.cells) (hslots : slots + N' ≤ R.slots) (hdg : decode cc pc = .ok (.newarray .int, 2))
    (kk : ∀ (q : Nat) (H1 : Heap), fr S q → GG D κ A (nA S q 8 N') H1 → va_S A H0 H1 locs → W p l e R s m args below meth c0 H1 locs (cells + 1) (slots + N') Q (F0 m (pc + 2) ls (.ref q :: rest))) : W p l e R s m args below meth c0 H locs cells slots Q (F0 m pc ls (.int n :: rest)) := by
  refine va_newaK hexec hb harr rfl hdg rfl hn hN hbytes hcells hslots rfl fun H1 cA e1 z1 o1 hAr hNm => ?_
  have hcA : cA = κ 0 := by
    have h2 : s.vm.findClass ("[" ++ (FieldType.int).toString) = some (κ 0) := (hK.2 0 _ rfl).2
    exact Option.some.inj (hNm.symm.trans h2)
  subst hcA
  refine kk H.size H1 (cO_kd hG.fresh) (hG.new o1 (fun b hb => cO_nA hb) (fun e he => ?_) (hA _ hS.1)) ⟨Nat.le_trans hS.1 (by omega), fun x h1 h2 => (o1 x (Nat.lt_of_lt_of_le h1 hS.1)).trans (hS.2.1 x h1 h2), hS.2.2⟩
  have hk : kd (nA S H.size 8 N') H.size = 8 := (h_kd_nA _ _ _ _ _).trans (if_pos rfl)
  cases (kc_8 hk).symm.trans he
  rw [show gA (nA S H.size 8 N') H.size = fun _ => 0 from (h_gA_nA _ _ _ _ _).trans (if_pos rfl), show ln (nA S H.size 8 N') H.size = N' from (h_ln_nA _ _ _ _ _).trans (if_pos rfl)]
  exact e1
theorem gg_new {c0 : Code} (hexec : p.tables.exec = Jvm.exec) (hb : c0.code = cc) {own C : String} {T : u_T} {N ci index k : Nat} {Ts : List Cond} (hts : ∀ w ∈ Ts, w.before args s = true) (hin : ∀ w ∈ u_ws C T N, w ∈ Ts) (ty : Nat → FieldType) (hty : ∀ k, k < N → parseFieldDescriptor (T k).2.2.1 = some (ty k)) (hown : s.vm.findClass own = some m.cls) (hcl : (Cond.classLink own index C).before args s = true) (hinst : (Cond.instantiable C N).before args s = true) (hini : (Cond.initialized C).before args s = true)
    (hK : KK D κ s) (hG : GG D κ A S H) (hS : va_S A H0 H locs) (hA : ∀ q, H0.size ≤ q → A q) (hc : vwCl[ci]? = some (C, T, N)) (fs : List Value) (hfs : ∀ j, j < N → defaultValue (ty j) = vp_V fs j) (hco : ∀ q, cO κ (nO S q k) q = some (.inr (ci, fs))) (hcells : cells + 1 ≤ R.cells) (hslots : slots + N ≤ R.slots) (hdg : decode cc pc = .ok (.new index, 3))
    (kk : ∀ (q : Nat) (H1 : Heap), fr S q → GG D κ A (nO S q k) H1 → va_S A H0 H1 locs → W p l e R s m args below meth c0 H1 locs (cells + 1) (slots + N) Q (F0 m (pc + 3) ls (.ref q :: rest))) : W p l e R s m args below meth c0 H locs cells slots Q (F0 m pc ls rest) := by
  have hKn := hK.1 ci _ hc
  refine W.newcK hexec hb hown hcl hinst hini rfl hdg hcells hslots hKn.2.1 rfl fun H1 kC hkC e1 z1 o1 => ?_
  refine kk H.size H1 (cO_kd hG.fresh) (hG.new o1 (fun b hb => cO_nO hb) (fun e he => ?_) (hA _ hS.1)) ⟨Nat.le_trans hS.1 (by omega), fun x h1 h2 => (o1 x (Nat.lt_of_lt_of_le h1 hS.1)).trans (hS.2.1 x h1 h2), hS.2.2⟩
  cases (hco H.size).symm.trans he
  exact ⟨_, hc, (u_born ty hts hin hKn hkC e1 hty).to hfs⟩
end GROWS
def it {X : Type} (B : (X → Prop) → X → Prop) : Nat → X → Prop
  | 0 => fun _ => False
  | n + 1 => B (it B n)
theorem it_m {X : Type} {B : (X → Prop) → X → Prop} (I : X → Prop) (μ : X → Nat) (hs : ∀ (C : X → Prop) (x : X), I x → (∀ x', I x' → μ x' < μ x → C x') → B C x) (x : X) (h : I x) : ∃ n, it B n x := by
  have key : ∀ (n : Nat) (x : X), I x → μ x < n → it B n x := by
    intro n
    induction n with
    | zero => intro x _ h; exact absurd h (Nat.not_lt_zero _)
    | succ n ih => intro x hx hm; exact hs _ x hx (fun x' h1 h2 => ih x' h1 (by omega))
  exact ⟨_, key (μ x + 1) x h (by omega)⟩
theorem pg_blind {D : va_G} {κ : Nat → ClassId} {A : Nat → Prop} {S : Hp} {av : List Value} : FrameBlind (PG D κ A S av) := fun a U g mk q => by
  obtain ⟨q0, q1, q2, q3, q4⟩ := q
  exact ⟨q0, q1, q2, KK.moved (u := U) (U := U.calling g mk a) (Vm.Alike.refl U.vm) q3, XX.same (u := U) (U := U.calling g mk a) rfl q4⟩
theorem pg_A {A : Nat → Prop} {s : State} {H : Heap} {locs : List Loc} (h : ∀ q, s.heap.size ≤ q → A q) (hS : va_S A s.heap H locs) : ∀ q, H.size ≤ q → A q := fun q z => h q (Nat.le_trans hS.1 z)
theorem pg_S {D : va_G} {κ : Nat → ClassId} {A : Nat → Prop} {S : Hp} {s : State} {H : Heap} {As : List Value} (hK : KK D κ s) (hX : XX s) (hG : GG D κ A S H) (hA : ∀ q, H.size ≤ q → A q) : PreS s H (PG D κ A S As) As :=
  ⟨pg_blind, fun U hU hW => ⟨rfl, by rw [hU]; exact hA, by rw [hU]; exact hG, KK.moved hW.alike hK, XX.warm hW hX⟩⟩
theorem pg_V {D : va_G} {κ : Nat → ClassId} {A : Nat → Prop} {S : Hp} {s : State} {H : Heap} {As : List Value} {b ci : Nat} {fs : List Value} {q : vw_C} (hK : KK D κ s) (hX : XX s) (hG : GG D κ A S H) (hA : ∀ q, H.size ≤ q → A q) (he : cO κ S b = some (.inr (ci, fs))) (hc : vwCl[ci]? = some q) : PreV s H q.1 b (PG D κ A S (.ref b :: As)) As :=
  ⟨pg_blind, va_recv hK (hG.P he) hc rfl (q0 := 0), fun U hU hW => ⟨rfl, by rw [hU]; exact hA, by rw [hU]; exact hG, KK.moved hW.alike hK, XX.warm hW hX⟩⟩
section GCALLS
variable {p : Program} {l : Launch} {e : Env} {R : Room} {s : State} {m : MethodId} {args : Array Value} {below : List Frame} {meth : Method} {c : Code} {H : Heap} {locs : List Loc} {cells slots : Nat} {Q : State → Prop}
variable {cc : ByteArray} {pc : Nat} {ls : Array Slot} {rest st0 : List Value} {D : va_G} {κ : Nat → ClassId} {A : Nat → Prop} {a : Array Value} {mc ms : Nat}
theorem gc_i {post : Int32 → Hp → Prop} (hr : va_Run p l e R s m args below meth c H locs cells slots mc ms (F0 m pc ls st0) rest (va_Qi post (BG D κ A) A a) A) (hS : va_S A s.heap H locs)
    (kk : ∀ (r : Int32) (u : Hp) (H1 : Heap) (locs1 : List Loc), post r u → GG D κ A u H1 → va_S A s.heap H1 locs1 → W p l e R s m args below meth c H1 locs1 (cells + mc) (slots + ms) Q (F0 m (pc + 3) ls (.int r :: rest))) : W p l e R s m args below meth c H locs cells slots Q (F0 m pc ls st0) :=
  va_calli hr hS (fun _ _ h => h) (fun _ h => h) (fun r u t H1 locs1 ht _ hp hB _ _ hS1 => kk r u H1 locs1 hp (by have := hB.1; rw [ht] at this; exact this) hS1)
theorem gc_l {post : Int64 → Hp → Prop} (hr : va_Run p l e R s m args below meth c H locs cells slots mc ms (F0 m pc ls st0) rest (va_Ql post (BG D κ A) A a) A) (hS : va_S A s.heap H locs)
    (kk : ∀ (r : Int64) (u : Hp) (H1 : Heap) (locs1 : List Loc), post r u → GG D κ A u H1 → va_S A s.heap H1 locs1 → W p l e R s m args below meth c H1 locs1 (cells + mc) (slots + ms) Q (F0 m (pc + 3) ls (.long r :: rest))) : W p l e R s m args below meth c H locs cells slots Q (F0 m pc ls st0) :=
  va_calll hr hS (fun _ _ h => h) (fun _ h => h) (fun r u t H1 locs1 ht _ hp hB _ _ hS1 => kk r u H1 locs1 hp (by have := hB.1; rw [ht] at this; exact this) hS1)
theorem gc_v {post : Hp → Prop} (hr : va_Run p l e R s m args below meth c H locs cells slots mc ms (F0 m pc ls st0) rest (va_Qv post (BG D κ A) A a) A) (hS : va_S A s.heap H locs)
    (kk : ∀ (u : Hp) (H1 : Heap) (locs1 : List Loc), post u → GG D κ A u H1 → va_S A s.heap H1 locs1 → W p l e R s m args below meth c H1 locs1 (cells + mc) (slots + ms) Q (F0 m (pc + 3) ls rest)) : W p l e R s m args below meth c H locs cells slots Q (F0 m pc ls st0) :=
  va_callv hr hS (fun _ _ h => h) (fun _ h => h) (fun u t H1 locs1 ht _ hp hB _ _ hS1 => kk u H1 locs1 hp (by have := hB.1; rw [ht] at this; exact this) hS1)
theorem gc_q {post : Option Nat → Hp → Prop} (hr : va_Run p l e R s m args below meth c H locs cells slots mc ms (F0 m pc ls st0) rest (va_Qq post (BG D κ A) A a) A) (hS : va_S A s.heap H locs)
    (kn : ∀ (r : Option Nat) (u : Hp) (H1 : Heap) (locs1 : List Loc), post r u → GG D κ A u H1 → va_S A s.heap H1 locs1 → r = none → W p l e R s m args below meth c H1 locs1 (cells + mc) (slots + ms) Q (F0 m (pc + 3) ls (.null :: rest)))
    (ks : ∀ (r : Option Nat) (u : Hp) (H1 : Heap) (locs1 : List Loc), post r u → GG D κ A u H1 → va_S A s.heap H1 locs1 → ∀ x, r = some x → W p l e R s m args below meth c H1 locs1 (cells + mc) (slots + ms) Q (F0 m (pc + 3) ls (.ref x :: rest))) : W p l e R s m args below meth c H locs cells slots Q (F0 m pc ls st0) :=
  va_callq hr hS (fun _ _ h => h) (fun _ h => h) (fun r u t H1 locs1 ht _ hp hB _ _ hS1 => by
    have hg : GG D κ A u H1 := by have := hB.1; rw [ht] at this; exact this
    cases r with
    | none => exact kn none u H1 locs1 hp hg hS1 rfl
    | some x => exact ks (some x) u H1 locs1 hp hg hS1 x rfl)
theorem gr_i {Qp : Int32 → Hp → Prop} {S : Hp} {r : Int32} (h : Qp r S) (hG : GG D κ A S H) (hK : KK D κ s) (hX : XX s) (hS : va_S A s.heap H locs) : ∀ t : State, t.heap = H → s.WarmedH t.vm → va_Qi Qp (BG D κ A) A args s (.returned (some (.int r))) t :=
  fun t ht hW => ⟨⟨r, S, rfl, h, by rw [ht]; exact hG, KK.moved hW.alike hK, XX.warm hW hX⟩, hS.F ht⟩
theorem gr_l {Qp : Int64 → Hp → Prop} {S : Hp} {r : Int64} (h : Qp r S) (hG : GG D κ A S H) (hK : KK D κ s) (hX : XX s) (hS : va_S A s.heap H locs) : ∀ t : State, t.heap = H → s.WarmedH t.vm → va_Ql Qp (BG D κ A) A args s (.returned (some (.long r))) t :=
  fun t ht hW => ⟨⟨r, S, rfl, h, by rw [ht]; exact hG, KK.moved hW.alike hK, XX.warm hW hX⟩, hS.F ht⟩
theorem gr_v {Qp : Hp → Prop} {S : Hp} (h : Qp S) (hG : GG D κ A S H) (hK : KK D κ s) (hX : XX s) (hS : va_S A s.heap H locs) : ∀ t : State, t.heap = H → s.WarmedH t.vm → va_Qv Qp (BG D κ A) A args s (.returned none) t :=
  fun t ht hW => ⟨⟨S, rfl, h, by rw [ht]; exact hG, KK.moved hW.alike hK, XX.warm hW hX⟩, hS.F ht⟩
theorem gr_n {Qp : Option Nat → Hp → Prop} {S : Hp} (h : Qp none S) (hG : GG D κ A S H) (hK : KK D κ s) (hX : XX s) (hS : va_S A s.heap H locs) : ∀ t : State, t.heap = H → s.WarmedH t.vm → va_Qq Qp (BG D κ A) A args s (.returned (some .null)) t :=
  fun t ht hW => ⟨⟨none, S, rfl, h, by rw [ht]; exact hG, KK.moved hW.alike hK, XX.warm hW hX⟩, hS.F ht⟩
theorem gr_s {Qp : Option Nat → Hp → Prop} {S : Hp} {x : Nat} (h : Qp (some x) S) (hG : GG D κ A S H) (hK : KK D κ s) (hX : XX s) (hS : va_S A s.heap H locs) : ∀ t : State, t.heap = H → s.WarmedH t.vm → va_Qq Qp (BG D κ A) A args s (.returned (some (.ref x))) t :=
  fun t ht hW => ⟨⟨some x, S, rfl, h, by rw [ht]; exact hG, KK.moved hW.alike hK, XX.warm hW hX⟩, hS.F ht⟩
end GCALLS

