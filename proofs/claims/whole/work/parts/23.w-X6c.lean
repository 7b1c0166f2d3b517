set_option maxHeartbeats 4000000 in
set_option maxRecDepth 100000 in
theorem c_X6_customers (l : Launch) (D : va_G) (κ : Nat → ClassId) (A : Nat → Prop) (S : Hp) (a0 : Nat) (x1 : Int32) (x2 : Int32) (x3 : Int32) (Q : Int32 → Hp → Prop) (h : wp_X6_customers a0 x1 x2 x3 S Q) : Met l yX6_customers wsX6_customers ({ frames := 2, cells := 0, slots := 0, locals := 96 } : Room) (PG D κ A S [.ref a0, .int x1, .int x2, .int x3]) (va_Qi Q (BG D κ A) A) 0 0 A := by
  refine Met.ofW (cc := cX6_customers) (maxL := 10) (ret := (some .int)) (by decide) rfl ?_
  intro p e s m args below meth c s₁ B hml hv
  obtain ⟨hargs, hA, hG, hK, hX⟩ := hv
  have hx := B.exec
  have hb := B.bytes
  have hr := B.returns
  have hts := atoms_spec (ws := wsX6_customers) B.pre
  have hown : s.vm.findClass RX6 = some m.cls := findClass_of_methodNamed B.named
  have hlocks := B.notSynchronized
  subst hargs
  clear B
  have hS : va_S A s.heap s.heap [] := va_S.rf
  have hl := lv_entry ([.ref a0, .int x1, .int x2, .int x3]) (n := 10) (Nat.le_of_ble_eq_true rfl)
  rw [lg_entry_eq]
  generalize (lg_sl ([.ref a0, .int x1, .int x2, .int x3]) ++ List.replicate (10 - (lg_sl ([.ref a0, .int x1, .int x2, .int x3])).length) Slot.unset).toArray = ls at hl ⊢
  have hl : lv_has ls 10 [(0, .ref a0), (1, .int x1), (2, .int x2), (3, .int x3)] := hl
  have hG : GG D κ A S s.heap := hG
  have j_159 : ∀ (C47 : Nat × Int32 × Int32 × Int32 × Int32 × Int32 × Int32 × Int32 × Hp → Prop) (hC47 : ∀ (v0 : Nat) (v1 : Int32) (v2 : Int32) (v3 : Int32) (v4 : Int32) (v5 : Int32) (v6 : Int32) (v7 : Int32) (S : Hp) (ls : Array Slot) (H : Heap) (locs : List Loc), lv_has ls 10 [(0, .ref v0), (1, .int v1), (2, .int v2), (3, .int v3), (4, .int v4), (5, .int v5), (6, .int v6), (7, .int v7)] → GG D κ A S H → va_S A s.heap H locs → C47 (v0, v1, v2, v3, v4, v5, v6, v7, S) → W p l e ({ frames := 2, cells := 0, slots := 0, locals := 96 } : Room) s m ([.ref a0, .int x1, .int x2, .int x3] : List Value).toArray below meth c H locs 0 0 (MQ below (va_Qi Q (BG D κ A) A) ([.ref a0, .int x1, .int x2, .int x3] : List Value).toArray s 0 0 A) (F0 m 47 ls [])) (C87 : Nat × Int32 × Int32 × Int32 × Int32 × Int32 × Int32 × Int32 × Int32 × Int32 × Hp → Prop) (hC87 : ∀ (v0 : Nat) (v1 : Int32) (v2 : Int32) (v3 : Int32) (v4 : Int32) (v5 : Int32) (v6 : Int32) (v7 : Int32) (v8 : Int32) (v9 : Int32) (S : Hp) (ls : Array Slot) (H : Heap) (locs : List Loc), lv_has ls 10 [(0, .ref v0), (1, .int v1), (2, .int v2), (3, .int v3), (4, .int v4), (5, .int v5), (6, .int v6), (7, .int v7), (8, .int v8), (9, .int v9)] → GG D κ A S H → va_S A s.heap H locs → C87 (v0, v1, v2, v3, v4, v5, v6, v7, v8, v9, S) → W p l e ({ frames := 2, cells := 0, slots := 0, locals := 96 } : Room) s m ([.ref a0, .int x1, .int x2, .int x3] : List Value).toArray below meth c H locs 0 0 (MQ below (va_Qi Q (BG D κ A) A) ([.ref a0, .int x1, .int x2, .int x3] : List Value).toArray s 0 0 A) (F0 m 87 ls [])) (v0 : Nat) (v1 : Int32) (v2 : Int32) (v3 : Int32) (v4 : Int32) (v5 : Int32) (v6 : Int32) (v7 : Int32) (v8 : Int32) (v9 : Int32) (S : Hp) (ls : Array Slot) (H : Heap) (locs : List Loc), lv_has ls 10 [(0, .ref v0), (1, .int v1), (2, .int v2), (3, .int v3), (4, .int v4), (5, .int v5), (6, .int v6), (7, .int v7), (8, .int v8), (9, .int v9)] → GG D κ A S H → va_S A s.heap H locs → J_X6_customers_159 C47 C87 Q v0 v1 v2 v3 v4 v5 v6 v7 v8 v9 S → W p l e ({ frames := 2, cells := 0, slots := 0, locals := 96 } : Room) s m ([.ref a0, .int x1, .int x2, .int x3] : List Value).toArray below meth c H locs 0 0 (MQ below (va_Qi Q (BG D κ A) A) ([.ref a0, .int x1, .int x2, .int x3] : List Value).toArray s 0 0 A) (F0 m 159 ls []) := by
    intro C47 hC47 C87 hC87 v0 v1 v2 v3 v4 v5 v6 v7 v8 v9 S ls H locs hl hG hS h
    unfold J_X6_customers_159 at h
    obtain ⟨y1, ey1⟩ : ∃ z, z = v9 + (1 : Int32) := ⟨_, rfl⟩
    replace h := h y1 ey1
    refine lv_iinc (v := y1) (lv' := [(9, .int y1), (0, .ref v0), (1, .int v1), (2, .int v2), (3, .int v3), (4, .int v4), (5, .int v5), (6, .int v6), (7, .int v7), (8, .int v8)]) hx hb dX6_customers_159 hl (k := 9) rfl (by rw [ey1]; rfl) (by decide) rfl (fun ls hl => ?_)
    refine lv_goto (tgt := 87) hx hb dX6_customers_162 rfl ?_
    exact hC87 v0 v1 v2 v3 v4 v5 v6 v7 v8 y1 S ls _ _ (lv_sub hl [1, 2, 3, 4, 5, 6, 7, 8, 9, 0] rfl) hG hS h
  have j_154 : ∀ (C47 : Nat × Int32 × Int32 × Int32 × Int32 × Int32 × Int32 × Int32 × Hp → Prop) (hC47 : ∀ (v0 : Nat) (v1 : Int32) (v2 : Int32) (v3 : Int32) (v4 : Int32) (v5 : Int32) (v6 : Int32) (v7 : Int32) (S : Hp) (ls : Array Slot) (H : Heap) (locs : List Loc), lv_has ls 10 [(0, .ref v0), (1, .int v1), (2, .int v2), (3, .int v3), (4, .int v4), (5, .int v5), (6, .int v6), (7, .int v7)] → GG D κ A S H → va_S A s.heap H locs → C47 (v0, v1, v2, v3, v4, v5, v6, v7, S) → W p l e ({ frames := 2, cells := 0, slots := 0, locals := 96 } : Room) s m ([.ref a0, .int x1, .int x2, .int x3] : List Value).toArray below meth c H locs 0 0 (MQ below (va_Qi Q (BG D κ A) A) ([.ref a0, .int x1, .int x2, .int x3] : List Value).toArray s 0 0 A) (F0 m 47 ls [])) (C87 : Nat × Int32 × Int32 × Int32 × Int32 × Int32 × Int32 × Int32 × Int32 × Int32 × Hp → Prop) (hC87 : ∀ (v0 : Nat) (v1 : Int32) (v2 : Int32) (v3 : Int32) (v4 : Int32) (v5 : Int32) (v6 : Int32) (v7 : Int32) (v8 : Int32) (v9 : Int32) (S : Hp) (ls : Array Slot) (H : Heap) (locs : List Loc), lv_has ls 10 [(0, .ref v0), (1, .int v1), (2, .int v2), (3, .int v3), (4, .int v4), (5, .int v5), (6, .int v6), (7, .int v7), (8, .int v8), (9, .int v9)] → GG D κ A S H → va_S A s.heap H locs → C87 (v0, v1, v2, v3, v4, v5, v6, v7, v8, v9, S) → W p l e ({ frames := 2, cells := 0, slots := 0, locals := 96 } : Room) s m ([.ref a0, .int x1, .int x2, .int x3] : List Value).toArray below meth c H locs 0 0 (MQ below (va_Qi Q (BG D κ A) A) ([.ref a0, .int x1, .int x2, .int x3] : List Value).toArray s 0 0 A) (F0 m 87 ls [])) (v0 : Nat) (v1 : Int32) (v2 : Int32) (v3 : Int32) (v4 : Int32) (v5 : Int32) (v7 : Int32) (v8 : Int32) (v9 : Int32) (w0 : Int32) (S : Hp) (ls : Array Slot) (H : Heap) (locs : List Loc), lv_has ls 10 [(0, .ref v0), (1, .int v1), (2, .int v2), (3, .int v3), (4, .int v4), (5, .int v5), (7, .int v7), (8, .int v8), (9, .int v9)] → GG D κ A S H → va_S A s.heap H locs → J_X6_customers_154 C47 C87 Q v0 v1 v2 v3 v4 v5 v7 v8 v9 w0 S → W p l e ({ frames := 2, cells := 0, slots := 0, locals := 96 } : Room) s m ([.ref a0, .int x1, .int x2, .int x3] : List Value).toArray below meth c H locs 0 0 (MQ below (va_Qi Q (BG D κ A) A) ([.ref a0, .int x1, .int x2, .int x3] : List Value).toArray s 0 0 A) (F0 m 154 ls [.int w0]) := by
    intro C47 hC47 C87 hC87 v0 v1 v2 v3 v4 v5 v7 v8 v9 w0 S ls H locs hl hG hS h
    unfold J_X6_customers_154 at h
    refine lv_istore (lv' := [(6, .int w0), (0, .ref v0), (1, .int v1), (2, .int v2), (3, .int v3), (4, .int v4), (5, .int v5), (7, .int v7), (8, .int v8), (9, .int v9)]) hx hb dX6_customers_154 hl (by decide) rfl (fun ls hl => ?_)
    obtain ⟨y1, ey1⟩ : ∃ z, z = v4 + (1 : Int32) := ⟨_, rfl⟩
    replace h := h y1 ey1
    refine lv_iinc (v := y1) (lv' := [(4, .int y1), (6, .int w0), (0, .ref v0), (1, .int v1), (2, .int v2), (3, .int v3), (5, .int v5), (7, .int v7), (8, .int v8), (9, .int v9)]) hx hb dX6_customers_156 hl (k := 5) rfl (by rw [ey1]; rfl) (by decide) rfl (fun ls hl => ?_)
    exact j_159 _ hC47 _ hC87 v0 v1 v2 v3 y1 v5 w0 v7 v8 v9 S ls _ _ (lv_sub hl [2, 3, 4, 5, 0, 6, 1, 7, 8, 9] rfl) hG hS h
  have j_140 : ∀ (C47 : Nat × Int32 × Int32 × Int32 × Int32 × Int32 × Int32 × Int32 × Hp → Prop) (hC47 : ∀ (v0 : Nat) (v1 : Int32) (v2 : Int32) (v3 : Int32) (v4 : Int32) (v5 : Int32) (v6 : Int32) (v7 : Int32) (S : Hp) (ls : Array Slot) (H : Heap) (locs : List Loc), lv_has ls 10 [(0, .ref v0), (1, .int v1), (2, .int v2), (3, .int v3), (4, .int v4), (5, .int v5), (6, .int v6), (7, .int v7)] → GG D κ A S H → va_S A s.heap H locs → C47 (v0, v1, v2, v3, v4, v5, v6, v7, S) → W p l e ({ frames := 2, cells := 0, slots := 0, locals := 96 } : Room) s m ([.ref a0, .int x1, .int x2, .int x3] : List Value).toArray below meth c H locs 0 0 (MQ below (va_Qi Q (BG D κ A) A) ([.ref a0, .int x1, .int x2, .int x3] : List Value).toArray s 0 0 A) (F0 m 47 ls [])) (C87 : Nat × Int32 × Int32 × Int32 × Int32 × Int32 × Int32 × Int32 × Int32 × Int32 × Hp → Prop) (hC87 : ∀ (v0 : Nat) (v1 : Int32) (v2 : Int32) (v3 : Int32) (v4 : Int32) (v5 : Int32) (v6 : Int32) (v7 : Int32) (v8 : Int32) (v9 : Int32) (S : Hp) (ls : Array Slot) (H : Heap) (locs : List Loc), lv_has ls 10 [(0, .ref v0), (1, .int v1), (2, .int v2), (3, .int v3), (4, .int v4), (5, .int v5), (6, .int v6), (7, .int v7), (8, .int v8), (9, .int v9)] → GG D κ A S H → va_S A s.heap H locs → C87 (v0, v1, v2, v3, v4, v5, v6, v7, v8, v9, S) → W p l e ({ frames := 2, cells := 0, slots := 0, locals := 96 } : Room) s m ([.ref a0, .int x1, .int x2, .int x3] : List Value).toArray below meth c H locs 0 0 (MQ below (va_Qi Q (BG D κ A) A) ([.ref a0, .int x1, .int x2, .int x3] : List Value).toArray s 0 0 A) (F0 m 87 ls [])) (v0 : Nat) (v1 : Int32) (v2 : Int32) (v3 : Int32) (v4 : Int32) (v6 : Int32) (v7 : Int32) (v8 : Int32) (v9 : Int32) (w0 : Int32) (S : Hp) (ls : Array Slot) (H : Heap) (locs : List Loc), lv_has ls 10 [(0, .ref v0), (1, .int v1), (2, .int v2), (3, .int v3), (4, .int v4), (6, .int v6), (7, .int v7), (8, .int v8), (9, .int v9)] → GG D κ A S H → va_S A s.heap H locs → J_X6_customers_140 C47 C87 Q v0 v1 v2 v3 v4 v6 v7 v8 v9 w0 S → W p l e ({ frames := 2, cells := 0, slots := 0, locals := 96 } : Room) s m ([.ref a0, .int x1, .int x2, .int x3] : List Value).toArray below meth c H locs 0 0 (MQ below (va_Qi Q (BG D κ A) A) ([.ref a0, .int x1, .int x2, .int x3] : List Value).toArray s 0 0 A) (F0 m 140 ls [.int w0]) := by
    intro C47 hC47 C87 hC87 v0 v1 v2 v3 v4 v6 v7 v8 v9 w0 S ls H locs hl hG hS h
    unfold J_X6_customers_140 at h
    refine lv_istore (lv' := [(5, .int w0), (0, .ref v0), (1, .int v1), (2, .int v2), (3, .int v3), (4, .int v4), (6, .int v6), (7, .int v7), (8, .int v8), (9, .int v9)]) hx hb dX6_customers_140 hl (by decide) rfl (fun ls hl => ?_)
    refine lv_iload hx hb dX6_customers_142 (lv_at hl 5 rfl) ?_
    refine lv_if_ne (tgt := 152) hx hb dX6_customers_144 rfl (fun hc => ?_) (fun hc => ?_)
    · replace h := h.1 hc
      refine lv_iload hx hb dX6_customers_152 (lv_at hl 6 rfl) ?_
      exact j_154 _ hC47 _ hC87 v0 v1 v2 v3 v4 w0 v7 v8 v9 v6 S ls _ _ (lv_sub hl [1, 2, 3, 4, 5, 0, 7, 8, 9] rfl) hG hS h
    · replace h := h.2 hc
      refine lv_iload hx hb dX6_customers_147 (lv_at hl 9 rfl) ?_
      refine lv_goto (tgt := 154) hx hb dX6_customers_149 rfl ?_
      exact j_154 _ hC47 _ hC87 v0 v1 v2 v3 v4 w0 v7 v8 v9 v9 S ls _ _ (lv_sub hl [1, 2, 3, 4, 5, 0, 7, 8, 9] rfl) hG hS h
  have j_165 : ∀ (C47 : Nat × Int32 × Int32 × Int32 × Int32 × Int32 × Int32 × Int32 × Hp → Prop) (hC47 : ∀ (v0 : Nat) (v1 : Int32) (v2 : Int32) (v3 : Int32) (v4 : Int32) (v5 : Int32) (v6 : Int32) (v7 : Int32) (S : Hp) (ls : Array Slot) (H : Heap) (locs : List Loc), lv_has ls 10 [(0, .ref v0), (1, .int v1), (2, .int v2), (3, .int v3), (4, .int v4), (5, .int v5), (6, .int v6), (7, .int v7)] → GG D κ A S H → va_S A s.heap H locs → C47 (v0, v1, v2, v3, v4, v5, v6, v7, S) → W p l e ({ frames := 2, cells := 0, slots := 0, locals := 96 } : Room) s m ([.ref a0, .int x1, .int x2, .int x3] : List Value).toArray below meth c H locs 0 0 (MQ below (va_Qi Q (BG D κ A) A) ([.ref a0, .int x1, .int x2, .int x3] : List Value).toArray s 0 0 A) (F0 m 47 ls [])) (v0 : Nat) (v1 : Int32) (v2 : Int32) (v3 : Int32) (v4 : Int32) (v5 : Int32) (v6 : Int32) (v7 : Int32) (S : Hp) (ls : Array Slot) (H : Heap) (locs : List Loc), lv_has ls 10 [(0, .ref v0), (1, .int v1), (2, .int v2), (3, .int v3), (4, .int v4), (5, .int v5), (6, .int v6), (7, .int v7)] → GG D κ A S H → va_S A s.heap H locs → J_X6_customers_165 C47 Q v0 v1 v2 v3 v4 v5 v6 v7 S → W p l e ({ frames := 2, cells := 0, slots := 0, locals := 96 } : Room) s m ([.ref a0, .int x1, .int x2, .int x3] : List Value).toArray below meth c H locs 0 0 (MQ below (va_Qi Q (BG D κ A) A) ([.ref a0, .int x1, .int x2, .int x3] : List Value).toArray s 0 0 A) (F0 m 165 ls []) := by
    intro C47 hC47 v0 v1 v2 v3 v4 v5 v6 v7 S ls H locs hl hG hS h
    unfold J_X6_customers_165 at h
    obtain ⟨y1, ey1⟩ : ∃ z, z = v7 + (1 : Int32) := ⟨_, rfl⟩
    replace h := h y1 ey1
    refine lv_iinc (v := y1) (lv' := [(7, .int y1), (0, .ref v0), (1, .int v1), (2, .int v2), (3, .int v3), (4, .int v4), (5, .int v5), (6, .int v6)]) hx hb dX6_customers_165 hl (k := 7) rfl (by rw [ey1]; rfl) (by decide) rfl (fun ls hl => ?_)
    refine lv_goto (tgt := 47) hx hb dX6_customers_168 rfl ?_
    exact hC47 v0 v1 v2 v3 v4 v5 v6 y1 S ls _ _ (lv_sub hl [1, 2, 3, 4, 5, 6, 7, 0] rfl) hG hS h
  have k_87 : ∀ (C47 : Nat × Int32 × Int32 × Int32 × Int32 × Int32 × Int32 × Int32 × Hp → Prop) (hC47 : ∀ (v0 : Nat) (v1 : Int32) (v2 : Int32) (v3 : Int32) (v4 : Int32) (v5 : Int32) (v6 : Int32) (v7 : Int32) (S : Hp) (ls : Array Slot) (H : Heap) (locs : List Loc), lv_has ls 10 [(0, .ref v0), (1, .int v1), (2, .int v2), (3, .int v3), (4, .int v4), (5, .int v5), (6, .int v6), (7, .int v7)] → GG D κ A S H → va_S A s.heap H locs → C47 (v0, v1, v2, v3, v4, v5, v6, v7, S) → W p l e ({ frames := 2, cells := 0, slots := 0, locals := 96 } : Room) s m ([.ref a0, .int x1, .int x2, .int x3] : List Value).toArray below meth c H locs 0 0 (MQ below (va_Qi Q (BG D κ A) A) ([.ref a0, .int x1, .int x2, .int x3] : List Value).toArray s 0 0 A) (F0 m 47 ls [])) (n : Nat), ∀ (v0 : Nat) (v1 : Int32) (v2 : Int32) (v3 : Int32) (v4 : Int32) (v5 : Int32) (v6 : Int32) (v7 : Int32) (v8 : Int32) (v9 : Int32) (S : Hp) (ls : Array Slot) (H : Heap) (locs : List Loc), lv_has ls 10 [(0, .ref v0), (1, .int v1), (2, .int v2), (3, .int v3), (4, .int v4), (5, .int v5), (6, .int v6), (7, .int v7), (8, .int v8), (9, .int v9)] → GG D κ A S H → va_S A s.heap H locs → it (L_X6_customers_87 C47 Q) n (v0, v1, v2, v3, v4, v5, v6, v7, v8, v9, S) → W p l e ({ frames := 2, cells := 0, slots := 0, locals := 96 } : Room) s m ([.ref a0, .int x1, .int x2, .int x3] : List Value).toArray below meth c H locs 0 0 (MQ below (va_Qi Q (BG D κ A) A) ([.ref a0, .int x1, .int x2, .int x3] : List Value).toArray s 0 0 A) (F0 m 87 ls []) := by
    intro C47 hC47 n
    induction n with
    | zero => intro v0 v1 v2 v3 v4 v5 v6 v7 v8 v9 S ls H locs hl hG hS h; exact False.elim h
    | succ n hC87 =>
      intro v0 v1 v2 v3 v4 v5 v6 v7 v8 v9 S ls H locs hl hG hS h
      replace h : L_X6_customers_87 C47 Q (it (L_X6_customers_87 C47 Q) n) (v0, v1, v2, v3, v4, v5, v6, v7, v8, v9, S) := h
      simp only [L_X6_customers_87] at h
      refine lv_iload hx hb dX6_customers_87 (lv_at hl 9 rfl) ?_
      refine lv_aload_n hx hb dX6_customers_89 rfl (lv_at hl 0 rfl) ?_
      have hk := h.1
      replace h := h.2
      refine gg_get (ci := 6) (C := RX6) (T := TX6) (N := 32) hx hb hts (fun _ h => List.mem_cons_of_mem _ (List.mem_append_right _ (h))) hown hK hG (kc_7 hk) rfl 0 (by decide) (hts (.fieldLink RX6 57 "FourStonesModel" "stones" "I") (List.mem_of_getElem? (i := 1) rfl)) (fun _ h9 => h9) rfl dX6_customers_90 ?_
      refine gc_i (va_runS (As := [.int (gI S 70 v0)]) (rest := [.int v9]) ⟨hx, hb, hml, hown, hts⟩ (c_X6_power l D κ A S (gI S 70 v0) _ h) (va_cwS 1 hts gX6_customers_X6_power rfl rfl rfl (by decide +kernel) ⟨Nat.le_of_ble_eq_true rfl, Nat.le_of_ble_eq_true rfl⟩) (pg_S hK hX hG (pg_A hA hS)) rfl rfl hl.1 rfl (lv_room (Nat.le_of_ble_eq_true rfl)) dX6_customers_93 ⟨Nat.le_of_ble_eq_true rfl, Nat.le_of_ble_eq_true rfl⟩) hS (fun z3 S2 H locs1 h hG hS => ?_)
      refine lv_icmp_ge (tgt := 165) hx hb dX6_customers_96 rfl (fun hc => ?_) (fun hc => ?_)
      · replace h := h.1 hc
        exact j_165 _ hC47 v0 v1 v2 v3 v4 v5 v6 v7 S2 ls _ _ (lv_sub hl [0, 1, 2, 3, 4, 5, 6, 7] rfl) hG hS h
      · replace h := h.2 hc
        refine lv_aload_n hx hb dX6_customers_99 rfl (lv_at hl 0 rfl) ?_
        refine lv_iload hx hb dX6_customers_100 (lv_at hl 9 rfl) ?_
        have hk := h.1
        replace h := h.2
        refine gc_v (va_runV (As := [.int v9]) (rest := []) ⟨hx, hb, hml, hown, hts⟩ (c_X6_look l D κ A S2 v0 v9 _ h) (cwV 1 hts gX6_customers_X6_look rfl rfl rfl (by decide +kernel) ⟨Nat.le_of_ble_eq_true rfl, Nat.le_of_ble_eq_true rfl⟩) (pg_V (q := (RX6, TX6, 32)) hK hX hG (pg_A hA hS) (kc_7 hk) rfl) rfl rfl hl.1 rfl (lv_room (Nat.le_of_ble_eq_true rfl)) dX6_customers_102 ⟨Nat.le_of_ble_eq_true rfl, Nat.le_of_ble_eq_true rfl⟩) hS (fun S5 H locs4 h hG hS => ?_)
        refine lv_aload_n hx hb dX6_customers_105 rfl (lv_at hl 0 rfl) ?_
        have hk := h.1
        replace h := h.2
        refine gg_get (ci := 6) (C := RX6) (T := TX6) (N := 32) hx hb hts (fun _ h => List.mem_cons_of_mem _ (List.mem_append_right _ (h))) hown hK hG (kc_7 hk) rfl 7 (by decide) (hts (.fieldLink RX6 80 "FourStonesModel" "right" "I") (List.mem_of_getElem? (i := 2) rfl)) (fun _ h9 => h9) rfl dX6_customers_106 ?_
        refine lv_aload_n hx hb dX6_customers_109 rfl (lv_at hl 0 rfl) ?_
        have hk := h.1
        replace h := h.2
        refine gg_get (ci := 6) (C := RX6) (T := TX6) (N := 32) hx hb hts (fun _ h => List.mem_cons_of_mem _ (List.mem_append_right _ (h))) hown hK hG (kc_7 hk) rfl 8 (by decide) (hts (.fieldLink RX6 83 "FourStonesModel" "left" "I") (List.mem_of_getElem? (i := 3) rfl)) (fun _ h9 => h9) rfl dX6_customers_110 ?_
        refine lv_isub hx hb dX6_customers_113 ?_
        refine lv_iload_n hx hb dX6_customers_114 rfl (lv_at hl 2 rfl) ?_
        refine lv_icmp_ne (tgt := 159) hx hb dX6_customers_115 rfl (fun hc => ?_) (fun hc => ?_)
        · replace h := h.1 hc
          exact j_159 _ hC47 _ hC87 v0 v1 v2 v3 v4 v5 v6 v7 v8 v9 S5 ls _ _ (lv_sub hl [0, 1, 2, 3, 4, 5, 6, 7, 8, 9] rfl) hG hS h
        · replace h := h.2 hc
          refine lv_aload_n hx hb dX6_customers_118 rfl (lv_at hl 0 rfl) ?_
          have hk := h.1
          replace h := h.2
          refine gg_get (ci := 6) (C := RX6) (T := TX6) (N := 32) hx hb hts (fun _ h => List.mem_cons_of_mem _ (List.mem_append_right _ (h))) hown hK hG (kc_7 hk) rfl 12 (by decide) (hts (.fieldLink RX6 95 "FourStonesModel" "used" "I") (List.mem_of_getElem? (i := 4) rfl)) (fun _ h9 => h9) rfl dX6_customers_119 ?_
          refine lv_iload hx hb dX6_customers_122 (lv_at hl 8 rfl) ?_
          refine lv_iand hx hb dX6_customers_124 ?_
          refine lv_if_ne (tgt := 159) hx hb dX6_customers_125 rfl (fun hc => ?_) (fun hc => ?_)
          · replace h := h.1 hc
            exact j_159 _ hC47 _ hC87 v0 v1 v2 v3 v4 v5 v6 v7 v8 v9 S5 ls _ _ (lv_sub hl [0, 1, 2, 3, 4, 5, 6, 7, 8, 9] rfl) hG hS h
          · replace h := h.2 hc
            refine lv_iload hx hb dX6_customers_128 (lv_at hl 4 rfl) ?_
            refine lv_if_ne (tgt := 138) hx hb dX6_customers_130 rfl (fun hc => ?_) (fun hc => ?_)
            · replace h := h.1 hc
              refine lv_iload hx hb dX6_customers_138 (lv_at hl 5 rfl) ?_
              exact j_140 _ hC47 _ hC87 v0 v1 v2 v3 v4 v6 v7 v8 v9 v5 S5 ls _ _ (lv_sub hl [0, 1, 2, 3, 4, 6, 7, 8, 9] rfl) hG hS h
            · replace h := h.2 hc
              refine lv_iload hx hb dX6_customers_133 (lv_at hl 7 rfl) ?_
              refine lv_goto (tgt := 140) hx hb dX6_customers_135 rfl ?_
              exact j_140 _ hC47 _ hC87 v0 v1 v2 v3 v4 v6 v7 v8 v9 v7 S5 ls _ _ (lv_sub hl [0, 1, 2, 3, 4, 6, 7, 8, 9] rfl) hG hS h
  have k_47 : ∀  (n : Nat), ∀ (v0 : Nat) (v1 : Int32) (v2 : Int32) (v3 : Int32) (v4 : Int32) (v5 : Int32) (v6 : Int32) (v7 : Int32) (S : Hp) (ls : Array Slot) (H : Heap) (locs : List Loc), lv_has ls 10 [(0, .ref v0), (1, .int v1), (2, .int v2), (3, .int v3), (4, .int v4), (5, .int v5), (6, .int v6), (7, .int v7)] → GG D κ A S H → va_S A s.heap H locs → it (L_X6_customers_47  Q) n (v0, v1, v2, v3, v4, v5, v6, v7, S) → W p l e ({ frames := 2, cells := 0, slots := 0, locals := 96 } : Room) s m ([.ref a0, .int x1, .int x2, .int x3] : List Value).toArray below meth c H locs 0 0 (MQ below (va_Qi Q (BG D κ A) A) ([.ref a0, .int x1, .int x2, .int x3] : List Value).toArray s 0 0 A) (F0 m 47 ls []) := by
    intro  n
    induction n with
    | zero => intro v0 v1 v2 v3 v4 v5 v6 v7 S ls H locs hl hG hS h; exact False.elim h
    | succ n hC47 =>
      intro v0 v1 v2 v3 v4 v5 v6 v7 S ls H locs hl hG hS h
      replace h : L_X6_customers_47  Q (it (L_X6_customers_47  Q) n) (v0, v1, v2, v3, v4, v5, v6, v7, S) := h
      simp only [L_X6_customers_47] at h
      refine lv_iload hx hb dX6_customers_47 (lv_at hl 7 rfl) ?_
      refine lv_aload_n hx hb dX6_customers_49 rfl (lv_at hl 0 rfl) ?_
      have hk := h.1
      replace h := h.2
      refine gg_get (ci := 6) (C := RX6) (T := TX6) (N := 32) hx hb hts (fun _ h => List.mem_cons_of_mem _ (List.mem_append_right _ (h))) hown hK hG (kc_7 hk) rfl 0 (by decide) (hts (.fieldLink RX6 57 "FourStonesModel" "stones" "I") (List.mem_of_getElem? (i := 1) rfl)) (fun _ h9 => h9) rfl dX6_customers_50 ?_
      refine gc_i (va_runS (As := [.int (gI S 70 v0)]) (rest := [.int v7]) ⟨hx, hb, hml, hown, hts⟩ (c_X6_power l D κ A S (gI S 70 v0) _ h) (va_cwS 1 hts gX6_customers_X6_power rfl rfl rfl (by decide +kernel) ⟨Nat.le_of_ble_eq_true rfl, Nat.le_of_ble_eq_true rfl⟩) (pg_S hK hX hG (pg_A hA hS)) rfl rfl hl.1 rfl (lv_room (Nat.le_of_ble_eq_true rfl)) dX6_customers_53 ⟨Nat.le_of_ble_eq_true rfl, Nat.le_of_ble_eq_true rfl⟩) hS (fun z3 S2 H locs1 h hG hS => ?_)
      refine lv_icmp_ge (tgt := 171) hx hb dX6_customers_56 rfl (fun hc => ?_) (fun hc => ?_)
      · replace h := h.1 hc
        refine lv_iload_n hx hb dX6_customers_171 rfl (lv_at hl 3 rfl) ?_
        refine lv_if_ne (tgt := 180) hx hb dX6_customers_172 rfl (fun hc => ?_) (fun hc => ?_)
        · replace h := h.1 hc
          refine lv_iload_n hx hb dX6_customers_180 rfl (lv_at hl 3 rfl) ?_
          refine lv_iconst (v := (1 : Int32)) hx hb dX6_customers_181 (by decide) ?_
          refine lv_icmp_ne (tgt := 190) hx hb dX6_customers_182 rfl (fun hc => ?_) (fun hc => ?_)
          · replace h := h.1 hc
            refine lv_iload hx hb dX6_customers_190 (lv_at hl 6 rfl) ?_
            exact W.iret hx hb hr (gr_i h hG hK hX hS) hS.2.2 dX6_customers_192
          · replace h := h.2 hc
            refine lv_iload hx hb dX6_customers_185 (lv_at hl 5 rfl) ?_
            refine lv_goto (tgt := 192) hx hb dX6_customers_187 rfl ?_
            exact W.iret hx hb hr (gr_i h hG hK hX hS) hS.2.2 dX6_customers_192
        · replace h := h.2 hc
          refine lv_iload hx hb dX6_customers_175 (lv_at hl 4 rfl) ?_
          refine lv_goto (tgt := 192) hx hb dX6_customers_177 rfl ?_
          exact W.iret hx hb hr (gr_i h hG hK hX hS) hS.2.2 dX6_customers_192
      · replace h := h.2 hc
        refine lv_aload_n hx hb dX6_customers_59 rfl (lv_at hl 0 rfl) ?_
        refine lv_iload hx hb dX6_customers_60 (lv_at hl 7 rfl) ?_
        have hk := h.1
        replace h := h.2
        refine gc_v (va_runV (As := [.int v7]) (rest := []) ⟨hx, hb, hml, hown, hts⟩ (c_X6_look l D κ A S2 v0 v7 _ h) (cwV 1 hts gX6_customers_X6_look rfl rfl rfl (by decide +kernel) ⟨Nat.le_of_ble_eq_true rfl, Nat.le_of_ble_eq_true rfl⟩) (pg_V (q := (RX6, TX6, 32)) hK hX hG (pg_A hA hS) (kc_7 hk) rfl) rfl rfl hl.1 rfl (lv_room (Nat.le_of_ble_eq_true rfl)) dX6_customers_62 ⟨Nat.le_of_ble_eq_true rfl, Nat.le_of_ble_eq_true rfl⟩) hS (fun S5 H locs4 h hG hS => ?_)
        refine lv_aload_n hx hb dX6_customers_65 rfl (lv_at hl 0 rfl) ?_
        have hk := h.1
        replace h := h.2
        refine gg_get (ci := 6) (C := RX6) (T := TX6) (N := 32) hx hb hts (fun _ h => List.mem_cons_of_mem _ (List.mem_append_right _ (h))) hown hK hG (kc_7 hk) rfl 7 (by decide) (hts (.fieldLink RX6 80 "FourStonesModel" "right" "I") (List.mem_of_getElem? (i := 2) rfl)) (fun _ h9 => h9) rfl dX6_customers_66 ?_
        refine lv_aload_n hx hb dX6_customers_69 rfl (lv_at hl 0 rfl) ?_
        have hk := h.1
        replace h := h.2
        refine gg_get (ci := 6) (C := RX6) (T := TX6) (N := 32) hx hb hts (fun _ h => List.mem_cons_of_mem _ (List.mem_append_right _ (h))) hown hK hG (kc_7 hk) rfl 8 (by decide) (hts (.fieldLink RX6 83 "FourStonesModel" "left" "I") (List.mem_of_getElem? (i := 3) rfl)) (fun _ h9 => h9) rfl dX6_customers_70 ?_
        refine lv_isub hx hb dX6_customers_73 ?_
        refine lv_iload_n hx hb dX6_customers_74 rfl (lv_at hl 1 rfl) ?_
        refine lv_icmp_ne (tgt := 165) hx hb dX6_customers_75 rfl (fun hc => ?_) (fun hc => ?_)
        · replace h := h.1 hc
          exact j_165 _ hC47 v0 v1 v2 v3 v4 v5 v6 v7 S5 ls _ _ (lv_sub hl [0, 1, 2, 3, 4, 5, 6, 7] rfl) hG hS h
        · replace h := h.2 hc
          refine lv_aload_n hx hb dX6_customers_78 rfl (lv_at hl 0 rfl) ?_
          have hk := h.1
          replace h := h.2
          refine gg_get (ci := 6) (C := RX6) (T := TX6) (N := 32) hx hb hts (fun _ h => List.mem_cons_of_mem _ (List.mem_append_right _ (h))) hown hK hG (kc_7 hk) rfl 12 (by decide) (hts (.fieldLink RX6 95 "FourStonesModel" "used" "I") (List.mem_of_getElem? (i := 4) rfl)) (fun _ h9 => h9) rfl dX6_customers_79 ?_
          refine lv_topi (fun y6 ey6 => ?_)
          replace h := h y6 ey6
          refine lv_istore (lv' := [(8, .int y6), (0, .ref v0), (1, .int v1), (2, .int v2), (3, .int v3), (4, .int v4), (5, .int v5), (6, .int v6), (7, .int v7)]) hx hb dX6_customers_82 hl (by decide) rfl (fun ls hl => ?_)
          refine lv_iconst (v := (0 : Int32)) hx hb dX6_customers_84 (by decide) ?_
          refine lv_istore (lv' := [(9, .int (0 : Int32)), (8, .int y6), (0, .ref v0), (1, .int v1), (2, .int v2), (3, .int v3), (4, .int v4), (5, .int v5), (6, .int v6), (7, .int v7)]) hx hb dX6_customers_85 hl (by decide) rfl (fun ls hl => ?_)
          obtain ⟨nn, h⟩ := h
          exact k_87 _ hC47 nn v0 v1 v2 v3 v4 v5 v6 v7 y6 (0 : Int32) S5 ls _ _ (lv_sub hl [2, 3, 4, 5, 6, 7, 8, 9, 1, 0] rfl) hG hS h
  refine lv_iload_n hx hb dX6_customers_0 rfl (lv_at hl 1 rfl) ?_
  refine lv_iconst (v := (1 : Int32)) hx hb dX6_customers_1 (by decide) ?_
  refine lv_sipush (v := (999 : Int32)) hx hb dX6_customers_2 (by decide) ?_
  refine gc_i (va_runS (As := [.int x1, .int (1 : Int32), .int (999 : Int32)]) (rest := []) ⟨hx, hb, hml, hown, hts⟩ (c_X6_isIn l D κ A S x1 (1 : Int32) (999 : Int32) _ h) (va_cwS 3 hts gX6_customers_X6_isIn rfl rfl rfl (by decide +kernel) ⟨Nat.le_of_ble_eq_true rfl, Nat.le_of_ble_eq_true rfl⟩) (pg_S hK hX hG (pg_A hA hS)) rfl rfl hl.1 rfl (lv_room (Nat.le_of_ble_eq_true rfl)) dX6_customers_5 ⟨Nat.le_of_ble_eq_true rfl, Nat.le_of_ble_eq_true rfl⟩) hS (fun z3 S2 H locs1 h hG hS => ?_)
  refine lv_if_eq (tgt := 31) hx hb dX6_customers_8 rfl (fun hc => ?_) (fun hc => ?_)
  · replace h := h.1 hc
    refine lv_iconst (v := (-1 : Int32)) hx hb dX6_customers_31 (by decide) ?_
    exact W.iret hx hb hr (gr_i h hG hK hX hS) hS.2.2 dX6_customers_32
  · replace h := h.2 hc
    refine lv_iload_n hx hb dX6_customers_11 rfl (lv_at hl 2 rfl) ?_
    refine lv_iconst (v := (1 : Int32)) hx hb dX6_customers_12 (by decide) ?_
    refine lv_sipush (v := (999 : Int32)) hx hb dX6_customers_13 (by decide) ?_
    refine gc_i (va_runS (As := [.int x2, .int (1 : Int32), .int (999 : Int32)]) (rest := []) ⟨hx, hb, hml, hown, hts⟩ (c_X6_isIn l D κ A S2 x2 (1 : Int32) (999 : Int32) _ h) (va_cwS 3 hts gX6_customers_X6_isIn rfl rfl rfl (by decide +kernel) ⟨Nat.le_of_ble_eq_true rfl, Nat.le_of_ble_eq_true rfl⟩) (pg_S hK hX hG (pg_A hA hS)) rfl rfl hl.1 rfl (lv_room (Nat.le_of_ble_eq_true rfl)) dX6_customers_16 ⟨Nat.le_of_ble_eq_true rfl, Nat.le_of_ble_eq_true rfl⟩) hS (fun z6 S5 H locs4 h hG hS => ?_)
    refine lv_if_eq (tgt := 31) hx hb dX6_customers_19 rfl (fun hc => ?_) (fun hc => ?_)
    · replace h := h.1 hc
      refine lv_iconst (v := (-1 : Int32)) hx hb dX6_customers_31 (by decide) ?_
      exact W.iret hx hb hr (gr_i h hG hK hX hS) hS.2.2 dX6_customers_32
    · replace h := h.2 hc
      refine lv_iload_n hx hb dX6_customers_22 rfl (lv_at hl 3 rfl) ?_
      refine lv_iconst (v := (0 : Int32)) hx hb dX6_customers_23 (by decide) ?_
      refine lv_iconst (v := (2 : Int32)) hx hb dX6_customers_24 (by decide) ?_
      refine gc_i (va_runS (As := [.int x3, .int (0 : Int32), .int (2 : Int32)]) (rest := []) ⟨hx, hb, hml, hown, hts⟩ (c_X6_isIn l D κ A S5 x3 (0 : Int32) (2 : Int32) _ h) (va_cwS 3 hts gX6_customers_X6_isIn rfl rfl rfl (by decide +kernel) ⟨Nat.le_of_ble_eq_true rfl, Nat.le_of_ble_eq_true rfl⟩) (pg_S hK hX hG (pg_A hA hS)) rfl rfl hl.1 rfl (lv_room (Nat.le_of_ble_eq_true rfl)) dX6_customers_25 ⟨Nat.le_of_ble_eq_true rfl, Nat.le_of_ble_eq_true rfl⟩) hS (fun z9 S8 H locs7 h hG hS => ?_)
      refine lv_if_ne (tgt := 33) hx hb dX6_customers_28 rfl (fun hc => ?_) (fun hc => ?_)
      · replace h := h.1 hc
        refine lv_iconst (v := (0 : Int32)) hx hb dX6_customers_33 (by decide) ?_
        refine lv_istore (lv' := [(4, .int (0 : Int32)), (0, .ref a0), (1, .int x1), (2, .int x2), (3, .int x3)]) hx hb dX6_customers_34 hl (by decide) rfl (fun ls hl => ?_)
        refine lv_bipush (v := (-4 : Int32)) hx hb dX6_customers_36 (by decide) ?_
        refine lv_istore (lv' := [(5, .int (-4 : Int32)), (4, .int (0 : Int32)), (0, .ref a0), (1, .int x1), (2, .int x2), (3, .int x3)]) hx hb dX6_customers_38 hl (by decide) rfl (fun ls hl => ?_)
        refine lv_bipush (v := (-4 : Int32)) hx hb dX6_customers_40 (by decide) ?_
        refine lv_istore (lv' := [(6, .int (-4 : Int32)), (5, .int (-4 : Int32)), (4, .int (0 : Int32)), (0, .ref a0), (1, .int x1), (2, .int x2), (3, .int x3)]) hx hb dX6_customers_42 hl (by decide) rfl (fun ls hl => ?_)
        refine lv_iconst (v := (0 : Int32)) hx hb dX6_customers_44 (by decide) ?_
        refine lv_istore (lv' := [(7, .int (0 : Int32)), (6, .int (-4 : Int32)), (5, .int (-4 : Int32)), (4, .int (0 : Int32)), (0, .ref a0), (1, .int x1), (2, .int x2), (3, .int x3)]) hx hb dX6_customers_45 hl (by decide) rfl (fun ls hl => ?_)
        obtain ⟨nn, h⟩ := h
        exact k_47  nn a0 x1 x2 x3 (0 : Int32) (-4 : Int32) (-4 : Int32) (0 : Int32) S8 ls _ _ (lv_sub hl [4, 5, 6, 7, 3, 2, 1, 0] rfl) hG hS h
      · replace h := h.2 hc
        refine lv_iconst (v := (-1 : Int32)) hx hb dX6_customers_31 (by decide) ?_
        exact W.iret hx hb hr (gr_i h hG hK hX hS) hS.2.2 dX6_customers_32
set_option maxHeartbeats 4000000 in
set_option maxRecDepth 100000 in
theorem c_X6_unknown (l : Launch) (D : va_G) (κ : Nat → ClassId) (A : Nat → Prop) (S : Hp) (a0 : Nat) (x1 : Int32) (x2 : Int32) (x3 : Int32) (Q : Int32 → Hp → Prop) (h : wp_X6_unknown a0 x1 x2 x3 S Q) : Met l yX6_unknown wsX6_unknown ({ frames := 3, cells := 0, slots := 0, locals := 144 } : Room) (PG D κ A S [.ref a0, .int x1, .int x2, .int x3]) (va_Qi Q (BG D κ A) A) 0 0 A := by
  refine Met.ofW (cc := cX6_unknown) (maxL := 11) (ret := (some .int)) (by decide) rfl ?_
  intro p e s m args below meth c s₁ B hml hv
  obtain ⟨hargs, hA, hG, hK, hX⟩ := hv
  have hx := B.exec
  have hb := B.bytes
  have hr := B.returns
  have hts := atoms_spec (ws := wsX6_unknown) B.pre
  have hown : s.vm.findClass RX6 = some m.cls := findClass_of_methodNamed B.named
  have hlocks := B.notSynchronized
  subst hargs
  clear B
  have hS : va_S A s.heap s.heap [] := va_S.rf
  have hl := lv_entry ([.ref a0, .int x1, .int x2, .int x3]) (n := 11) (Nat.le_of_ble_eq_true rfl)
  rw [lg_entry_eq]
  generalize (lg_sl ([.ref a0, .int x1, .int x2, .int x3]) ++ List.replicate (11 - (lg_sl ([.ref a0, .int x1, .int x2, .int x3])).length) Slot.unset).toArray = ls at hl ⊢
  have hl : lv_has ls 11 [(0, .ref a0), (1, .int x1), (2, .int x2), (3, .int x3)] := hl
  have hG : GG D κ A S s.heap := hG
  have j_232 : ∀ (C148 : Nat × Int32 × Int32 × Int32 × Int32 × Int32 × Int32 × Int32 × Hp → Prop) (hC148 : ∀ (v0 : Nat) (v1 : Int32) (v2 : Int32) (v3 : Int32) (v5 : Int32) (v6 : Int32) (v7 : Int32) (v8 : Int32) (S : Hp) (ls : Array Slot) (H : Heap) (locs : List Loc), lv_has ls 11 [(0, .ref v0), (1, .int v1), (2, .int v2), (3, .int v3), (5, .int v5), (6, .int v6), (7, .int v7), (8, .int v8)] → GG D κ A S H → va_S A s.heap H locs → C148 (v0, v1, v2, v3, v5, v6, v7, v8, S) → W p l e ({ frames := 3, cells := 0, slots := 0, locals := 144 } : Room) s m ([.ref a0, .int x1, .int x2, .int x3] : List Value).toArray below meth c H locs 0 0 (MQ below (va_Qi Q (BG D κ A) A) ([.ref a0, .int x1, .int x2, .int x3] : List Value).toArray s 0 0 A) (F0 m 148 ls [])) (C169 : Nat × Int32 × Int32 × Int32 × Int32 × Int32 × Int32 × Int32 × Int32 × Int32 × Hp → Prop) (hC169 : ∀ (v0 : Nat) (v1 : Int32) (v2 : Int32) (v3 : Int32) (v5 : Int32) (v6 : Int32) (v7 : Int32) (v8 : Int32) (v9 : Int32) (v10 : Int32) (S : Hp) (ls : Array Slot) (H : Heap) (locs : List Loc), lv_has ls 11 [(0, .ref v0), (1, .int v1), (2, .int v2), (3, .int v3), (5, .int v5), (6, .int v6), (7, .int v7), (8, .int v8), (9, .int v9), (10, .int v10)] → GG D κ A S H → va_S A s.heap H locs → C169 (v0, v1, v2, v3, v5, v6, v7, v8, v9, v10, S) → W p l e ({ frames := 3, cells := 0, slots := 0, locals := 144 } : Room) s m ([.ref a0, .int x1, .int x2, .int x3] : List Value).toArray below meth c H locs 0 0 (MQ below (va_Qi Q (BG D κ A) A) ([.ref a0, .int x1, .int x2, .int x3] : List Value).toArray s 0 0 A) (F0 m 169 ls [])) (v0 : Nat) (v1 : Int32) (v2 : Int32) (v3 : Int32) (v5 : Int32) (v6 : Int32) (v7 : Int32) (v8 : Int32) (v10 : Int32) (w0 : Int32) (S : Hp) (ls : Array Slot) (H : Heap) (locs : List Loc), lv_has ls 11 [(0, .ref v0), (1, .int v1), (2, .int v2), (3, .int v3), (5, .int v5), (6, .int v6), (7, .int v7), (8, .int v8), (10, .int v10)] → GG D κ A S H → va_S A s.heap H locs → J_X6_unknown_232 C148 C169 Q v0 v1 v2 v3 v5 v6 v7 v8 v10 w0 S → W p l e ({ frames := 3, cells := 0, slots := 0, locals := 144 } : Room) s m ([.ref a0, .int x1, .int x2, .int x3] : List Value).toArray below meth c H locs 0 0 (MQ below (va_Qi Q (BG D κ A) A) ([.ref a0, .int x1, .int x2, .int x3] : List Value).toArray s 0 0 A) (F0 m 232 ls [.int w0]) := by
    intro C148 hC148 C169 hC169 v0 v1 v2 v3 v5 v6 v7 v8 v10 w0 S ls H locs hl hG hS h
    unfold J_X6_unknown_232 at h
    refine lv_istore (lv' := [(9, .int w0), (0, .ref v0), (1, .int v1), (2, .int v2), (3, .int v3), (5, .int v5), (6, .int v6), (7, .int v7), (8, .int v8), (10, .int v10)]) hx hb dX6_unknown_232 hl (by decide) rfl (fun ls hl => ?_)
    obtain ⟨y1, ey1⟩ : ∃ z, z = v10 + (2 : Int32) := ⟨_, rfl⟩
    replace h := h y1 ey1
    refine lv_iinc (v := y1) (lv' := [(10, .int y1), (9, .int w0), (0, .ref v0), (1, .int v1), (2, .int v2), (3, .int v3), (5, .int v5), (6, .int v6), (7, .int v7), (8, .int v8)]) hx hb dX6_unknown_234 hl (k := 9) rfl (by rw [ey1]; rfl) (by decide) rfl (fun ls hl => ?_)
    refine lv_goto (tgt := 169) hx hb dX6_unknown_237 rfl ?_
    exact hC169 v0 v1 v2 v3 v5 v6 v7 v8 w0 y1 S ls _ _ (lv_sub hl [2, 3, 4, 5, 6, 7, 8, 9, 1, 0] rfl) hG hS h
  have j_231 : ∀ (C148 : Nat × Int32 × Int32 × Int32 × Int32 × Int32 × Int32 × Int32 × Hp → Prop) (hC148 : ∀ (v0 : Nat) (v1 : Int32) (v2 : Int32) (v3 : Int32) (v5 : Int32) (v6 : Int32) (v7 : Int32) (v8 : Int32) (S : Hp) (ls : Array Slot) (H : Heap) (locs : List Loc), lv_has ls 11 [(0, .ref v0), (1, .int v1), (2, .int v2), (3, .int v3), (5, .int v5), (6, .int v6), (7, .int v7), (8, .int v8)] → GG D κ A S H → va_S A s.heap H locs → C148 (v0, v1, v2, v3, v5, v6, v7, v8, S) → W p l e ({ frames := 3, cells := 0, slots := 0, locals := 144 } : Room) s m ([.ref a0, .int x1, .int x2, .int x3] : List Value).toArray below meth c H locs 0 0 (MQ below (va_Qi Q (BG D κ A) A) ([.ref a0, .int x1, .int x2, .int x3] : List Value).toArray s 0 0 A) (F0 m 148 ls [])) (C169 : Nat × Int32 × Int32 × Int32 × Int32 × Int32 × Int32 × Int32 × Int32 × Int32 × Hp → Prop) (hC169 : ∀ (v0 : Nat) (v1 : Int32) (v2 : Int32) (v3 : Int32) (v5 : Int32) (v6 : Int32) (v7 : Int32) (v8 : Int32) (v9 : Int32) (v10 : Int32) (S : Hp) (ls : Array Slot) (H : Heap) (locs : List Loc), lv_has ls 11 [(0, .ref v0), (1, .int v1), (2, .int v2), (3, .int v3), (5, .int v5), (6, .int v6), (7, .int v7), (8, .int v8), (9, .int v9), (10, .int v10)] → GG D κ A S H → va_S A s.heap H locs → C169 (v0, v1, v2, v3, v5, v6, v7, v8, v9, v10, S) → W p l e ({ frames := 3, cells := 0, slots := 0, locals := 144 } : Room) s m ([.ref a0, .int x1, .int x2, .int x3] : List Value).toArray below meth c H locs 0 0 (MQ below (va_Qi Q (BG D κ A) A) ([.ref a0, .int x1, .int x2, .int x3] : List Value).toArray s 0 0 A) (F0 m 169 ls [])) (v0 : Nat) (v1 : Int32) (v2 : Int32) (v3 : Int32) (v5 : Int32) (v6 : Int32) (v7 : Int32) (v8 : Int32) (v10 : Int32) (S : Hp) (ls : Array Slot) (H : Heap) (locs : List Loc), lv_has ls 11 [(0, .ref v0), (1, .int v1), (2, .int v2), (3, .int v3), (5, .int v5), (6, .int v6), (7, .int v7), (8, .int v8), (10, .int v10)] → GG D κ A S H → va_S A s.heap H locs → J_X6_unknown_231 C148 C169 Q v0 v1 v2 v3 v5 v6 v7 v8 v10 S → W p l e ({ frames := 3, cells := 0, slots := 0, locals := 144 } : Room) s m ([.ref a0, .int x1, .int x2, .int x3] : List Value).toArray below meth c H locs 0 0 (MQ below (va_Qi Q (BG D κ A) A) ([.ref a0, .int x1, .int x2, .int x3] : List Value).toArray s 0 0 A) (F0 m 231 ls []) := by
    intro C148 hC148 C169 hC169 v0 v1 v2 v3 v5 v6 v7 v8 v10 S ls H locs hl hG hS h
    unfold J_X6_unknown_231 at h
    refine lv_iconst (v := (0 : Int32)) hx hb dX6_unknown_231 (by decide) ?_
    exact j_232 _ hC148 _ hC169 v0 v1 v2 v3 v5 v6 v7 v8 v10 (0 : Int32) S ls _ _ (lv_sub hl [0, 1, 2, 3, 4, 5, 6, 7, 8] rfl) hG hS h
  have j_262 : ∀ (C148 : Nat × Int32 × Int32 × Int32 × Int32 × Int32 × Int32 × Int32 × Hp → Prop) (hC148 : ∀ (v0 : Nat) (v1 : Int32) (v2 : Int32) (v3 : Int32) (v5 : Int32) (v6 : Int32) (v7 : Int32) (v8 : Int32) (S : Hp) (ls : Array Slot) (H : Heap) (locs : List Loc), lv_has ls 11 [(0, .ref v0), (1, .int v1), (2, .int v2), (3, .int v3), (5, .int v5), (6, .int v6), (7, .int v7), (8, .int v8)] → GG D κ A S H → va_S A s.heap H locs → C148 (v0, v1, v2, v3, v5, v6, v7, v8, S) → W p l e ({ frames := 3, cells := 0, slots := 0, locals := 144 } : Room) s m ([.ref a0, .int x1, .int x2, .int x3] : List Value).toArray below meth c H locs 0 0 (MQ below (va_Qi Q (BG D κ A) A) ([.ref a0, .int x1, .int x2, .int x3] : List Value).toArray s 0 0 A) (F0 m 148 ls [])) (v0 : Nat) (v1 : Int32) (v2 : Int32) (v3 : Int32) (v5 : Int32) (v6 : Int32) (v7 : Int32) (v8 : Int32) (S : Hp) (ls : Array Slot) (H : Heap) (locs : List Loc), lv_has ls 11 [(0, .ref v0), (1, .int v1), (2, .int v2), (3, .int v3), (5, .int v5), (6, .int v6), (7, .int v7), (8, .int v8)] → GG D κ A S H → va_S A s.heap H locs → J_X6_unknown_262 C148 Q v0 v1 v2 v3 v5 v6 v7 v8 S → W p l e ({ frames := 3, cells := 0, slots := 0, locals := 144 } : Room) s m ([.ref a0, .int x1, .int x2, .int x3] : List Value).toArray below meth c H locs 0 0 (MQ below (va_Qi Q (BG D κ A) A) ([.ref a0, .int x1, .int x2, .int x3] : List Value).toArray s 0 0 A) (F0 m 262 ls []) := by
    intro C148 hC148 v0 v1 v2 v3 v5 v6 v7 v8 S ls H locs hl hG hS h
    unfold J_X6_unknown_262 at h
    obtain ⟨y1, ey1⟩ : ∃ z, z = v8 + (1 : Int32) := ⟨_, rfl⟩
    replace h := h y1 ey1
    refine lv_iinc (v := y1) (lv' := [(8, .int y1), (0, .ref v0), (1, .int v1), (2, .int v2), (3, .int v3), (5, .int v5), (6, .int v6), (7, .int v7)]) hx hb dX6_unknown_262 hl (k := 7) rfl (by rw [ey1]; rfl) (by decide) rfl (fun ls hl => ?_)
    refine lv_goto (tgt := 148) hx hb dX6_unknown_265 rfl ?_
    exact hC148 v0 v1 v2 v3 v5 v6 v7 y1 S ls _ _ (lv_sub hl [1, 2, 3, 4, 5, 6, 7, 0] rfl) hG hS h
  have j_257 : ∀ (C148 : Nat × Int32 × Int32 × Int32 × Int32 × Int32 × Int32 × Int32 × Hp → Prop) (hC148 : ∀ (v0 : Nat) (v1 : Int32) (v2 : Int32) (v3 : Int32) (v5 : Int32) (v6 : Int32) (v7 : Int32) (v8 : Int32) (S : Hp) (ls : Array Slot) (H : Heap) (locs : List Loc), lv_has ls 11 [(0, .ref v0), (1, .int v1), (2, .int v2), (3, .int v3), (5, .int v5), (6, .int v6), (7, .int v7), (8, .int v8)] → GG D κ A S H → va_S A s.heap H locs → C148 (v0, v1, v2, v3, v5, v6, v7, v8, S) → W p l e ({ frames := 3, cells := 0, slots := 0, locals := 144 } : Room) s m ([.ref a0, .int x1, .int x2, .int x3] : List Value).toArray below meth c H locs 0 0 (MQ below (va_Qi Q (BG D κ A) A) ([.ref a0, .int x1, .int x2, .int x3] : List Value).toArray s 0 0 A) (F0 m 148 ls [])) (v0 : Nat) (v1 : Int32) (v2 : Int32) (v3 : Int32) (v5 : Int32) (v6 : Int32) (v8 : Int32) (w0 : Int32) (S : Hp) (ls : Array Slot) (H : Heap) (locs : List Loc), lv_has ls 11 [(0, .ref v0), (1, .int v1), (2, .int v2), (3, .int v3), (5, .int v5), (6, .int v6), (8, .int v8)] → GG D κ A S H → va_S A s.heap H locs → J_X6_unknown_257 C148 Q v0 v1 v2 v3 v5 v6 v8 w0 S → W p l e ({ frames := 3, cells := 0, slots := 0, locals := 144 } : Room) s m ([.ref a0, .int x1, .int x2, .int x3] : List Value).toArray below meth c H locs 0 0 (MQ below (va_Qi Q (BG D κ A) A) ([.ref a0, .int x1, .int x2, .int x3] : List Value).toArray s 0 0 A) (F0 m 257 ls [.int w0]) := by
    intro C148 hC148 v0 v1 v2 v3 v5 v6 v8 w0 S ls H locs hl hG hS h
    unfold J_X6_unknown_257 at h
    refine lv_istore (lv' := [(7, .int w0), (0, .ref v0), (1, .int v1), (2, .int v2), (3, .int v3), (5, .int v5), (6, .int v6), (8, .int v8)]) hx hb dX6_unknown_257 hl (by decide) rfl (fun ls hl => ?_)
    obtain ⟨y1, ey1⟩ : ∃ z, z = v6 + (1 : Int32) := ⟨_, rfl⟩
    replace h := h y1 ey1
    refine lv_iinc (v := y1) (lv' := [(6, .int y1), (7, .int w0), (0, .ref v0), (1, .int v1), (2, .int v2), (3, .int v3), (5, .int v5), (8, .int v8)]) hx hb dX6_unknown_259 hl (k := 6) rfl (by rw [ey1]; rfl) (by decide) rfl (fun ls hl => ?_)
    exact j_262 _ hC148 v0 v1 v2 v3 v5 y1 w0 v8 S ls _ _ (lv_sub hl [2, 3, 4, 5, 6, 0, 1, 7] rfl) hG hS h
  have k_169 : ∀ (C148 : Nat × Int32 × Int32 × Int32 × Int32 × Int32 × Int32 × Int32 × Hp → Prop) (hC148 : ∀ (v0 : Nat) (v1 : Int32) (v2 : Int32) (v3 : Int32) (v5 : Int32) (v6 : Int32) (v7 : Int32) (v8 : Int32) (S : Hp) (ls : Array Slot) (H : Heap) (locs : List Loc), lv_has ls 11 [(0, .ref v0), (1, .int v1), (2, .int v2), (3, .int v3), (5, .int v5), (6, .int v6), (7, .int v7), (8, .int v8)] → GG D κ A S H → va_S A s.heap H locs → C148 (v0, v1, v2, v3, v5, v6, v7, v8, S) → W p l e ({ frames := 3, cells := 0, slots := 0, locals := 144 } : Room) s m ([.ref a0, .int x1, .int x2, .int x3] : List Value).toArray below meth c H locs 0 0 (MQ below (va_Qi Q (BG D κ A) A) ([.ref a0, .int x1, .int x2, .int x3] : List Value).toArray s 0 0 A) (F0 m 148 ls [])) (n : Nat), ∀ (v0 : Nat) (v1 : Int32) (v2 : Int32) (v3 : Int32) (v5 : Int32) (v6 : Int32) (v7 : Int32) (v8 : Int32) (v9 : Int32) (v10 : Int32) (S : Hp) (ls : Array Slot) (H : Heap) (locs : List Loc), lv_has ls 11 [(0, .ref v0), (1, .int v1), (2, .int v2), (3, .int v3), (5, .int v5), (6, .int v6), (7, .int v7), (8, .int v8), (9, .int v9), (10, .int v10)] → GG D κ A S H → va_S A s.heap H locs → it (L_X6_unknown_169 C148 Q) n (v0, v1, v2, v3, v5, v6, v7, v8, v9, v10, S) → W p l e ({ frames := 3, cells := 0, slots := 0, locals := 144 } : Room) s m ([.ref a0, .int x1, .int x2, .int x3] : List Value).toArray below meth c H locs 0 0 (MQ below (va_Qi Q (BG D κ A) A) ([.ref a0, .int x1, .int x2, .int x3] : List Value).toArray s 0 0 A) (F0 m 169 ls []) := by
    intro C148 hC148 n
    induction n with
    | zero => intro v0 v1 v2 v3 v5 v6 v7 v8 v9 v10 S ls H locs hl hG hS h; exact False.elim h
    | succ n hC169 =>
      intro v0 v1 v2 v3 v5 v6 v7 v8 v9 v10 S ls H locs hl hG hS h
      replace h : L_X6_unknown_169 C148 Q (it (L_X6_unknown_169 C148 Q) n) (v0, v1, v2, v3, v5, v6, v7, v8, v9, v10, S) := h
      simp only [L_X6_unknown_169] at h
      refine lv_iload hx hb dX6_unknown_169 (lv_at hl 9 rfl) ?_
      refine lv_aload_n hx hb dX6_unknown_171 rfl (lv_at hl 0 rfl) ?_
      have hk := h.1
      replace h := h.2
      obtain ⟨r1, hr1, h⟩ := h
      refine gg_get (v := .ref r1) (ci := 6) (C := RX6) (T := TX6) (N := 32) hx hb hts (fun _ h => List.mem_cons_of_mem _ (List.mem_append_right _ (h))) hown hK hG (kc_7 hk) rfl 28 (by decide) (hts (.fieldLink RX6 44 "FourStonesModel" "size" "[I") (List.mem_of_getElem? (i := 3) rfl)) (fun _ h9 => h9) (congrArg (fun z => some (va_rf z)) hr1) dX6_unknown_172 ?_
      refine lv_iload_n hx hb dX6_unknown_175 rfl (lv_at hl 2 rfl) ?_
      have hk := h.1
      replace h := h.2
      have hi := h.1
      replace h := h.2
      refine gg_iald hx hb hK hG hk hi dX6_unknown_176 ?_
      refine lv_icmp_ge (tgt := 240) hx hb dX6_unknown_177 rfl (fun hc => ?_) (fun hc => ?_)
      · replace h := h.1 hc
        refine lv_iload hx hb dX6_unknown_240 (lv_at hl 8 rfl) ?_
        refine lv_if_eq (tgt := 262) hx hb dX6_unknown_242 rfl (fun hc => ?_) (fun hc => ?_)
        · replace h := h.1 hc
          exact j_262 _ hC148 v0 v1 v2 v3 v5 v6 v7 v8 S ls _ _ (lv_sub hl [0, 1, 2, 3, 4, 5, 6, 7] rfl) hG hS h
        · replace h := h.2 hc
          refine lv_iload hx hb dX6_unknown_245 (lv_at hl 5 rfl) ?_
          refine lv_if_ne (tgt := 255) hx hb dX6_unknown_247 rfl (fun hc => ?_) (fun hc => ?_)
          · replace h := h.1 hc
            refine lv_iload hx hb dX6_unknown_255 (lv_at hl 6 rfl) ?_
            exact j_257 _ hC148 v0 v1 v2 v3 v5 v6 v8 v7 S ls _ _ (lv_sub hl [0, 1, 2, 3, 4, 5, 7] rfl) hG hS h
          · replace h := h.2 hc
            refine lv_iload hx hb dX6_unknown_250 (lv_at hl 7 rfl) ?_
            refine lv_goto (tgt := 257) hx hb dX6_unknown_252 rfl ?_
            exact j_257 _ hC148 v0 v1 v2 v3 v5 v6 v8 v8 S ls _ _ (lv_sub hl [0, 1, 2, 3, 4, 5, 7] rfl) hG hS h
      · replace h := h.2 hc
        refine lv_aload_n hx hb dX6_unknown_180 rfl (lv_at hl 0 rfl) ?_
        refine lv_aload_n hx hb dX6_unknown_181 rfl (lv_at hl 0 rfl) ?_
        have hk := h.1
        replace h := h.2
        obtain ⟨r2, hr2, h⟩ := h
        refine gg_get (v := .ref r2) (ci := 6) (C := RX6) (T := TX6) (N := 32) hx hb hts (fun _ h => List.mem_cons_of_mem _ (List.mem_append_right _ (h))) hown hK hG (kc_7 hk) rfl 29 (by decide) (hts (.fieldLink RX6 47 "FourStonesModel" "items" "[I") (List.mem_of_getElem? (i := 4) rfl)) (fun _ h9 => h9) (congrArg (fun z => some (va_rf z)) hr2) dX6_unknown_182 ?_
        refine lv_bipush (v := (100 : Int32)) hx hb dX6_unknown_185 (by decide) ?_
        refine lv_iload_n hx hb dX6_unknown_187 rfl (lv_at hl 2 rfl) ?_
        refine lv_imul hx hb dX6_unknown_188 ?_
        refine lv_iload hx hb dX6_unknown_189 (lv_at hl 9 rfl) ?_
        refine lv_iadd hx hb dX6_unknown_191 ?_
        have hk := h.1
        replace h := h.2
        have hi := h.1
        replace h := h.2
        refine gg_iald hx hb hK hG hk hi dX6_unknown_192 ?_
        have hk := h.1
        replace h := h.2
        refine gc_v (va_runV (As := [.int (gA S r2 ((((100 : Int32) * v2) + v10)).toNatClampNeg)]) (rest := []) ⟨hx, hb, hml, hown, hts⟩ (c_X6_look l D κ A S v0 (gA S r2 ((((100 : Int32) * v2) + v10)).toNatClampNeg) _ h) (cwV 1 hts gX6_unknown_X6_look rfl rfl rfl (by decide +kernel) ⟨Nat.le_of_ble_eq_true rfl, Nat.le_of_ble_eq_true rfl⟩) (pg_V (q := (RX6, TX6, 32)) hK hX hG (pg_A hA hS) (kc_7 hk) rfl) rfl rfl hl.1 rfl (lv_room (Nat.le_of_ble_eq_true rfl)) dX6_unknown_193 ⟨Nat.le_of_ble_eq_true rfl, Nat.le_of_ble_eq_true rfl⟩) hS (fun S4 H locs3 h hG hS => ?_)
        refine lv_iload hx hb dX6_unknown_196 (lv_at hl 8 rfl) ?_
        refine lv_if_eq (tgt := 231) hx hb dX6_unknown_198 rfl (fun hc => ?_) (fun hc => ?_)
        · replace h := h.1 hc
          exact j_231 _ hC148 _ hC169 v0 v1 v2 v3 v5 v6 v7 v8 v10 S4 ls _ _ (lv_sub hl [0, 1, 2, 3, 4, 5, 6, 7, 9] rfl) hG hS h
        · replace h := h.2 hc
          refine lv_aload_n hx hb dX6_unknown_201 rfl (lv_at hl 0 rfl) ?_
          have hk := h.1
          replace h := h.2
          refine gg_get (ci := 6) (C := RX6) (T := TX6) (N := 32) hx hb hts (fun _ h => List.mem_cons_of_mem _ (List.mem_append_right _ (h))) hown hK hG (kc_7 hk) rfl 7 (by decide) (hts (.fieldLink RX6 80 "FourStonesModel" "right" "I") (List.mem_of_getElem? (i := 6) rfl)) (fun _ h9 => h9) rfl dX6_unknown_202 ?_
          refine lv_aload_n hx hb dX6_unknown_205 rfl (lv_at hl 0 rfl) ?_
          have hk := h.1
          replace h := h.2
          refine gg_get (ci := 6) (C := RX6) (T := TX6) (N := 32) hx hb hts (fun _ h => List.mem_cons_of_mem _ (List.mem_append_right _ (h))) hown hK hG (kc_7 hk) rfl 8 (by decide) (hts (.fieldLink RX6 83 "FourStonesModel" "left" "I") (List.mem_of_getElem? (i := 7) rfl)) (fun _ h9 => h9) rfl dX6_unknown_206 ?_
          refine lv_isub hx hb dX6_unknown_209 ?_
          refine lv_aload_n hx hb dX6_unknown_210 rfl (lv_at hl 0 rfl) ?_
          have hk := h.1
          replace h := h.2
          obtain ⟨r5, hr5, h⟩ := h
          refine gg_get (v := .ref r5) (ci := 6) (C := RX6) (T := TX6) (N := 32) hx hb hts (fun _ h => List.mem_cons_of_mem _ (List.mem_append_right _ (h))) hown hK hG (kc_7 hk) rfl 29 (by decide) (hts (.fieldLink RX6 47 "FourStonesModel" "items" "[I") (List.mem_of_getElem? (i := 4) rfl)) (fun _ h9 => h9) (congrArg (fun z => some (va_rf z)) hr5) dX6_unknown_211 ?_
          refine lv_bipush (v := (100 : Int32)) hx hb dX6_unknown_214 (by decide) ?_
          refine lv_iload_n hx hb dX6_unknown_216 rfl (lv_at hl 2 rfl) ?_
          refine lv_imul hx hb dX6_unknown_217 ?_
          refine lv_iload hx hb dX6_unknown_218 (lv_at hl 9 rfl) ?_
          refine lv_iadd hx hb dX6_unknown_220 ?_
          refine lv_iconst (v := (1 : Int32)) hx hb dX6_unknown_221 (by decide) ?_
          refine lv_iadd hx hb dX6_unknown_222 ?_
          have hk := h.1
          replace h := h.2
          have hi := h.1
          replace h := h.2
          refine gg_iald hx hb hK hG hk hi dX6_unknown_223 ?_
          refine lv_icmp_ne (tgt := 231) hx hb dX6_unknown_224 rfl (fun hc => ?_) (fun hc => ?_)
          · replace h := h.1 hc
            exact j_231 _ hC148 _ hC169 v0 v1 v2 v3 v5 v6 v7 v8 v10 S4 ls _ _ (lv_sub hl [0, 1, 2, 3, 4, 5, 6, 7, 9] rfl) hG hS h
          · replace h := h.2 hc
            refine lv_iconst (v := (1 : Int32)) hx hb dX6_unknown_227 (by decide) ?_
            refine lv_goto (tgt := 232) hx hb dX6_unknown_228 rfl ?_
            exact j_232 _ hC148 _ hC169 v0 v1 v2 v3 v5 v6 v7 v8 v10 (1 : Int32) S4 ls _ _ (lv_sub hl [0, 1, 2, 3, 4, 5, 6, 7, 9] rfl) hG hS h
  have k_148 : ∀  (n : Nat), ∀ (v0 : Nat) (v1 : Int32) (v2 : Int32) (v3 : Int32) (v5 : Int32) (v6 : Int32) (v7 : Int32) (v8 : Int32) (S : Hp) (ls : Array Slot) (H : Heap) (locs : List Loc), lv_has ls 11 [(0, .ref v0), (1, .int v1), (2, .int v2), (3, .int v3), (5, .int v5), (6, .int v6), (7, .int v7), (8, .int v8)] → GG D κ A S H → va_S A s.heap H locs → it (L_X6_unknown_148  Q) n (v0, v1, v2, v3, v5, v6, v7, v8, S) → W p l e ({ frames := 3, cells := 0, slots := 0, locals := 144 } : Room) s m ([.ref a0, .int x1, .int x2, .int x3] : List Value).toArray below meth c H locs 0 0 (MQ below (va_Qi Q (BG D κ A) A) ([.ref a0, .int x1, .int x2, .int x3] : List Value).toArray s 0 0 A) (F0 m 148 ls []) := by
    intro  n
    induction n with
    | zero => intro v0 v1 v2 v3 v5 v6 v7 v8 S ls H locs hl hG hS h; exact False.elim h
    | succ n hC148 =>
      intro v0 v1 v2 v3 v5 v6 v7 v8 S ls H locs hl hG hS h
      replace h : L_X6_unknown_148  Q (it (L_X6_unknown_148  Q) n) (v0, v1, v2, v3, v5, v6, v7, v8, S) := h
      simp only [L_X6_unknown_148] at h
      refine lv_iload hx hb dX6_unknown_148 (lv_at hl 7 rfl) ?_
      refine lv_bipush (v := (100 : Int32)) hx hb dX6_unknown_150 (by decide) ?_
      refine lv_icmp_ge (tgt := 268) hx hb dX6_unknown_152 rfl (fun hc => ?_) (fun hc => ?_)
      · replace h := h.1 hc
        refine lv_aload_n hx hb dX6_unknown_268 rfl (lv_at hl 0 rfl) ?_
        have hk := h.1
        replace h := h.2
        obtain ⟨r1, hr1, h⟩ := h
        refine gg_get (v := .ref r1) (ci := 6) (C := RX6) (T := TX6) (N := 32) hx hb hts (fun _ h => List.mem_cons_of_mem _ (List.mem_append_right _ (h))) hown hK hG (kc_7 hk) rfl 1 (by decide) (hts (.fieldLink RX6 7 "FourStonesModel" "weight" "[I") (List.mem_of_getElem? (i := 5) rfl)) (fun _ h9 => h9) (congrArg (fun z => some (va_rf z)) hr1) dX6_unknown_269 ?_
        refine lv_iload_n hx hb dX6_unknown_272 rfl (lv_at hl 1 rfl) ?_
        refine lv_iload hx hb dX6_unknown_273 (lv_at hl 4 rfl) ?_
        have hk := h.1
        replace h := h.2
        have hi := h.1
        replace h := h.2
        obtain ⟨S2, eS2⟩ : ∃ z, z = sA S r1 (v1).toNatClampNeg v5 := ⟨_, rfl⟩
        replace h := h S2 eS2
        refine gg_iast hx hb hK hG hS hk hi dX6_unknown_275 (fun H locs3 hG hS => ?_)
        rw [← eS2] at hG
        refine lv_iload_n hx hb dX6_unknown_276 rfl (lv_at hl 3 rfl) ?_
        refine lv_if_ne (tgt := 285) hx hb dX6_unknown_277 rfl (fun hc => ?_) (fun hc => ?_)
        · replace h := h.1 hc
          refine lv_iload hx hb dX6_unknown_285 (lv_at hl 6 rfl) ?_
          exact W.iret hx hb hr (gr_i h hG hK hX hS) hS.2.2 dX6_unknown_287
        · replace h := h.2 hc
          refine lv_iload hx hb dX6_unknown_280 (lv_at hl 5 rfl) ?_
          refine lv_goto (tgt := 287) hx hb dX6_unknown_282 rfl ?_
          exact W.iret hx hb hr (gr_i h hG hK hX hS) hS.2.2 dX6_unknown_287
      · replace h := h.2 hc
        refine lv_aload_n hx hb dX6_unknown_155 rfl (lv_at hl 0 rfl) ?_
        have hk := h.1
        replace h := h.2
        obtain ⟨r4, hr4, h⟩ := h
        refine gg_get (v := .ref r4) (ci := 6) (C := RX6) (T := TX6) (N := 32) hx hb hts (fun _ h => List.mem_cons_of_mem _ (List.mem_append_right _ (h))) hown hK hG (kc_7 hk) rfl 1 (by decide) (hts (.fieldLink RX6 7 "FourStonesModel" "weight" "[I") (List.mem_of_getElem? (i := 5) rfl)) (fun _ h9 => h9) (congrArg (fun z => some (va_rf z)) hr4) dX6_unknown_156 ?_
        refine lv_iload_n hx hb dX6_unknown_159 rfl (lv_at hl 1 rfl) ?_
        refine lv_iload hx hb dX6_unknown_160 (lv_at hl 7 rfl) ?_
        have hk := h.1
        replace h := h.2
        have hi := h.1
        replace h := h.2
        obtain ⟨S5, eS5⟩ : ∃ z, z = sA S r4 (v1).toNatClampNeg v8 := ⟨_, rfl⟩
        replace h := h S5 eS5
        refine gg_iast hx hb hK hG hS hk hi dX6_unknown_162 (fun H locs6 hG hS => ?_)
        rw [← eS5] at hG
        refine lv_iconst (v := (1 : Int32)) hx hb dX6_unknown_163 (by decide) ?_
        refine lv_istore (lv' := [(9, .int (1 : Int32)), (0, .ref v0), (1, .int v1), (2, .int v2), (3, .int v3), (5, .int v5), (6, .int v6), (7, .int v7), (8, .int v8)]) hx hb dX6_unknown_164 hl (by decide) rfl (fun ls hl => ?_)
        refine lv_iconst (v := (0 : Int32)) hx hb dX6_unknown_166 (by decide) ?_
        refine lv_istore (lv' := [(10, .int (0 : Int32)), (9, .int (1 : Int32)), (0, .ref v0), (1, .int v1), (2, .int v2), (3, .int v3), (5, .int v5), (6, .int v6), (7, .int v7), (8, .int v8)]) hx hb dX6_unknown_167 hl (by decide) rfl (fun ls hl => ?_)
        obtain ⟨nn, h⟩ := h
        exact k_169 _ hC148 nn v0 v1 v2 v3 v5 v6 v7 v8 (1 : Int32) (0 : Int32) S5 ls _ _ (lv_sub hl [2, 3, 4, 5, 6, 7, 8, 9, 1, 0] rfl) hG hS h
  have j_122 : ∀  (v0 : Nat) (v1 : Int32) (v2 : Int32) (v3 : Int32) (v4 : Int32) (S : Hp) (ls : Array Slot) (H : Heap) (locs : List Loc), lv_has ls 11 [(0, .ref v0), (1, .int v1), (2, .int v2), (3, .int v3), (4, .int v4)] → GG D κ A S H → va_S A s.heap H locs → J_X6_unknown_122  Q v0 v1 v2 v3 v4 S → W p l e ({ frames := 3, cells := 0, slots := 0, locals := 144 } : Room) s m ([.ref a0, .int x1, .int x2, .int x3] : List Value).toArray below meth c H locs 0 0 (MQ below (va_Qi Q (BG D κ A) A) ([.ref a0, .int x1, .int x2, .int x3] : List Value).toArray s 0 0 A) (F0 m 122 ls []) := by
    intro  v0 v1 v2 v3 v4 S ls H locs hl hG hS h
    unfold J_X6_unknown_122 at h
    refine lv_iload hx hb dX6_unknown_122 (lv_at hl 4 rfl) ?_
    refine lv_if_ne (tgt := 130) hx hb dX6_unknown_124 rfl (fun hc => ?_) (fun hc => ?_)
    · replace h := h.1 hc
      refine lv_aload_n hx hb dX6_unknown_130 rfl (lv_at hl 0 rfl) ?_
      have hk := h.1
      replace h := h.2
      obtain ⟨r1, hr1, h⟩ := h
      refine gg_get (v := .ref r1) (ci := 6) (C := RX6) (T := TX6) (N := 32) hx hb hts (fun _ h => List.mem_cons_of_mem _ (List.mem_append_right _ (h))) hown hK hG (kc_7 hk) rfl 1 (by decide) (hts (.fieldLink RX6 7 "FourStonesModel" "weight" "[I") (List.mem_of_getElem? (i := 5) rfl)) (fun _ h9 => h9) (congrArg (fun z => some (va_rf z)) hr1) dX6_unknown_131 ?_
      refine lv_iload_n hx hb dX6_unknown_134 rfl (lv_at hl 1 rfl) ?_
      have hk := h.1
      replace h := h.2
      have hi := h.1
      replace h := h.2
      refine gg_iald hx hb hK hG hk hi dX6_unknown_135 ?_
      refine lv_topi (fun y2 ey2 => ?_)
      replace h := h y2 ey2
      refine lv_istore (lv' := [(5, .int y2), (0, .ref v0), (1, .int v1), (2, .int v2), (3, .int v3), (4, .int v4)]) hx hb dX6_unknown_136 hl (by decide) rfl (fun ls hl => ?_)
      refine lv_iconst (v := (0 : Int32)) hx hb dX6_unknown_138 (by decide) ?_
      refine lv_istore (lv' := [(6, .int (0 : Int32)), (5, .int y2), (0, .ref v0), (1, .int v1), (2, .int v2), (3, .int v3), (4, .int v4)]) hx hb dX6_unknown_139 hl (by decide) rfl (fun ls hl => ?_)
      refine lv_bipush (v := (-4 : Int32)) hx hb dX6_unknown_141 (by decide) ?_
      refine lv_istore (lv' := [(7, .int (-4 : Int32)), (6, .int (0 : Int32)), (5, .int y2), (0, .ref v0), (1, .int v1), (2, .int v2), (3, .int v3), (4, .int v4)]) hx hb dX6_unknown_143 hl (by decide) rfl (fun ls hl => ?_)
      refine lv_iconst (v := (1 : Int32)) hx hb dX6_unknown_145 (by decide) ?_
      refine lv_istore (lv' := [(8, .int (1 : Int32)), (7, .int (-4 : Int32)), (6, .int (0 : Int32)), (5, .int y2), (0, .ref v0), (1, .int v1), (2, .int v2), (3, .int v3), (4, .int v4)]) hx hb dX6_unknown_146 hl (by decide) rfl (fun ls hl => ?_)
      obtain ⟨nn, h⟩ := h
      exact k_148  nn v0 v1 v2 v3 y2 (0 : Int32) (-4 : Int32) (1 : Int32) S ls _ _ (lv_sub hl [4, 5, 6, 7, 3, 2, 1, 0] rfl) hG hS h
    · replace h := h.2 hc
      refine lv_bipush (v := (-13 : Int32)) hx hb dX6_unknown_127 (by decide) ?_
      exact W.iret hx hb hr (gr_i h hG hK hX hS) hS.2.2 dX6_unknown_129
  have k_82 : ∀  (n : Nat), ∀ (v0 : Nat) (v1 : Int32) (v2 : Int32) (v3 : Int32) (v4 : Int32) (v5 : Int32) (S : Hp) (ls : Array Slot) (H : Heap) (locs : List Loc), lv_has ls 11 [(0, .ref v0), (1, .int v1), (2, .int v2), (3, .int v3), (4, .int v4), (5, .int v5)] → GG D κ A S H → va_S A s.heap H locs → it (L_X6_unknown_82  Q) n (v0, v1, v2, v3, v4, v5, S) → W p l e ({ frames := 3, cells := 0, slots := 0, locals := 144 } : Room) s m ([.ref a0, .int x1, .int x2, .int x3] : List Value).toArray below meth c H locs 0 0 (MQ below (va_Qi Q (BG D κ A) A) ([.ref a0, .int x1, .int x2, .int x3] : List Value).toArray s 0 0 A) (F0 m 82 ls []) := by
    intro  n
    induction n with
    | zero => intro v0 v1 v2 v3 v4 v5 S ls H locs hl hG hS h; exact False.elim h
    | succ n hC82 =>
      intro v0 v1 v2 v3 v4 v5 S ls H locs hl hG hS h
      replace h : L_X6_unknown_82  Q (it (L_X6_unknown_82  Q) n) (v0, v1, v2, v3, v4, v5, S) := h
      simp only [L_X6_unknown_82] at h
      refine lv_iload hx hb dX6_unknown_82 (lv_at hl 5 rfl) ?_
      refine lv_aload_n hx hb dX6_unknown_84 rfl (lv_at hl 0 rfl) ?_
      have hk := h.1
      replace h := h.2
      obtain ⟨r1, hr1, h⟩ := h
      refine gg_get (v := .ref r1) (ci := 6) (C := RX6) (T := TX6) (N := 32) hx hb hts (fun _ h => List.mem_cons_of_mem _ (List.mem_append_right _ (h))) hown hK hG (kc_7 hk) rfl 28 (by decide) (hts (.fieldLink RX6 44 "FourStonesModel" "size" "[I") (List.mem_of_getElem? (i := 3) rfl)) (fun _ h9 => h9) (congrArg (fun z => some (va_rf z)) hr1) dX6_unknown_85 ?_
      refine lv_iload_n hx hb dX6_unknown_88 rfl (lv_at hl 2 rfl) ?_
      have hk := h.1
      replace h := h.2
      have hi := h.1
      replace h := h.2
      refine gg_iald hx hb hK hG hk hi dX6_unknown_89 ?_
      refine lv_icmp_ge (tgt := 122) hx hb dX6_unknown_90 rfl (fun hc => ?_) (fun hc => ?_)
      · replace h := h.1 hc
        exact j_122  v0 v1 v2 v3 v4 S ls _ _ (lv_sub hl [0, 1, 2, 3, 4] rfl) hG hS h
      · replace h := h.2 hc
        refine lv_iload hx hb dX6_unknown_93 (lv_at hl 4 rfl) ?_
        refine lv_if_eq (tgt := 122) hx hb dX6_unknown_95 rfl (fun hc => ?_) (fun hc => ?_)
        · replace h := h.1 hc
          exact j_122  v0 v1 v2 v3 v4 S ls _ _ (lv_sub hl [0, 1, 2, 3, 4] rfl) hG hS h
        · replace h := h.2 hc
          refine lv_aload_n hx hb dX6_unknown_98 rfl (lv_at hl 0 rfl) ?_
          refine lv_aload_n hx hb dX6_unknown_99 rfl (lv_at hl 0 rfl) ?_
          have hk := h.1
          replace h := h.2
          obtain ⟨r2, hr2, h⟩ := h
          refine gg_get (v := .ref r2) (ci := 6) (C := RX6) (T := TX6) (N := 32) hx hb hts (fun _ h => List.mem_cons_of_mem _ (List.mem_append_right _ (h))) hown hK hG (kc_7 hk) rfl 29 (by decide) (hts (.fieldLink RX6 47 "FourStonesModel" "items" "[I") (List.mem_of_getElem? (i := 4) rfl)) (fun _ h9 => h9) (congrArg (fun z => some (va_rf z)) hr2) dX6_unknown_100 ?_
          refine lv_bipush (v := (100 : Int32)) hx hb dX6_unknown_103 (by decide) ?_
          refine lv_iload_n hx hb dX6_unknown_105 rfl (lv_at hl 2 rfl) ?_
          refine lv_imul hx hb dX6_unknown_106 ?_
          refine lv_iload hx hb dX6_unknown_107 (lv_at hl 5 rfl) ?_
          refine lv_iadd hx hb dX6_unknown_109 ?_
          have hk := h.1
          replace h := h.2
          have hi := h.1
          replace h := h.2
          refine gg_iald hx hb hK hG hk hi dX6_unknown_110 ?_
          have hk := h.1
          replace h := h.2
          refine gc_i (va_runV (As := [.int (gA S r2 ((((100 : Int32) * v2) + v5)).toNatClampNeg)]) (rest := []) ⟨hx, hb, hml, hown, hts⟩ (c_X6_isLying l D κ A S v0 (gA S r2 ((((100 : Int32) * v2) + v5)).toNatClampNeg) _ h) (cwV 1 hts gX6_unknown_X6_isLying rfl rfl rfl (by decide +kernel) ⟨Nat.le_of_ble_eq_true rfl, Nat.le_of_ble_eq_true rfl⟩) (pg_V (q := (RX6, TX6, 32)) hK hX hG (pg_A hA hS) (kc_7 hk) rfl) rfl rfl hl.1 rfl (lv_room (Nat.le_of_ble_eq_true rfl)) dX6_unknown_111 ⟨Nat.le_of_ble_eq_true rfl, Nat.le_of_ble_eq_true rfl⟩) hS (fun z5 S4 H locs3 h hG hS => ?_)
          refine lv_istore (lv' := [(4, .int z5), (0, .ref v0), (1, .int v1), (2, .int v2), (3, .int v3), (5, .int v5)]) hx hb dX6_unknown_114 hl (by decide) rfl (fun ls hl => ?_)
          obtain ⟨y6, ey6⟩ : ∃ z, z = v5 + (2 : Int32) := ⟨_, rfl⟩
          replace h := h y6 ey6
          refine lv_iinc (v := y6) (lv' := [(5, .int y6), (4, .int z5), (0, .ref v0), (1, .int v1), (2, .int v2), (3, .int v3)]) hx hb dX6_unknown_116 hl (k := 5) rfl (by rw [ey6]; rfl) (by decide) rfl (fun ls hl => ?_)
          refine lv_goto (tgt := 82) hx hb dX6_unknown_119 rfl ?_
          exact hC82 v0 v1 v2 v3 z5 y6 S4 ls _ _ (lv_sub hl [2, 3, 4, 5, 1, 0] rfl) hG hS h
  have j_77 : ∀  (v0 : Nat) (v1 : Int32) (v2 : Int32) (v3 : Int32) (w0 : Int32) (S : Hp) (ls : Array Slot) (H : Heap) (locs : List Loc), lv_has ls 11 [(0, .ref v0), (1, .int v1), (2, .int v2), (3, .int v3)] → GG D κ A S H → va_S A s.heap H locs → J_X6_unknown_77  Q v0 v1 v2 v3 w0 S → W p l e ({ frames := 3, cells := 0, slots := 0, locals := 144 } : Room) s m ([.ref a0, .int x1, .int x2, .int x3] : List Value).toArray below meth c H locs 0 0 (MQ below (va_Qi Q (BG D κ A) A) ([.ref a0, .int x1, .int x2, .int x3] : List Value).toArray s 0 0 A) (F0 m 77 ls [.int w0]) := by
    intro  v0 v1 v2 v3 w0 S ls H locs hl hG hS h
    unfold J_X6_unknown_77 at h
    refine lv_istore (lv' := [(4, .int w0), (0, .ref v0), (1, .int v1), (2, .int v2), (3, .int v3)]) hx hb dX6_unknown_77 hl (by decide) rfl (fun ls hl => ?_)
    refine lv_iconst (v := (0 : Int32)) hx hb dX6_unknown_79 (by decide) ?_
    refine lv_istore (lv' := [(5, .int (0 : Int32)), (4, .int w0), (0, .ref v0), (1, .int v1), (2, .int v2), (3, .int v3)]) hx hb dX6_unknown_80 hl (by decide) rfl (fun ls hl => ?_)
    obtain ⟨nn, h⟩ := h
    exact k_82  nn v0 v1 v2 v3 w0 (0 : Int32) S ls _ _ (lv_sub hl [2, 3, 4, 5, 1, 0] rfl) hG hS h
  refine lv_aload_n hx hb dX6_unknown_0 rfl (lv_at hl 0 rfl) ?_
  refine lv_iload_n hx hb dX6_unknown_1 rfl (lv_at hl 1 rfl) ?_
  have hk := h.1
  replace h := h.2
  refine gc_i (va_runV (As := [.int x1]) (rest := []) ⟨hx, hb, hml, hown, hts⟩ (c_X6_isStone l D κ A S a0 x1 _ h) (cwV 1 hts gX6_unknown_X6_isStone rfl rfl rfl (by decide +kernel) ⟨Nat.le_of_ble_eq_true rfl, Nat.le_of_ble_eq_true rfl⟩) (pg_V (q := (RX6, TX6, 32)) hK hX hG (pg_A hA hS) (kc_7 hk) rfl) rfl rfl hl.1 rfl (lv_room (Nat.le_of_ble_eq_true rfl)) dX6_unknown_2 ⟨Nat.le_of_ble_eq_true rfl, Nat.le_of_ble_eq_true rfl⟩) hS (fun z3 S2 H locs1 h hG hS => ?_)
  refine lv_if_eq (tgt := 24) hx hb dX6_unknown_5 rfl (fun hc => ?_) (fun hc => ?_)
  · replace h := h.1 hc
    refine lv_iconst (v := (-1 : Int32)) hx hb dX6_unknown_24 (by decide) ?_
    exact W.iret hx hb hr (gr_i h hG hK hX hS) hS.2.2 dX6_unknown_25
  · replace h := h.2 hc
    refine lv_iload_n hx hb dX6_unknown_8 rfl (lv_at hl 2 rfl) ?_
    refine gc_i (va_runS (As := [.int x2]) (rest := []) ⟨hx, hb, hml, hown, hts⟩ (c_X6_isShelf l D κ A S2 x2 _ h) (va_cwS 1 hts gX6_unknown_X6_isShelf rfl rfl rfl (by decide +kernel) ⟨Nat.le_of_ble_eq_true rfl, Nat.le_of_ble_eq_true rfl⟩) (pg_S hK hX hG (pg_A hA hS)) rfl rfl hl.1 rfl (lv_room (Nat.le_of_ble_eq_true rfl)) dX6_unknown_9 ⟨Nat.le_of_ble_eq_true rfl, Nat.le_of_ble_eq_true rfl⟩) hS (fun z6 S5 H locs4 h hG hS => ?_)
    refine lv_if_eq (tgt := 24) hx hb dX6_unknown_12 rfl (fun hc => ?_) (fun hc => ?_)
    · replace h := h.1 hc
      refine lv_iconst (v := (-1 : Int32)) hx hb dX6_unknown_24 (by decide) ?_
      exact W.iret hx hb hr (gr_i h hG hK hX hS) hS.2.2 dX6_unknown_25
    · replace h := h.2 hc
      refine lv_iload_n hx hb dX6_unknown_15 rfl (lv_at hl 3 rfl) ?_
      refine lv_iconst (v := (0 : Int32)) hx hb dX6_unknown_16 (by decide) ?_
      refine lv_iconst (v := (1 : Int32)) hx hb dX6_unknown_17 (by decide) ?_
      refine gc_i (va_runS (As := [.int x3, .int (0 : Int32), .int (1 : Int32)]) (rest := []) ⟨hx, hb, hml, hown, hts⟩ (c_X6_isIn l D κ A S5 x3 (0 : Int32) (1 : Int32) _ h) (va_cwS 3 hts gX6_unknown_X6_isIn rfl rfl rfl (by decide +kernel) ⟨Nat.le_of_ble_eq_true rfl, Nat.le_of_ble_eq_true rfl⟩) (pg_S hK hX hG (pg_A hA hS)) rfl rfl hl.1 rfl (lv_room (Nat.le_of_ble_eq_true rfl)) dX6_unknown_18 ⟨Nat.le_of_ble_eq_true rfl, Nat.le_of_ble_eq_true rfl⟩) hS (fun z9 S8 H locs7 h hG hS => ?_)
      refine lv_if_ne (tgt := 26) hx hb dX6_unknown_21 rfl (fun hc => ?_) (fun hc => ?_)
      · replace h := h.1 hc
        refine lv_aload_n hx hb dX6_unknown_26 rfl (lv_at hl 0 rfl) ?_
        have hk := h.1
        replace h := h.2
        obtain ⟨r10, hr10, h⟩ := h
        refine gg_get (v := .ref r10) (ci := 6) (C := RX6) (T := TX6) (N := 32) hx hb hts (fun _ h => List.mem_cons_of_mem _ (List.mem_append_right _ (h))) hown hK hG (kc_7 hk) rfl 24 (by decide) (hts (.fieldLink RX6 32 "FourStonesModel" "holds" "[I") (List.mem_of_getElem? (i := 1) rfl)) (fun _ h9 => h9) (congrArg (fun z => some (va_rf z)) hr10) dX6_unknown_27 ?_
        refine lv_iload_n hx hb dX6_unknown_30 rfl (lv_at hl 2 rfl) ?_
        have hk := h.1
        replace h := h.2
        have hi := h.1
        replace h := h.2
        refine gg_iald hx hb hK hG hk hi dX6_unknown_31 ?_
        refine lv_if_ne (tgt := 38) hx hb dX6_unknown_32 rfl (fun hc => ?_) (fun hc => ?_)
        · replace h := h.1 hc
          refine lv_aload_n hx hb dX6_unknown_38 rfl (lv_at hl 0 rfl) ?_
          have hk := h.1
          replace h := h.2
          obtain ⟨r11, hr11, h⟩ := h
          refine gg_get (v := .ref r11) (ci := 6) (C := RX6) (T := TX6) (N := 32) hx hb hts (fun _ h => List.mem_cons_of_mem _ (List.mem_append_right _ (h))) hown hK hG (kc_7 hk) rfl 24 (by decide) (hts (.fieldLink RX6 32 "FourStonesModel" "holds" "[I") (List.mem_of_getElem? (i := 1) rfl)) (fun _ h9 => h9) (congrArg (fun z => some (va_rf z)) hr11) dX6_unknown_39 ?_
          refine lv_iload_n hx hb dX6_unknown_42 rfl (lv_at hl 2 rfl) ?_
          have hk := h.1
          replace h := h.2
          have hi := h.1
          replace h := h.2
          refine gg_iald hx hb hK hG hk hi dX6_unknown_43 ?_
          refine lv_iconst (v := (1 : Int32)) hx hb dX6_unknown_44 (by decide) ?_
          refine lv_icmp_eq (tgt := 58) hx hb dX6_unknown_45 rfl (fun hc => ?_) (fun hc => ?_)
          · replace h := h.1 hc
            refine lv_bipush (v := (-12 : Int32)) hx hb dX6_unknown_58 (by decide) ?_
            exact W.iret hx hb hr (gr_i h hG hK hX hS) hS.2.2 dX6_unknown_60
          · replace h := h.2 hc
            refine lv_aload_n hx hb dX6_unknown_48 rfl (lv_at hl 0 rfl) ?_
            have hk := h.1
            replace h := h.2
            obtain ⟨r12, hr12, h⟩ := h
            refine gg_get (v := .ref r12) (ci := 6) (C := RX6) (T := TX6) (N := 32) hx hb hts (fun _ h => List.mem_cons_of_mem _ (List.mem_append_right _ (h))) hown hK hG (kc_7 hk) rfl 27 (by decide) (hts (.fieldLink RX6 41 "FourStonesModel" "sort" "[I") (List.mem_of_getElem? (i := 2) rfl)) (fun _ h9 => h9) (congrArg (fun z => some (va_rf z)) hr12) dX6_unknown_49 ?_
            refine lv_iload_n hx hb dX6_unknown_52 rfl (lv_at hl 2 rfl) ?_
            have hk := h.1
            replace h := h.2
            have hi := h.1
            replace h := h.2
            refine gg_iald hx hb hK hG hk hi dX6_unknown_53 ?_
            refine lv_iconst (v := (2 : Int32)) hx hb dX6_unknown_54 (by decide) ?_
            refine lv_icmp_eq (tgt := 61) hx hb dX6_unknown_55 rfl (fun hc => ?_) (fun hc => ?_)
            · replace h := h.1 hc
              refine lv_aload_n hx hb dX6_unknown_61 rfl (lv_at hl 0 rfl) ?_
              have hk := h.1
              replace h := h.2
              obtain ⟨r13, hr13, h⟩ := h
              refine gg_get (v := .ref r13) (ci := 6) (C := RX6) (T := TX6) (N := 32) hx hb hts (fun _ h => List.mem_cons_of_mem _ (List.mem_append_right _ (h))) hown hK hG (kc_7 hk) rfl 28 (by decide) (hts (.fieldLink RX6 44 "FourStonesModel" "size" "[I") (List.mem_of_getElem? (i := 3) rfl)) (fun _ h9 => h9) (congrArg (fun z => some (va_rf z)) hr13) dX6_unknown_62 ?_
              refine lv_iload_n hx hb dX6_unknown_65 rfl (lv_at hl 2 rfl) ?_
              have hk := h.1
              replace h := h.2
              have hi := h.1
              replace h := h.2
              refine gg_iald hx hb hK hG hk hi dX6_unknown_66 ?_
              refine lv_iconst (v := (2 : Int32)) hx hb dX6_unknown_67 (by decide) ?_
              refine lv_irem hx hb dX6_unknown_68 (by decide) ?_
              refine lv_if_ne (tgt := 76) hx hb dX6_unknown_69 rfl (fun hc => ?_) (fun hc => ?_)
              · replace h := h.1 hc
                refine lv_iconst (v := (0 : Int32)) hx hb dX6_unknown_76 (by decide) ?_
                exact j_77  a0 x1 x2 x3 (0 : Int32) S8 ls _ _ (lv_sub hl [0, 1, 2, 3] rfl) hG hS h
              · replace h := h.2 hc
                refine lv_iconst (v := (1 : Int32)) hx hb dX6_unknown_72 (by decide) ?_
                refine lv_goto (tgt := 77) hx hb dX6_unknown_73 rfl ?_
                exact j_77  a0 x1 x2 x3 (1 : Int32) S8 ls _ _ (lv_sub hl [0, 1, 2, 3] rfl) hG hS h
            · replace h := h.2 hc
              refine lv_bipush (v := (-12 : Int32)) hx hb dX6_unknown_58 (by decide) ?_
              exact W.iret hx hb hr (gr_i h hG hK hX hS) hS.2.2 dX6_unknown_60
        · replace h := h.2 hc
          refine lv_bipush (v := (-11 : Int32)) hx hb dX6_unknown_35 (by decide) ?_
          exact W.iret hx hb hr (gr_i h hG hK hX hS) hS.2.2 dX6_unknown_37
      · replace h := h.2 hc
        refine lv_iconst (v := (-1 : Int32)) hx hb dX6_unknown_24 (by decide) ?_
        exact W.iret hx hb hr (gr_i h hG hK hX hS) hS.2.2 dX6_unknown_25
set_option maxHeartbeats 4000000 in
set_option maxRecDepth 100000 in
theorem c_X6_seeded (l : Launch) (D : va_G) (κ : Nat → ClassId) (A : Nat → Prop) (S : Hp) (a0 : Nat) (x1 : Int32) (x2 : Int32) (x3 : Int32) (Q : Int32 → Hp → Prop) (h : wp_X6_seeded a0 x1 x2 x3 S Q) : Met l yX6_seeded wsX6_seeded ({ frames := 4, cells := 0, slots := 0, locals := 192 } : Room) (PG D κ A S [.ref a0, .int x1, .int x2, .int x3]) (va_Qi Q (BG D κ A) A) 0 0 A := by
  refine Met.ofW (cc := cX6_seeded) (maxL := 7) (ret := (some .int)) (by decide) rfl ?_
  intro p e s m args below meth c s₁ B hml hv
  obtain ⟨hargs, hA, hG, hK, hX⟩ := hv
  have hx := B.exec
  have hb := B.bytes
  have hr := B.returns
  have hts := atoms_spec (ws := wsX6_seeded) B.pre
  have hown : s.vm.findClass RX6 = some m.cls := findClass_of_methodNamed B.named
  have hlocks := B.notSynchronized
  subst hargs
  clear B
  have hS : va_S A s.heap s.heap [] := va_S.rf
  have hl := lv_entry ([.ref a0, .int x1, .int x2, .int x3]) (n := 7) (Nat.le_of_ble_eq_true rfl)
  rw [lg_entry_eq]
  generalize (lg_sl ([.ref a0, .int x1, .int x2, .int x3]) ++ List.replicate (7 - (lg_sl ([.ref a0, .int x1, .int x2, .int x3])).length) Slot.unset).toArray = ls at hl ⊢
  have hl : lv_has ls 7 [(0, .ref a0), (1, .int x1), (2, .int x2), (3, .int x3)] := hl
  have hG : GG D κ A S s.heap := hG
  have k_61 : ∀  (n : Nat), ∀ (v0 : Nat) (v1 : Int32) (v2 : Int32) (v4 : Int32) (v5 : Int32) (v6 : Int32) (S : Hp) (ls : Array Slot) (H : Heap) (locs : List Loc), lv_has ls 7 [(0, .ref v0), (1, .int v1), (2, .int v2), (4, .int v4), (5, .int v5), (6, .int v6)] → GG D κ A S H → va_S A s.heap H locs → it (L_X6_seeded_61  Q) n (v0, v1, v2, v4, v5, v6, S) → W p l e ({ frames := 4, cells := 0, slots := 0, locals := 192 } : Room) s m ([.ref a0, .int x1, .int x2, .int x3] : List Value).toArray below meth c H locs 0 0 (MQ below (va_Qi Q (BG D κ A) A) ([.ref a0, .int x1, .int x2, .int x3] : List Value).toArray s 0 0 A) (F0 m 61 ls []) := by
    intro  n
    induction n with
    | zero => intro v0 v1 v2 v4 v5 v6 S ls H locs hl hG hS h; exact False.elim h
    | succ n hC61 =>
      intro v0 v1 v2 v4 v5 v6 S ls H locs hl hG hS h
      replace h : L_X6_seeded_61  Q (it (L_X6_seeded_61  Q) n) (v0, v1, v2, v4, v5, v6, S) := h
      simp only [L_X6_seeded_61] at h
      refine lv_iload hx hb dX6_seeded_61 (lv_at hl 5 rfl) ?_
      refine lv_iload_n hx hb dX6_seeded_63 rfl (lv_at hl 2 rfl) ?_
      refine lv_icmp_ge (tgt := 104) hx hb dX6_seeded_64 rfl (fun hc => ?_) (fun hc => ?_)
      · replace h := h.1 hc
        refine lv_aload_n hx hb dX6_seeded_104 rfl (lv_at hl 0 rfl) ?_
        refine lv_iload_n hx hb dX6_seeded_105 rfl (lv_at hl 1 rfl) ?_
        refine lv_bipush (v := (63 : Int32)) hx hb dX6_seeded_106 (by decide) ?_
        have hk := h.1
        replace h := h.2
        refine gc_v (va_runV (As := [.int v1, .int (63 : Int32)]) (rest := []) ⟨hx, hb, hml, hown, hts⟩ (c_X6_have l D κ A S v0 v1 (63 : Int32) _ h) (cwV 2 hts gX6_seeded_X6_have rfl rfl rfl (by decide +kernel) ⟨Nat.le_of_ble_eq_true rfl, Nat.le_of_ble_eq_true rfl⟩) (pg_V (q := (RX6, TX6, 32)) hK hX hG (pg_A hA hS) (kc_7 hk) rfl) rfl rfl hl.1 rfl (lv_room (Nat.le_of_ble_eq_true rfl)) dX6_seeded_108 ⟨Nat.le_of_ble_eq_true rfl, Nat.le_of_ble_eq_true rfl⟩) hS (fun S2 H locs1 h hG hS => ?_)
        refine lv_aload_n hx hb dX6_seeded_111 rfl (lv_at hl 0 rfl) ?_
        refine lv_iload hx hb dX6_seeded_112 (lv_at hl 3 rfl) ?_
        have hk := h.1
        replace h := h.2
        obtain ⟨S3, eS3⟩ : ∃ z, z = sI S2 70 v0 v4 := ⟨_, rfl⟩
        replace h := h S3 eS3
        refine gg_put (ci := 6) (C := RX6) (T := TX6) (N := 32) hx hb hts (fun _ h => List.mem_cons_of_mem _ (List.mem_append_right _ (h))) tyX6 tyX6_ok nmX6 hown hK hG hS (kc_7 hk) rfl 0 (by decide) (hts (.fieldLink RX6 57 "FourStonesModel" "stones" "I") (List.mem_of_getElem? (i := 1) rfl)) (fun _ h9 => h9) rfl (tyX6_ok 0 (by decide)) rfl rfl (Nat.le_of_ble_eq_true rfl) dX6_seeded_114 (S' := S3) (fun b hb9 => by rw [eS3]; exact cO_sI hb9) (by rw [eS3]; exact cs_70 hk) (fun H locs4 hG hS => ?_)
        refine lv_aload_n hx hb dX6_seeded_117 rfl (lv_at hl 0 rfl) ?_
        have hk := h.1
        replace h := h.2
        obtain ⟨r5, hr5, h⟩ := h
        refine gg_get (v := .ref r5) (ci := 6) (C := RX6) (T := TX6) (N := 32) hx hb hts (fun _ h => List.mem_cons_of_mem _ (List.mem_append_right _ (h))) hown hK hG (kc_7 hk) rfl 17 (by decide) (hts (.fieldLink RX6 29 "FourStonesModel" "keptWeight" "[I") (List.mem_of_getElem? (i := 3) rfl)) (fun _ h9 => h9) (congrArg (fun z => some (va_rf z)) hr5) dX6_seeded_118 ?_
        refine lv_aload_n hx hb dX6_seeded_121 rfl (lv_at hl 0 rfl) ?_
        have hk := h.1
        replace h := h.2
        obtain ⟨r6, hr6, h⟩ := h
        refine gg_get (v := .ref r6) (ci := 6) (C := RX6) (T := TX6) (N := 32) hx hb hts (fun _ h => List.mem_cons_of_mem _ (List.mem_append_right _ (h))) hown hK hG (kc_7 hk) rfl 1 (by decide) (hts (.fieldLink RX6 7 "FourStonesModel" "weight" "[I") (List.mem_of_getElem? (i := 2) rfl)) (fun _ h9 => h9) (congrArg (fun z => some (va_rf z)) hr6) dX6_seeded_122 ?_
        refine gc_v (va_runS (As := [.ref r5, .ref r6]) (rest := []) ⟨hx, hb, hml, hown, hts⟩ (c_X6_move l D κ A S3 r5 r6 _ h) (va_cwS 2 hts gX6_seeded_X6_move rfl rfl rfl (by decide +kernel) ⟨Nat.le_of_ble_eq_true rfl, Nat.le_of_ble_eq_true rfl⟩) (pg_S hK hX hG (pg_A hA hS)) rfl rfl hl.1 rfl (lv_room (Nat.le_of_ble_eq_true rfl)) dX6_seeded_125 ⟨Nat.le_of_ble_eq_true rfl, Nat.le_of_ble_eq_true rfl⟩) hS (fun S8 H locs7 h hG hS => ?_)
        refine lv_aload_n hx hb dX6_seeded_128 rfl (lv_at hl 0 rfl) ?_
        have hk := h.1
        replace h := h.2
        refine gc_i (va_runV (As := []) (rest := []) ⟨hx, hb, hml, hown, hts⟩ (c_X6_reached l D κ A S8 v0 _ h) (cwV 0 hts gX6_seeded_X6_reached rfl rfl rfl (by decide +kernel) ⟨Nat.le_of_ble_eq_true rfl, Nat.le_of_ble_eq_true rfl⟩) (pg_V (q := (RX6, TX6, 32)) hK hX hG (pg_A hA hS) (kc_7 hk) rfl) rfl rfl hl.1 rfl (lv_room (Nat.le_of_ble_eq_true rfl)) dX6_seeded_129 ⟨Nat.le_of_ble_eq_true rfl, Nat.le_of_ble_eq_true rfl⟩) hS (fun z11 S10 H locs9 h hG hS => ?_)
        exact W.iret hx hb hr (gr_i h hG hK hX hS) hS.2.2 dX6_seeded_132
      · replace h := h.2 hc
        refine lv_iload hx hb dX6_seeded_67 (lv_at hl 4 rfl) ?_
        refine lv_ldc (v := (1103515245 : Int32)) hx hb hown (hts (.constant RX6 174 (1103515245)) (List.mem_of_getElem? (i := 4) rfl)) dX6_seeded_69 ?_
        refine lv_imul hx hb dX6_seeded_71 ?_
        refine lv_sipush (v := (12345 : Int32)) hx hb dX6_seeded_72 (by decide) ?_
        refine lv_iadd hx hb dX6_seeded_75 ?_
        refine lv_topi (fun y12 ey12 => ?_)
        replace h := h y12 ey12
        refine lv_istore (lv' := [(5, .int y12), (0, .ref v0), (1, .int v1), (2, .int v2), (4, .int v4), (6, .int v6)]) hx hb dX6_seeded_76 hl (by decide) rfl (fun ls hl => ?_)
        refine lv_aload_n hx hb dX6_seeded_78 rfl (lv_at hl 1 rfl) ?_
        have hk := h.1
        replace h := h.2
        obtain ⟨r13, hr13, h⟩ := h
        refine gg_get (v := .ref r13) (ci := 6) (C := RX6) (T := TX6) (N := 32) hx hb hts (fun _ h => List.mem_cons_of_mem _ (List.mem_append_right _ (h))) hown hK hG (kc_7 hk) rfl 1 (by decide) (hts (.fieldLink RX6 7 "FourStonesModel" "weight" "[I") (List.mem_of_getElem? (i := 2) rfl)) (fun _ h9 => h9) (congrArg (fun z => some (va_rf z)) hr13) dX6_seeded_79 ?_
        refine lv_iload hx hb dX6_seeded_82 (lv_at hl 5 rfl) ?_
        refine lv_iconst (v := (1 : Int32)) hx hb dX6_seeded_84 (by decide) ?_
        refine lv_iload hx hb dX6_seeded_85 (lv_at hl 0 rfl) ?_
        refine lv_ldc (v := (2147483647 : Int32)) hx hb hown (hts (.constant RX6 175 (2147483647)) (List.mem_of_getElem? (i := 5) rfl)) dX6_seeded_87 ?_
        refine lv_iand hx hb dX6_seeded_89 ?_
        refine lv_ldc (v := (65536 : Int32)) hx hb hown (hts (.constant RX6 176 (65536)) (List.mem_of_getElem? (i := 6) rfl)) dX6_seeded_90 ?_
        refine lv_idiv hx hb dX6_seeded_92 (by decide) ?_
        refine lv_bipush (v := (40 : Int32)) hx hb dX6_seeded_93 (by decide) ?_
        refine lv_irem hx hb dX6_seeded_95 (by decide) ?_
        refine lv_iadd hx hb dX6_seeded_96 ?_
        have hk := h.1
        replace h := h.2
        have hi := h.1
        replace h := h.2
        obtain ⟨S14, eS14⟩ : ∃ z, z = sA S r13 (v6).toNatClampNeg ((1 : Int32) + (((y12 &&& (2147483647 : Int32)) / (65536 : Int32)) - ((y12 &&& (2147483647 : Int32)) / (65536 : Int32)) / (40 : Int32) * (40 : Int32))) := ⟨_, rfl⟩
        replace h := h S14 eS14
        refine gg_iast hx hb hK hG hS hk hi dX6_seeded_97 (fun H locs15 hG hS => ?_)
        rw [← eS14] at hG
        obtain ⟨y16, ey16⟩ : ∃ z, z = v6 + (1 : Int32) := ⟨_, rfl⟩
        replace h := h y16 ey16
        refine lv_iinc (v := y16) (lv' := [(6, .int y16), (5, .int y12), (0, .ref v0), (1, .int v1), (2, .int v2), (4, .int v4)]) hx hb dX6_seeded_98 hl (k := 5) rfl (by rw [ey16]; rfl) (by decide) rfl (fun ls hl => ?_)
        refine lv_goto (tgt := 61) hx hb dX6_seeded_101 rfl ?_
        exact hC61 v0 v1 v2 v4 y12 y16 S14 ls _ _ (lv_sub hl [2, 3, 4, 5, 1, 0] rfl) hG hS h
  refine lv_iload_n hx hb dX6_seeded_0 rfl (lv_at hl 1 rfl) ?_
  refine gc_i (va_runS (As := [.int x1]) (rest := []) ⟨hx, hb, hml, hown, hts⟩ (c_X6_isShelf l D κ A S x1 _ h) (va_cwS 1 hts gX6_seeded_X6_isShelf rfl rfl rfl (by decide +kernel) ⟨Nat.le_of_ble_eq_true rfl, Nat.le_of_ble_eq_true rfl⟩) (pg_S hK hX hG (pg_A hA hS)) rfl rfl hl.1 rfl (lv_room (Nat.le_of_ble_eq_true rfl)) dX6_seeded_1 ⟨Nat.le_of_ble_eq_true rfl, Nat.le_of_ble_eq_true rfl⟩) hS (fun z3 S2 H locs1 h hG hS => ?_)
  refine lv_if_eq (tgt := 17) hx hb dX6_seeded_4 rfl (fun hc => ?_) (fun hc => ?_)
  · replace h := h.1 hc
    refine lv_iconst (v := (-1 : Int32)) hx hb dX6_seeded_17 (by decide) ?_
    exact W.iret hx hb hr (gr_i h hG hK hX hS) hS.2.2 dX6_seeded_18
  · replace h := h.2 hc
    refine lv_iload_n hx hb dX6_seeded_7 rfl (lv_at hl 2 rfl) ?_
    refine lv_iconst (v := (1 : Int32)) hx hb dX6_seeded_8 (by decide) ?_
    refine lv_bipush (v := (6 : Int32)) hx hb dX6_seeded_9 (by decide) ?_
    refine gc_i (va_runS (As := [.int x2, .int (1 : Int32), .int (6 : Int32)]) (rest := []) ⟨hx, hb, hml, hown, hts⟩ (c_X6_isIn l D κ A S2 x2 (1 : Int32) (6 : Int32) _ h) (va_cwS 3 hts gX6_seeded_X6_isIn rfl rfl rfl (by decide +kernel) ⟨Nat.le_of_ble_eq_true rfl, Nat.le_of_ble_eq_true rfl⟩) (pg_S hK hX hG (pg_A hA hS)) rfl rfl hl.1 rfl (lv_room (Nat.le_of_ble_eq_true rfl)) dX6_seeded_11 ⟨Nat.le_of_ble_eq_true rfl, Nat.le_of_ble_eq_true rfl⟩) hS (fun z6 S5 H locs4 h hG hS => ?_)
    refine lv_if_ne (tgt := 19) hx hb dX6_seeded_14 rfl (fun hc => ?_) (fun hc => ?_)
    · replace h := h.1 hc
      refine lv_aload_n hx hb dX6_seeded_19 rfl (lv_at hl 0 rfl) ?_
      refine lv_iload_n hx hb dX6_seeded_20 rfl (lv_at hl 1 rfl) ?_
      have hk := h.1
      replace h := h.2
      refine gc_i (va_runV (As := [.int x1]) (rest := []) ⟨hx, hb, hml, hown, hts⟩ (c_X6_noScale l D κ A S5 a0 x1 _ h) (cwV 1 hts gX6_seeded_X6_noScale rfl rfl rfl (by decide +kernel) ⟨Nat.le_of_ble_eq_true rfl, Nat.le_of_ble_eq_true rfl⟩) (pg_V (q := (RX6, TX6, 32)) hK hX hG (pg_A hA hS) (kc_7 hk) rfl) rfl rfl hl.1 rfl (lv_room (Nat.le_of_ble_eq_true rfl)) dX6_seeded_21 ⟨Nat.le_of_ble_eq_true rfl, Nat.le_of_ble_eq_true rfl⟩) hS (fun z9 S8 H locs7 h hG hS => ?_)
      refine lv_if_eq (tgt := 33) hx hb dX6_seeded_24 rfl (fun hc => ?_) (fun hc => ?_)
      · replace h := h.1 hc
        refine lv_aload_n hx hb dX6_seeded_33 rfl (lv_at hl 0 rfl) ?_
        have hk := h.1
        replace h := h.2
        refine gg_get (ci := 6) (C := RX6) (T := TX6) (N := 32) hx hb hts (fun _ h => List.mem_cons_of_mem _ (List.mem_append_right _ (h))) hown hK hG (kc_7 hk) rfl 0 (by decide) (hts (.fieldLink RX6 57 "FourStonesModel" "stones" "I") (List.mem_of_getElem? (i := 1) rfl)) (fun _ h9 => h9) rfl dX6_seeded_34 ?_
        refine lv_topi (fun y10 ey10 => ?_)
        replace h := h y10 ey10
        refine lv_istore (lv' := [(4, .int y10), (0, .ref a0), (1, .int x1), (2, .int x2), (3, .int x3)]) hx hb dX6_seeded_37 hl (by decide) rfl (fun ls hl => ?_)
        refine lv_aload_n hx hb dX6_seeded_39 rfl (lv_at hl 1 rfl) ?_
        have hk := h.1
        replace h := h.2
        obtain ⟨r11, hr11, h⟩ := h
        refine gg_get (v := .ref r11) (ci := 6) (C := RX6) (T := TX6) (N := 32) hx hb hts (fun _ h => List.mem_cons_of_mem _ (List.mem_append_right _ (h))) hown hK hG (kc_7 hk) rfl 1 (by decide) (hts (.fieldLink RX6 7 "FourStonesModel" "weight" "[I") (List.mem_of_getElem? (i := 2) rfl)) (fun _ h9 => h9) (congrArg (fun z => some (va_rf z)) hr11) dX6_seeded_40 ?_
        refine lv_aload_n hx hb dX6_seeded_43 rfl (lv_at hl 1 rfl) ?_
        have hk := h.1
        replace h := h.2
        obtain ⟨r12, hr12, h⟩ := h
        refine gg_get (v := .ref r12) (ci := 6) (C := RX6) (T := TX6) (N := 32) hx hb hts (fun _ h => List.mem_cons_of_mem _ (List.mem_append_right _ (h))) hown hK hG (kc_7 hk) rfl 17 (by decide) (hts (.fieldLink RX6 29 "FourStonesModel" "keptWeight" "[I") (List.mem_of_getElem? (i := 3) rfl)) (fun _ h9 => h9) (congrArg (fun z => some (va_rf z)) hr12) dX6_seeded_44 ?_
        refine gc_v (va_runS (As := [.ref r11, .ref r12]) (rest := []) ⟨hx, hb, hml, hown, hts⟩ (c_X6_move l D κ A S8 r11 r12 _ h) (va_cwS 2 hts gX6_seeded_X6_move rfl rfl rfl (by decide +kernel) ⟨Nat.le_of_ble_eq_true rfl, Nat.le_of_ble_eq_true rfl⟩) (pg_S hK hX hG (pg_A hA hS)) rfl rfl hl.1 rfl (lv_room (Nat.le_of_ble_eq_true rfl)) dX6_seeded_47 ⟨Nat.le_of_ble_eq_true rfl, Nat.le_of_ble_eq_true rfl⟩) hS (fun S14 H locs13 h hG hS => ?_)
        refine lv_iload_n hx hb dX6_seeded_50 rfl (lv_at hl 4 rfl) ?_
        refine lv_istore (lv' := [(5, .int x3), (4, .int y10), (0, .ref a0), (1, .int x1), (2, .int x2), (3, .int x3)]) hx hb dX6_seeded_51 hl (by decide) rfl (fun ls hl => ?_)
        refine lv_aload_n hx hb dX6_seeded_53 rfl (lv_at hl 2 rfl) ?_
        refine lv_iload_n hx hb dX6_seeded_54 rfl (lv_at hl 4 rfl) ?_
        have hk := h.1
        replace h := h.2
        obtain ⟨S15, eS15⟩ : ∃ z, z = sI S14 70 a0 x2 := ⟨_, rfl⟩
        replace h := h S15 eS15
        refine gg_put (ci := 6) (C := RX6) (T := TX6) (N := 32) hx hb hts (fun _ h => List.mem_cons_of_mem _ (List.mem_append_right _ (h))) tyX6 tyX6_ok nmX6 hown hK hG hS (kc_7 hk) rfl 0 (by decide) (hts (.fieldLink RX6 57 "FourStonesModel" "stones" "I") (List.mem_of_getElem? (i := 1) rfl)) (fun _ h9 => h9) rfl (tyX6_ok 0 (by decide)) rfl rfl (Nat.le_of_ble_eq_true rfl) dX6_seeded_55 (S' := S15) (fun b hb9 => by rw [eS15]; exact cO_sI hb9) (by rw [eS15]; exact cs_70 hk) (fun H locs16 hG hS => ?_)
        refine lv_iconst (v := (0 : Int32)) hx hb dX6_seeded_58 (by decide) ?_
        refine lv_istore (lv' := [(6, .int (0 : Int32)), (5, .int x3), (4, .int y10), (0, .ref a0), (1, .int x1), (2, .int x2), (3, .int x3)]) hx hb dX6_seeded_59 hl (by decide) rfl (fun ls hl => ?_)
        obtain ⟨nn, h⟩ := h
        exact k_61  nn a0 x1 x2 y10 x3 (0 : Int32) S15 ls _ _ (lv_sub hl [3, 4, 5, 2, 1, 0] rfl) hG hS h
      · replace h := h.2 hc
        refine lv_aload_n hx hb dX6_seeded_27 rfl (lv_at hl 0 rfl) ?_
        refine lv_iload_n hx hb dX6_seeded_28 rfl (lv_at hl 1 rfl) ?_
        have hk := h.1
        replace h := h.2
        refine gc_i (va_runV (As := [.int x1]) (rest := []) ⟨hx, hb, hml, hown, hts⟩ (c_X6_noScale l D κ A S8 a0 x1 _ h) (cwV 1 hts gX6_seeded_X6_noScale rfl rfl rfl (by decide +kernel) ⟨Nat.le_of_ble_eq_true rfl, Nat.le_of_ble_eq_true rfl⟩) (pg_V (q := (RX6, TX6, 32)) hK hX hG (pg_A hA hS) (kc_7 hk) rfl) rfl rfl hl.1 rfl (lv_room (Nat.le_of_ble_eq_true rfl)) dX6_seeded_29 ⟨Nat.le_of_ble_eq_true rfl, Nat.le_of_ble_eq_true rfl⟩) hS (fun z19 S18 H locs17 h hG hS => ?_)
        exact W.iret hx hb hr (gr_i h hG hK hX hS) hS.2.2 dX6_seeded_32
    · replace h := h.2 hc
      refine lv_iconst (v := (-1 : Int32)) hx hb dX6_seeded_17 (by decide) ?_
      exact W.iret hx hb hr (gr_i h hG hK hX hS) hS.2.2 dX6_seeded_18
set_option maxHeartbeats 4000000 in
set_option maxRecDepth 100000 in
theorem c_X6_judge (l : Launch) (D : va_G) (κ : Nat → ClassId) (A : Nat → Prop) (S : Hp) (a0 : Nat) (x1 : Int32) (x2 : Int32) (Q : Int32 → Hp → Prop) (h : wp_X6_judge a0 x1 x2 S Q) : Met l yX6_judge wsX6_judge ({ frames := 4, cells := 0, slots := 0, locals := 192 } : Room) (PG D κ A S [.ref a0, .int x1, .int x2]) (va_Qi Q (BG D κ A) A) 0 0 A := by
  refine Met.ofW (cc := cX6_judge) (maxL := 5) (ret := (some .int)) (by decide) rfl ?_
  intro p e s m args below meth c s₁ B hml hv
  obtain ⟨hargs, hA, hG, hK, hX⟩ := hv
  have hx := B.exec
  have hb := B.bytes
  have hr := B.returns
  have hts := atoms_spec (ws := wsX6_judge) B.pre
  have hown : s.vm.findClass RX6 = some m.cls := findClass_of_methodNamed B.named
  have hlocks := B.notSynchronized
  subst hargs
  clear B
  have hS : va_S A s.heap s.heap [] := va_S.rf
  have hl := lv_entry ([.ref a0, .int x1, .int x2]) (n := 5) (Nat.le_of_ble_eq_true rfl)
  rw [lg_entry_eq]
  generalize (lg_sl ([.ref a0, .int x1, .int x2]) ++ List.replicate (5 - (lg_sl ([.ref a0, .int x1, .int x2])).length) Slot.unset).toArray = ls at hl ⊢
  have hl : lv_has ls 5 [(0, .ref a0), (1, .int x1), (2, .int x2)] := hl
  have hG : GG D κ A S s.heap := hG
  have k_59 : ∀  (n : Nat), ∀ (v0 : Nat) (v1 : Int32) (v2 : Int32) (v3 : Int32) (S : Hp) (ls : Array Slot) (H : Heap) (locs : List Loc), lv_has ls 5 [(0, .ref v0), (1, .int v1), (2, .int v2), (3, .int v3)] → GG D κ A S H → va_S A s.heap H locs → it (L_X6_judge_59  Q) n (v0, v1, v2, v3, S) → W p l e ({ frames := 4, cells := 0, slots := 0, locals := 192 } : Room) s m ([.ref a0, .int x1, .int x2] : List Value).toArray below meth c H locs 0 0 (MQ below (va_Qi Q (BG D κ A) A) ([.ref a0, .int x1, .int x2] : List Value).toArray s 0 0 A) (F0 m 59 ls []) := by
    intro  n
    induction n with
    | zero => intro v0 v1 v2 v3 S ls H locs hl hG hS h; exact False.elim h
    | succ n hC59 =>
      intro v0 v1 v2 v3 S ls H locs hl hG hS h
      replace h : L_X6_judge_59  Q (it (L_X6_judge_59  Q) n) (v0, v1, v2, v3, S) := h
      simp only [L_X6_judge_59] at h
      refine lv_iload_n hx hb dX6_judge_59 rfl (lv_at hl 3 rfl) ?_
      refine lv_iconst (v := (1 : Int32)) hx hb dX6_judge_60 (by decide) ?_
      refine lv_iadd hx hb dX6_judge_61 ?_
      refine lv_aload_n hx hb dX6_judge_62 rfl (lv_at hl 0 rfl) ?_
      have hk := h.1
      replace h := h.2
      obtain ⟨r1, hr1, h⟩ := h
      refine gg_get (v := .ref r1) (ci := 6) (C := RX6) (T := TX6) (N := 32) hx hb hts (fun _ h => List.mem_cons_of_mem _ (List.mem_append_right _ (h))) hown hK hG (kc_7 hk) rfl 28 (by decide) (hts (.fieldLink RX6 44 "FourStonesModel" "size" "[I") (List.mem_of_getElem? (i := 2) rfl)) (fun _ h9 => h9) (congrArg (fun z => some (va_rf z)) hr1) dX6_judge_63 ?_
      refine lv_iload_n hx hb dX6_judge_66 rfl (lv_at hl 2 rfl) ?_
      have hk := h.1
      replace h := h.2
      have hi := h.1
      replace h := h.2
      refine gg_iald hx hb hK hG hk hi dX6_judge_67 ?_
      refine lv_icmp_ge (tgt := 124) hx hb dX6_judge_68 rfl (fun hc => ?_) (fun hc => ?_)
      · replace h := h.1 hc
        refine lv_aload_n hx hb dX6_judge_124 rfl (lv_at hl 0 rfl) ?_
        have hk := h.1
        replace h := h.2
        obtain ⟨r2, hr2, h⟩ := h
        refine gg_get (v := .ref r2) (ci := 6) (C := RX6) (T := TX6) (N := 32) hx hb hts (fun _ h => List.mem_cons_of_mem _ (List.mem_append_right _ (h))) hown hK hG (kc_7 hk) rfl 28 (by decide) (hts (.fieldLink RX6 44 "FourStonesModel" "size" "[I") (List.mem_of_getElem? (i := 2) rfl)) (fun _ h9 => h9) (congrArg (fun z => some (va_rf z)) hr2) dX6_judge_125 ?_
        refine lv_iload_n hx hb dX6_judge_128 rfl (lv_at hl 2 rfl) ?_
        have hk := h.1
        replace h := h.2
        have hi := h.1
        replace h := h.2
        refine gg_iald hx hb hK hG hk hi dX6_judge_129 ?_
        refine lv_iconst (v := (2 : Int32)) hx hb dX6_judge_130 (by decide) ?_
        refine lv_irem hx hb dX6_judge_131 (by decide) ?_
        refine lv_iconst (v := (1 : Int32)) hx hb dX6_judge_132 (by decide) ?_
        refine lv_icmp_ne (tgt := 145) hx hb dX6_judge_133 rfl (fun hc => ?_) (fun hc => ?_)
        · replace h := h.1 hc
          refine lv_bipush (v := (-4 : Int32)) hx hb dX6_judge_145 (by decide) ?_
          exact W.iret hx hb hr (gr_i h hG hK hX hS) hS.2.2 dX6_judge_147
        · replace h := h.2 hc
          refine lv_aload_n hx hb dX6_judge_136 rfl (lv_at hl 0 rfl) ?_
          have hk := h.1
          replace h := h.2
          obtain ⟨r3, hr3, h⟩ := h
          refine gg_get (v := .ref r3) (ci := 6) (C := RX6) (T := TX6) (N := 32) hx hb hts (fun _ h => List.mem_cons_of_mem _ (List.mem_append_right _ (h))) hown hK hG (kc_7 hk) rfl 28 (by decide) (hts (.fieldLink RX6 44 "FourStonesModel" "size" "[I") (List.mem_of_getElem? (i := 2) rfl)) (fun _ h9 => h9) (congrArg (fun z => some (va_rf z)) hr3) dX6_judge_137 ?_
          refine lv_iload_n hx hb dX6_judge_140 rfl (lv_at hl 2 rfl) ?_
          have hk := h.1
          replace h := h.2
          have hi := h.1
          replace h := h.2
          refine gg_iald hx hb hK hG hk hi dX6_judge_141 ?_
          refine lv_goto (tgt := 147) hx hb dX6_judge_142 rfl ?_
          exact W.iret hx hb hr (gr_i h hG hK hX hS) hS.2.2 dX6_judge_147
      · replace h := h.2 hc
        refine lv_aload_n hx hb dX6_judge_71 rfl (lv_at hl 0 rfl) ?_
        have hk := h.1
        replace h := h.2
        obtain ⟨r4, hr4, h⟩ := h
        refine gg_get (v := .ref r4) (ci := 6) (C := RX6) (T := TX6) (N := 32) hx hb hts (fun _ h => List.mem_cons_of_mem _ (List.mem_append_right _ (h))) hown hK hG (kc_7 hk) rfl 29 (by decide) (hts (.fieldLink RX6 47 "FourStonesModel" "items" "[I") (List.mem_of_getElem? (i := 3) rfl)) (fun _ h9 => h9) (congrArg (fun z => some (va_rf z)) hr4) dX6_judge_72 ?_
        refine lv_bipush (v := (100 : Int32)) hx hb dX6_judge_75 (by decide) ?_
        refine lv_iload_n hx hb dX6_judge_77 rfl (lv_at hl 2 rfl) ?_
        refine lv_imul hx hb dX6_judge_78 ?_
        refine lv_iload_n hx hb dX6_judge_79 rfl (lv_at hl 3 rfl) ?_
        refine lv_iadd hx hb dX6_judge_80 ?_
        have hk := h.1
        replace h := h.2
        have hi := h.1
        replace h := h.2
        refine gg_iald hx hb hK hG hk hi dX6_judge_81 ?_
        refine lv_topi (fun y5 ey5 => ?_)
        replace h := h y5 ey5
        refine lv_istore (lv' := [(4, .int y5), (0, .ref v0), (1, .int v1), (2, .int v2), (3, .int v3)]) hx hb dX6_judge_82 hl (by decide) rfl (fun ls hl => ?_)
        refine lv_aload_n hx hb dX6_judge_84 rfl (lv_at hl 1 rfl) ?_
        refine lv_iload hx hb dX6_judge_85 (lv_at hl 0 rfl) ?_
        have hk := h.1
        replace h := h.2
        refine gc_i (va_runV (As := [.int y5]) (rest := []) ⟨hx, hb, hml, hown, hts⟩ (c_X6_isLying l D κ A S v0 y5 _ h) (cwV 1 hts gX6_judge_X6_isLying rfl rfl rfl (by decide +kernel) ⟨Nat.le_of_ble_eq_true rfl, Nat.le_of_ble_eq_true rfl⟩) (pg_V (q := (RX6, TX6, 32)) hK hX hG (pg_A hA hS) (kc_7 hk) rfl) rfl rfl hl.1 rfl (lv_room (Nat.le_of_ble_eq_true rfl)) dX6_judge_87 ⟨Nat.le_of_ble_eq_true rfl, Nat.le_of_ble_eq_true rfl⟩) hS (fun z8 S7 H locs6 h hG hS => ?_)
        refine lv_if_eq (tgt := 116) hx hb dX6_judge_90 rfl (fun hc => ?_) (fun hc => ?_)
        · replace h := h.1 hc
          refine lv_iload_n hx hb dX6_judge_116 rfl (lv_at hl 4 rfl) ?_
          exact W.iret hx hb hr (gr_i h hG hK hX hS) hS.2.2 dX6_judge_117
        · replace h := h.2 hc
          refine lv_aload_n hx hb dX6_judge_93 rfl (lv_at hl 1 rfl) ?_
          refine lv_iload_n hx hb dX6_judge_94 rfl (lv_at hl 2 rfl) ?_
          refine lv_iload hx hb dX6_judge_95 (lv_at hl 0 rfl) ?_
          refine lv_aload_n hx hb dX6_judge_97 rfl (lv_at hl 1 rfl) ?_
          have hk := h.1
          replace h := h.2
          obtain ⟨r9, hr9, h⟩ := h
          refine gg_get (v := .ref r9) (ci := 6) (C := RX6) (T := TX6) (N := 32) hx hb hts (fun _ h => List.mem_cons_of_mem _ (List.mem_append_right _ (h))) hown hK hG (kc_7 hk) rfl 29 (by decide) (hts (.fieldLink RX6 47 "FourStonesModel" "items" "[I") (List.mem_of_getElem? (i := 3) rfl)) (fun _ h9 => h9) (congrArg (fun z => some (va_rf z)) hr9) dX6_judge_98 ?_
          refine lv_bipush (v := (100 : Int32)) hx hb dX6_judge_101 (by decide) ?_
          refine lv_iload_n hx hb dX6_judge_103 rfl (lv_at hl 3 rfl) ?_
          refine lv_imul hx hb dX6_judge_104 ?_
          refine lv_iload_n hx hb dX6_judge_105 rfl (lv_at hl 4 rfl) ?_
          refine lv_iadd hx hb dX6_judge_106 ?_
          refine lv_iconst (v := (1 : Int32)) hx hb dX6_judge_107 (by decide) ?_
          refine lv_iadd hx hb dX6_judge_108 ?_
          have hk := h.1
          replace h := h.2
          have hi := h.1
          replace h := h.2
          refine gg_iald hx hb hK hG hk hi dX6_judge_109 ?_
          have hk := h.1
          replace h := h.2
          refine gc_i (va_runV (As := [.int v1, .int y5, .int (gA S7 r9 (((((100 : Int32) * v2) + v3) + (1 : Int32))).toNatClampNeg)]) (rest := []) ⟨hx, hb, hml, hown, hts⟩ (c_X6_isWeight l D κ A S7 v0 v1 y5 (gA S7 r9 (((((100 : Int32) * v2) + v3) + (1 : Int32))).toNatClampNeg) _ h) (cwV 3 hts gX6_judge_X6_isWeight rfl rfl rfl (by decide +kernel) ⟨Nat.le_of_ble_eq_true rfl, Nat.le_of_ble_eq_true rfl⟩) (pg_V (q := (RX6, TX6, 32)) hK hX hG (pg_A hA hS) (kc_7 hk) rfl) rfl rfl hl.1 rfl (lv_room (Nat.le_of_ble_eq_true rfl)) dX6_judge_110 ⟨Nat.le_of_ble_eq_true rfl, Nat.le_of_ble_eq_true rfl⟩) hS (fun z12 S11 H locs10 h hG hS => ?_)
          refine lv_if_ne (tgt := 118) hx hb dX6_judge_113 rfl (fun hc => ?_) (fun hc => ?_)
          · replace h := h.1 hc
            obtain ⟨y13, ey13⟩ : ∃ z, z = v3 + (2 : Int32) := ⟨_, rfl⟩
            replace h := h y13 ey13
            refine lv_iinc (v := y13) (lv' := [(3, .int y13), (4, .int y5), (0, .ref v0), (1, .int v1), (2, .int v2)]) hx hb dX6_judge_118 hl (k := 4) rfl (by rw [ey13]; rfl) (by decide) rfl (fun ls hl => ?_)
            refine lv_goto (tgt := 59) hx hb dX6_judge_121 rfl ?_
            exact hC59 v0 v1 v2 y13 S11 ls _ _ (lv_sub hl [2, 3, 4, 0] rfl) hG hS h
          · replace h := h.2 hc
            refine lv_iload_n hx hb dX6_judge_116 rfl (lv_at hl 4 rfl) ?_
            exact W.iret hx hb hr (gr_i h hG hK hX hS) hS.2.2 dX6_judge_117
  refine lv_iload_n hx hb dX6_judge_0 rfl (lv_at hl 1 rfl) ?_
  refine gc_i (va_runS (As := [.int x1]) (rest := []) ⟨hx, hb, hml, hown, hts⟩ (c_X6_isShelf l D κ A S x1 _ h) (va_cwS 1 hts gX6_judge_X6_isShelf rfl rfl rfl (by decide +kernel) ⟨Nat.le_of_ble_eq_true rfl, Nat.le_of_ble_eq_true rfl⟩) (pg_S hK hX hG (pg_A hA hS)) rfl rfl hl.1 rfl (lv_room (Nat.le_of_ble_eq_true rfl)) dX6_judge_1 ⟨Nat.le_of_ble_eq_true rfl, Nat.le_of_ble_eq_true rfl⟩) hS (fun z3 S2 H locs1 h hG hS => ?_)
  refine lv_if_eq (tgt := 14) hx hb dX6_judge_4 rfl (fun hc => ?_) (fun hc => ?_)
  · replace h := h.1 hc
    refine lv_iconst (v := (-1 : Int32)) hx hb dX6_judge_14 (by decide) ?_
    exact W.iret hx hb hr (gr_i h hG hK hX hS) hS.2.2 dX6_judge_15
  · replace h := h.2 hc
    refine lv_iload_n hx hb dX6_judge_7 rfl (lv_at hl 2 rfl) ?_
    refine gc_i (va_runS (As := [.int x2]) (rest := []) ⟨hx, hb, hml, hown, hts⟩ (c_X6_isShelf l D κ A S2 x2 _ h) (va_cwS 1 hts gX6_judge_X6_isShelf rfl rfl rfl (by decide +kernel) ⟨Nat.le_of_ble_eq_true rfl, Nat.le_of_ble_eq_true rfl⟩) (pg_S hK hX hG (pg_A hA hS)) rfl rfl hl.1 rfl (lv_room (Nat.le_of_ble_eq_true rfl)) dX6_judge_8 ⟨Nat.le_of_ble_eq_true rfl, Nat.le_of_ble_eq_true rfl⟩) hS (fun z6 S5 H locs4 h hG hS => ?_)
    refine lv_if_ne (tgt := 16) hx hb dX6_judge_11 rfl (fun hc => ?_) (fun hc => ?_)
    · replace h := h.1 hc
      refine lv_aload_n hx hb dX6_judge_16 rfl (lv_at hl 0 rfl) ?_
      refine lv_iload_n hx hb dX6_judge_17 rfl (lv_at hl 1 rfl) ?_
      have hk := h.1
      replace h := h.2
      refine gc_i (va_runV (As := [.int x1]) (rest := []) ⟨hx, hb, hml, hown, hts⟩ (c_X6_noScale l D κ A S5 a0 x1 _ h) (cwV 1 hts gX6_judge_X6_noScale rfl rfl rfl (by decide +kernel) ⟨Nat.le_of_ble_eq_true rfl, Nat.le_of_ble_eq_true rfl⟩) (pg_V (q := (RX6, TX6, 32)) hK hX hG (pg_A hA hS) (kc_7 hk) rfl) rfl rfl hl.1 rfl (lv_room (Nat.le_of_ble_eq_true rfl)) dX6_judge_18 ⟨Nat.le_of_ble_eq_true rfl, Nat.le_of_ble_eq_true rfl⟩) hS (fun z9 S8 H locs7 h hG hS => ?_)
      refine lv_if_eq (tgt := 30) hx hb dX6_judge_21 rfl (fun hc => ?_) (fun hc => ?_)
      · replace h := h.1 hc
        refine lv_aload_n hx hb dX6_judge_30 rfl (lv_at hl 0 rfl) ?_
        have hk := h.1
        replace h := h.2
        obtain ⟨r10, hr10, h⟩ := h
        refine gg_get (v := .ref r10) (ci := 6) (C := RX6) (T := TX6) (N := 32) hx hb hts (fun _ h => List.mem_cons_of_mem _ (List.mem_append_right _ (h))) hown hK hG (kc_7 hk) rfl 24 (by decide) (hts (.fieldLink RX6 32 "FourStonesModel" "holds" "[I") (List.mem_of_getElem? (i := 1) rfl)) (fun _ h9 => h9) (congrArg (fun z => some (va_rf z)) hr10) dX6_judge_31 ?_
        refine lv_iload_n hx hb dX6_judge_34 rfl (lv_at hl 2 rfl) ?_
        have hk := h.1
        replace h := h.2
        have hi := h.1
        replace h := h.2
        refine gg_iald hx hb hK hG hk hi dX6_judge_35 ?_
        refine lv_iconst (v := (2 : Int32)) hx hb dX6_judge_36 (by decide) ?_
        refine lv_icmp_eq (tgt := 57) hx hb dX6_judge_37 rfl (fun hc => ?_) (fun hc => ?_)
        · replace h := h.1 hc
          refine lv_iconst (v := (0 : Int32)) hx hb dX6_judge_57 (by decide) ?_
          refine lv_istore_n (lv' := [(3, .int (0 : Int32)), (0, .ref a0), (1, .int x1), (2, .int x2)]) hx hb dX6_judge_58 rfl hl (by decide) rfl (fun ls hl => ?_)
          obtain ⟨nn, h⟩ := h
          exact k_59  nn a0 x1 x2 (0 : Int32) S8 ls _ _ (lv_sub hl [1, 2, 3, 0] rfl) hG hS h
        · replace h := h.2 hc
          refine lv_aload_n hx hb dX6_judge_40 rfl (lv_at hl 0 rfl) ?_
          have hk := h.1
          replace h := h.2
          obtain ⟨r11, hr11, h⟩ := h
          refine gg_get (v := .ref r11) (ci := 6) (C := RX6) (T := TX6) (N := 32) hx hb hts (fun _ h => List.mem_cons_of_mem _ (List.mem_append_right _ (h))) hown hK hG (kc_7 hk) rfl 24 (by decide) (hts (.fieldLink RX6 32 "FourStonesModel" "holds" "[I") (List.mem_of_getElem? (i := 1) rfl)) (fun _ h9 => h9) (congrArg (fun z => some (va_rf z)) hr11) dX6_judge_41 ?_
          refine lv_iload_n hx hb dX6_judge_44 rfl (lv_at hl 2 rfl) ?_
          have hk := h.1
          replace h := h.2
          have hi := h.1
          replace h := h.2
          refine gg_iald hx hb hK hG hk hi dX6_judge_45 ?_
          refine lv_if_ne (tgt := 54) hx hb dX6_judge_46 rfl (fun hc => ?_) (fun hc => ?_)
          · replace h := h.1 hc
            refine lv_bipush (v := (-12 : Int32)) hx hb dX6_judge_54 (by decide) ?_
            exact W.iret hx hb hr (gr_i h hG hK hX hS) hS.2.2 dX6_judge_56
          · replace h := h.2 hc
            refine lv_bipush (v := (-11 : Int32)) hx hb dX6_judge_49 (by decide) ?_
            refine lv_goto (tgt := 56) hx hb dX6_judge_51 rfl ?_
            exact W.iret hx hb hr (gr_i h hG hK hX hS) hS.2.2 dX6_judge_56
      · replace h := h.2 hc
        refine lv_aload_n hx hb dX6_judge_24 rfl (lv_at hl 0 rfl) ?_
        refine lv_iload_n hx hb dX6_judge_25 rfl (lv_at hl 1 rfl) ?_
        have hk := h.1
        replace h := h.2
        refine gc_i (va_runV (As := [.int x1]) (rest := []) ⟨hx, hb, hml, hown, hts⟩ (c_X6_noScale l D κ A S8 a0 x1 _ h) (cwV 1 hts gX6_judge_X6_noScale rfl rfl rfl (by decide +kernel) ⟨Nat.le_of_ble_eq_true rfl, Nat.le_of_ble_eq_true rfl⟩) (pg_V (q := (RX6, TX6, 32)) hK hX hG (pg_A hA hS) (kc_7 hk) rfl) rfl rfl hl.1 rfl (lv_room (Nat.le_of_ble_eq_true rfl)) dX6_judge_26 ⟨Nat.le_of_ble_eq_true rfl, Nat.le_of_ble_eq_true rfl⟩) hS (fun z14 S13 H locs12 h hG hS => ?_)
        exact W.iret hx hb hr (gr_i h hG hK hX hS) hS.2.2 dX6_judge_29
    · replace h := h.2 hc
      refine lv_iconst (v := (-1 : Int32)) hx hb dX6_judge_14 (by decide) ?_
      exact W.iret hx hb hr (gr_i h hG hK hX hS) hS.2.2 dX6_judge_15
set_option maxHeartbeats 4000000 in
set_option maxRecDepth 100000 in
theorem c_X6_count (l : Launch) (D : va_G) (κ : Nat → ClassId) (A : Nat → Prop) (S : Hp) (a0 : Nat) (x1 : Int32) (Q : Int32 → Hp → Prop) (h : wp_X6_count a0 x1 S Q) : Met l yX6_count wsX6_count ({ frames := 2, cells := 0, slots := 0, locals := 96 } : Room) (PG D κ A S [.ref a0, .int x1]) (va_Qi Q (BG D κ A) A) 0 0 A := by
  refine Met.ofW (cc := cX6_count) (maxL := 4) (ret := (some .int)) (by decide) rfl ?_
  intro p e s m args below meth c s₁ B hml hv
  obtain ⟨hargs, hA, hG, hK, hX⟩ := hv
  have hx := B.exec
  have hb := B.bytes
  have hr := B.returns
  have hts := atoms_spec (ws := wsX6_count) B.pre
  have hown : s.vm.findClass RX6 = some m.cls := findClass_of_methodNamed B.named
  have hlocks := B.notSynchronized
  subst hargs
  clear B
  have hS : va_S A s.heap s.heap [] := va_S.rf
  have hl := lv_entry ([.ref a0, .int x1]) (n := 4) (Nat.le_of_ble_eq_true rfl)
  rw [lg_entry_eq]
  generalize (lg_sl ([.ref a0, .int x1]) ++ List.replicate (4 - (lg_sl ([.ref a0, .int x1])).length) Slot.unset).toArray = ls at hl ⊢
  have hl : lv_has ls 4 [(0, .ref a0), (1, .int x1)] := hl
  have hG : GG D κ A S s.heap := hG
  have k_39 : ∀  (n : Nat), ∀ (v0 : Nat) (v2 : Int32) (v3 : Int32) (S : Hp) (ls : Array Slot) (H : Heap) (locs : List Loc), lv_has ls 4 [(0, .ref v0), (2, .int v2), (3, .int v3)] → GG D κ A S H → va_S A s.heap H locs → it (L_X6_count_39  Q) n (v0, v2, v3, S) → W p l e ({ frames := 2, cells := 0, slots := 0, locals := 96 } : Room) s m ([.ref a0, .int x1] : List Value).toArray below meth c H locs 0 0 (MQ below (va_Qi Q (BG D κ A) A) ([.ref a0, .int x1] : List Value).toArray s 0 0 A) (F0 m 39 ls []) := by
    intro  n
    induction n with
    | zero => intro v0 v2 v3 S ls H locs hl hG hS h; exact False.elim h
    | succ n hC39 =>
      intro v0 v2 v3 S ls H locs hl hG hS h
      replace h : L_X6_count_39  Q (it (L_X6_count_39  Q) n) (v0, v2, v3, S) := h
      simp only [L_X6_count_39] at h
      refine lv_iload_n hx hb dX6_count_39 rfl (lv_at hl 2 rfl) ?_
      refine lv_aload_n hx hb dX6_count_40 rfl (lv_at hl 0 rfl) ?_
      have hk := h.1
      replace h := h.2
      refine gg_get (ci := 6) (C := RX6) (T := TX6) (N := 32) hx hb hts (fun _ h => List.mem_cons_of_mem _ (List.mem_append_right _ (h))) hown hK hG (kc_7 hk) rfl 0 (by decide) (hts (.fieldLink RX6 57 "FourStonesModel" "stones" "I") (List.mem_of_getElem? (i := 1) rfl)) (fun _ h9 => h9) rfl dX6_count_41 ?_
      refine lv_icmp_ge (tgt := 62) hx hb dX6_count_44 rfl (fun hc => ?_) (fun hc => ?_)
      · replace h := h.1 hc
        refine lv_iload_n hx hb dX6_count_62 rfl (lv_at hl 1 rfl) ?_
        exact W.iret hx hb hr (gr_i h hG hK hX hS) hS.2.2 dX6_count_63
      · replace h := h.2 hc
        refine lv_iload_n hx hb dX6_count_47 rfl (lv_at hl 1 rfl) ?_
        refine lv_aload_n hx hb dX6_count_48 rfl (lv_at hl 0 rfl) ?_
        have hk := h.1
        replace h := h.2
        obtain ⟨r1, hr1, h⟩ := h
        refine gg_get (v := .ref r1) (ci := 6) (C := RX6) (T := TX6) (N := 32) hx hb hts (fun _ h => List.mem_cons_of_mem _ (List.mem_append_right _ (h))) hown hK hG (kc_7 hk) rfl 1 (by decide) (hts (.fieldLink RX6 7 "FourStonesModel" "weight" "[I") (List.mem_of_getElem? (i := 2) rfl)) (fun _ h9 => h9) (congrArg (fun z => some (va_rf z)) hr1) dX6_count_49 ?_
        refine lv_iload_n hx hb dX6_count_52 rfl (lv_at hl 2 rfl) ?_
        have hk := h.1
        replace h := h.2
        have hi := h.1
        replace h := h.2
        refine gg_iald hx hb hK hG hk hi dX6_count_53 ?_
        refine lv_iadd hx hb dX6_count_54 ?_
        refine lv_topi (fun y2 ey2 => ?_)
        replace h := h y2 ey2
        refine lv_istore_n (lv' := [(2, .int y2), (0, .ref v0), (3, .int v3)]) hx hb dX6_count_55 rfl hl (by decide) rfl (fun ls hl => ?_)
        obtain ⟨y3, ey3⟩ : ∃ z, z = v3 + (1 : Int32) := ⟨_, rfl⟩
        replace h := h y3 ey3
        refine lv_iinc (v := y3) (lv' := [(3, .int y3), (2, .int y2), (0, .ref v0)]) hx hb dX6_count_56 hl (k := 2) rfl (by rw [ey3]; rfl) (by decide) rfl (fun ls hl => ?_)
        refine lv_goto (tgt := 39) hx hb dX6_count_59 rfl ?_
        exact hC39 v0 y2 y3 S ls _ _ (lv_sub hl [2, 1, 0] rfl) hG hS h
  refine lv_iconst (v := (0 : Int32)) hx hb dX6_count_0 (by decide) ?_
  refine lv_istore_n (lv' := [(2, .int (0 : Int32)), (0, .ref a0), (1, .int x1)]) hx hb dX6_count_1 rfl hl (by decide) rfl (fun ls hl => ?_)
  refine lv_iload_n hx hb dX6_count_2 rfl (lv_at hl 2 rfl) ?_
  by_cases hd : (x1).toInt < 0 ∨ 3 < (x1).toInt
  · replace h := h.2.2.2.2 hd
    refine lv_tableOut (tgt := 79) hx hb dX6_count_3 hd rfl ?_
    refine lv_iconst (v := (-1 : Int32)) hx hb dX6_count_79 (by decide) ?_
    exact W.iret hx hb hr (gr_i h hG hK hX hS) hS.2.2 dX6_count_80
  · have hd2 : (x1).toInt = 0 ∨ (x1).toInt = 1 ∨ (x1).toInt = 2 ∨ (x1).toInt = 3 := by omega
    rcases hd2 with hc | hc | hc | hc
    · replace h := h.1 hc
      refine lv_tableIn (off := 29) (tgt := 32) hx hb dX6_count_3 (by rw [hc]; decide) (by rw [hc]; decide) (by rw [hc]; rfl) rfl ?_
      refine lv_aload_n hx hb dX6_count_32 rfl (lv_at hl 1 rfl) ?_
      have hk := h.1
      replace h := h.2
      refine gg_get (ci := 6) (C := RX6) (T := TX6) (N := 32) hx hb hts (fun _ h => List.mem_cons_of_mem _ (List.mem_append_right _ (h))) hown hK hG (kc_7 hk) rfl 0 (by decide) (hts (.fieldLink RX6 57 "FourStonesModel" "stones" "I") (List.mem_of_getElem? (i := 1) rfl)) (fun _ h9 => h9) rfl dX6_count_33 ?_
      exact W.iret hx hb hr (gr_i h hG hK hX hS) hS.2.2 dX6_count_36
    · replace h := h.2.1 hc
      refine lv_tableIn (off := 34) (tgt := 37) hx hb dX6_count_3 (by rw [hc]; decide) (by rw [hc]; decide) (by rw [hc]; rfl) rfl ?_
      refine lv_iconst (v := (0 : Int32)) hx hb dX6_count_37 (by decide) ?_
      refine lv_istore_n (lv' := [(3, .int (0 : Int32)), (2, .int (0 : Int32)), (0, .ref a0), (1, .int x1)]) hx hb dX6_count_38 rfl hl (by decide) rfl (fun ls hl => ?_)
      obtain ⟨nn, h⟩ := h
      exact k_39  nn a0 (0 : Int32) (0 : Int32) S ls _ _ (lv_sub hl [2, 1, 0] rfl) hG hS h
    · replace h := h.2.2.1 hc
      refine lv_tableIn (off := 61) (tgt := 64) hx hb dX6_count_3 (by rw [hc]; decide) (by rw [hc]; decide) (by rw [hc]; rfl) rfl ?_
      refine lv_aload_n hx hb dX6_count_64 rfl (lv_at hl 1 rfl) ?_
      refine lv_bipush (v := (63 : Int32)) hx hb dX6_count_65 (by decide) ?_
      have hk := h.1
      replace h := h.2
      refine gc_i (va_runV (As := [.int (63 : Int32)]) (rest := []) ⟨hx, hb, hml, hown, hts⟩ (c_X6_priceOf l D κ A S a0 (63 : Int32) _ h) (cwV 1 hts gX6_count_X6_priceOf rfl rfl rfl (by decide +kernel) ⟨Nat.le_of_ble_eq_true rfl, Nat.le_of_ble_eq_true rfl⟩) (pg_V (q := (RX6, TX6, 32)) hK hX hG (pg_A hA hS) (kc_7 hk) rfl) rfl rfl hl.1 rfl (lv_room (Nat.le_of_ble_eq_true rfl)) dX6_count_67 ⟨Nat.le_of_ble_eq_true rfl, Nat.le_of_ble_eq_true rfl⟩) hS (fun z3 S2 H locs1 h hG hS => ?_)
      exact W.iret hx hb hr (gr_i h hG hK hX hS) hS.2.2 dX6_count_70
    · replace h := h.2.2.2.1 hc
      refine lv_tableIn (off := 68) (tgt := 71) hx hb dX6_count_3 (by rw [hc]; decide) (by rw [hc]; decide) (by rw [hc]; rfl) rfl ?_
      refine lv_aload_n hx hb dX6_count_71 rfl (lv_at hl 1 rfl) ?_
      have hk := h.1
      replace h := h.2
      refine gg_get (ci := 6) (C := RX6) (T := TX6) (N := 32) hx hb hts (fun _ h => List.mem_cons_of_mem _ (List.mem_append_right _ (h))) hown hK hG (kc_7 hk) rfl 0 (by decide) (hts (.fieldLink RX6 57 "FourStonesModel" "stones" "I") (List.mem_of_getElem? (i := 1) rfl)) (fun _ h9 => h9) rfl dX6_count_72 ?_
      refine gc_i (va_runS (As := [.int (gI S 70 a0)]) (rest := []) ⟨hx, hb, hml, hown, hts⟩ (c_X6_power l D κ A S (gI S 70 a0) _ h) (va_cwS 1 hts gX6_count_X6_power rfl rfl rfl (by decide +kernel) ⟨Nat.le_of_ble_eq_true rfl, Nat.le_of_ble_eq_true rfl⟩) (pg_S hK hX hG (pg_A hA hS)) rfl rfl hl.1 rfl (lv_room (Nat.le_of_ble_eq_true rfl)) dX6_count_75 ⟨Nat.le_of_ble_eq_true rfl, Nat.le_of_ble_eq_true rfl⟩) hS (fun z6 S5 H locs4 h hG hS => ?_)
      exact W.iret hx hb hr (gr_i h hG hK hX hS) hS.2.2 dX6_count_78
set_option maxHeartbeats 4000000 in
set_option maxRecDepth 100000 in
theorem c_X6_comes (l : Launch) (D : va_G) (κ : Nat → ClassId) (A : Nat → Prop) (S : Hp) (a0 : Nat) (x1 : Int32) (Q : Int32 → Hp → Prop) (h : wp_X6_comes a0 x1 S Q) : Met l yX6_comes wsX6_comes ({ frames := 1, cells := 0, slots := 0, locals := 48 } : Room) (PG D κ A S [.ref a0, .int x1]) (va_Qi Q (BG D κ A) A) 0 0 A := by
  refine Met.ofW (cc := cX6_comes) (maxL := 2) (ret := (some .boolean)) (by decide) rfl ?_
  intro p e s m args below meth c s₁ B hml hv
  obtain ⟨hargs, hA, hG, hK, hX⟩ := hv
  have hx := B.exec
  have hb := B.bytes
  have hr := B.returns
  have hts := atoms_spec (ws := wsX6_comes) B.pre
  have hown : s.vm.findClass RX6 = some m.cls := findClass_of_methodNamed B.named
  have hlocks := B.notSynchronized
  subst hargs
  clear B
  have hS : va_S A s.heap s.heap [] := va_S.rf
  have hl := lv_entry ([.ref a0, .int x1]) (n := 2) (Nat.le_of_ble_eq_true rfl)
  rw [lg_entry_eq]
  generalize (lg_sl ([.ref a0, .int x1]) ++ List.replicate (2 - (lg_sl ([.ref a0, .int x1])).length) Slot.unset).toArray = ls at hl ⊢
  have hl : lv_has ls 2 [(0, .ref a0), (1, .int x1)] := hl
  have hG : GG D κ A S s.heap := hG
  refine lv_aload_n hx hb dX6_comes_0 rfl (lv_at hl 0 rfl) ?_
  have hk := h.1
  replace h := h.2
  refine gg_get (ci := 6) (C := RX6) (T := TX6) (N := 32) hx hb hts (fun _ h => List.mem_cons_of_mem _ (List.mem_append_right _ (h))) hown hK hG (kc_7 hk) rfl 20 (by decide) (hts (.fieldLink RX6 177 "FourStonesModel" "place" "I") (List.mem_of_getElem? (i := 1) rfl)) (fun _ h9 => h9) rfl dX6_comes_1 ?_
  refine lv_aload_n hx hb dX6_comes_4 rfl (lv_at hl 0 rfl) ?_
  have hk := h.1
  replace h := h.2
  refine gg_get (ci := 6) (C := RX6) (T := TX6) (N := 32) hx hb hts (fun _ h => List.mem_cons_of_mem _ (List.mem_append_right _ (h))) hown hK hG (kc_7 hk) rfl 19 (by decide) (hts (.fieldLink RX6 180 "FourStonesModel" "to" "I") (List.mem_of_getElem? (i := 2) rfl)) (fun _ h9 => h9) rfl dX6_comes_5 ?_
  refine lv_icmp_ge (tgt := 33) hx hb dX6_comes_8 rfl (fun hc => ?_) (fun hc => ?_)
  · replace h := h.1 hc
    refine lv_iconst (v := (0 : Int32)) hx hb dX6_comes_33 (by decide) ?_
    exact W.zret (ty := .boolean) hx hb hr (by decide) (gr_i h hG hK hX hS) hS.2.2 dX6_comes_34
  · replace h := h.2 hc
    refine lv_aload_n hx hb dX6_comes_11 rfl (lv_at hl 0 rfl) ?_
    have hk := h.1
    replace h := h.2
    obtain ⟨r1, hr1, h⟩ := h
    refine gg_get (v := .ref r1) (ci := 6) (C := RX6) (T := TX6) (N := 32) hx hb hts (fun _ h => List.mem_cons_of_mem _ (List.mem_append_right _ (h))) hown hK hG (kc_7 hk) rfl 29 (by decide) (hts (.fieldLink RX6 47 "FourStonesModel" "items" "[I") (List.mem_of_getElem? (i := 3) rfl)) (fun _ h9 => h9) (congrArg (fun z => some (va_rf z)) hr1) dX6_comes_12 ?_
    refine lv_aload_n hx hb dX6_comes_15 rfl (lv_at hl 0 rfl) ?_
    have hk := h.1
    replace h := h.2
    refine gg_get (ci := 6) (C := RX6) (T := TX6) (N := 32) hx hb hts (fun _ h => List.mem_cons_of_mem _ (List.mem_append_right _ (h))) hown hK hG (kc_7 hk) rfl 18 (by decide) (hts (.fieldLink RX6 183 "FourStonesModel" "from" "I") (List.mem_of_getElem? (i := 4) rfl)) (fun _ h9 => h9) rfl dX6_comes_16 ?_
    refine lv_aload_n hx hb dX6_comes_19 rfl (lv_at hl 0 rfl) ?_
    have hk := h.1
    replace h := h.2
    refine gg_get (ci := 6) (C := RX6) (T := TX6) (N := 32) hx hb hts (fun _ h => List.mem_cons_of_mem _ (List.mem_append_right _ (h))) hown hK hG (kc_7 hk) rfl 20 (by decide) (hts (.fieldLink RX6 177 "FourStonesModel" "place" "I") (List.mem_of_getElem? (i := 1) rfl)) (fun _ h9 => h9) rfl dX6_comes_20 ?_
    refine lv_iadd hx hb dX6_comes_23 ?_
    have hk := h.1
    replace h := h.2
    have hi := h.1
    replace h := h.2
    refine gg_iald hx hb hK hG hk hi dX6_comes_24 ?_
    refine lv_iload_n hx hb dX6_comes_25 rfl (lv_at hl 1 rfl) ?_
    refine lv_icmp_ne (tgt := 33) hx hb dX6_comes_26 rfl (fun hc => ?_) (fun hc => ?_)
    · replace h := h.1 hc
      refine lv_iconst (v := (0 : Int32)) hx hb dX6_comes_33 (by decide) ?_
      exact W.zret (ty := .boolean) hx hb hr (by decide) (gr_i h hG hK hX hS) hS.2.2 dX6_comes_34
    · replace h := h.2 hc
      refine lv_iconst (v := (1 : Int32)) hx hb dX6_comes_29 (by decide) ?_
      refine lv_goto (tgt := 34) hx hb dX6_comes_30 rfl ?_
      exact W.zret (ty := .boolean) hx hb hr (by decide) (gr_i h hG hK hX hS) hS.2.2 dX6_comes_34
set_option maxHeartbeats 4000000 in
set_option maxRecDepth 100000 in
theorem c_X6_expect (l : Launch) (D : va_G) (κ : Nat → ClassId) (A : Nat → Prop) (S : Hp) (a0 : Nat) (x1 : Int32) (Q : Hp → Prop) (h : wp_X6_expect a0 x1 S Q) : Met l yX6_expect wsX6_expect ({ frames := 2, cells := 0, slots := 0, locals := 96 } : Room) (PG D κ A S [.ref a0, .int x1]) (va_Qv Q (BG D κ A) A) 0 0 A := by
  refine Met.ofW (cc := cX6_expect) (maxL := 2) (ret := none) (by decide) rfl ?_
  intro p e s m args below meth c s₁ B hml hv
  obtain ⟨hargs, hA, hG, hK, hX⟩ := hv
  have hx := B.exec
  have hb := B.bytes
  have hr := B.returns
  have hts := atoms_spec (ws := wsX6_expect) B.pre
  have hown : s.vm.findClass RX6 = some m.cls := findClass_of_methodNamed B.named
  have hlocks := B.notSynchronized
  subst hargs
  clear B
  have hS : va_S A s.heap s.heap [] := va_S.rf
  have hl := lv_entry ([.ref a0, .int x1]) (n := 2) (Nat.le_of_ble_eq_true rfl)
  rw [lg_entry_eq]
  generalize (lg_sl ([.ref a0, .int x1]) ++ List.replicate (2 - (lg_sl ([.ref a0, .int x1])).length) Slot.unset).toArray = ls at hl ⊢
  have hl : lv_has ls 2 [(0, .ref a0), (1, .int x1)] := hl
  have hG : GG D κ A S s.heap := hG
  refine lv_aload_n hx hb dX6_expect_0 rfl (lv_at hl 0 rfl) ?_
  have hk := h.1
  replace h := h.2
  refine gg_get (ci := 6) (C := RX6) (T := TX6) (N := 32) hx hb hts (fun _ h => List.mem_cons_of_mem _ (List.mem_append_right _ (h))) hown hK hG (kc_7 hk) rfl 21 (by decide) (hts (.fieldLink RX6 186 "FourStonesModel" "well" "Z") (List.mem_of_getElem? (i := 1) rfl)) (fun _ h9 => h9) rfl dX6_expect_1 ?_
  refine lv_if_eq (tgt := 28) hx hb dX6_expect_4 rfl (fun hc => ?_) (fun hc => ?_)
  · replace h := h.1 hc
    refine lv_aload_n hx hb dX6_expect_28 rfl (lv_at hl 0 rfl) ?_
    refine lv_iconst (v := (0 : Int32)) hx hb dX6_expect_29 (by decide) ?_
    have hk := h.1
    replace h := h.2
    obtain ⟨S1, eS1⟩ : ∃ z, z = sI S 91 a0 (0 : Int32) := ⟨_, rfl⟩
    replace h := h S1 eS1
    refine gg_put (ci := 6) (C := RX6) (T := TX6) (N := 32) hx hb hts (fun _ h => List.mem_cons_of_mem _ (List.mem_append_right _ (h))) tyX6 tyX6_ok nmX6 hown hK hG hS (kc_7 hk) rfl 21 (by decide) (hts (.fieldLink RX6 186 "FourStonesModel" "well" "Z") (List.mem_of_getElem? (i := 1) rfl)) (fun _ h9 => h9) rfl (tyX6_ok 21 (by decide)) (by decide) (by decide) (Nat.le_of_ble_eq_true rfl) dX6_expect_30 (S' := S1) (fun b hb9 => by rw [eS1]; exact cO_sI hb9) (by rw [eS1]; exact cs_91 hk) (fun H locs2 hG hS => ?_)
    exact W.vret hx hb hr (gr_v h hG hK hX hS) hS.2.2 dX6_expect_33
  · replace h := h.2 hc
    refine lv_aload_n hx hb dX6_expect_7 rfl (lv_at hl 0 rfl) ?_
    refine lv_iload_n hx hb dX6_expect_8 rfl (lv_at hl 1 rfl) ?_
    have hk := h.1
    replace h := h.2
    refine gc_i (va_runV (As := [.int x1]) (rest := []) ⟨hx, hb, hml, hown, hts⟩ (c_X6_comes l D κ A S a0 x1 _ h) (cwV 1 hts gX6_expect_X6_comes rfl rfl rfl (by decide +kernel) ⟨Nat.le_of_ble_eq_true rfl, Nat.le_of_ble_eq_true rfl⟩) (pg_V (q := (RX6, TX6, 32)) hK hX hG (pg_A hA hS) (kc_7 hk) rfl) rfl rfl hl.1 rfl (lv_room (Nat.le_of_ble_eq_true rfl)) dX6_expect_9 ⟨Nat.le_of_ble_eq_true rfl, Nat.le_of_ble_eq_true rfl⟩) hS (fun z5 S4 H locs3 h hG hS => ?_)
    refine lv_if_eq (tgt := 28) hx hb dX6_expect_12 rfl (fun hc => ?_) (fun hc => ?_)
    · replace h := h.1 hc
      refine lv_aload_n hx hb dX6_expect_28 rfl (lv_at hl 0 rfl) ?_
      refine lv_iconst (v := (0 : Int32)) hx hb dX6_expect_29 (by decide) ?_
      have hk := h.1
      replace h := h.2
      obtain ⟨S6, eS6⟩ : ∃ z, z = sI S4 91 a0 (0 : Int32) := ⟨_, rfl⟩
      replace h := h S6 eS6
      refine gg_put (ci := 6) (C := RX6) (T := TX6) (N := 32) hx hb hts (fun _ h => List.mem_cons_of_mem _ (List.mem_append_right _ (h))) tyX6 tyX6_ok nmX6 hown hK hG hS (kc_7 hk) rfl 21 (by decide) (hts (.fieldLink RX6 186 "FourStonesModel" "well" "Z") (List.mem_of_getElem? (i := 1) rfl)) (fun _ h9 => h9) rfl (tyX6_ok 21 (by decide)) (by decide) (by decide) (Nat.le_of_ble_eq_true rfl) dX6_expect_30 (S' := S6) (fun b hb9 => by rw [eS6]; exact cO_sI hb9) (by rw [eS6]; exact cs_91 hk) (fun H locs7 hG hS => ?_)
      exact W.vret hx hb hr (gr_v h hG hK hX hS) hS.2.2 dX6_expect_33
    · replace h := h.2 hc
      refine lv_aload_n hx hb dX6_expect_15 rfl (lv_at hl 0 rfl) ?_
      refine lv_dup hx hb dX6_expect_16 rfl ?_
      have hk := h.1
      replace h := h.2
      refine gg_get (ci := 6) (C := RX6) (T := TX6) (N := 32) hx hb hts (fun _ h => List.mem_cons_of_mem _ (List.mem_append_right _ (h))) hown hK hG (kc_7 hk) rfl 20 (by decide) (hts (.fieldLink RX6 177 "FourStonesModel" "place" "I") (List.mem_of_getElem? (i := 2) rfl)) (fun _ h9 => h9) rfl dX6_expect_17 ?_
      refine lv_iconst (v := (1 : Int32)) hx hb dX6_expect_20 (by decide) ?_
      refine lv_iadd hx hb dX6_expect_21 ?_
      have hk := h.1
      replace h := h.2
      obtain ⟨S8, eS8⟩ : ∃ z, z = sI S4 90 a0 ((gI S4 90 a0) + (1 : Int32)) := ⟨_, rfl⟩
      replace h := h S8 eS8
      refine gg_put (ci := 6) (C := RX6) (T := TX6) (N := 32) hx hb hts (fun _ h => List.mem_cons_of_mem _ (List.mem_append_right _ (h))) tyX6 tyX6_ok nmX6 hown hK hG hS (kc_7 hk) rfl 20 (by decide) (hts (.fieldLink RX6 177 "FourStonesModel" "place" "I") (List.mem_of_getElem? (i := 2) rfl)) (fun _ h9 => h9) rfl (tyX6_ok 20 (by decide)) rfl rfl (Nat.le_of_ble_eq_true rfl) dX6_expect_22 (S' := S8) (fun b hb9 => by rw [eS8]; exact cO_sI hb9) (by rw [eS8]; exact cs_90 hk) (fun H locs9 hG hS => ?_)
      refine lv_goto (tgt := 33) hx hb dX6_expect_25 rfl ?_
      exact W.vret hx hb hr (gr_v h hG hK hX hS) hS.2.2 dX6_expect_33
set_option maxHeartbeats 4000000 in
set_option maxRecDepth 100000 in
theorem c_X6_isDigit (l : Launch) (D : va_G) (κ : Nat → ClassId) (A : Nat → Prop) (S : Hp) (a0 : Nat) (Q : Int32 → Hp → Prop) (h : wp_X6_isDigit a0 S Q) : Met l yX6_isDigit wsX6_isDigit ({ frames := 1, cells := 0, slots := 0, locals := 48 } : Room) (PG D κ A S [.ref a0]) (va_Qi Q (BG D κ A) A) 0 0 A := by
  refine Met.ofW (cc := cX6_isDigit) (maxL := 1) (ret := (some .boolean)) (by decide) rfl ?_
  intro p e s m args below meth c s₁ B hml hv
  obtain ⟨hargs, hA, hG, hK, hX⟩ := hv
  have hx := B.exec
  have hb := B.bytes
  have hr := B.returns
  have hts := atoms_spec (ws := wsX6_isDigit) B.pre
  have hown : s.vm.findClass RX6 = some m.cls := findClass_of_methodNamed B.named
  have hlocks := B.notSynchronized
  subst hargs
  clear B
  have hS : va_S A s.heap s.heap [] := va_S.rf
  have hl := lv_entry ([.ref a0]) (n := 1) (Nat.le_of_ble_eq_true rfl)
  rw [lg_entry_eq]
  generalize (lg_sl ([.ref a0]) ++ List.replicate (1 - (lg_sl ([.ref a0])).length) Slot.unset).toArray = ls at hl ⊢
  have hl : lv_has ls 1 [(0, .ref a0)] := hl
  have hG : GG D κ A S s.heap := hG
  refine lv_aload_n hx hb dX6_isDigit_0 rfl (lv_at hl 0 rfl) ?_
  have hk := h.1
  replace h := h.2
  refine gg_get (ci := 6) (C := RX6) (T := TX6) (N := 32) hx hb hts (fun _ h => List.mem_cons_of_mem _ (List.mem_append_right _ (h))) hown hK hG (kc_7 hk) rfl 20 (by decide) (hts (.fieldLink RX6 177 "FourStonesModel" "place" "I") (List.mem_of_getElem? (i := 1) rfl)) (fun _ h9 => h9) rfl dX6_isDigit_1 ?_
  refine lv_aload_n hx hb dX6_isDigit_4 rfl (lv_at hl 0 rfl) ?_
  have hk := h.1
  replace h := h.2
  refine gg_get (ci := 6) (C := RX6) (T := TX6) (N := 32) hx hb hts (fun _ h => List.mem_cons_of_mem _ (List.mem_append_right _ (h))) hown hK hG (kc_7 hk) rfl 19 (by decide) (hts (.fieldLink RX6 180 "FourStonesModel" "to" "I") (List.mem_of_getElem? (i := 2) rfl)) (fun _ h9 => h9) rfl dX6_isDigit_5 ?_
  refine lv_icmp_ge (tgt := 53) hx hb dX6_isDigit_8 rfl (fun hc => ?_) (fun hc => ?_)
  · replace h := h.1 hc
    refine lv_iconst (v := (0 : Int32)) hx hb dX6_isDigit_53 (by decide) ?_
    exact W.zret (ty := .boolean) hx hb hr (by decide) (gr_i h hG hK hX hS) hS.2.2 dX6_isDigit_54
  · replace h := h.2 hc
    refine lv_aload_n hx hb dX6_isDigit_11 rfl (lv_at hl 0 rfl) ?_
    have hk := h.1
    replace h := h.2
    obtain ⟨r1, hr1, h⟩ := h
    refine gg_get (v := .ref r1) (ci := 6) (C := RX6) (T := TX6) (N := 32) hx hb hts (fun _ h => List.mem_cons_of_mem _ (List.mem_append_right _ (h))) hown hK hG (kc_7 hk) rfl 29 (by decide) (hts (.fieldLink RX6 47 "FourStonesModel" "items" "[I") (List.mem_of_getElem? (i := 3) rfl)) (fun _ h9 => h9) (congrArg (fun z => some (va_rf z)) hr1) dX6_isDigit_12 ?_
    refine lv_aload_n hx hb dX6_isDigit_15 rfl (lv_at hl 0 rfl) ?_
    have hk := h.1
    replace h := h.2
    refine gg_get (ci := 6) (C := RX6) (T := TX6) (N := 32) hx hb hts (fun _ h => List.mem_cons_of_mem _ (List.mem_append_right _ (h))) hown hK hG (kc_7 hk) rfl 18 (by decide) (hts (.fieldLink RX6 183 "FourStonesModel" "from" "I") (List.mem_of_getElem? (i := 4) rfl)) (fun _ h9 => h9) rfl dX6_isDigit_16 ?_
    refine lv_aload_n hx hb dX6_isDigit_19 rfl (lv_at hl 0 rfl) ?_
    have hk := h.1
    replace h := h.2
    refine gg_get (ci := 6) (C := RX6) (T := TX6) (N := 32) hx hb hts (fun _ h => List.mem_cons_of_mem _ (List.mem_append_right _ (h))) hown hK hG (kc_7 hk) rfl 20 (by decide) (hts (.fieldLink RX6 177 "FourStonesModel" "place" "I") (List.mem_of_getElem? (i := 1) rfl)) (fun _ h9 => h9) rfl dX6_isDigit_20 ?_
    refine lv_iadd hx hb dX6_isDigit_23 ?_
    have hk := h.1
    replace h := h.2
    have hi := h.1
    replace h := h.2
    refine gg_iald hx hb hK hG hk hi dX6_isDigit_24 ?_
    refine lv_bipush (v := (48 : Int32)) hx hb dX6_isDigit_25 (by decide) ?_
    refine lv_icmp_lt (tgt := 53) hx hb dX6_isDigit_27 rfl (fun hc => ?_) (fun hc => ?_)
    · replace h := h.1 hc
      refine lv_iconst (v := (0 : Int32)) hx hb dX6_isDigit_53 (by decide) ?_
      exact W.zret (ty := .boolean) hx hb hr (by decide) (gr_i h hG hK hX hS) hS.2.2 dX6_isDigit_54
    · replace h := h.2 hc
      refine lv_aload_n hx hb dX6_isDigit_30 rfl (lv_at hl 0 rfl) ?_
      have hk := h.1
      replace h := h.2
      obtain ⟨r2, hr2, h⟩ := h
      refine gg_get (v := .ref r2) (ci := 6) (C := RX6) (T := TX6) (N := 32) hx hb hts (fun _ h => List.mem_cons_of_mem _ (List.mem_append_right _ (h))) hown hK hG (kc_7 hk) rfl 29 (by decide) (hts (.fieldLink RX6 47 "FourStonesModel" "items" "[I") (List.mem_of_getElem? (i := 3) rfl)) (fun _ h9 => h9) (congrArg (fun z => some (va_rf z)) hr2) dX6_isDigit_31 ?_
      refine lv_aload_n hx hb dX6_isDigit_34 rfl (lv_at hl 0 rfl) ?_
      have hk := h.1
      replace h := h.2
      refine gg_get (ci := 6) (C := RX6) (T := TX6) (N := 32) hx hb hts (fun _ h => List.mem_cons_of_mem _ (List.mem_append_right _ (h))) hown hK hG (kc_7 hk) rfl 18 (by decide) (hts (.fieldLink RX6 183 "FourStonesModel" "from" "I") (List.mem_of_getElem? (i := 4) rfl)) (fun _ h9 => h9) rfl dX6_isDigit_35 ?_
      refine lv_aload_n hx hb dX6_isDigit_38 rfl (lv_at hl 0 rfl) ?_
      have hk := h.1
      replace h := h.2
      refine gg_get (ci := 6) (C := RX6) (T := TX6) (N := 32) hx hb hts (fun _ h => List.mem_cons_of_mem _ (List.mem_append_right _ (h))) hown hK hG (kc_7 hk) rfl 20 (by decide) (hts (.fieldLink RX6 177 "FourStonesModel" "place" "I") (List.mem_of_getElem? (i := 1) rfl)) (fun _ h9 => h9) rfl dX6_isDigit_39 ?_
      refine lv_iadd hx hb dX6_isDigit_42 ?_
      have hk := h.1
      replace h := h.2
      have hi := h.1
      replace h := h.2
      refine gg_iald hx hb hK hG hk hi dX6_isDigit_43 ?_
      refine lv_bipush (v := (57 : Int32)) hx hb dX6_isDigit_44 (by decide) ?_
      refine lv_icmp_gt (tgt := 53) hx hb dX6_isDigit_46 rfl (fun hc => ?_) (fun hc => ?_)
      · replace h := h.1 hc
        refine lv_iconst (v := (0 : Int32)) hx hb dX6_isDigit_53 (by decide) ?_
        exact W.zret (ty := .boolean) hx hb hr (by decide) (gr_i h hG hK hX hS) hS.2.2 dX6_isDigit_54
      · replace h := h.2 hc
        refine lv_iconst (v := (1 : Int32)) hx hb dX6_isDigit_49 (by decide) ?_
        refine lv_goto (tgt := 54) hx hb dX6_isDigit_50 rfl ?_
        exact W.zret (ty := .boolean) hx hb hr (by decide) (gr_i h hG hK hX hS) hS.2.2 dX6_isDigit_54
set_option maxHeartbeats 4000000 in
set_option maxRecDepth 100000 in
theorem c_X6_figures (l : Launch) (D : va_G) (κ : Nat → ClassId) (A : Nat → Prop) (S : Hp) (a0 : Nat) (x1 : Int32) (Q : Int32 → Hp → Prop) (h : wp_X6_figures a0 x1 S Q) : Met l yX6_figures wsX6_figures ({ frames := 2, cells := 0, slots := 0, locals := 96 } : Room) (PG D κ A S [.ref a0, .int x1]) (va_Qi Q (BG D κ A) A) 0 0 A := by
  refine Met.ofW (cc := cX6_figures) (maxL := 4) (ret := (some .int)) (by decide) rfl ?_
  intro p e s m args below meth c s₁ B hml hv
  obtain ⟨hargs, hA, hG, hK, hX⟩ := hv
  have hx := B.exec
  have hb := B.bytes
  have hr := B.returns
  have hts := atoms_spec (ws := wsX6_figures) B.pre
  have hown : s.vm.findClass RX6 = some m.cls := findClass_of_methodNamed B.named
  have hlocks := B.notSynchronized
  subst hargs
  clear B
  have hS : va_S A s.heap s.heap [] := va_S.rf
  have hl := lv_entry ([.ref a0, .int x1]) (n := 4) (Nat.le_of_ble_eq_true rfl)
  rw [lg_entry_eq]
  generalize (lg_sl ([.ref a0, .int x1]) ++ List.replicate (4 - (lg_sl ([.ref a0, .int x1])).length) Slot.unset).toArray = ls at hl ⊢
  have hl : lv_has ls 4 [(0, .ref a0), (1, .int x1)] := hl
  have hG : GG D κ A S s.heap := hG
  have k_51 : ∀  (n : Nat), ∀ (v0 : Nat) (v1 : Int32) (v2 : Int32) (v3 : Int32) (S : Hp) (ls : Array Slot) (H : Heap) (locs : List Loc), lv_has ls 4 [(0, .ref v0), (1, .int v1), (2, .int v2), (3, .int v3)] → GG D κ A S H → va_S A s.heap H locs → it (L_X6_figures_51  Q) n (v0, v1, v2, v3, S) → W p l e ({ frames := 2, cells := 0, slots := 0, locals := 96 } : Room) s m ([.ref a0, .int x1] : List Value).toArray below meth c H locs 0 0 (MQ below (va_Qi Q (BG D κ A) A) ([.ref a0, .int x1] : List Value).toArray s 0 0 A) (F0 m 51 ls []) := by
    intro  n
    induction n with
    | zero => intro v0 v1 v2 v3 S ls H locs hl hG hS h; exact False.elim h
    | succ n hC51 =>
      intro v0 v1 v2 v3 S ls H locs hl hG hS h
      replace h : L_X6_figures_51  Q (it (L_X6_figures_51  Q) n) (v0, v1, v2, v3, S) := h
      simp only [L_X6_figures_51] at h
      refine lv_iload_n hx hb dX6_figures_51 rfl (lv_at hl 3 rfl) ?_
      refine lv_iload_n hx hb dX6_figures_52 rfl (lv_at hl 1 rfl) ?_
      refine lv_icmp_ge (tgt := 106) hx hb dX6_figures_53 rfl (fun hc => ?_) (fun hc => ?_)
      · replace h := h.1 hc
        refine lv_iload_n hx hb dX6_figures_106 rfl (lv_at hl 2 rfl) ?_
        exact W.iret hx hb hr (gr_i h hG hK hX hS) hS.2.2 dX6_figures_107
      · replace h := h.2 hc
        refine lv_iload_n hx hb dX6_figures_56 rfl (lv_at hl 2 rfl) ?_
        refine lv_if_le (tgt := 106) hx hb dX6_figures_57 rfl (fun hc => ?_) (fun hc => ?_)
        · replace h := h.1 hc
          refine lv_iload_n hx hb dX6_figures_106 rfl (lv_at hl 2 rfl) ?_
          exact W.iret hx hb hr (gr_i h hG hK hX hS) hS.2.2 dX6_figures_107
        · replace h := h.2 hc
          refine lv_aload_n hx hb dX6_figures_60 rfl (lv_at hl 0 rfl) ?_
          have hk := h.1
          replace h := h.2
          refine gc_i (va_runV (As := []) (rest := []) ⟨hx, hb, hml, hown, hts⟩ (c_X6_isDigit l D κ A S v0 _ h) (cwV 0 hts gX6_figures_X6_isDigit rfl rfl rfl (by decide +kernel) ⟨Nat.le_of_ble_eq_true rfl, Nat.le_of_ble_eq_true rfl⟩) (pg_V (q := (RX6, TX6, 32)) hK hX hG (pg_A hA hS) (kc_7 hk) rfl) rfl rfl hl.1 rfl (lv_room (Nat.le_of_ble_eq_true rfl)) dX6_figures_61 ⟨Nat.le_of_ble_eq_true rfl, Nat.le_of_ble_eq_true rfl⟩) hS (fun z3 S2 H locs1 h hG hS => ?_)
          refine lv_if_eq (tgt := 106) hx hb dX6_figures_64 rfl (fun hc => ?_) (fun hc => ?_)
          · replace h := h.1 hc
            refine lv_iload_n hx hb dX6_figures_106 rfl (lv_at hl 2 rfl) ?_
            exact W.iret hx hb hr (gr_i h hG hK hX hS) hS.2.2 dX6_figures_107
          · replace h := h.2 hc
            refine lv_bipush (v := (10 : Int32)) hx hb dX6_figures_67 (by decide) ?_
            refine lv_iload_n hx hb dX6_figures_69 rfl (lv_at hl 2 rfl) ?_
            refine lv_imul hx hb dX6_figures_70 ?_
            refine lv_aload_n hx hb dX6_figures_71 rfl (lv_at hl 0 rfl) ?_
            have hk := h.1
            replace h := h.2
            obtain ⟨r4, hr4, h⟩ := h
            refine gg_get (v := .ref r4) (ci := 6) (C := RX6) (T := TX6) (N := 32) hx hb hts (fun _ h => List.mem_cons_of_mem _ (List.mem_append_right _ (h))) hown hK hG (kc_7 hk) rfl 29 (by decide) (hts (.fieldLink RX6 47 "FourStonesModel" "items" "[I") (List.mem_of_getElem? (i := 2) rfl)) (fun _ h9 => h9) (congrArg (fun z => some (va_rf z)) hr4) dX6_figures_72 ?_
            refine lv_aload_n hx hb dX6_figures_75 rfl (lv_at hl 0 rfl) ?_
            have hk := h.1
            replace h := h.2
            refine gg_get (ci := 6) (C := RX6) (T := TX6) (N := 32) hx hb hts (fun _ h => List.mem_cons_of_mem _ (List.mem_append_right _ (h))) hown hK hG (kc_7 hk) rfl 18 (by decide) (hts (.fieldLink RX6 183 "FourStonesModel" "from" "I") (List.mem_of_getElem? (i := 3) rfl)) (fun _ h9 => h9) rfl dX6_figures_76 ?_
            refine lv_aload_n hx hb dX6_figures_79 rfl (lv_at hl 0 rfl) ?_
            have hk := h.1
            replace h := h.2
            refine gg_get (ci := 6) (C := RX6) (T := TX6) (N := 32) hx hb hts (fun _ h => List.mem_cons_of_mem _ (List.mem_append_right _ (h))) hown hK hG (kc_7 hk) rfl 20 (by decide) (hts (.fieldLink RX6 177 "FourStonesModel" "place" "I") (List.mem_of_getElem? (i := 4) rfl)) (fun _ h9 => h9) rfl dX6_figures_80 ?_
            refine lv_iadd hx hb dX6_figures_83 ?_
            have hk := h.1
            replace h := h.2
            have hi := h.1
            replace h := h.2
            refine gg_iald hx hb hK hG hk hi dX6_figures_84 ?_
            refine lv_iadd hx hb dX6_figures_85 ?_
            refine lv_bipush (v := (48 : Int32)) hx hb dX6_figures_86 (by decide) ?_
            refine lv_isub hx hb dX6_figures_88 ?_
            refine lv_topi (fun y5 ey5 => ?_)
            replace h := h y5 ey5
            refine lv_istore_n (lv' := [(2, .int y5), (0, .ref v0), (1, .int v1), (3, .int v3)]) hx hb dX6_figures_89 rfl hl (by decide) rfl (fun ls hl => ?_)
            refine lv_aload_n hx hb dX6_figures_90 rfl (lv_at hl 1 rfl) ?_
            refine lv_dup hx hb dX6_figures_91 rfl ?_
            have hk := h.1
            replace h := h.2
            refine gg_get (ci := 6) (C := RX6) (T := TX6) (N := 32) hx hb hts (fun _ h => List.mem_cons_of_mem _ (List.mem_append_right _ (h))) hown hK hG (kc_7 hk) rfl 20 (by decide) (hts (.fieldLink RX6 177 "FourStonesModel" "place" "I") (List.mem_of_getElem? (i := 4) rfl)) (fun _ h9 => h9) rfl dX6_figures_92 ?_
            refine lv_iconst (v := (1 : Int32)) hx hb dX6_figures_95 (by decide) ?_
            refine lv_iadd hx hb dX6_figures_96 ?_
            have hk := h.1
            replace h := h.2
            obtain ⟨S6, eS6⟩ : ∃ z, z = sI S2 90 v0 ((gI S2 90 v0) + (1 : Int32)) := ⟨_, rfl⟩
            replace h := h S6 eS6
            refine gg_put (ci := 6) (C := RX6) (T := TX6) (N := 32) hx hb hts (fun _ h => List.mem_cons_of_mem _ (List.mem_append_right _ (h))) tyX6 tyX6_ok nmX6 hown hK hG hS (kc_7 hk) rfl 20 (by decide) (hts (.fieldLink RX6 177 "FourStonesModel" "place" "I") (List.mem_of_getElem? (i := 4) rfl)) (fun _ h9 => h9) rfl (tyX6_ok 20 (by decide)) rfl rfl (Nat.le_of_ble_eq_true rfl) dX6_figures_97 (S' := S6) (fun b hb9 => by rw [eS6]; exact cO_sI hb9) (by rw [eS6]; exact cs_90 hk) (fun H locs7 hG hS => ?_)
            obtain ⟨y8, ey8⟩ : ∃ z, z = v3 + (1 : Int32) := ⟨_, rfl⟩
            replace h := h y8 ey8
            refine lv_iinc (v := y8) (lv' := [(3, .int y8), (2, .int y5), (0, .ref v0), (1, .int v1)]) hx hb dX6_figures_100 hl (k := 3) rfl (by rw [ey8]; rfl) (by decide) rfl (fun ls hl => ?_)
            refine lv_goto (tgt := 51) hx hb dX6_figures_103 rfl ?_
            exact hC51 v0 v1 y5 y8 S6 ls _ _ (lv_sub hl [2, 3, 1, 0] rfl) hG hS h
  refine lv_aload_n hx hb dX6_figures_0 rfl (lv_at hl 0 rfl) ?_
  have hk := h.1
  replace h := h.2
  refine gg_get (ci := 6) (C := RX6) (T := TX6) (N := 32) hx hb hts (fun _ h => List.mem_cons_of_mem _ (List.mem_append_right _ (h))) hown hK hG (kc_7 hk) rfl 21 (by decide) (hts (.fieldLink RX6 186 "FourStonesModel" "well" "Z") (List.mem_of_getElem? (i := 1) rfl)) (fun _ h9 => h9) rfl dX6_figures_1 ?_
  refine lv_if_eq (tgt := 14) hx hb dX6_figures_4 rfl (fun hc => ?_) (fun hc => ?_)
  · replace h := h.1 hc
    refine lv_aload_n hx hb dX6_figures_14 rfl (lv_at hl 0 rfl) ?_
    refine lv_iconst (v := (0 : Int32)) hx hb dX6_figures_15 (by decide) ?_
    have hk := h.1
    replace h := h.2
    obtain ⟨S1, eS1⟩ : ∃ z, z = sI S 91 a0 (0 : Int32) := ⟨_, rfl⟩
    replace h := h S1 eS1
    refine gg_put (ci := 6) (C := RX6) (T := TX6) (N := 32) hx hb hts (fun _ h => List.mem_cons_of_mem _ (List.mem_append_right _ (h))) tyX6 tyX6_ok nmX6 hown hK hG hS (kc_7 hk) rfl 21 (by decide) (hts (.fieldLink RX6 186 "FourStonesModel" "well" "Z") (List.mem_of_getElem? (i := 1) rfl)) (fun _ h9 => h9) rfl (tyX6_ok 21 (by decide)) (by decide) (by decide) (Nat.le_of_ble_eq_true rfl) dX6_figures_16 (S' := S1) (fun b hb9 => by rw [eS1]; exact cO_sI hb9) (by rw [eS1]; exact cs_91 hk) (fun H locs2 hG hS => ?_)
    refine lv_iconst (v := (0 : Int32)) hx hb dX6_figures_19 (by decide) ?_
    exact W.iret hx hb hr (gr_i h hG hK hX hS) hS.2.2 dX6_figures_20
  · replace h := h.2 hc
    refine lv_aload_n hx hb dX6_figures_7 rfl (lv_at hl 0 rfl) ?_
    have hk := h.1
    replace h := h.2
    refine gc_i (va_runV (As := []) (rest := []) ⟨hx, hb, hml, hown, hts⟩ (c_X6_isDigit l D κ A S a0 _ h) (cwV 0 hts gX6_figures_X6_isDigit rfl rfl rfl (by decide +kernel) ⟨Nat.le_of_ble_eq_true rfl, Nat.le_of_ble_eq_true rfl⟩) (pg_V (q := (RX6, TX6, 32)) hK hX hG (pg_A hA hS) (kc_7 hk) rfl) rfl rfl hl.1 rfl (lv_room (Nat.le_of_ble_eq_true rfl)) dX6_figures_8 ⟨Nat.le_of_ble_eq_true rfl, Nat.le_of_ble_eq_true rfl⟩) hS (fun z5 S4 H locs3 h hG hS => ?_)
    refine lv_if_ne (tgt := 21) hx hb dX6_figures_11 rfl (fun hc => ?_) (fun hc => ?_)
    · replace h := h.1 hc
      refine lv_aload_n hx hb dX6_figures_21 rfl (lv_at hl 0 rfl) ?_
      have hk := h.1
      replace h := h.2
      obtain ⟨r6, hr6, h⟩ := h
      refine gg_get (v := .ref r6) (ci := 6) (C := RX6) (T := TX6) (N := 32) hx hb hts (fun _ h => List.mem_cons_of_mem _ (List.mem_append_right _ (h))) hown hK hG (kc_7 hk) rfl 29 (by decide) (hts (.fieldLink RX6 47 "FourStonesModel" "items" "[I") (List.mem_of_getElem? (i := 2) rfl)) (fun _ h9 => h9) (congrArg (fun z => some (va_rf z)) hr6) dX6_figures_22 ?_
      refine lv_aload_n hx hb dX6_figures_25 rfl (lv_at hl 0 rfl) ?_
      have hk := h.1
      replace h := h.2
      refine gg_get (ci := 6) (C := RX6) (T := TX6) (N := 32) hx hb hts (fun _ h => List.mem_cons_of_mem _ (List.mem_append_right _ (h))) hown hK hG (kc_7 hk) rfl 18 (by decide) (hts (.fieldLink RX6 183 "FourStonesModel" "from" "I") (List.mem_of_getElem? (i := 3) rfl)) (fun _ h9 => h9) rfl dX6_figures_26 ?_
      refine lv_aload_n hx hb dX6_figures_29 rfl (lv_at hl 0 rfl) ?_
      have hk := h.1
      replace h := h.2
      refine gg_get (ci := 6) (C := RX6) (T := TX6) (N := 32) hx hb hts (fun _ h => List.mem_cons_of_mem _ (List.mem_append_right _ (h))) hown hK hG (kc_7 hk) rfl 20 (by decide) (hts (.fieldLink RX6 177 "FourStonesModel" "place" "I") (List.mem_of_getElem? (i := 4) rfl)) (fun _ h9 => h9) rfl dX6_figures_30 ?_
      refine lv_iadd hx hb dX6_figures_33 ?_
      have hk := h.1
      replace h := h.2
      have hi := h.1
      replace h := h.2
      refine gg_iald hx hb hK hG hk hi dX6_figures_34 ?_
      refine lv_bipush (v := (48 : Int32)) hx hb dX6_figures_35 (by decide) ?_
      refine lv_isub hx hb dX6_figures_37 ?_
      refine lv_topi (fun y7 ey7 => ?_)
      replace h := h y7 ey7
      refine lv_istore_n (lv' := [(2, .int y7), (0, .ref a0), (1, .int x1)]) hx hb dX6_figures_38 rfl hl (by decide) rfl (fun ls hl => ?_)
      refine lv_aload_n hx hb dX6_figures_39 rfl (lv_at hl 1 rfl) ?_
      refine lv_dup hx hb dX6_figures_40 rfl ?_
      have hk := h.1
      replace h := h.2
      refine gg_get (ci := 6) (C := RX6) (T := TX6) (N := 32) hx hb hts (fun _ h => List.mem_cons_of_mem _ (List.mem_append_right _ (h))) hown hK hG (kc_7 hk) rfl 20 (by decide) (hts (.fieldLink RX6 177 "FourStonesModel" "place" "I") (List.mem_of_getElem? (i := 4) rfl)) (fun _ h9 => h9) rfl dX6_figures_41 ?_
      refine lv_iconst (v := (1 : Int32)) hx hb dX6_figures_44 (by decide) ?_
      refine lv_iadd hx hb dX6_figures_45 ?_
      have hk := h.1
      replace h := h.2
      obtain ⟨S8, eS8⟩ : ∃ z, z = sI S4 90 a0 ((gI S4 90 a0) + (1 : Int32)) := ⟨_, rfl⟩
      replace h := h S8 eS8
      refine gg_put (ci := 6) (C := RX6) (T := TX6) (N := 32) hx hb hts (fun _ h => List.mem_cons_of_mem _ (List.mem_append_right _ (h))) tyX6 tyX6_ok nmX6 hown hK hG hS (kc_7 hk) rfl 20 (by decide) (hts (.fieldLink RX6 177 "FourStonesModel" "place" "I") (List.mem_of_getElem? (i := 4) rfl)) (fun _ h9 => h9) rfl (tyX6_ok 20 (by decide)) rfl rfl (Nat.le_of_ble_eq_true rfl) dX6_figures_46 (S' := S8) (fun b hb9 => by rw [eS8]; exact cO_sI hb9) (by rw [eS8]; exact cs_90 hk) (fun H locs9 hG hS => ?_)
      refine lv_iconst (v := (1 : Int32)) hx hb dX6_figures_49 (by decide) ?_
      refine lv_istore_n (lv' := [(3, .int (1 : Int32)), (2, .int y7), (0, .ref a0), (1, .int x1)]) hx hb dX6_figures_50 rfl hl (by decide) rfl (fun ls hl => ?_)
      obtain ⟨nn, h⟩ := h
      exact k_51  nn a0 x1 y7 (1 : Int32) S8 ls _ _ (lv_sub hl [2, 3, 1, 0] rfl) hG hS h
    · replace h := h.2 hc
      refine lv_aload_n hx hb dX6_figures_14 rfl (lv_at hl 0 rfl) ?_
      refine lv_iconst (v := (0 : Int32)) hx hb dX6_figures_15 (by decide) ?_
      have hk := h.1
      replace h := h.2
      obtain ⟨S10, eS10⟩ : ∃ z, z = sI S4 91 a0 (0 : Int32) := ⟨_, rfl⟩
      replace h := h S10 eS10
      refine gg_put (ci := 6) (C := RX6) (T := TX6) (N := 32) hx hb hts (fun _ h => List.mem_cons_of_mem _ (List.mem_append_right _ (h))) tyX6 tyX6_ok nmX6 hown hK hG hS (kc_7 hk) rfl 21 (by decide) (hts (.fieldLink RX6 186 "FourStonesModel" "well" "Z") (List.mem_of_getElem? (i := 1) rfl)) (fun _ h9 => h9) rfl (tyX6_ok 21 (by decide)) (by decide) (by decide) (Nat.le_of_ble_eq_true rfl) dX6_figures_16 (S' := S10) (fun b hb9 => by rw [eS10]; exact cO_sI hb9) (by rw [eS10]; exact cs_91 hk) (fun H locs11 hG hS => ?_)
      refine lv_iconst (v := (0 : Int32)) hx hb dX6_figures_19 (by decide) ?_
      exact W.iret hx hb hr (gr_i h hG hK hX hS) hS.2.2 dX6_figures_20
set_option maxHeartbeats 4000000 in
set_option maxRecDepth 100000 in
theorem c_X6_statement (l : Launch) (D : va_G) (κ : Nat → ClassId) (A : Nat → Prop) (S : Hp) (a0 : Nat) (Q : Int32 → Hp → Prop) (h : wp_X6_statement a0 S Q) : Met l yX6_statement wsX6_statement ({ frames := 3, cells := 0, slots := 0, locals := 144 } : Room) (PG D κ A S [.ref a0]) (va_Qi Q (BG D κ A) A) 0 0 A := by
  refine Met.ofW (cc := cX6_statement) (maxL := 2) (ret := (some .int)) (by decide) rfl ?_
  intro p e s m args below meth c s₁ B hml hv
  obtain ⟨hargs, hA, hG, hK, hX⟩ := hv
  have hx := B.exec
  have hb := B.bytes
  have hr := B.returns
  have hts := atoms_spec (ws := wsX6_statement) B.pre
  have hown : s.vm.findClass RX6 = some m.cls := findClass_of_methodNamed B.named
  have hlocks := B.notSynchronized
  subst hargs
  clear B
  have hS : va_S A s.heap s.heap [] := va_S.rf
  have hl := lv_entry ([.ref a0]) (n := 2) (Nat.le_of_ble_eq_true rfl)
  rw [lg_entry_eq]
  generalize (lg_sl ([.ref a0]) ++ List.replicate (2 - (lg_sl ([.ref a0])).length) Slot.unset).toArray = ls at hl ⊢
  have hl : lv_has ls 2 [(0, .ref a0)] := hl
  have hG : GG D κ A S s.heap := hG
  have j_116 : ∀  (v0 : Nat) (v1 : Int32) (S : Hp) (ls : Array Slot) (H : Heap) (locs : List Loc), lv_has ls 2 [(0, .ref v0), (1, .int v1)] → GG D κ A S H → va_S A s.heap H locs → J_X6_statement_116  Q v0 v1 S → W p l e ({ frames := 3, cells := 0, slots := 0, locals := 144 } : Room) s m ([.ref a0] : List Value).toArray below meth c H locs 0 0 (MQ below (va_Qi Q (BG D κ A) A) ([.ref a0] : List Value).toArray s 0 0 A) (F0 m 116 ls []) := by
    intro  v0 v1 S ls H locs hl hG hS h
    unfold J_X6_statement_116 at h
    refine lv_aload_n hx hb dX6_statement_116 rfl (lv_at hl 0 rfl) ?_
    refine lv_bipush (v := (59 : Int32)) hx hb dX6_statement_117 (by decide) ?_
    have hk := h.1
    replace h := h.2
    refine gc_v (va_runV (As := [.int (59 : Int32)]) (rest := []) ⟨hx, hb, hml, hown, hts⟩ (c_X6_expect l D κ A S v0 (59 : Int32) _ h) (cwV 1 hts gX6_statement_X6_expect rfl rfl rfl (by decide +kernel) ⟨Nat.le_of_ble_eq_true rfl, Nat.le_of_ble_eq_true rfl⟩) (pg_V (q := (RX6, TX6, 32)) hK hX hG (pg_A hA hS) (kc_7 hk) rfl) rfl rfl hl.1 rfl (lv_room (Nat.le_of_ble_eq_true rfl)) dX6_statement_119 ⟨Nat.le_of_ble_eq_true rfl, Nat.le_of_ble_eq_true rfl⟩) hS (fun S2 H locs1 h hG hS => ?_)
    refine lv_iload_n hx hb dX6_statement_122 rfl (lv_at hl 1 rfl) ?_
    exact W.iret hx hb hr (gr_i h hG hK hX hS) hS.2.2 dX6_statement_123
  have j_71 : ∀  (v0 : Nat) (v1 : Int32) (w0 : Nat) (w1 : Nat) (w2 : Int32) (S : Hp) (ls : Array Slot) (H : Heap) (locs : List Loc), lv_has ls 2 [(0, .ref v0), (1, .int v1)] → GG D κ A S H → va_S A s.heap H locs → J_X6_statement_71  Q v0 v1 w0 w1 w2 S → W p l e ({ frames := 3, cells := 0, slots := 0, locals := 144 } : Room) s m ([.ref a0] : List Value).toArray below meth c H locs 0 0 (MQ below (va_Qi Q (BG D κ A) A) ([.ref a0] : List Value).toArray s 0 0 A) (F0 m 71 ls [.int w2, .ref w1, .ref w0]) := by
    intro  v0 v1 w0 w1 w2 S ls H locs hl hG hS h
    unfold J_X6_statement_71 at h
    have hk := h.1
    replace h := h.2
    refine gc_i (va_runV (As := [.int w2]) (rest := [.ref w0]) ⟨hx, hb, hml, hown, hts⟩ (c_X6_figures l D κ A S w1 w2 _ h) (cwV 1 hts gX6_statement_X6_figures rfl rfl rfl (by decide +kernel) ⟨Nat.le_of_ble_eq_true rfl, Nat.le_of_ble_eq_true rfl⟩) (pg_V (q := (RX6, TX6, 32)) hK hX hG (pg_A hA hS) (kc_7 hk) rfl) rfl rfl hl.1 rfl (lv_room (Nat.le_of_ble_eq_true rfl)) dX6_statement_71 ⟨Nat.le_of_ble_eq_true rfl, Nat.le_of_ble_eq_true rfl⟩) hS (fun z3 S2 H locs1 h hG hS => ?_)
    have hk := h.1
    replace h := h.2
    obtain ⟨S4, eS4⟩ : ∃ z, z = sI S2 92 w0 z3 := ⟨_, rfl⟩
    replace h := h S4 eS4
    refine gg_put (ci := 6) (C := RX6) (T := TX6) (N := 32) hx hb hts (fun _ h => List.mem_cons_of_mem _ (List.mem_append_right _ (h))) tyX6 tyX6_ok nmX6 hown hK hG hS (kc_7 hk) rfl 22 (by decide) (hts (.fieldLink RX6 199 "FourStonesModel" "first" "I") (List.mem_of_getElem? (i := 5) rfl)) (fun _ h9 => h9) rfl (tyX6_ok 22 (by decide)) rfl rfl (Nat.le_of_ble_eq_true rfl) dX6_statement_74 (S' := S4) (fun b hb9 => by rw [eS4]; exact cO_sI hb9) (by rw [eS4]; exact cs_92 hk) (fun H locs5 hG hS => ?_)
    refine lv_aload_n hx hb dX6_statement_77 rfl (lv_at hl 0 rfl) ?_
    refine lv_bipush (v := (32 : Int32)) hx hb dX6_statement_78 (by decide) ?_
    have hk := h.1
    replace h := h.2
    refine gc_v (va_runV (As := [.int (32 : Int32)]) (rest := []) ⟨hx, hb, hml, hown, hts⟩ (c_X6_expect l D κ A S4 v0 (32 : Int32) _ h) (cwV 1 hts gX6_statement_X6_expect rfl rfl rfl (by decide +kernel) ⟨Nat.le_of_ble_eq_true rfl, Nat.le_of_ble_eq_true rfl⟩) (pg_V (q := (RX6, TX6, 32)) hK hX hG (pg_A hA hS) (kc_7 hk) rfl) rfl rfl hl.1 rfl (lv_room (Nat.le_of_ble_eq_true rfl)) dX6_statement_80 ⟨Nat.le_of_ble_eq_true rfl, Nat.le_of_ble_eq_true rfl⟩) hS (fun S7 H locs6 h hG hS => ?_)
    refine lv_aload_n hx hb dX6_statement_83 rfl (lv_at hl 0 rfl) ?_
    refine lv_aload_n hx hb dX6_statement_84 rfl (lv_at hl 0 rfl) ?_
    refine lv_iconst (v := (2 : Int32)) hx hb dX6_statement_85 (by decide) ?_
    have hk := h.1
    replace h := h.2
    refine gc_i (va_runV (As := [.int (2 : Int32)]) (rest := [.ref v0]) ⟨hx, hb, hml, hown, hts⟩ (c_X6_figures l D κ A S7 v0 (2 : Int32) _ h) (cwV 1 hts gX6_statement_X6_figures rfl rfl rfl (by decide +kernel) ⟨Nat.le_of_ble_eq_true rfl, Nat.le_of_ble_eq_true rfl⟩) (pg_V (q := (RX6, TX6, 32)) hK hX hG (pg_A hA hS) (kc_7 hk) rfl) rfl rfl hl.1 rfl (lv_room (Nat.le_of_ble_eq_true rfl)) dX6_statement_86 ⟨Nat.le_of_ble_eq_true rfl, Nat.le_of_ble_eq_true rfl⟩) hS (fun z10 S9 H locs8 h hG hS => ?_)
    have hk := h.1
    replace h := h.2
    obtain ⟨S11, eS11⟩ : ∃ z, z = sI S9 93 v0 z10 := ⟨_, rfl⟩
    replace h := h S11 eS11
    refine gg_put (ci := 6) (C := RX6) (T := TX6) (N := 32) hx hb hts (fun _ h => List.mem_cons_of_mem _ (List.mem_append_right _ (h))) tyX6 tyX6_ok nmX6 hown hK hG hS (kc_7 hk) rfl 23 (by decide) (hts (.fieldLink RX6 205 "FourStonesModel" "second" "I") (List.mem_of_getElem? (i := 6) rfl)) (fun _ h9 => h9) rfl (tyX6_ok 23 (by decide)) rfl rfl (Nat.le_of_ble_eq_true rfl) dX6_statement_89 (S' := S11) (fun b hb9 => by rw [eS11]; exact cO_sI hb9) (by rw [eS11]; exact cs_93 hk) (fun H locs12 hG hS => ?_)
    refine lv_goto (tgt := 116) hx hb dX6_statement_92 rfl ?_
    exact j_116  v0 v1 S11 ls _ _ (lv_sub hl [0, 1] rfl) hG hS h
  have j_58 : ∀  (v0 : Nat) (v1 : Int32) (S : Hp) (ls : Array Slot) (H : Heap) (locs : List Loc), lv_has ls 2 [(0, .ref v0), (1, .int v1)] → GG D κ A S H → va_S A s.heap H locs → J_X6_statement_58  Q v0 v1 S → W p l e ({ frames := 3, cells := 0, slots := 0, locals := 144 } : Room) s m ([.ref a0] : List Value).toArray below meth c H locs 0 0 (MQ below (va_Qi Q (BG D κ A) A) ([.ref a0] : List Value).toArray s 0 0 A) (F0 m 58 ls []) := by
    intro  v0 v1 S ls H locs hl hG hS h
    unfold J_X6_statement_58 at h
    refine lv_aload_n hx hb dX6_statement_58 rfl (lv_at hl 0 rfl) ?_
    refine lv_aload_n hx hb dX6_statement_59 rfl (lv_at hl 0 rfl) ?_
    refine lv_iload_n hx hb dX6_statement_60 rfl (lv_at hl 1 rfl) ?_
    refine lv_bipush (v := (115 : Int32)) hx hb dX6_statement_61 (by decide) ?_
    refine lv_icmp_ne (tgt := 70) hx hb dX6_statement_63 rfl (fun hc => ?_) (fun hc => ?_)
    · replace h := h.1 hc
      refine lv_iconst (v := (1 : Int32)) hx hb dX6_statement_70 (by decide) ?_
      exact j_71  v0 v1 v0 v0 (1 : Int32) S ls _ _ (lv_sub hl [0, 1] rfl) hG hS h
    · replace h := h.2 hc
      refine lv_iconst (v := (2 : Int32)) hx hb dX6_statement_66 (by decide) ?_
      refine lv_goto (tgt := 71) hx hb dX6_statement_67 rfl ?_
      exact j_71  v0 v1 v0 v0 (2 : Int32) S ls _ _ (lv_sub hl [0, 1] rfl) hG hS h
  have j_29 : ∀  (v0 : Nat) (w0 : Int32) (S : Hp) (ls : Array Slot) (H : Heap) (locs : List Loc), lv_has ls 2 [(0, .ref v0)] → GG D κ A S H → va_S A s.heap H locs → J_X6_statement_29  Q v0 w0 S → W p l e ({ frames := 3, cells := 0, slots := 0, locals := 144 } : Room) s m ([.ref a0] : List Value).toArray below meth c H locs 0 0 (MQ below (va_Qi Q (BG D κ A) A) ([.ref a0] : List Value).toArray s 0 0 A) (F0 m 29 ls [.int w0]) := by
    intro  v0 w0 S ls H locs hl hG hS h
    unfold J_X6_statement_29 at h
    refine lv_istore_n (lv' := [(1, .int w0), (0, .ref v0)]) hx hb dX6_statement_29 rfl hl (by decide) rfl (fun ls hl => ?_)
    refine lv_aload_n hx hb dX6_statement_30 rfl (lv_at hl 1 rfl) ?_
    refine lv_dup hx hb dX6_statement_31 rfl ?_
    have hk := h.1
    replace h := h.2
    refine gg_get (ci := 6) (C := RX6) (T := TX6) (N := 32) hx hb hts (fun _ h => List.mem_cons_of_mem _ (List.mem_append_right _ (h))) hown hK hG (kc_7 hk) rfl 20 (by decide) (hts (.fieldLink RX6 177 "FourStonesModel" "place" "I") (List.mem_of_getElem? (i := 1) rfl)) (fun _ h9 => h9) rfl dX6_statement_32 ?_
    refine lv_iconst (v := (1 : Int32)) hx hb dX6_statement_35 (by decide) ?_
    refine lv_iadd hx hb dX6_statement_36 ?_
    have hk := h.1
    replace h := h.2
    obtain ⟨S1, eS1⟩ : ∃ z, z = sI S 90 v0 ((gI S 90 v0) + (1 : Int32)) := ⟨_, rfl⟩
    replace h := h S1 eS1
    refine gg_put (ci := 6) (C := RX6) (T := TX6) (N := 32) hx hb hts (fun _ h => List.mem_cons_of_mem _ (List.mem_append_right _ (h))) tyX6 tyX6_ok nmX6 hown hK hG hS (kc_7 hk) rfl 20 (by decide) (hts (.fieldLink RX6 177 "FourStonesModel" "place" "I") (List.mem_of_getElem? (i := 1) rfl)) (fun _ h9 => h9) rfl (tyX6_ok 20 (by decide)) rfl rfl (Nat.le_of_ble_eq_true rfl) dX6_statement_37 (S' := S1) (fun b hb9 => by rw [eS1]; exact cO_sI hb9) (by rw [eS1]; exact cs_90 hk) (fun H locs2 hG hS => ?_)
    refine lv_iload_n hx hb dX6_statement_40 rfl (lv_at hl 0 rfl) ?_
    refine lv_bipush (v := (115 : Int32)) hx hb dX6_statement_41 (by decide) ?_
    refine lv_icmp_eq (tgt := 58) hx hb dX6_statement_43 rfl (fun hc => ?_) (fun hc => ?_)
    · replace h := h.1 hc
      exact j_58  v0 w0 S1 ls _ _ (lv_sub hl [1, 0] rfl) hG hS h
    · replace h := h.2 hc
      refine lv_iload_n hx hb dX6_statement_46 rfl (lv_at hl 0 rfl) ?_
      refine lv_bipush (v := (119 : Int32)) hx hb dX6_statement_47 (by decide) ?_
      refine lv_icmp_eq (tgt := 58) hx hb dX6_statement_49 rfl (fun hc => ?_) (fun hc => ?_)
      · replace h := h.1 hc
        exact j_58  v0 w0 S1 ls _ _ (lv_sub hl [1, 0] rfl) hG hS h
      · replace h := h.2 hc
        refine lv_iload_n hx hb dX6_statement_52 rfl (lv_at hl 0 rfl) ?_
        refine lv_bipush (v := (112 : Int32)) hx hb dX6_statement_53 (by decide) ?_
        refine lv_icmp_ne (tgt := 95) hx hb dX6_statement_55 rfl (fun hc => ?_) (fun hc => ?_)
        · replace h := h.1 hc
          refine lv_iload_n hx hb dX6_statement_95 rfl (lv_at hl 0 rfl) ?_
          refine lv_bipush (v := (120 : Int32)) hx hb dX6_statement_96 (by decide) ?_
          refine lv_icmp_eq (tgt := 116) hx hb dX6_statement_98 rfl (fun hc => ?_) (fun hc => ?_)
          · replace h := h.1 hc
            exact j_116  v0 w0 S1 ls _ _ (lv_sub hl [1, 0] rfl) hG hS h
          · replace h := h.2 hc
            refine lv_aload_n hx hb dX6_statement_101 rfl (lv_at hl 1 rfl) ?_
            refine lv_dup hx hb dX6_statement_102 rfl ?_
            have hk := h.1
            replace h := h.2
            refine gg_get (ci := 6) (C := RX6) (T := TX6) (N := 32) hx hb hts (fun _ h => List.mem_cons_of_mem _ (List.mem_append_right _ (h))) hown hK hG (kc_7 hk) rfl 20 (by decide) (hts (.fieldLink RX6 177 "FourStonesModel" "place" "I") (List.mem_of_getElem? (i := 1) rfl)) (fun _ h9 => h9) rfl dX6_statement_103 ?_
            refine lv_iconst (v := (1 : Int32)) hx hb dX6_statement_106 (by decide) ?_
            refine lv_isub hx hb dX6_statement_107 ?_
            have hk := h.1
            replace h := h.2
            obtain ⟨S3, eS3⟩ : ∃ z, z = sI S1 90 v0 ((gI S1 90 v0) - (1 : Int32)) := ⟨_, rfl⟩
            replace h := h S3 eS3
            refine gg_put (ci := 6) (C := RX6) (T := TX6) (N := 32) hx hb hts (fun _ h => List.mem_cons_of_mem _ (List.mem_append_right _ (h))) tyX6 tyX6_ok nmX6 hown hK hG hS (kc_7 hk) rfl 20 (by decide) (hts (.fieldLink RX6 177 "FourStonesModel" "place" "I") (List.mem_of_getElem? (i := 1) rfl)) (fun _ h9 => h9) rfl (tyX6_ok 20 (by decide)) rfl rfl (Nat.le_of_ble_eq_true rfl) dX6_statement_108 (S' := S3) (fun b hb9 => by rw [eS3]; exact cO_sI hb9) (by rw [eS3]; exact cs_90 hk) (fun H locs4 hG hS => ?_)
            refine lv_aload_n hx hb dX6_statement_111 rfl (lv_at hl 1 rfl) ?_
            refine lv_iconst (v := (0 : Int32)) hx hb dX6_statement_112 (by decide) ?_
            have hk := h.1
            replace h := h.2
            obtain ⟨S5, eS5⟩ : ∃ z, z = sI S3 91 v0 (0 : Int32) := ⟨_, rfl⟩
            replace h := h S5 eS5
            refine gg_put (ci := 6) (C := RX6) (T := TX6) (N := 32) hx hb hts (fun _ h => List.mem_cons_of_mem _ (List.mem_append_right _ (h))) tyX6 tyX6_ok nmX6 hown hK hG hS (kc_7 hk) rfl 21 (by decide) (hts (.fieldLink RX6 186 "FourStonesModel" "well" "Z") (List.mem_of_getElem? (i := 7) rfl)) (fun _ h9 => h9) rfl (tyX6_ok 21 (by decide)) (by decide) (by decide) (Nat.le_of_ble_eq_true rfl) dX6_statement_113 (S' := S5) (fun b hb9 => by rw [eS5]; exact cO_sI hb9) (by rw [eS5]; exact cs_91 hk) (fun H locs6 hG hS => ?_)
            exact j_116  v0 w0 S5 ls _ _ (lv_sub hl [1, 0] rfl) hG hS h
        · replace h := h.2 hc
          exact j_58  v0 w0 S1 ls _ _ (lv_sub hl [1, 0] rfl) hG hS h
  refine lv_aload_n hx hb dX6_statement_0 rfl (lv_at hl 0 rfl) ?_
  have hk := h.1
  replace h := h.2
  refine gg_get (ci := 6) (C := RX6) (T := TX6) (N := 32) hx hb hts (fun _ h => List.mem_cons_of_mem _ (List.mem_append_right _ (h))) hown hK hG (kc_7 hk) rfl 20 (by decide) (hts (.fieldLink RX6 177 "FourStonesModel" "place" "I") (List.mem_of_getElem? (i := 1) rfl)) (fun _ h9 => h9) rfl dX6_statement_1 ?_
  refine lv_aload_n hx hb dX6_statement_4 rfl (lv_at hl 0 rfl) ?_
  have hk := h.1
  replace h := h.2
  refine gg_get (ci := 6) (C := RX6) (T := TX6) (N := 32) hx hb hts (fun _ h => List.mem_cons_of_mem _ (List.mem_append_right _ (h))) hown hK hG (kc_7 hk) rfl 19 (by decide) (hts (.fieldLink RX6 180 "FourStonesModel" "to" "I") (List.mem_of_getElem? (i := 2) rfl)) (fun _ h9 => h9) rfl dX6_statement_5 ?_
  refine lv_icmp_ge (tgt := 28) hx hb dX6_statement_8 rfl (fun hc => ?_) (fun hc => ?_)
  · replace h := h.1 hc
    refine lv_iconst (v := (0 : Int32)) hx hb dX6_statement_28 (by decide) ?_
    exact j_29  a0 (0 : Int32) S ls _ _ (lv_sub hl [0] rfl) hG hS h
  · replace h := h.2 hc
    refine lv_aload_n hx hb dX6_statement_11 rfl (lv_at hl 0 rfl) ?_
    have hk := h.1
    replace h := h.2
    obtain ⟨r1, hr1, h⟩ := h
    refine gg_get (v := .ref r1) (ci := 6) (C := RX6) (T := TX6) (N := 32) hx hb hts (fun _ h => List.mem_cons_of_mem _ (List.mem_append_right _ (h))) hown hK hG (kc_7 hk) rfl 29 (by decide) (hts (.fieldLink RX6 47 "FourStonesModel" "items" "[I") (List.mem_of_getElem? (i := 3) rfl)) (fun _ h9 => h9) (congrArg (fun z => some (va_rf z)) hr1) dX6_statement_12 ?_
    refine lv_aload_n hx hb dX6_statement_15 rfl (lv_at hl 0 rfl) ?_
    have hk := h.1
    replace h := h.2
    refine gg_get (ci := 6) (C := RX6) (T := TX6) (N := 32) hx hb hts (fun _ h => List.mem_cons_of_mem _ (List.mem_append_right _ (h))) hown hK hG (kc_7 hk) rfl 18 (by decide) (hts (.fieldLink RX6 183 "FourStonesModel" "from" "I") (List.mem_of_getElem? (i := 4) rfl)) (fun _ h9 => h9) rfl dX6_statement_16 ?_
    refine lv_aload_n hx hb dX6_statement_19 rfl (lv_at hl 0 rfl) ?_
    have hk := h.1
    replace h := h.2
    refine gg_get (ci := 6) (C := RX6) (T := TX6) (N := 32) hx hb hts (fun _ h => List.mem_cons_of_mem _ (List.mem_append_right _ (h))) hown hK hG (kc_7 hk) rfl 20 (by decide) (hts (.fieldLink RX6 177 "FourStonesModel" "place" "I") (List.mem_of_getElem? (i := 1) rfl)) (fun _ h9 => h9) rfl dX6_statement_20 ?_
    refine lv_iadd hx hb dX6_statement_23 ?_
    have hk := h.1
    replace h := h.2
    have hi := h.1
    replace h := h.2
    refine gg_iald hx hb hK hG hk hi dX6_statement_24 ?_
    refine lv_goto (tgt := 29) hx hb dX6_statement_25 rfl ?_
    exact j_29  a0 (gA S r1 (((gI S 88 a0) + (gI S 90 a0))).toNatClampNeg) S ls _ _ (lv_sub hl [0] rfl) hG hS h
set_option maxHeartbeats 4000000 in
set_option maxRecDepth 100000 in
theorem c_X6_isAsTold (l : Launch) (D : va_G) (κ : Nat → ClassId) (A : Nat → Prop) (S : Hp) (x0 : Int32) (x1 : Int32) (x2 : Int32) (x3 : Int32) (Q : Int32 → Hp → Prop) (h : wp_X6_isAsTold x0 x1 x2 x3 S Q) : Met l yX6_isAsTold wsX6_isAsTold ({ frames := 1, cells := 0, slots := 0, locals := 48 } : Room) (PG D κ A S [.int x0, .int x1, .int x2, .int x3]) (va_Qi Q (BG D κ A) A) 0 0 A := by
  refine Met.ofW (cc := cX6_isAsTold) (maxL := 4) (ret := (some .boolean)) (by decide) rfl ?_
  intro p e s m args below meth c s₁ B hml hv
  obtain ⟨hargs, hA, hG, hK, hX⟩ := hv
  have hx := B.exec
  have hb := B.bytes
  have hr := B.returns
  have hts := atoms_spec (ws := wsX6_isAsTold) B.pre
  have hown : s.vm.findClass RX6 = some m.cls := findClass_of_methodNamed B.named
  have hlocks := B.notSynchronized
  subst hargs
  clear B
  have hS : va_S A s.heap s.heap [] := va_S.rf
  have hl := lv_entry ([.int x0, .int x1, .int x2, .int x3]) (n := 4) (Nat.le_of_ble_eq_true rfl)
  rw [lg_entry_eq]
  generalize (lg_sl ([.int x0, .int x1, .int x2, .int x3]) ++ List.replicate (4 - (lg_sl ([.int x0, .int x1, .int x2, .int x3])).length) Slot.unset).toArray = ls at hl ⊢
  have hl : lv_has ls 4 [(0, .int x0), (1, .int x1), (2, .int x2), (3, .int x3)] := hl
  have hG : GG D κ A S s.heap := hG
  refine lv_iload_n hx hb dX6_isAsTold_0 rfl (lv_at hl 0 rfl) ?_
  by_cases hc0 : (x0).toInt = 112
  · replace h := h.1 hc0
    refine lv_lookup (off := 68) (tgt := 69) hx hb dX6_isAsTold_1 (by decide) (by rw [hc0]; rfl) rfl ?_
    refine lv_iload_n hx hb dX6_isAsTold_69 rfl (lv_at hl 1 rfl) ?_
    refine lv_iload_n hx hb dX6_isAsTold_70 rfl (lv_at hl 3 rfl) ?_
    refine lv_icmp_ge (tgt := 78) hx hb dX6_isAsTold_71 rfl (fun hc => ?_) (fun hc => ?_)
    · replace h := h.1 hc
      refine lv_iconst (v := (0 : Int32)) hx hb dX6_isAsTold_78 (by decide) ?_
      exact W.zret (ty := .boolean) hx hb hr (by decide) (gr_i h hG hK hX hS) hS.2.2 dX6_isAsTold_79
    · replace h := h.2 hc
      refine lv_iconst (v := (1 : Int32)) hx hb dX6_isAsTold_74 (by decide) ?_
      refine lv_goto (tgt := 79) hx hb dX6_isAsTold_75 rfl ?_
      exact W.zret (ty := .boolean) hx hb hr (by decide) (gr_i h hG hK hX hS) hS.2.2 dX6_isAsTold_79
  ·
    by_cases hc1 : (x0).toInt = 115
    · replace h := h.2.1 hc1
      refine lv_lookup (off := 35) (tgt := 36) hx hb dX6_isAsTold_1 (by decide) (by rw [hc1]; rfl) rfl ?_
      refine lv_iload_n hx hb dX6_isAsTold_36 rfl (lv_at hl 1 rfl) ?_
      refine lv_iconst (v := (1 : Int32)) hx hb dX6_isAsTold_37 (by decide) ?_
      refine lv_icmp_lt (tgt := 51) hx hb dX6_isAsTold_38 rfl (fun hc => ?_) (fun hc => ?_)
      · replace h := h.1 hc
        refine lv_iconst (v := (0 : Int32)) hx hb dX6_isAsTold_51 (by decide) ?_
        exact W.zret (ty := .boolean) hx hb hr (by decide) (gr_i h hG hK hX hS) hS.2.2 dX6_isAsTold_52
      · replace h := h.2 hc
        refine lv_iload_n hx hb dX6_isAsTold_41 rfl (lv_at hl 3 rfl) ?_
        refine lv_bipush (v := (6 : Int32)) hx hb dX6_isAsTold_42 (by decide) ?_
        refine lv_icmp_ge (tgt := 51) hx hb dX6_isAsTold_44 rfl (fun hc => ?_) (fun hc => ?_)
        · replace h := h.1 hc
          refine lv_iconst (v := (0 : Int32)) hx hb dX6_isAsTold_51 (by decide) ?_
          exact W.zret (ty := .boolean) hx hb hr (by decide) (gr_i h hG hK hX hS) hS.2.2 dX6_isAsTold_52
        · replace h := h.2 hc
          refine lv_iconst (v := (1 : Int32)) hx hb dX6_isAsTold_47 (by decide) ?_
          refine lv_goto (tgt := 52) hx hb dX6_isAsTold_48 rfl ?_
          exact W.zret (ty := .boolean) hx hb hr (by decide) (gr_i h hG hK hX hS) hS.2.2 dX6_isAsTold_52
    ·
      by_cases hc2 : (x0).toInt = 119
      · replace h := h.2.2.1 hc2
        refine lv_lookup (off := 52) (tgt := 53) hx hb dX6_isAsTold_1 (by decide) (by rw [hc2]; rfl) rfl ?_
        refine lv_iload_n hx hb dX6_isAsTold_53 rfl (lv_at hl 1 rfl) ?_
        refine lv_iload_n hx hb dX6_isAsTold_54 rfl (lv_at hl 3 rfl) ?_
        refine lv_icmp_ge (tgt := 67) hx hb dX6_isAsTold_55 rfl (fun hc => ?_) (fun hc => ?_)
        · replace h := h.1 hc
          refine lv_iconst (v := (0 : Int32)) hx hb dX6_isAsTold_67 (by decide) ?_
          exact W.zret (ty := .boolean) hx hb hr (by decide) (gr_i h hG hK hX hS) hS.2.2 dX6_isAsTold_68
        · replace h := h.2 hc
          refine lv_iload_n hx hb dX6_isAsTold_58 rfl (lv_at hl 2 rfl) ?_
          refine lv_iconst (v := (1 : Int32)) hx hb dX6_isAsTold_59 (by decide) ?_
          refine lv_icmp_lt (tgt := 67) hx hb dX6_isAsTold_60 rfl (fun hc => ?_) (fun hc => ?_)
          · replace h := h.1 hc
            refine lv_iconst (v := (0 : Int32)) hx hb dX6_isAsTold_67 (by decide) ?_
            exact W.zret (ty := .boolean) hx hb hr (by decide) (gr_i h hG hK hX hS) hS.2.2 dX6_isAsTold_68
          · replace h := h.2 hc
            refine lv_iconst (v := (1 : Int32)) hx hb dX6_isAsTold_63 (by decide) ?_
            refine lv_goto (tgt := 68) hx hb dX6_isAsTold_64 rfl ?_
            exact W.zret (ty := .boolean) hx hb hr (by decide) (gr_i h hG hK hX hS) hS.2.2 dX6_isAsTold_68
      ·
        replace h := h.2.2.2 ⟨hc0, hc1, hc2⟩
        refine lv_lookup (off := 79) (tgt := 80) hx hb dX6_isAsTold_1 (by decide) (by simp [Op.lookupswitch.offset, hc0, Ne.symm hc0, hc1, Ne.symm hc1, hc2, Ne.symm hc2]) rfl ?_
        refine lv_iload_n hx hb dX6_isAsTold_80 rfl (lv_at hl 3 rfl) ?_
        refine lv_if_le (tgt := 88) hx hb dX6_isAsTold_81 rfl (fun hc => ?_) (fun hc => ?_)
        · replace h := h.1 hc
          refine lv_iconst (v := (0 : Int32)) hx hb dX6_isAsTold_88 (by decide) ?_
          exact W.zret (ty := .boolean) hx hb hr (by decide) (gr_i h hG hK hX hS) hS.2.2 dX6_isAsTold_89
        · replace h := h.2 hc
          refine lv_iconst (v := (1 : Int32)) hx hb dX6_isAsTold_84 (by decide) ?_
          refine lv_goto (tgt := 89) hx hb dX6_isAsTold_85 rfl ?_
          exact W.zret (ty := .boolean) hx hb hr (by decide) (gr_i h hG hK hX hS) hS.2.2 dX6_isAsTold_89
set_option maxHeartbeats 4000000 in
set_option maxRecDepth 100000 in
theorem c_X6_come (l : Launch) (D : va_G) (κ : Nat → ClassId) (A : Nat → Prop) (S : Hp) (a0 : Nat) (x1 : Int32) (Q : Hp → Prop) (h : wp_X6_come a0 x1 S Q) : Met l yX6_come wsX6_come ({ frames := 1, cells := 0, slots := 0, locals := 48 } : Room) (PG D κ A S [.ref a0, .int x1]) (va_Qv Q (BG D κ A) A) 0 0 A := by
  refine Met.ofW (cc := cX6_come) (maxL := 2) (ret := none) (by decide) rfl ?_
  intro p e s m args below meth c s₁ B hml hv
  obtain ⟨hargs, hA, hG, hK, hX⟩ := hv
  have hx := B.exec
  have hb := B.bytes
  have hr := B.returns
  have hts := atoms_spec (ws := wsX6_come) B.pre
  have hown : s.vm.findClass RX6 = some m.cls := findClass_of_methodNamed B.named
  have hlocks := B.notSynchronized
  subst hargs
  clear B
  have hS : va_S A s.heap s.heap [] := va_S.rf
  have hl := lv_entry ([.ref a0, .int x1]) (n := 2) (Nat.le_of_ble_eq_true rfl)
  rw [lg_entry_eq]
  generalize (lg_sl ([.ref a0, .int x1]) ++ List.replicate (2 - (lg_sl ([.ref a0, .int x1])).length) Slot.unset).toArray = ls at hl ⊢
  have hl : lv_has ls 2 [(0, .ref a0), (1, .int x1)] := hl
  have hG : GG D κ A S s.heap := hG
  refine lv_iload_n hx hb dX6_come_0 rfl (lv_at hl 1 rfl) ?_
  by_cases hc0 : (x1).toInt = 112
  · replace h := h.1 hc0
    refine lv_lookup (off := 90) (tgt := 91) hx hb dX6_come_1 (by decide) (by rw [hc0]; rfl) rfl ?_
    refine lv_aload_n hx hb dX6_come_91 rfl (lv_at hl 0 rfl) ?_
    have hk := h.1
    replace h := h.2
    obtain ⟨r1, hr1, h⟩ := h
    refine gg_get (v := .ref r1) (ci := 6) (C := RX6) (T := TX6) (N := 32) hx hb hts (fun _ h => List.mem_cons_of_mem _ (List.mem_append_right _ (h))) hown hK hG (kc_7 hk) rfl 2 (by decide) (hts (.fieldLink RX6 13 "FourStonesModel" "price" "[I") (List.mem_of_getElem? (i := 4) rfl)) (fun _ h9 => h9) (congrArg (fun z => some (va_rf z)) hr1) dX6_come_92 ?_
    refine lv_aload_n hx hb dX6_come_95 rfl (lv_at hl 0 rfl) ?_
    have hk := h.1
    replace h := h.2
    refine gg_get (ci := 6) (C := RX6) (T := TX6) (N := 32) hx hb hts (fun _ h => List.mem_cons_of_mem _ (List.mem_append_right _ (h))) hown hK hG (kc_7 hk) rfl 22 (by decide) (hts (.fieldLink RX6 199 "FourStonesModel" "first" "I") (List.mem_of_getElem? (i := 3) rfl)) (fun _ h9 => h9) rfl dX6_come_96 ?_
    refine lv_aload_n hx hb dX6_come_99 rfl (lv_at hl 0 rfl) ?_
    have hk := h.1
    replace h := h.2
    refine gg_get (ci := 6) (C := RX6) (T := TX6) (N := 32) hx hb hts (fun _ h => List.mem_cons_of_mem _ (List.mem_append_right _ (h))) hown hK hG (kc_7 hk) rfl 23 (by decide) (hts (.fieldLink RX6 205 "FourStonesModel" "second" "I") (List.mem_of_getElem? (i := 5) rfl)) (fun _ h9 => h9) rfl dX6_come_100 ?_
    have hk := h.1
    replace h := h.2
    have hi := h.1
    replace h := h.2
    obtain ⟨S2, eS2⟩ : ∃ z, z = sA S r1 ((gI S 92 a0)).toNatClampNeg (gI S 93 a0) := ⟨_, rfl⟩
    replace h := h S2 eS2
    refine gg_iast hx hb hK hG hS hk hi dX6_come_103 (fun H locs3 hG hS => ?_)
    rw [← eS2] at hG
    refine lv_goto (tgt := 117) hx hb dX6_come_104 rfl ?_
    exact W.vret hx hb hr (gr_v h hG hK hX hS) hS.2.2 dX6_come_117
  ·
    by_cases hc1 : (x1).toInt = 115
    · replace h := h.2.1 hc1
      refine lv_lookup (off := 35) (tgt := 36) hx hb dX6_come_1 (by decide) (by rw [hc1]; rfl) rfl ?_
      refine lv_aload_n hx hb dX6_come_36 rfl (lv_at hl 0 rfl) ?_
      have hk := h.1
      replace h := h.2
      obtain ⟨r4, hr4, h⟩ := h
      refine gg_get (v := .ref r4) (ci := 6) (C := RX6) (T := TX6) (N := 32) hx hb hts (fun _ h => List.mem_cons_of_mem _ (List.mem_append_right _ (h))) hown hK hG (kc_7 hk) rfl 1 (by decide) (hts (.fieldLink RX6 7 "FourStonesModel" "weight" "[I") (List.mem_of_getElem? (i := 1) rfl)) (fun _ h9 => h9) (congrArg (fun z => some (va_rf z)) hr4) dX6_come_37 ?_
      refine lv_aload_n hx hb dX6_come_40 rfl (lv_at hl 0 rfl) ?_
      have hk := h.1
      replace h := h.2
      refine gg_get (ci := 6) (C := RX6) (T := TX6) (N := 32) hx hb hts (fun _ h => List.mem_cons_of_mem _ (List.mem_append_right _ (h))) hown hK hG (kc_7 hk) rfl 0 (by decide) (hts (.fieldLink RX6 57 "FourStonesModel" "stones" "I") (List.mem_of_getElem? (i := 2) rfl)) (fun _ h9 => h9) rfl dX6_come_41 ?_
      refine lv_aload_n hx hb dX6_come_44 rfl (lv_at hl 0 rfl) ?_
      have hk := h.1
      replace h := h.2
      refine gg_get (ci := 6) (C := RX6) (T := TX6) (N := 32) hx hb hts (fun _ h => List.mem_cons_of_mem _ (List.mem_append_right _ (h))) hown hK hG (kc_7 hk) rfl 22 (by decide) (hts (.fieldLink RX6 199 "FourStonesModel" "first" "I") (List.mem_of_getElem? (i := 3) rfl)) (fun _ h9 => h9) rfl dX6_come_45 ?_
      have hk := h.1
      replace h := h.2
      have hi := h.1
      replace h := h.2
      obtain ⟨S5, eS5⟩ : ∃ z, z = sA S r4 ((gI S 70 a0)).toNatClampNeg (gI S 92 a0) := ⟨_, rfl⟩
      replace h := h S5 eS5
      refine gg_iast hx hb hK hG hS hk hi dX6_come_48 (fun H locs6 hG hS => ?_)
      rw [← eS5] at hG
      refine lv_aload_n hx hb dX6_come_49 rfl (lv_at hl 0 rfl) ?_
      have hk := h.1
      replace h := h.2
      obtain ⟨r7, hr7, h⟩ := h
      refine gg_get (v := .ref r7) (ci := 6) (C := RX6) (T := TX6) (N := 32) hx hb hts (fun _ h => List.mem_cons_of_mem _ (List.mem_append_right _ (h))) hown hK hG (kc_7 hk) rfl 2 (by decide) (hts (.fieldLink RX6 13 "FourStonesModel" "price" "[I") (List.mem_of_getElem? (i := 4) rfl)) (fun _ h9 => h9) (congrArg (fun z => some (va_rf z)) hr7) dX6_come_50 ?_
      refine lv_aload_n hx hb dX6_come_53 rfl (lv_at hl 0 rfl) ?_
      have hk := h.1
      replace h := h.2
      refine gg_get (ci := 6) (C := RX6) (T := TX6) (N := 32) hx hb hts (fun _ h => List.mem_cons_of_mem _ (List.mem_append_right _ (h))) hown hK hG (kc_7 hk) rfl 0 (by decide) (hts (.fieldLink RX6 57 "FourStonesModel" "stones" "I") (List.mem_of_getElem? (i := 2) rfl)) (fun _ h9 => h9) rfl dX6_come_54 ?_
      refine lv_aload_n hx hb dX6_come_57 rfl (lv_at hl 0 rfl) ?_
      have hk := h.1
      replace h := h.2
      refine gg_get (ci := 6) (C := RX6) (T := TX6) (N := 32) hx hb hts (fun _ h => List.mem_cons_of_mem _ (List.mem_append_right _ (h))) hown hK hG (kc_7 hk) rfl 23 (by decide) (hts (.fieldLink RX6 205 "FourStonesModel" "second" "I") (List.mem_of_getElem? (i := 5) rfl)) (fun _ h9 => h9) rfl dX6_come_58 ?_
      have hk := h.1
      replace h := h.2
      have hi := h.1
      replace h := h.2
      obtain ⟨S8, eS8⟩ : ∃ z, z = sA S5 r7 ((gI S5 70 a0)).toNatClampNeg (gI S5 93 a0) := ⟨_, rfl⟩
      replace h := h S8 eS8
      refine gg_iast hx hb hK hG hS hk hi dX6_come_61 (fun H locs9 hG hS => ?_)
      rw [← eS8] at hG
      refine lv_aload_n hx hb dX6_come_62 rfl (lv_at hl 0 rfl) ?_
      refine lv_dup hx hb dX6_come_63 rfl ?_
      have hk := h.1
      replace h := h.2
      refine gg_get (ci := 6) (C := RX6) (T := TX6) (N := 32) hx hb hts (fun _ h => List.mem_cons_of_mem _ (List.mem_append_right _ (h))) hown hK hG (kc_7 hk) rfl 0 (by decide) (hts (.fieldLink RX6 57 "FourStonesModel" "stones" "I") (List.mem_of_getElem? (i := 2) rfl)) (fun _ h9 => h9) rfl dX6_come_64 ?_
      refine lv_iconst (v := (1 : Int32)) hx hb dX6_come_67 (by decide) ?_
      refine lv_iadd hx hb dX6_come_68 ?_
      have hk := h.1
      replace h := h.2
      obtain ⟨S10, eS10⟩ : ∃ z, z = sI S8 70 a0 ((gI S8 70 a0) + (1 : Int32)) := ⟨_, rfl⟩
      replace h := h S10 eS10
      refine gg_put (ci := 6) (C := RX6) (T := TX6) (N := 32) hx hb hts (fun _ h => List.mem_cons_of_mem _ (List.mem_append_right _ (h))) tyX6 tyX6_ok nmX6 hown hK hG hS (kc_7 hk) rfl 0 (by decide) (hts (.fieldLink RX6 57 "FourStonesModel" "stones" "I") (List.mem_of_getElem? (i := 2) rfl)) (fun _ h9 => h9) rfl (tyX6_ok 0 (by decide)) rfl rfl (Nat.le_of_ble_eq_true rfl) dX6_come_69 (S' := S10) (fun b hb9 => by rw [eS10]; exact cO_sI hb9) (by rw [eS10]; exact cs_70 hk) (fun H locs11 hG hS => ?_)
      refine lv_goto (tgt := 117) hx hb dX6_come_72 rfl ?_
      exact W.vret hx hb hr (gr_v h hG hK hX hS) hS.2.2 dX6_come_117
    ·
      by_cases hc2 : (x1).toInt = 119
      · replace h := h.2.2.1 hc2
        refine lv_lookup (off := 74) (tgt := 75) hx hb dX6_come_1 (by decide) (by rw [hc2]; rfl) rfl ?_
        refine lv_aload_n hx hb dX6_come_75 rfl (lv_at hl 0 rfl) ?_
        have hk := h.1
        replace h := h.2
        obtain ⟨r12, hr12, h⟩ := h
        refine gg_get (v := .ref r12) (ci := 6) (C := RX6) (T := TX6) (N := 32) hx hb hts (fun _ h => List.mem_cons_of_mem _ (List.mem_append_right _ (h))) hown hK hG (kc_7 hk) rfl 1 (by decide) (hts (.fieldLink RX6 7 "FourStonesModel" "weight" "[I") (List.mem_of_getElem? (i := 1) rfl)) (fun _ h9 => h9) (congrArg (fun z => some (va_rf z)) hr12) dX6_come_76 ?_
        refine lv_aload_n hx hb dX6_come_79 rfl (lv_at hl 0 rfl) ?_
        have hk := h.1
        replace h := h.2
        refine gg_get (ci := 6) (C := RX6) (T := TX6) (N := 32) hx hb hts (fun _ h => List.mem_cons_of_mem _ (List.mem_append_right _ (h))) hown hK hG (kc_7 hk) rfl 22 (by decide) (hts (.fieldLink RX6 199 "FourStonesModel" "first" "I") (List.mem_of_getElem? (i := 3) rfl)) (fun _ h9 => h9) rfl dX6_come_80 ?_
        refine lv_aload_n hx hb dX6_come_83 rfl (lv_at hl 0 rfl) ?_
        have hk := h.1
        replace h := h.2
        refine gg_get (ci := 6) (C := RX6) (T := TX6) (N := 32) hx hb hts (fun _ h => List.mem_cons_of_mem _ (List.mem_append_right _ (h))) hown hK hG (kc_7 hk) rfl 23 (by decide) (hts (.fieldLink RX6 205 "FourStonesModel" "second" "I") (List.mem_of_getElem? (i := 5) rfl)) (fun _ h9 => h9) rfl dX6_come_84 ?_
        have hk := h.1
        replace h := h.2
        have hi := h.1
        replace h := h.2
        obtain ⟨S13, eS13⟩ : ∃ z, z = sA S r12 ((gI S 92 a0)).toNatClampNeg (gI S 93 a0) := ⟨_, rfl⟩
        replace h := h S13 eS13
        refine gg_iast hx hb hK hG hS hk hi dX6_come_87 (fun H locs14 hG hS => ?_)
        rw [← eS13] at hG
        refine lv_goto (tgt := 117) hx hb dX6_come_88 rfl ?_
        exact W.vret hx hb hr (gr_v h hG hK hX hS) hS.2.2 dX6_come_117
      ·
        replace h := h.2.2.2 ⟨hc0, hc1, hc2⟩
        refine lv_lookup (off := 106) (tgt := 107) hx hb dX6_come_1 (by decide) (by simp [Op.lookupswitch.offset, hc0, Ne.symm hc0, hc1, Ne.symm hc1, hc2, Ne.symm hc2]) rfl ?_
        refine lv_aload_n hx hb dX6_come_107 rfl (lv_at hl 0 rfl) ?_
        refine lv_dup hx hb dX6_come_108 rfl ?_
        have hk := h.1
        replace h := h.2
        refine gg_get (ci := 6) (C := RX6) (T := TX6) (N := 32) hx hb hts (fun _ h => List.mem_cons_of_mem _ (List.mem_append_right _ (h))) hown hK hG (kc_7 hk) rfl 0 (by decide) (hts (.fieldLink RX6 57 "FourStonesModel" "stones" "I") (List.mem_of_getElem? (i := 2) rfl)) (fun _ h9 => h9) rfl dX6_come_109 ?_
        refine lv_iconst (v := (1 : Int32)) hx hb dX6_come_112 (by decide) ?_
        refine lv_isub hx hb dX6_come_113 ?_
        have hk := h.1
        replace h := h.2
        obtain ⟨S15, eS15⟩ : ∃ z, z = sI S 70 a0 ((gI S 70 a0) - (1 : Int32)) := ⟨_, rfl⟩
        replace h := h S15 eS15
        refine gg_put (ci := 6) (C := RX6) (T := TX6) (N := 32) hx hb hts (fun _ h => List.mem_cons_of_mem _ (List.mem_append_right _ (h))) tyX6 tyX6_ok nmX6 hown hK hG hS (kc_7 hk) rfl 0 (by decide) (hts (.fieldLink RX6 57 "FourStonesModel" "stones" "I") (List.mem_of_getElem? (i := 2) rfl)) (fun _ h9 => h9) rfl (tyX6_ok 0 (by decide)) rfl rfl (Nat.le_of_ble_eq_true rfl) dX6_come_114 (S' := S15) (fun b hb9 => by rw [eS15]; exact cO_sI hb9) (by rw [eS15]; exact cs_70 hk) (fun H locs16 hG hS => ?_)
        exact W.vret hx hb hr (gr_v h hG hK hX hS) hS.2.2 dX6_come_117
set_option maxHeartbeats 4000000 in
set_option maxRecDepth 100000 in
theorem c_X6_read (l : Launch) (D : va_G) (κ : Nat → ClassId) (A : Nat → Prop) (S : Hp) (a0 : Nat) (Q : Int32 → Hp → Prop) (h : wp_X6_read a0 S Q) : Met l yX6_read wsX6_read ({ frames := 4, cells := 0, slots := 0, locals := 192 } : Room) (PG D κ A S [.ref a0]) (va_Qi Q (BG D κ A) A) 0 0 A := by
  refine Met.ofW (cc := cX6_read) (maxL := 5) (ret := (some .int)) (by decide) rfl ?_
  intro p e s m args below meth c s₁ B hml hv
  obtain ⟨hargs, hA, hG, hK, hX⟩ := hv
  have hx := B.exec
  have hb := B.bytes
  have hr := B.returns
  have hts := atoms_spec (ws := wsX6_read) B.pre
  have hown : s.vm.findClass RX6 = some m.cls := findClass_of_methodNamed B.named
  have hlocks := B.notSynchronized
  subst hargs
  clear B
  have hS : va_S A s.heap s.heap [] := va_S.rf
  have hl := lv_entry ([.ref a0]) (n := 5) (Nat.le_of_ble_eq_true rfl)
  rw [lg_entry_eq]
  generalize (lg_sl ([.ref a0]) ++ List.replicate (5 - (lg_sl ([.ref a0])).length) Slot.unset).toArray = ls at hl ⊢
  have hl : lv_has ls 5 [(0, .ref a0)] := hl
  have hG : GG D κ A S s.heap := hG
  have j_133 : ∀ (C64 : Nat × Int32 × Int32 × Hp → Prop) (hC64 : ∀ (v0 : Nat) (v1 : Int32) (v2 : Int32) (S : Hp) (ls : Array Slot) (H : Heap) (locs : List Loc), lv_has ls 5 [(0, .ref v0), (1, .int v1), (2, .int v2)] → GG D κ A S H → va_S A s.heap H locs → C64 (v0, v1, v2, S) → W p l e ({ frames := 4, cells := 0, slots := 0, locals := 192 } : Room) s m ([.ref a0] : List Value).toArray below meth c H locs 0 0 (MQ below (va_Qi Q (BG D κ A) A) ([.ref a0] : List Value).toArray s 0 0 A) (F0 m 64 ls [])) (v0 : Nat) (v1 : Int32) (w0 : Int32) (w1 : Int32) (S : Hp) (ls : Array Slot) (H : Heap) (locs : List Loc), lv_has ls 5 [(0, .ref v0), (1, .int v1)] → GG D κ A S H → va_S A s.heap H locs → J_X6_read_133 C64 Q v0 v1 w0 w1 S → W p l e ({ frames := 4, cells := 0, slots := 0, locals := 192 } : Room) s m ([.ref a0] : List Value).toArray below meth c H locs 0 0 (MQ below (va_Qi Q (BG D κ A) A) ([.ref a0] : List Value).toArray s 0 0 A) (F0 m 133 ls [.int w1, .int w0]) := by
    intro C64 hC64 v0 v1 w0 w1 S ls H locs hl hG hS h
    unfold J_X6_read_133 at h
    refine lv_iadd hx hb dX6_read_133 ?_
    refine lv_topi (fun y1 ey1 => ?_)
    replace h := h y1 ey1
    refine lv_istore_n (lv' := [(2, .int y1), (0, .ref v0), (1, .int v1)]) hx hb dX6_read_134 rfl hl (by decide) rfl (fun ls hl => ?_)
    refine lv_goto (tgt := 64) hx hb dX6_read_135 rfl ?_
    exact hC64 v0 v1 y1 S ls _ _ (lv_sub hl [1, 2, 0] rfl) hG hS h
  have k_143 : ∀  (n : Nat), ∀ (v0 : Nat) (v1 : Int32) (S : Hp) (ls : Array Slot) (H : Heap) (locs : List Loc), lv_has ls 5 [(0, .ref v0), (1, .int v1)] → GG D κ A S H → va_S A s.heap H locs → it (L_X6_read_143  Q) n (v0, v1, S) → W p l e ({ frames := 4, cells := 0, slots := 0, locals := 192 } : Room) s m ([.ref a0] : List Value).toArray below meth c H locs 0 0 (MQ below (va_Qi Q (BG D κ A) A) ([.ref a0] : List Value).toArray s 0 0 A) (F0 m 143 ls []) := by
    intro  n
    induction n with
    | zero => intro v0 v1 S ls H locs hl hG hS h; exact False.elim h
    | succ n hC143 =>
      intro v0 v1 S ls H locs hl hG hS h
      replace h : L_X6_read_143  Q (it (L_X6_read_143  Q) n) (v0, v1, S) := h
      simp only [L_X6_read_143] at h
      refine lv_aload_n hx hb dX6_read_143 rfl (lv_at hl 0 rfl) ?_
      have hk := h.1
      replace h := h.2
      refine gg_get (ci := 6) (C := RX6) (T := TX6) (N := 32) hx hb hts (fun _ h => List.mem_cons_of_mem _ (List.mem_append_right _ (h))) hown hK hG (kc_7 hk) rfl 20 (by decide) (hts (.fieldLink RX6 177 "FourStonesModel" "place" "I") (List.mem_of_getElem? (i := 1) rfl)) (fun _ h9 => h9) rfl dX6_read_144 ?_
      refine lv_aload_n hx hb dX6_read_147 rfl (lv_at hl 0 rfl) ?_
      have hk := h.1
      replace h := h.2
      refine gg_get (ci := 6) (C := RX6) (T := TX6) (N := 32) hx hb hts (fun _ h => List.mem_cons_of_mem _ (List.mem_append_right _ (h))) hown hK hG (kc_7 hk) rfl 19 (by decide) (hts (.fieldLink RX6 180 "FourStonesModel" "to" "I") (List.mem_of_getElem? (i := 3) rfl)) (fun _ h9 => h9) rfl dX6_read_148 ?_
      refine lv_icmp_ge (tgt := 165) hx hb dX6_read_151 rfl (fun hc => ?_) (fun hc => ?_)
      · replace h := h.1 hc
        refine lv_iload_n hx hb dX6_read_165 rfl (lv_at hl 1 rfl) ?_
        exact W.iret hx hb hr (gr_i h hG hK hX hS) hS.2.2 dX6_read_166
      · replace h := h.2 hc
        refine lv_aload_n hx hb dX6_read_154 rfl (lv_at hl 0 rfl) ?_
        refine lv_aload_n hx hb dX6_read_155 rfl (lv_at hl 0 rfl) ?_
        have hk := h.1
        replace h := h.2
        refine gc_i (va_runV (As := []) (rest := [.ref v0]) ⟨hx, hb, hml, hown, hts⟩ (c_X6_statement l D κ A S v0 _ h) (cwV 0 hts gX6_read_X6_statement rfl rfl rfl (by decide +kernel) ⟨Nat.le_of_ble_eq_true rfl, Nat.le_of_ble_eq_true rfl⟩) (pg_V (q := (RX6, TX6, 32)) hK hX hG (pg_A hA hS) (kc_7 hk) rfl) rfl rfl hl.1 rfl (lv_room (Nat.le_of_ble_eq_true rfl)) dX6_read_156 ⟨Nat.le_of_ble_eq_true rfl, Nat.le_of_ble_eq_true rfl⟩) hS (fun z3 S2 H locs1 h hG hS => ?_)
        have hk := h.1
        replace h := h.2
        refine gc_v (va_runV (As := [.int z3]) (rest := []) ⟨hx, hb, hml, hown, hts⟩ (c_X6_come l D κ A S2 v0 z3 _ h) (cwV 1 hts gX6_read_X6_come rfl rfl rfl (by decide +kernel) ⟨Nat.le_of_ble_eq_true rfl, Nat.le_of_ble_eq_true rfl⟩) (pg_V (q := (RX6, TX6, 32)) hK hX hG (pg_A hA hS) (kc_7 hk) rfl) rfl rfl hl.1 rfl (lv_room (Nat.le_of_ble_eq_true rfl)) dX6_read_159 ⟨Nat.le_of_ble_eq_true rfl, Nat.le_of_ble_eq_true rfl⟩) hS (fun S5 H locs4 h hG hS => ?_)
        refine lv_goto (tgt := 143) hx hb dX6_read_162 rfl ?_
        exact hC143 v0 v1 S5 ls _ _ (lv_sub hl [0, 1] rfl) hG hS h
  have k_64 : ∀  (n : Nat), ∀ (v0 : Nat) (v1 : Int32) (v2 : Int32) (S : Hp) (ls : Array Slot) (H : Heap) (locs : List Loc), lv_has ls 5 [(0, .ref v0), (1, .int v1), (2, .int v2)] → GG D κ A S H → va_S A s.heap H locs → it (L_X6_read_64  Q) n (v0, v1, v2, S) → W p l e ({ frames := 4, cells := 0, slots := 0, locals := 192 } : Room) s m ([.ref a0] : List Value).toArray below meth c H locs 0 0 (MQ below (va_Qi Q (BG D κ A) A) ([.ref a0] : List Value).toArray s 0 0 A) (F0 m 64 ls []) := by
    intro  n
    induction n with
    | zero => intro v0 v1 v2 S ls H locs hl hG hS h; exact False.elim h
    | succ n hC64 =>
      intro v0 v1 v2 S ls H locs hl hG hS h
      replace h : L_X6_read_64  Q (it (L_X6_read_64  Q) n) (v0, v1, v2, S) := h
      simp only [L_X6_read_64] at h
      refine lv_aload_n hx hb dX6_read_64 rfl (lv_at hl 0 rfl) ?_
      have hk := h.1
      replace h := h.2
      refine gg_get (ci := 6) (C := RX6) (T := TX6) (N := 32) hx hb hts (fun _ h => List.mem_cons_of_mem _ (List.mem_append_right _ (h))) hown hK hG (kc_7 hk) rfl 20 (by decide) (hts (.fieldLink RX6 177 "FourStonesModel" "place" "I") (List.mem_of_getElem? (i := 1) rfl)) (fun _ h9 => h9) rfl dX6_read_65 ?_
      refine lv_aload_n hx hb dX6_read_68 rfl (lv_at hl 0 rfl) ?_
      have hk := h.1
      replace h := h.2
      refine gg_get (ci := 6) (C := RX6) (T := TX6) (N := 32) hx hb hts (fun _ h => List.mem_cons_of_mem _ (List.mem_append_right _ (h))) hown hK hG (kc_7 hk) rfl 19 (by decide) (hts (.fieldLink RX6 180 "FourStonesModel" "to" "I") (List.mem_of_getElem? (i := 3) rfl)) (fun _ h9 => h9) rfl dX6_read_69 ?_
      refine lv_icmp_ge (tgt := 138) hx hb dX6_read_72 rfl (fun hc => ?_) (fun hc => ?_)
      · replace h := h.1 hc
        refine lv_aload_n hx hb dX6_read_138 rfl (lv_at hl 0 rfl) ?_
        refine lv_iconst (v := (0 : Int32)) hx hb dX6_read_139 (by decide) ?_
        have hk := h.1
        replace h := h.2
        obtain ⟨S1, eS1⟩ : ∃ z, z = sI S 90 v0 (0 : Int32) := ⟨_, rfl⟩
        replace h := h S1 eS1
        refine gg_put (ci := 6) (C := RX6) (T := TX6) (N := 32) hx hb hts (fun _ h => List.mem_cons_of_mem _ (List.mem_append_right _ (h))) tyX6 tyX6_ok nmX6 hown hK hG hS (kc_7 hk) rfl 20 (by decide) (hts (.fieldLink RX6 177 "FourStonesModel" "place" "I") (List.mem_of_getElem? (i := 1) rfl)) (fun _ h9 => h9) rfl (tyX6_ok 20 (by decide)) rfl rfl (Nat.le_of_ble_eq_true rfl) dX6_read_140 (S' := S1) (fun b hb9 => by rw [eS1]; exact cO_sI hb9) (by rw [eS1]; exact cs_90 hk) (fun H locs2 hG hS => ?_)
        obtain ⟨nn, h⟩ := h
        exact k_143  nn v0 v1 S1 ls _ _ (lv_sub hl [0, 1] rfl) hG hS h
      · replace h := h.2 hc
        refine lv_aload_n hx hb dX6_read_75 rfl (lv_at hl 0 rfl) ?_
        have hk := h.1
        replace h := h.2
        refine gg_get (ci := 6) (C := RX6) (T := TX6) (N := 32) hx hb hts (fun _ h => List.mem_cons_of_mem _ (List.mem_append_right _ (h))) hown hK hG (kc_7 hk) rfl 20 (by decide) (hts (.fieldLink RX6 177 "FourStonesModel" "place" "I") (List.mem_of_getElem? (i := 1) rfl)) (fun _ h9 => h9) rfl dX6_read_76 ?_
        refine lv_topi (fun y3 ey3 => ?_)
        replace h := h y3 ey3
        refine lv_istore_n (lv' := [(3, .int y3), (0, .ref v0), (1, .int v1), (2, .int v2)]) hx hb dX6_read_79 rfl hl (by decide) rfl (fun ls hl => ?_)
        refine lv_aload_n hx hb dX6_read_80 rfl (lv_at hl 1 rfl) ?_
        have hk := h.1
        replace h := h.2
        refine gc_i (va_runV (As := []) (rest := []) ⟨hx, hb, hml, hown, hts⟩ (c_X6_statement l D κ A S v0 _ h) (cwV 0 hts gX6_read_X6_statement rfl rfl rfl (by decide +kernel) ⟨Nat.le_of_ble_eq_true rfl, Nat.le_of_ble_eq_true rfl⟩) (pg_V (q := (RX6, TX6, 32)) hK hX hG (pg_A hA hS) (kc_7 hk) rfl) rfl rfl hl.1 rfl (lv_room (Nat.le_of_ble_eq_true rfl)) dX6_read_81 ⟨Nat.le_of_ble_eq_true rfl, Nat.le_of_ble_eq_true rfl⟩) hS (fun z6 S5 H locs4 h hG hS => ?_)
        refine lv_istore (lv' := [(4, .int z6), (3, .int y3), (0, .ref v0), (1, .int v1), (2, .int v2)]) hx hb dX6_read_84 hl (by decide) rfl (fun ls hl => ?_)
        refine lv_iload hx hb dX6_read_86 (lv_at hl 0 rfl) ?_
        refine lv_aload_n hx hb dX6_read_88 rfl (lv_at hl 2 rfl) ?_
        have hk := h.1
        replace h := h.2
        refine gg_get (ci := 6) (C := RX6) (T := TX6) (N := 32) hx hb hts (fun _ h => List.mem_cons_of_mem _ (List.mem_append_right _ (h))) hown hK hG (kc_7 hk) rfl 22 (by decide) (hts (.fieldLink RX6 199 "FourStonesModel" "first" "I") (List.mem_of_getElem? (i := 5) rfl)) (fun _ h9 => h9) rfl dX6_read_89 ?_
        refine lv_aload_n hx hb dX6_read_92 rfl (lv_at hl 2 rfl) ?_
        have hk := h.1
        replace h := h.2
        refine gg_get (ci := 6) (C := RX6) (T := TX6) (N := 32) hx hb hts (fun _ h => List.mem_cons_of_mem _ (List.mem_append_right _ (h))) hown hK hG (kc_7 hk) rfl 23 (by decide) (hts (.fieldLink RX6 205 "FourStonesModel" "second" "I") (List.mem_of_getElem? (i := 6) rfl)) (fun _ h9 => h9) rfl dX6_read_93 ?_
        refine lv_iload_n hx hb dX6_read_96 rfl (lv_at hl 4 rfl) ?_
        refine gc_i (va_runS (As := [.int z6, .int (gI S5 92 v0), .int (gI S5 93 v0), .int v2]) (rest := []) ⟨hx, hb, hml, hown, hts⟩ (c_X6_isAsTold l D κ A S5 z6 (gI S5 92 v0) (gI S5 93 v0) v2 _ h) (va_cwS 4 hts gX6_read_X6_isAsTold rfl rfl rfl (by decide +kernel) ⟨Nat.le_of_ble_eq_true rfl, Nat.le_of_ble_eq_true rfl⟩) (pg_S hK hX hG (pg_A hA hS)) rfl rfl hl.1 rfl (lv_room (Nat.le_of_ble_eq_true rfl)) dX6_read_97 ⟨Nat.le_of_ble_eq_true rfl, Nat.le_of_ble_eq_true rfl⟩) hS (fun z9 S8 H locs7 h hG hS => ?_)
        refine lv_if_ne (tgt := 109) hx hb dX6_read_100 rfl (fun hc => ?_) (fun hc => ?_)
        · replace h := h.1 hc
          refine lv_iload_n hx hb dX6_read_109 rfl (lv_at hl 4 rfl) ?_
          refine lv_iload hx hb dX6_read_110 (lv_at hl 0 rfl) ?_
          refine lv_bipush (v := (115 : Int32)) hx hb dX6_read_112 (by decide) ?_
          refine lv_icmp_ne (tgt := 121) hx hb dX6_read_114 rfl (fun hc => ?_) (fun hc => ?_)
          · replace h := h.1 hc
            refine lv_iload hx hb dX6_read_121 (lv_at hl 0 rfl) ?_
            refine lv_bipush (v := (120 : Int32)) hx hb dX6_read_123 (by decide) ?_
            refine lv_icmp_ne (tgt := 132) hx hb dX6_read_125 rfl (fun hc => ?_) (fun hc => ?_)
            · replace h := h.1 hc
              refine lv_iconst (v := (0 : Int32)) hx hb dX6_read_132 (by decide) ?_
              exact j_133 _ hC64 v0 v1 v2 (0 : Int32) S8 ls _ _ (lv_sub hl [2, 3] rfl) hG hS h
            · replace h := h.2 hc
              refine lv_iconst (v := (-1 : Int32)) hx hb dX6_read_128 (by decide) ?_
              refine lv_goto (tgt := 133) hx hb dX6_read_129 rfl ?_
              exact j_133 _ hC64 v0 v1 v2 (-1 : Int32) S8 ls _ _ (lv_sub hl [2, 3] rfl) hG hS h
          · replace h := h.2 hc
            refine lv_iconst (v := (1 : Int32)) hx hb dX6_read_117 (by decide) ?_
            refine lv_goto (tgt := 133) hx hb dX6_read_118 rfl ?_
            exact j_133 _ hC64 v0 v1 v2 (1 : Int32) S8 ls _ _ (lv_sub hl [2, 3] rfl) hG hS h
        · replace h := h.2 hc
          refine lv_sipush (v := (-2000 : Int32)) hx hb dX6_read_103 (by decide) ?_
          refine lv_iload_n hx hb dX6_read_106 rfl (lv_at hl 1 rfl) ?_
          refine lv_isub hx hb dX6_read_107 ?_
          exact W.iret hx hb hr (gr_i h hG hK hX hS) hS.2.2 dX6_read_108
  have j_38 : ∀  (v0 : Nat) (v1 : Int32) (S : Hp) (ls : Array Slot) (H : Heap) (locs : List Loc), lv_has ls 5 [(0, .ref v0), (1, .int v1)] → GG D κ A S H → va_S A s.heap H locs → J_X6_read_38  Q v0 v1 S → W p l e ({ frames := 4, cells := 0, slots := 0, locals := 192 } : Room) s m ([.ref a0] : List Value).toArray below meth c H locs 0 0 (MQ below (va_Qi Q (BG D κ A) A) ([.ref a0] : List Value).toArray s 0 0 A) (F0 m 38 ls []) := by
    intro  v0 v1 S ls H locs hl hG hS h
    unfold J_X6_read_38 at h
    refine lv_aload_n hx hb dX6_read_38 rfl (lv_at hl 0 rfl) ?_
    have hk := h.1
    replace h := h.2
    refine gg_get (ci := 6) (C := RX6) (T := TX6) (N := 32) hx hb hts (fun _ h => List.mem_cons_of_mem _ (List.mem_append_right _ (h))) hown hK hG (kc_7 hk) rfl 21 (by decide) (hts (.fieldLink RX6 186 "FourStonesModel" "well" "Z") (List.mem_of_getElem? (i := 2) rfl)) (fun _ h9 => h9) rfl dX6_read_39 ?_
    refine lv_if_ne (tgt := 54) hx hb dX6_read_42 rfl (fun hc => ?_) (fun hc => ?_)
    · replace h := h.1 hc
      refine lv_aload_n hx hb dX6_read_54 rfl (lv_at hl 0 rfl) ?_
      have hk := h.1
      replace h := h.2
      refine gg_get (ci := 6) (C := RX6) (T := TX6) (N := 32) hx hb hts (fun _ h => List.mem_cons_of_mem _ (List.mem_append_right _ (h))) hown hK hG (kc_7 hk) rfl 0 (by decide) (hts (.fieldLink RX6 57 "FourStonesModel" "stones" "I") (List.mem_of_getElem? (i := 4) rfl)) (fun _ h9 => h9) rfl dX6_read_55 ?_
      refine lv_topi (fun y1 ey1 => ?_)
      replace h := h y1 ey1
      refine lv_istore_n (lv' := [(2, .int y1), (0, .ref v0), (1, .int v1)]) hx hb dX6_read_58 rfl hl (by decide) rfl (fun ls hl => ?_)
      refine lv_aload_n hx hb dX6_read_59 rfl (lv_at hl 1 rfl) ?_
      refine lv_iconst (v := (0 : Int32)) hx hb dX6_read_60 (by decide) ?_
      have hk := h.1
      replace h := h.2
      obtain ⟨S2, eS2⟩ : ∃ z, z = sI S 90 v0 (0 : Int32) := ⟨_, rfl⟩
      replace h := h S2 eS2
      refine gg_put (ci := 6) (C := RX6) (T := TX6) (N := 32) hx hb hts (fun _ h => List.mem_cons_of_mem _ (List.mem_append_right _ (h))) tyX6 tyX6_ok nmX6 hown hK hG hS (kc_7 hk) rfl 20 (by decide) (hts (.fieldLink RX6 177 "FourStonesModel" "place" "I") (List.mem_of_getElem? (i := 1) rfl)) (fun _ h9 => h9) rfl (tyX6_ok 20 (by decide)) rfl rfl (Nat.le_of_ble_eq_true rfl) dX6_read_61 (S' := S2) (fun b hb9 => by rw [eS2]; exact cO_sI hb9) (by rw [eS2]; exact cs_90 hk) (fun H locs3 hG hS => ?_)
      obtain ⟨nn, h⟩ := h
      exact k_64  nn v0 v1 y1 S2 ls _ _ (lv_sub hl [1, 2, 0] rfl) hG hS h
    · replace h := h.2 hc
      refine lv_sipush (v := (-1000 : Int32)) hx hb dX6_read_45 (by decide) ?_
      refine lv_aload_n hx hb dX6_read_48 rfl (lv_at hl 0 rfl) ?_
      have hk := h.1
      replace h := h.2
      refine gg_get (ci := 6) (C := RX6) (T := TX6) (N := 32) hx hb hts (fun _ h => List.mem_cons_of_mem _ (List.mem_append_right _ (h))) hown hK hG (kc_7 hk) rfl 20 (by decide) (hts (.fieldLink RX6 177 "FourStonesModel" "place" "I") (List.mem_of_getElem? (i := 1) rfl)) (fun _ h9 => h9) rfl dX6_read_49 ?_
      refine lv_isub hx hb dX6_read_52 ?_
      exact W.iret hx hb hr (gr_i h hG hK hX hS) hS.2.2 dX6_read_53
  have k_12 : ∀  (n : Nat), ∀ (v0 : Nat) (v1 : Int32) (S : Hp) (ls : Array Slot) (H : Heap) (locs : List Loc), lv_has ls 5 [(0, .ref v0), (1, .int v1)] → GG D κ A S H → va_S A s.heap H locs → it (L_X6_read_12  Q) n (v0, v1, S) → W p l e ({ frames := 4, cells := 0, slots := 0, locals := 192 } : Room) s m ([.ref a0] : List Value).toArray below meth c H locs 0 0 (MQ below (va_Qi Q (BG D κ A) A) ([.ref a0] : List Value).toArray s 0 0 A) (F0 m 12 ls []) := by
    intro  n
    induction n with
    | zero => intro v0 v1 S ls H locs hl hG hS h; exact False.elim h
    | succ n hC12 =>
      intro v0 v1 S ls H locs hl hG hS h
      replace h : L_X6_read_12  Q (it (L_X6_read_12  Q) n) (v0, v1, S) := h
      simp only [L_X6_read_12] at h
      refine lv_aload_n hx hb dX6_read_12 rfl (lv_at hl 0 rfl) ?_
      have hk := h.1
      replace h := h.2
      refine gc_i (va_runV (As := []) (rest := []) ⟨hx, hb, hml, hown, hts⟩ (c_X6_statement l D κ A S v0 _ h) (cwV 0 hts gX6_read_X6_statement rfl rfl rfl (by decide +kernel) ⟨Nat.le_of_ble_eq_true rfl, Nat.le_of_ble_eq_true rfl⟩) (pg_V (q := (RX6, TX6, 32)) hK hX hG (pg_A hA hS) (kc_7 hk) rfl) rfl rfl hl.1 rfl (lv_room (Nat.le_of_ble_eq_true rfl)) dX6_read_13 ⟨Nat.le_of_ble_eq_true rfl, Nat.le_of_ble_eq_true rfl⟩) hS (fun z3 S2 H locs1 h hG hS => ?_)
      refine lv_pop hx hb dX6_read_16 rfl ?_
      obtain ⟨y4, ey4⟩ : ∃ z, z = v1 + (1 : Int32) := ⟨_, rfl⟩
      replace h := h y4 ey4
      refine lv_iinc (v := y4) (lv' := [(1, .int y4), (0, .ref v0)]) hx hb dX6_read_17 hl (k := 1) rfl (by rw [ey4]; rfl) (by decide) rfl (fun ls hl => ?_)
      refine lv_aload_n hx hb dX6_read_20 rfl (lv_at hl 1 rfl) ?_
      have hk := h.1
      replace h := h.2
      refine gg_get (ci := 6) (C := RX6) (T := TX6) (N := 32) hx hb hts (fun _ h => List.mem_cons_of_mem _ (List.mem_append_right _ (h))) hown hK hG (kc_7 hk) rfl 21 (by decide) (hts (.fieldLink RX6 186 "FourStonesModel" "well" "Z") (List.mem_of_getElem? (i := 2) rfl)) (fun _ h9 => h9) rfl dX6_read_21 ?_
      refine lv_if_eq (tgt := 38) hx hb dX6_read_24 rfl (fun hc => ?_) (fun hc => ?_)
      · replace h := h.1 hc
        exact j_38  v0 y4 S2 ls _ _ (lv_sub hl [1, 0] rfl) hG hS h
      · replace h := h.2 hc
        refine lv_aload_n hx hb dX6_read_27 rfl (lv_at hl 1 rfl) ?_
        have hk := h.1
        replace h := h.2
        refine gg_get (ci := 6) (C := RX6) (T := TX6) (N := 32) hx hb hts (fun _ h => List.mem_cons_of_mem _ (List.mem_append_right _ (h))) hown hK hG (kc_7 hk) rfl 20 (by decide) (hts (.fieldLink RX6 177 "FourStonesModel" "place" "I") (List.mem_of_getElem? (i := 1) rfl)) (fun _ h9 => h9) rfl dX6_read_28 ?_
        refine lv_aload_n hx hb dX6_read_31 rfl (lv_at hl 1 rfl) ?_
        have hk := h.1
        replace h := h.2
        refine gg_get (ci := 6) (C := RX6) (T := TX6) (N := 32) hx hb hts (fun _ h => List.mem_cons_of_mem _ (List.mem_append_right _ (h))) hown hK hG (kc_7 hk) rfl 19 (by decide) (hts (.fieldLink RX6 180 "FourStonesModel" "to" "I") (List.mem_of_getElem? (i := 3) rfl)) (fun _ h9 => h9) rfl dX6_read_32 ?_
        refine lv_icmp_lt (tgt := 12) hx hb dX6_read_35 rfl (fun hc => ?_) (fun hc => ?_)
        · replace h := h.1 hc
          exact hC12 v0 y4 S2 ls _ _ (lv_sub hl [1, 0] rfl) hG hS h
        · replace h := h.2 hc
          exact j_38  v0 y4 S2 ls _ _ (lv_sub hl [1, 0] rfl) hG hS h
  refine lv_iconst (v := (0 : Int32)) hx hb dX6_read_0 (by decide) ?_
  refine lv_istore_n (lv' := [(1, .int (0 : Int32)), (0, .ref a0)]) hx hb dX6_read_1 rfl hl (by decide) rfl (fun ls hl => ?_)
  refine lv_aload_n hx hb dX6_read_2 rfl (lv_at hl 1 rfl) ?_
  refine lv_iconst (v := (0 : Int32)) hx hb dX6_read_3 (by decide) ?_
  have hk := h.1
  replace h := h.2
  obtain ⟨S1, eS1⟩ : ∃ z, z = sI S 90 a0 (0 : Int32) := ⟨_, rfl⟩
  replace h := h S1 eS1
  refine gg_put (ci := 6) (C := RX6) (T := TX6) (N := 32) hx hb hts (fun _ h => List.mem_cons_of_mem _ (List.mem_append_right _ (h))) tyX6 tyX6_ok nmX6 hown hK hG hS (kc_7 hk) rfl 20 (by decide) (hts (.fieldLink RX6 177 "FourStonesModel" "place" "I") (List.mem_of_getElem? (i := 1) rfl)) (fun _ h9 => h9) rfl (tyX6_ok 20 (by decide)) rfl rfl (Nat.le_of_ble_eq_true rfl) dX6_read_4 (S' := S1) (fun b hb9 => by rw [eS1]; exact cO_sI hb9) (by rw [eS1]; exact cs_90 hk) (fun H locs2 hG hS => ?_)
  refine lv_aload_n hx hb dX6_read_7 rfl (lv_at hl 1 rfl) ?_
  refine lv_iconst (v := (1 : Int32)) hx hb dX6_read_8 (by decide) ?_
  have hk := h.1
  replace h := h.2
  obtain ⟨S3, eS3⟩ : ∃ z, z = sI S1 91 a0 (1 : Int32) := ⟨_, rfl⟩
  replace h := h S3 eS3
  refine gg_put (ci := 6) (C := RX6) (T := TX6) (N := 32) hx hb hts (fun _ h => List.mem_cons_of_mem _ (List.mem_append_right _ (h))) tyX6 tyX6_ok nmX6 hown hK hG hS (kc_7 hk) rfl 21 (by decide) (hts (.fieldLink RX6 186 "FourStonesModel" "well" "Z") (List.mem_of_getElem? (i := 2) rfl)) (fun _ h9 => h9) rfl (tyX6_ok 21 (by decide)) (by decide) (by decide) (Nat.le_of_ble_eq_true rfl) dX6_read_9 (S' := S3) (fun b hb9 => by rw [eS3]; exact cO_sI hb9) (by rw [eS3]; exact cs_91 hk) (fun H locs4 hG hS => ?_)
  obtain ⟨nn, h⟩ := h
  exact k_12  nn a0 (0 : Int32) S3 ls _ _ (lv_sub hl [1, 0] rfl) hG hS h
set_option maxHeartbeats 4000000 in
set_option maxRecDepth 100000 in
theorem c_X6_shop (l : Launch) (D : va_G) (κ : Nat → ClassId) (A : Nat → Prop) (S : Hp) (a0 : Nat) (x1 : Int32) (Q : Int32 → Hp → Prop) (h : wp_X6_shop a0 x1 S Q) : Met l yX6_shop wsX6_shop ({ frames := 5, cells := 0, slots := 0, locals := 240 } : Room) (PG D κ A S [.ref a0, .int x1]) (va_Qi Q (BG D κ A) A) 0 0 A := by
  refine Met.ofW (cc := cX6_shop) (maxL := 2) (ret := (some .int)) (by decide) rfl ?_
  intro p e s m args below meth c s₁ B hml hv
  obtain ⟨hargs, hA, hG, hK, hX⟩ := hv
  have hx := B.exec
  have hb := B.bytes
  have hr := B.returns
  have hts := atoms_spec (ws := wsX6_shop) B.pre
  have hown : s.vm.findClass RX6 = some m.cls := findClass_of_methodNamed B.named
  have hlocks := B.notSynchronized
  subst hargs
  clear B
  have hS : va_S A s.heap s.heap [] := va_S.rf
  have hl := lv_entry ([.ref a0, .int x1]) (n := 2) (Nat.le_of_ble_eq_true rfl)
  rw [lg_entry_eq]
  generalize (lg_sl ([.ref a0, .int x1]) ++ List.replicate (2 - (lg_sl ([.ref a0, .int x1])).length) Slot.unset).toArray = ls at hl ⊢
  have hl : lv_has ls 2 [(0, .ref a0), (1, .int x1)] := hl
  have hG : GG D κ A S s.heap := hG
  refine lv_iload_n hx hb dX6_shop_0 rfl (lv_at hl 1 rfl) ?_
  refine gc_i (va_runS (As := [.int x1]) (rest := []) ⟨hx, hb, hml, hown, hts⟩ (c_X6_isShelf l D κ A S x1 _ h) (va_cwS 1 hts gX6_shop_X6_isShelf rfl rfl rfl (by decide +kernel) ⟨Nat.le_of_ble_eq_true rfl, Nat.le_of_ble_eq_true rfl⟩) (pg_S hK hX hG (pg_A hA hS)) rfl rfl hl.1 rfl (lv_room (Nat.le_of_ble_eq_true rfl)) dX6_shop_1 ⟨Nat.le_of_ble_eq_true rfl, Nat.le_of_ble_eq_true rfl⟩) hS (fun z3 S2 H locs1 h hG hS => ?_)
  refine lv_if_ne (tgt := 9) hx hb dX6_shop_4 rfl (fun hc => ?_) (fun hc => ?_)
  · replace h := h.1 hc
    refine lv_aload_n hx hb dX6_shop_9 rfl (lv_at hl 0 rfl) ?_
    have hk := h.1
    replace h := h.2
    obtain ⟨r4, hr4, h⟩ := h
    refine gg_get (v := .ref r4) (ci := 6) (C := RX6) (T := TX6) (N := 32) hx hb hts (fun _ h => List.mem_cons_of_mem _ (List.mem_append_right _ (h))) hown hK hG (kc_7 hk) rfl 24 (by decide) (hts (.fieldLink RX6 32 "FourStonesModel" "holds" "[I") (List.mem_of_getElem? (i := 1) rfl)) (fun _ h9 => h9) (congrArg (fun z => some (va_rf z)) hr4) dX6_shop_10 ?_
    refine lv_iload_n hx hb dX6_shop_13 rfl (lv_at hl 1 rfl) ?_
    have hk := h.1
    replace h := h.2
    have hi := h.1
    replace h := h.2
    refine gg_iald hx hb hK hG hk hi dX6_shop_14 ?_
    refine lv_if_ne (tgt := 21) hx hb dX6_shop_15 rfl (fun hc => ?_) (fun hc => ?_)
    · replace h := h.1 hc
      refine lv_aload_n hx hb dX6_shop_21 rfl (lv_at hl 0 rfl) ?_
      have hk := h.1
      replace h := h.2
      obtain ⟨r5, hr5, h⟩ := h
      refine gg_get (v := .ref r5) (ci := 6) (C := RX6) (T := TX6) (N := 32) hx hb hts (fun _ h => List.mem_cons_of_mem _ (List.mem_append_right _ (h))) hown hK hG (kc_7 hk) rfl 24 (by decide) (hts (.fieldLink RX6 32 "FourStonesModel" "holds" "[I") (List.mem_of_getElem? (i := 1) rfl)) (fun _ h9 => h9) (congrArg (fun z => some (va_rf z)) hr5) dX6_shop_22 ?_
      refine lv_iload_n hx hb dX6_shop_25 rfl (lv_at hl 1 rfl) ?_
      have hk := h.1
      replace h := h.2
      have hi := h.1
      replace h := h.2
      refine gg_iald hx hb hK hG hk hi dX6_shop_26 ?_
      refine lv_iconst (v := (1 : Int32)) hx hb dX6_shop_27 (by decide) ?_
      refine lv_icmp_eq (tgt := 40) hx hb dX6_shop_28 rfl (fun hc => ?_) (fun hc => ?_)
      · replace h := h.1 hc
        refine lv_bipush (v := (-12 : Int32)) hx hb dX6_shop_40 (by decide) ?_
        exact W.iret hx hb hr (gr_i h hG hK hX hS) hS.2.2 dX6_shop_42
      · replace h := h.2 hc
        refine lv_aload_n hx hb dX6_shop_31 rfl (lv_at hl 0 rfl) ?_
        have hk := h.1
        replace h := h.2
        obtain ⟨r6, hr6, h⟩ := h
        refine gg_get (v := .ref r6) (ci := 6) (C := RX6) (T := TX6) (N := 32) hx hb hts (fun _ h => List.mem_cons_of_mem _ (List.mem_append_right _ (h))) hown hK hG (kc_7 hk) rfl 27 (by decide) (hts (.fieldLink RX6 41 "FourStonesModel" "sort" "[I") (List.mem_of_getElem? (i := 2) rfl)) (fun _ h9 => h9) (congrArg (fun z => some (va_rf z)) hr6) dX6_shop_32 ?_
        refine lv_iload_n hx hb dX6_shop_35 rfl (lv_at hl 1 rfl) ?_
        have hk := h.1
        replace h := h.2
        have hi := h.1
        replace h := h.2
        refine gg_iald hx hb hK hG hk hi dX6_shop_36 ?_
        refine lv_if_eq (tgt := 43) hx hb dX6_shop_37 rfl (fun hc => ?_) (fun hc => ?_)
        · replace h := h.1 hc
          refine lv_aload_n hx hb dX6_shop_43 rfl (lv_at hl 0 rfl) ?_
          refine lv_bipush (v := (100 : Int32)) hx hb dX6_shop_44 (by decide) ?_
          refine lv_iload_n hx hb dX6_shop_46 rfl (lv_at hl 1 rfl) ?_
          refine lv_imul hx hb dX6_shop_47 ?_
          have hk := h.1
          replace h := h.2
          obtain ⟨S7, eS7⟩ : ∃ z, z = sI S2 88 a0 ((100 : Int32) * x1) := ⟨_, rfl⟩
          replace h := h S7 eS7
          refine gg_put (ci := 6) (C := RX6) (T := TX6) (N := 32) hx hb hts (fun _ h => List.mem_cons_of_mem _ (List.mem_append_right _ (h))) tyX6 tyX6_ok nmX6 hown hK hG hS (kc_7 hk) rfl 18 (by decide) (hts (.fieldLink RX6 183 "FourStonesModel" "from" "I") (List.mem_of_getElem? (i := 3) rfl)) (fun _ h9 => h9) rfl (tyX6_ok 18 (by decide)) rfl rfl (Nat.le_of_ble_eq_true rfl) dX6_shop_48 (S' := S7) (fun b hb9 => by rw [eS7]; exact cO_sI hb9) (by rw [eS7]; exact cs_88 hk) (fun H locs8 hG hS => ?_)
          refine lv_aload_n hx hb dX6_shop_51 rfl (lv_at hl 0 rfl) ?_
          refine lv_aload_n hx hb dX6_shop_52 rfl (lv_at hl 0 rfl) ?_
          have hk := h.1
          replace h := h.2
          obtain ⟨r9, hr9, h⟩ := h
          refine gg_get (v := .ref r9) (ci := 6) (C := RX6) (T := TX6) (N := 32) hx hb hts (fun _ h => List.mem_cons_of_mem _ (List.mem_append_right _ (h))) hown hK hG (kc_7 hk) rfl 28 (by decide) (hts (.fieldLink RX6 44 "FourStonesModel" "size" "[I") (List.mem_of_getElem? (i := 4) rfl)) (fun _ h9 => h9) (congrArg (fun z => some (va_rf z)) hr9) dX6_shop_53 ?_
          refine lv_iload_n hx hb dX6_shop_56 rfl (lv_at hl 1 rfl) ?_
          have hk := h.1
          replace h := h.2
          have hi := h.1
          replace h := h.2
          refine gg_iald hx hb hK hG hk hi dX6_shop_57 ?_
          have hk := h.1
          replace h := h.2
          obtain ⟨S10, eS10⟩ : ∃ z, z = sI S7 89 a0 (gA S7 r9 (x1).toNatClampNeg) := ⟨_, rfl⟩
          replace h := h S10 eS10
          refine gg_put (ci := 6) (C := RX6) (T := TX6) (N := 32) hx hb hts (fun _ h => List.mem_cons_of_mem _ (List.mem_append_right _ (h))) tyX6 tyX6_ok nmX6 hown hK hG hS (kc_7 hk) rfl 19 (by decide) (hts (.fieldLink RX6 180 "FourStonesModel" "to" "I") (List.mem_of_getElem? (i := 5) rfl)) (fun _ h9 => h9) rfl (tyX6_ok 19 (by decide)) rfl rfl (Nat.le_of_ble_eq_true rfl) dX6_shop_58 (S' := S10) (fun b hb9 => by rw [eS10]; exact cO_sI hb9) (by rw [eS10]; exact cs_89 hk) (fun H locs11 hG hS => ?_)
          refine lv_aload_n hx hb dX6_shop_61 rfl (lv_at hl 0 rfl) ?_
          have hk := h.1
          replace h := h.2
          refine gc_i (va_runV (As := []) (rest := []) ⟨hx, hb, hml, hown, hts⟩ (c_X6_read l D κ A S10 a0 _ h) (cwV 0 hts gX6_shop_X6_read rfl rfl rfl (by decide +kernel) ⟨Nat.le_of_ble_eq_true rfl, Nat.le_of_ble_eq_true rfl⟩) (pg_V (q := (RX6, TX6, 32)) hK hX hG (pg_A hA hS) (kc_7 hk) rfl) rfl rfl hl.1 rfl (lv_room (Nat.le_of_ble_eq_true rfl)) dX6_shop_62 ⟨Nat.le_of_ble_eq_true rfl, Nat.le_of_ble_eq_true rfl⟩) hS (fun z14 S13 H locs12 h hG hS => ?_)
          exact W.iret hx hb hr (gr_i h hG hK hX hS) hS.2.2 dX6_shop_65
        · replace h := h.2 hc
          refine lv_bipush (v := (-12 : Int32)) hx hb dX6_shop_40 (by decide) ?_
          exact W.iret hx hb hr (gr_i h hG hK hX hS) hS.2.2 dX6_shop_42
    · replace h := h.2 hc
      refine lv_bipush (v := (-11 : Int32)) hx hb dX6_shop_18 (by decide) ?_
      exact W.iret hx hb hr (gr_i h hG hK hX hS) hS.2.2 dX6_shop_20
  · replace h := h.2 hc
    refine lv_iconst (v := (-1 : Int32)) hx hb dX6_shop_7 (by decide) ?_
    exact W.iret hx hb hr (gr_i h hG hK hX hS) hS.2.2 dX6_shop_8
set_option maxHeartbeats 4000000 in
set_option maxRecDepth 100000 in
theorem c_X6_keep (l : Launch) (D : va_G) (κ : Nat → ClassId) (A : Nat → Prop) (S : Hp) (a0 : Nat) (x1 : Int32) (x2 : Int32) (x3 : Int32) (x4 : Int32) (Q : Int32 → Hp → Prop) (h : wp_X6_keep a0 x1 x2 x3 x4 S Q) : Met l yX6_keep wsX6_keep ({ frames := 3, cells := 0, slots := 0, locals := 144 } : Room) (PG D κ A S [.ref a0, .int x1, .int x2, .int x3, .int x4]) (va_Qi Q (BG D κ A) A) 0 0 A := by
  refine Met.ofW (cc := cX6_keep) (maxL := 5) (ret := (some .int)) (by decide) rfl ?_
  intro p e s m args below meth c s₁ B hml hv
  obtain ⟨hargs, hA, hG, hK, hX⟩ := hv
  have hx := B.exec
  have hb := B.bytes
  have hr := B.returns
  have hts := atoms_spec (ws := wsX6_keep) B.pre
  have hown : s.vm.findClass RX6 = some m.cls := findClass_of_methodNamed B.named
  have hlocks := B.notSynchronized
  subst hargs
  clear B
  have hS : va_S A s.heap s.heap [] := va_S.rf
  have hl := lv_entry ([.ref a0, .int x1, .int x2, .int x3, .int x4]) (n := 5) (Nat.le_of_ble_eq_true rfl)
  rw [lg_entry_eq]
  generalize (lg_sl ([.ref a0, .int x1, .int x2, .int x3, .int x4]) ++ List.replicate (5 - (lg_sl ([.ref a0, .int x1, .int x2, .int x3, .int x4])).length) Slot.unset).toArray = ls at hl ⊢
  have hl : lv_has ls 5 [(0, .ref a0), (1, .int x1), (2, .int x2), (3, .int x3), (4, .int x4)] := hl
  have hG : GG D κ A S s.heap := hG
  have j_66 : ∀  (v0 : Nat) (v1 : Int32) (v2 : Int32) (v4 : Int32) (w0 : Nat) (w1 : Int32) (w2 : Int32) (S : Hp) (ls : Array Slot) (H : Heap) (locs : List Loc), lv_has ls 5 [(0, .ref v0), (1, .int v1), (2, .int v2), (4, .int v4)] → GG D κ A S H → va_S A s.heap H locs → J_X6_keep_66  Q v0 v1 v2 v4 w0 w1 w2 S → W p l e ({ frames := 3, cells := 0, slots := 0, locals := 144 } : Room) s m ([.ref a0, .int x1, .int x2, .int x3, .int x4] : List Value).toArray below meth c H locs 0 0 (MQ below (va_Qi Q (BG D κ A) A) ([.ref a0, .int x1, .int x2, .int x3, .int x4] : List Value).toArray s 0 0 A) (F0 m 66 ls [.int w2, .int w1, .ref w0]) := by
    intro  v0 v1 v2 v4 w0 w1 w2 S ls H locs hl hG hS h
    unfold J_X6_keep_66 at h
    have hk := h.1
    replace h := h.2
    have hi := h.1
    replace h := h.2
    obtain ⟨S1, eS1⟩ : ∃ z, z = sA S w0 (w1).toNatClampNeg w2 := ⟨_, rfl⟩
    replace h := h S1 eS1
    refine gg_iast hx hb hK hG hS hk hi dX6_keep_66 (fun H locs2 hG hS => ?_)
    rw [← eS1] at hG
    refine lv_aload_n hx hb dX6_keep_67 rfl (lv_at hl 0 rfl) ?_
    have hk := h.1
    replace h := h.2
    obtain ⟨r3, hr3, h⟩ := h
    refine gg_get (v := .ref r3) (ci := 6) (C := RX6) (T := TX6) (N := 32) hx hb hts (fun _ h => List.mem_cons_of_mem _ (List.mem_append_right _ (h))) hown hK hG (kc_7 hk) rfl 26 (by decide) (hts (.fieldLink RX6 38 "FourStonesModel" "figureOf" "[I") (List.mem_of_getElem? (i := 3) rfl)) (fun _ h9 => h9) (congrArg (fun z => some (va_rf z)) hr3) dX6_keep_68 ?_
    refine lv_iload_n hx hb dX6_keep_71 rfl (lv_at hl 1 rfl) ?_
    refine lv_iload_n hx hb dX6_keep_72 rfl (lv_at hl 2 rfl) ?_
    refine lv_iconst (v := (1 : Int32)) hx hb dX6_keep_73 (by decide) ?_
    refine lv_icmp_ne (tgt := 82) hx hb dX6_keep_74 rfl (fun hc => ?_) (fun hc => ?_)
    · replace h := h.1 hc
      refine lv_iconst (v := (0 : Int32)) hx hb dX6_keep_82 (by decide) ?_
      have hk := h.1
      replace h := h.2
      have hi := h.1
      replace h := h.2
      obtain ⟨S4, eS4⟩ : ∃ z, z = sA S1 r3 (v1).toNatClampNeg (0 : Int32) := ⟨_, rfl⟩
      replace h := h S4 eS4
      refine gg_iast hx hb hK hG hS hk hi dX6_keep_83 (fun H locs5 hG hS => ?_)
      rw [← eS4] at hG
      refine lv_iconst (v := (0 : Int32)) hx hb dX6_keep_84 (by decide) ?_
      exact W.iret hx hb hr (gr_i h hG hK hX hS) hS.2.2 dX6_keep_85
    · replace h := h.2 hc
      refine lv_iload hx hb dX6_keep_77 (lv_at hl 3 rfl) ?_
      refine lv_goto (tgt := 83) hx hb dX6_keep_79 rfl ?_
      have hk := h.1
      replace h := h.2
      have hi := h.1
      replace h := h.2
      obtain ⟨S6, eS6⟩ : ∃ z, z = sA S1 r3 (v1).toNatClampNeg v4 := ⟨_, rfl⟩
      replace h := h S6 eS6
      refine gg_iast hx hb hK hG hS hk hi dX6_keep_83 (fun H locs7 hG hS => ?_)
      rw [← eS6] at hG
      refine lv_iconst (v := (0 : Int32)) hx hb dX6_keep_84 (by decide) ?_
      exact W.iret hx hb hr (gr_i h hG hK hX hS) hS.2.2 dX6_keep_85
  have j_44 : ∀  (v0 : Nat) (v1 : Int32) (v2 : Int32) (v3 : Int32) (v4 : Int32) (S : Hp) (ls : Array Slot) (H : Heap) (locs : List Loc), lv_has ls 5 [(0, .ref v0), (1, .int v1), (2, .int v2), (3, .int v3), (4, .int v4)] → GG D κ A S H → va_S A s.heap H locs → J_X6_keep_44  Q v0 v1 v2 v3 v4 S → W p l e ({ frames := 3, cells := 0, slots := 0, locals := 144 } : Room) s m ([.ref a0, .int x1, .int x2, .int x3, .int x4] : List Value).toArray below meth c H locs 0 0 (MQ below (va_Qi Q (BG D κ A) A) ([.ref a0, .int x1, .int x2, .int x3, .int x4] : List Value).toArray s 0 0 A) (F0 m 44 ls []) := by
    intro  v0 v1 v2 v3 v4 S ls H locs hl hG hS h
    unfold J_X6_keep_44 at h
    refine lv_aload_n hx hb dX6_keep_44 rfl (lv_at hl 0 rfl) ?_
    have hk := h.1
    replace h := h.2
    obtain ⟨r1, hr1, h⟩ := h
    refine gg_get (v := .ref r1) (ci := 6) (C := RX6) (T := TX6) (N := 32) hx hb hts (fun _ h => List.mem_cons_of_mem _ (List.mem_append_right _ (h))) hown hK hG (kc_7 hk) rfl 24 (by decide) (hts (.fieldLink RX6 32 "FourStonesModel" "holds" "[I") (List.mem_of_getElem? (i := 1) rfl)) (fun _ h9 => h9) (congrArg (fun z => some (va_rf z)) hr1) dX6_keep_45 ?_
    refine lv_iload_n hx hb dX6_keep_48 rfl (lv_at hl 1 rfl) ?_
    refine lv_iload_n hx hb dX6_keep_49 rfl (lv_at hl 2 rfl) ?_
    have hk := h.1
    replace h := h.2
    have hi := h.1
    replace h := h.2
    obtain ⟨S2, eS2⟩ : ∃ z, z = sA S r1 (v1).toNatClampNeg v2 := ⟨_, rfl⟩
    replace h := h S2 eS2
    refine gg_iast hx hb hK hG hS hk hi dX6_keep_50 (fun H locs3 hG hS => ?_)
    rw [← eS2] at hG
    refine lv_aload_n hx hb dX6_keep_51 rfl (lv_at hl 0 rfl) ?_
    have hk := h.1
    replace h := h.2
    obtain ⟨r4, hr4, h⟩ := h
    refine gg_get (v := .ref r4) (ci := 6) (C := RX6) (T := TX6) (N := 32) hx hb hts (fun _ h => List.mem_cons_of_mem _ (List.mem_append_right _ (h))) hown hK hG (kc_7 hk) rfl 25 (by decide) (hts (.fieldLink RX6 35 "FourStonesModel" "kindOf" "[I") (List.mem_of_getElem? (i := 2) rfl)) (fun _ h9 => h9) (congrArg (fun z => some (va_rf z)) hr4) dX6_keep_52 ?_
    refine lv_iload_n hx hb dX6_keep_55 rfl (lv_at hl 1 rfl) ?_
    refine lv_iload_n hx hb dX6_keep_56 rfl (lv_at hl 2 rfl) ?_
    refine lv_iconst (v := (1 : Int32)) hx hb dX6_keep_57 (by decide) ?_
    refine lv_icmp_ne (tgt := 65) hx hb dX6_keep_58 rfl (fun hc => ?_) (fun hc => ?_)
    · replace h := h.1 hc
      refine lv_iconst (v := (0 : Int32)) hx hb dX6_keep_65 (by decide) ?_
      exact j_66  v0 v1 v2 v4 r4 v1 (0 : Int32) S2 ls _ _ (lv_sub hl [0, 1, 2, 4] rfl) hG hS h
    · replace h := h.2 hc
      refine lv_iload_n hx hb dX6_keep_61 rfl (lv_at hl 3 rfl) ?_
      refine lv_goto (tgt := 66) hx hb dX6_keep_62 rfl ?_
      exact j_66  v0 v1 v2 v4 r4 v1 v3 S2 ls _ _ (lv_sub hl [0, 1, 2, 4] rfl) hG hS h
  refine lv_iload_n hx hb dX6_keep_0 rfl (lv_at hl 1 rfl) ?_
  refine gc_i (va_runS (As := [.int x1]) (rest := []) ⟨hx, hb, hml, hown, hts⟩ (c_X6_isShelf l D κ A S x1 _ h) (va_cwS 1 hts gX6_keep_X6_isShelf rfl rfl rfl (by decide +kernel) ⟨Nat.le_of_ble_eq_true rfl, Nat.le_of_ble_eq_true rfl⟩) (pg_S hK hX hG (pg_A hA hS)) rfl rfl hl.1 rfl (lv_room (Nat.le_of_ble_eq_true rfl)) dX6_keep_1 ⟨Nat.le_of_ble_eq_true rfl, Nat.le_of_ble_eq_true rfl⟩) hS (fun z3 S2 H locs1 h hG hS => ?_)
  refine lv_if_eq (tgt := 42) hx hb dX6_keep_4 rfl (fun hc => ?_) (fun hc => ?_)
  · replace h := h.1 hc
    refine lv_iconst (v := (-1 : Int32)) hx hb dX6_keep_42 (by decide) ?_
    exact W.iret hx hb hr (gr_i h hG hK hX hS) hS.2.2 dX6_keep_43
  · replace h := h.2 hc
    refine lv_iload_n hx hb dX6_keep_7 rfl (lv_at hl 2 rfl) ?_
    refine lv_iconst (v := (0 : Int32)) hx hb dX6_keep_8 (by decide) ?_
    refine lv_iconst (v := (1 : Int32)) hx hb dX6_keep_9 (by decide) ?_
    refine gc_i (va_runS (As := [.int x2, .int (0 : Int32), .int (1 : Int32)]) (rest := []) ⟨hx, hb, hml, hown, hts⟩ (c_X6_isIn l D κ A S2 x2 (0 : Int32) (1 : Int32) _ h) (va_cwS 3 hts gX6_keep_X6_isIn rfl rfl rfl (by decide +kernel) ⟨Nat.le_of_ble_eq_true rfl, Nat.le_of_ble_eq_true rfl⟩) (pg_S hK hX hG (pg_A hA hS)) rfl rfl hl.1 rfl (lv_room (Nat.le_of_ble_eq_true rfl)) dX6_keep_10 ⟨Nat.le_of_ble_eq_true rfl, Nat.le_of_ble_eq_true rfl⟩) hS (fun z6 S5 H locs4 h hG hS => ?_)
    refine lv_if_eq (tgt := 42) hx hb dX6_keep_13 rfl (fun hc => ?_) (fun hc => ?_)
    · replace h := h.1 hc
      refine lv_iconst (v := (-1 : Int32)) hx hb dX6_keep_42 (by decide) ?_
      exact W.iret hx hb hr (gr_i h hG hK hX hS) hS.2.2 dX6_keep_43
    · replace h := h.2 hc
      refine lv_iload_n hx hb dX6_keep_16 rfl (lv_at hl 2 rfl) ?_
      refine lv_iconst (v := (1 : Int32)) hx hb dX6_keep_17 (by decide) ?_
      refine lv_icmp_ne (tgt := 44) hx hb dX6_keep_18 rfl (fun hc => ?_) (fun hc => ?_)
      · replace h := h.1 hc
        exact j_44  a0 x1 x2 x3 x4 S5 ls _ _ (lv_sub hl [0, 1, 2, 3, 4] rfl) hG hS h
      · replace h := h.2 hc
        refine lv_iload_n hx hb dX6_keep_21 rfl (lv_at hl 3 rfl) ?_
        refine lv_iconst (v := (0 : Int32)) hx hb dX6_keep_22 (by decide) ?_
        refine lv_bipush (v := (7 : Int32)) hx hb dX6_keep_23 (by decide) ?_
        refine gc_i (va_runS (As := [.int x3, .int (0 : Int32), .int (7 : Int32)]) (rest := []) ⟨hx, hb, hml, hown, hts⟩ (c_X6_isIn l D κ A S5 x3 (0 : Int32) (7 : Int32) _ h) (va_cwS 3 hts gX6_keep_X6_isIn rfl rfl rfl (by decide +kernel) ⟨Nat.le_of_ble_eq_true rfl, Nat.le_of_ble_eq_true rfl⟩) (pg_S hK hX hG (pg_A hA hS)) rfl rfl hl.1 rfl (lv_room (Nat.le_of_ble_eq_true rfl)) dX6_keep_25 ⟨Nat.le_of_ble_eq_true rfl, Nat.le_of_ble_eq_true rfl⟩) hS (fun z9 S8 H locs7 h hG hS => ?_)
        refine lv_if_eq (tgt := 42) hx hb dX6_keep_28 rfl (fun hc => ?_) (fun hc => ?_)
        · replace h := h.1 hc
          refine lv_iconst (v := (-1 : Int32)) hx hb dX6_keep_42 (by decide) ?_
          exact W.iret hx hb hr (gr_i h hG hK hX hS) hS.2.2 dX6_keep_43
        · replace h := h.2 hc
          refine lv_iload hx hb dX6_keep_31 (lv_at hl 4 rfl) ?_
          refine lv_iconst (v := (0 : Int32)) hx hb dX6_keep_33 (by decide) ?_
          refine lv_bipush (v := (9 : Int32)) hx hb dX6_keep_34 (by decide) ?_
          refine gc_i (va_runS (As := [.int x4, .int (0 : Int32), .int (9 : Int32)]) (rest := []) ⟨hx, hb, hml, hown, hts⟩ (c_X6_isIn l D κ A S8 x4 (0 : Int32) (9 : Int32) _ h) (va_cwS 3 hts gX6_keep_X6_isIn rfl rfl rfl (by decide +kernel) ⟨Nat.le_of_ble_eq_true rfl, Nat.le_of_ble_eq_true rfl⟩) (pg_S hK hX hG (pg_A hA hS)) rfl rfl hl.1 rfl (lv_room (Nat.le_of_ble_eq_true rfl)) dX6_keep_36 ⟨Nat.le_of_ble_eq_true rfl, Nat.le_of_ble_eq_true rfl⟩) hS (fun z12 S11 H locs10 h hG hS => ?_)
          refine lv_if_ne (tgt := 44) hx hb dX6_keep_39 rfl (fun hc => ?_) (fun hc => ?_)
          · replace h := h.1 hc
            exact j_44  a0 x1 x2 x3 x4 S11 ls _ _ (lv_sub hl [0, 1, 2, 3, 4] rfl) hG hS h
          · replace h := h.2 hc
            refine lv_iconst (v := (-1 : Int32)) hx hb dX6_keep_42 (by decide) ?_
            exact W.iret hx hb hr (gr_i h hG hK hX hS) hS.2.2 dX6_keep_43
set_option maxHeartbeats 4000000 in
set_option maxRecDepth 100000 in
theorem c_X6_row (l : Launch) (D : va_G) (κ : Nat → ClassId) (A : Nat → Prop) (S : Hp) (a0 : Nat) (x1 : Int32) (x2 : Int32) (x3 : Int32) (Q : Int32 → Hp → Prop) (h : wp_X6_row a0 x1 x2 x3 S Q) : Met l yX6_row wsX6_row ({ frames := 3, cells := 0, slots := 0, locals := 144 } : Room) (PG D κ A S [.ref a0, .int x1, .int x2, .int x3]) (va_Qi Q (BG D κ A) A) 0 0 A := by
  refine Met.ofW (cc := cX6_row) (maxL := 5) (ret := (some .int)) (by decide) rfl ?_
  intro p e s m args below meth c s₁ B hml hv
  obtain ⟨hargs, hA, hG, hK, hX⟩ := hv
  have hx := B.exec
  have hb := B.bytes
  have hr := B.returns
  have hts := atoms_spec (ws := wsX6_row) B.pre
  have hown : s.vm.findClass RX6 = some m.cls := findClass_of_methodNamed B.named
  have hlocks := B.notSynchronized
  subst hargs
  clear B
  have hS : va_S A s.heap s.heap [] := va_S.rf
  have hl := lv_entry ([.ref a0, .int x1, .int x2, .int x3]) (n := 5) (Nat.le_of_ble_eq_true rfl)
  rw [lg_entry_eq]
  generalize (lg_sl ([.ref a0, .int x1, .int x2, .int x3]) ++ List.replicate (5 - (lg_sl ([.ref a0, .int x1, .int x2, .int x3])).length) Slot.unset).toArray = ls at hl ⊢
  have hl : lv_has ls 5 [(0, .ref a0), (1, .int x1), (2, .int x2), (3, .int x3)] := hl
  have hG : GG D κ A S s.heap := hG
  have k_55 : ∀  (n : Nat), ∀ (v0 : Nat) (v1 : Int32) (v4 : Int32) (S : Hp) (ls : Array Slot) (H : Heap) (locs : List Loc), lv_has ls 5 [(0, .ref v0), (1, .int v1), (4, .int v4)] → GG D κ A S H → va_S A s.heap H locs → it (L_X6_row_55  Q) n (v0, v1, v4, S) → W p l e ({ frames := 3, cells := 0, slots := 0, locals := 144 } : Room) s m ([.ref a0, .int x1, .int x2, .int x3] : List Value).toArray below meth c H locs 0 0 (MQ below (va_Qi Q (BG D κ A) A) ([.ref a0, .int x1, .int x2, .int x3] : List Value).toArray s 0 0 A) (F0 m 55 ls []) := by
    intro  n
    induction n with
    | zero => intro v0 v1 v4 S ls H locs hl hG hS h; exact False.elim h
    | succ n hC55 =>
      intro v0 v1 v4 S ls H locs hl hG hS h
      replace h : L_X6_row_55  Q (it (L_X6_row_55  Q) n) (v0, v1, v4, S) := h
      simp only [L_X6_row_55] at h
      refine lv_iload hx hb dX6_row_55 (lv_at hl 2 rfl) ?_
      refine lv_bipush (v := (100 : Int32)) hx hb dX6_row_57 (by decide) ?_
      refine lv_icmp_ge (tgt := 81) hx hb dX6_row_59 rfl (fun hc => ?_) (fun hc => ?_)
      · replace h := h.1 hc
        refine lv_iconst (v := (0 : Int32)) hx hb dX6_row_81 (by decide) ?_
        exact W.iret hx hb hr (gr_i h hG hK hX hS) hS.2.2 dX6_row_82
      · replace h := h.2 hc
        refine lv_aload_n hx hb dX6_row_62 rfl (lv_at hl 0 rfl) ?_
        have hk := h.1
        replace h := h.2
        obtain ⟨r1, hr1, h⟩ := h
        refine gg_get (v := .ref r1) (ci := 6) (C := RX6) (T := TX6) (N := 32) hx hb hts (fun _ h => List.mem_cons_of_mem _ (List.mem_append_right _ (h))) hown hK hG (kc_7 hk) rfl 29 (by decide) (hts (.fieldLink RX6 47 "FourStonesModel" "items" "[I") (List.mem_of_getElem? (i := 4) rfl)) (fun _ h9 => h9) (congrArg (fun z => some (va_rf z)) hr1) dX6_row_63 ?_
        refine lv_bipush (v := (100 : Int32)) hx hb dX6_row_66 (by decide) ?_
        refine lv_iload_n hx hb dX6_row_68 rfl (lv_at hl 1 rfl) ?_
        refine lv_imul hx hb dX6_row_69 ?_
        refine lv_iload hx hb dX6_row_70 (lv_at hl 2 rfl) ?_
        refine lv_iadd hx hb dX6_row_72 ?_
        refine lv_iconst (v := (0 : Int32)) hx hb dX6_row_73 (by decide) ?_
        have hk := h.1
        replace h := h.2
        have hi := h.1
        replace h := h.2
        obtain ⟨S2, eS2⟩ : ∃ z, z = sA S r1 ((((100 : Int32) * v1) + v4)).toNatClampNeg (0 : Int32) := ⟨_, rfl⟩
        replace h := h S2 eS2
        refine gg_iast hx hb hK hG hS hk hi dX6_row_74 (fun H locs3 hG hS => ?_)
        rw [← eS2] at hG
        obtain ⟨y4, ey4⟩ : ∃ z, z = v4 + (1 : Int32) := ⟨_, rfl⟩
        replace h := h y4 ey4
        refine lv_iinc (v := y4) (lv' := [(4, .int y4), (0, .ref v0), (1, .int v1)]) hx hb dX6_row_75 hl (k := 2) rfl (by rw [ey4]; rfl) (by decide) rfl (fun ls hl => ?_)
        refine lv_goto (tgt := 55) hx hb dX6_row_78 rfl ?_
        exact hC55 v0 v1 y4 S2 ls _ _ (lv_sub hl [1, 2, 0] rfl) hG hS h
  refine lv_iload_n hx hb dX6_row_0 rfl (lv_at hl 1 rfl) ?_
  refine gc_i (va_runS (As := [.int x1]) (rest := []) ⟨hx, hb, hml, hown, hts⟩ (c_X6_isShelf l D κ A S x1 _ h) (va_cwS 1 hts gX6_row_X6_isShelf rfl rfl rfl (by decide +kernel) ⟨Nat.le_of_ble_eq_true rfl, Nat.le_of_ble_eq_true rfl⟩) (pg_S hK hX hG (pg_A hA hS)) rfl rfl hl.1 rfl (lv_room (Nat.le_of_ble_eq_true rfl)) dX6_row_1 ⟨Nat.le_of_ble_eq_true rfl, Nat.le_of_ble_eq_true rfl⟩) hS (fun z3 S2 H locs1 h hG hS => ?_)
  refine lv_if_eq (tgt := 22) hx hb dX6_row_4 rfl (fun hc => ?_) (fun hc => ?_)
  · replace h := h.1 hc
    refine lv_iconst (v := (-1 : Int32)) hx hb dX6_row_22 (by decide) ?_
    exact W.iret hx hb hr (gr_i h hG hK hX hS) hS.2.2 dX6_row_23
  · replace h := h.2 hc
    refine lv_iload_n hx hb dX6_row_7 rfl (lv_at hl 2 rfl) ?_
    refine lv_iconst (v := (0 : Int32)) hx hb dX6_row_8 (by decide) ?_
    refine lv_iconst (v := (2 : Int32)) hx hb dX6_row_9 (by decide) ?_
    refine gc_i (va_runS (As := [.int x2, .int (0 : Int32), .int (2 : Int32)]) (rest := []) ⟨hx, hb, hml, hown, hts⟩ (c_X6_isIn l D κ A S2 x2 (0 : Int32) (2 : Int32) _ h) (va_cwS 3 hts gX6_row_X6_isIn rfl rfl rfl (by decide +kernel) ⟨Nat.le_of_ble_eq_true rfl, Nat.le_of_ble_eq_true rfl⟩) (pg_S hK hX hG (pg_A hA hS)) rfl rfl hl.1 rfl (lv_room (Nat.le_of_ble_eq_true rfl)) dX6_row_10 ⟨Nat.le_of_ble_eq_true rfl, Nat.le_of_ble_eq_true rfl⟩) hS (fun z6 S5 H locs4 h hG hS => ?_)
    refine lv_if_eq (tgt := 22) hx hb dX6_row_13 rfl (fun hc => ?_) (fun hc => ?_)
    · replace h := h.1 hc
      refine lv_iconst (v := (-1 : Int32)) hx hb dX6_row_22 (by decide) ?_
      exact W.iret hx hb hr (gr_i h hG hK hX hS) hS.2.2 dX6_row_23
    · replace h := h.2 hc
      refine lv_iload_n hx hb dX6_row_16 rfl (lv_at hl 3 rfl) ?_
      refine lv_bipush (v := (100 : Int32)) hx hb dX6_row_17 (by decide) ?_
      refine lv_icmp_le (tgt := 24) hx hb dX6_row_19 rfl (fun hc => ?_) (fun hc => ?_)
      · replace h := h.1 hc
        refine lv_iload_n hx hb dX6_row_24 rfl (lv_at hl 3 rfl) ?_
        refine lv_if_ge (tgt := 31) hx hb dX6_row_25 rfl (fun hc => ?_) (fun hc => ?_)
        · replace h := h.1 hc
          refine lv_aload_n hx hb dX6_row_31 rfl (lv_at hl 0 rfl) ?_
          have hk := h.1
          replace h := h.2
          obtain ⟨r7, hr7, h⟩ := h
          refine gg_get (v := .ref r7) (ci := 6) (C := RX6) (T := TX6) (N := 32) hx hb hts (fun _ h => List.mem_cons_of_mem _ (List.mem_append_right _ (h))) hown hK hG (kc_7 hk) rfl 24 (by decide) (hts (.fieldLink RX6 32 "FourStonesModel" "holds" "[I") (List.mem_of_getElem? (i := 1) rfl)) (fun _ h9 => h9) (congrArg (fun z => some (va_rf z)) hr7) dX6_row_32 ?_
          refine lv_iload_n hx hb dX6_row_35 rfl (lv_at hl 1 rfl) ?_
          refine lv_iconst (v := (2 : Int32)) hx hb dX6_row_36 (by decide) ?_
          have hk := h.1
          replace h := h.2
          have hi := h.1
          replace h := h.2
          obtain ⟨S8, eS8⟩ : ∃ z, z = sA S5 r7 (x1).toNatClampNeg (2 : Int32) := ⟨_, rfl⟩
          replace h := h S8 eS8
          refine gg_iast hx hb hK hG hS hk hi dX6_row_37 (fun H locs9 hG hS => ?_)
          rw [← eS8] at hG
          refine lv_aload_n hx hb dX6_row_38 rfl (lv_at hl 0 rfl) ?_
          have hk := h.1
          replace h := h.2
          obtain ⟨r10, hr10, h⟩ := h
          refine gg_get (v := .ref r10) (ci := 6) (C := RX6) (T := TX6) (N := 32) hx hb hts (fun _ h => List.mem_cons_of_mem _ (List.mem_append_right _ (h))) hown hK hG (kc_7 hk) rfl 27 (by decide) (hts (.fieldLink RX6 41 "FourStonesModel" "sort" "[I") (List.mem_of_getElem? (i := 2) rfl)) (fun _ h9 => h9) (congrArg (fun z => some (va_rf z)) hr10) dX6_row_39 ?_
          refine lv_iload_n hx hb dX6_row_42 rfl (lv_at hl 1 rfl) ?_
          refine lv_iload_n hx hb dX6_row_43 rfl (lv_at hl 2 rfl) ?_
          have hk := h.1
          replace h := h.2
          have hi := h.1
          replace h := h.2
          obtain ⟨S11, eS11⟩ : ∃ z, z = sA S8 r10 (x1).toNatClampNeg x2 := ⟨_, rfl⟩
          replace h := h S11 eS11
          refine gg_iast hx hb hK hG hS hk hi dX6_row_44 (fun H locs12 hG hS => ?_)
          rw [← eS11] at hG
          refine lv_aload_n hx hb dX6_row_45 rfl (lv_at hl 0 rfl) ?_
          have hk := h.1
          replace h := h.2
          obtain ⟨r13, hr13, h⟩ := h
          refine gg_get (v := .ref r13) (ci := 6) (C := RX6) (T := TX6) (N := 32) hx hb hts (fun _ h => List.mem_cons_of_mem _ (List.mem_append_right _ (h))) hown hK hG (kc_7 hk) rfl 28 (by decide) (hts (.fieldLink RX6 44 "FourStonesModel" "size" "[I") (List.mem_of_getElem? (i := 3) rfl)) (fun _ h9 => h9) (congrArg (fun z => some (va_rf z)) hr13) dX6_row_46 ?_
          refine lv_iload_n hx hb dX6_row_49 rfl (lv_at hl 1 rfl) ?_
          refine lv_iload_n hx hb dX6_row_50 rfl (lv_at hl 3 rfl) ?_
          have hk := h.1
          replace h := h.2
          have hi := h.1
          replace h := h.2
          obtain ⟨S14, eS14⟩ : ∃ z, z = sA S11 r13 (x1).toNatClampNeg x3 := ⟨_, rfl⟩
          replace h := h S14 eS14
          refine gg_iast hx hb hK hG hS hk hi dX6_row_51 (fun H locs15 hG hS => ?_)
          rw [← eS14] at hG
          refine lv_iconst (v := (0 : Int32)) hx hb dX6_row_52 (by decide) ?_
          refine lv_istore (lv' := [(4, .int (0 : Int32)), (0, .ref a0), (1, .int x1), (2, .int x2), (3, .int x3)]) hx hb dX6_row_53 hl (by decide) rfl (fun ls hl => ?_)
          obtain ⟨nn, h⟩ := h
          exact k_55  nn a0 x1 (0 : Int32) S14 ls _ _ (lv_sub hl [1, 2, 0] rfl) hG hS h
        · replace h := h.2 hc
          refine lv_bipush (v := (-14 : Int32)) hx hb dX6_row_28 (by decide) ?_
          exact W.iret hx hb hr (gr_i h hG hK hX hS) hS.2.2 dX6_row_30
      · replace h := h.2 hc
        refine lv_iconst (v := (-1 : Int32)) hx hb dX6_row_22 (by decide) ?_
        exact W.iret hx hb hr (gr_i h hG hK hX hS) hS.2.2 dX6_row_23
set_option maxHeartbeats 4000000 in
set_option maxRecDepth 100000 in
theorem c_X6_put (l : Launch) (D : va_G) (κ : Nat → ClassId) (A : Nat → Prop) (S : Hp) (a0 : Nat) (x1 : Int32) (x2 : Int32) (x3 : Int32) (Q : Int32 → Hp → Prop) (h : wp_X6_put a0 x1 x2 x3 S Q) : Met l yX6_put wsX6_put ({ frames := 3, cells := 0, slots := 0, locals := 144 } : Room) (PG D κ A S [.ref a0, .int x1, .int x2, .int x3]) (va_Qi Q (BG D κ A) A) 0 0 A := by
  refine Met.ofW (cc := cX6_put) (maxL := 4) (ret := (some .int)) (by decide) rfl ?_
  intro p e s m args below meth c s₁ B hml hv
  obtain ⟨hargs, hA, hG, hK, hX⟩ := hv
  have hx := B.exec
  have hb := B.bytes
  have hr := B.returns
  have hts := atoms_spec (ws := wsX6_put) B.pre
  have hown : s.vm.findClass RX6 = some m.cls := findClass_of_methodNamed B.named
  have hlocks := B.notSynchronized
  subst hargs
  clear B
  have hS : va_S A s.heap s.heap [] := va_S.rf
  have hl := lv_entry ([.ref a0, .int x1, .int x2, .int x3]) (n := 4) (Nat.le_of_ble_eq_true rfl)
  rw [lg_entry_eq]
  generalize (lg_sl ([.ref a0, .int x1, .int x2, .int x3]) ++ List.replicate (4 - (lg_sl ([.ref a0, .int x1, .int x2, .int x3])).length) Slot.unset).toArray = ls at hl ⊢
  have hl : lv_has ls 4 [(0, .ref a0), (1, .int x1), (2, .int x2), (3, .int x3)] := hl
  have hG : GG D κ A S s.heap := hG
  refine lv_iload_n hx hb dX6_put_0 rfl (lv_at hl 1 rfl) ?_
  refine gc_i (va_runS (As := [.int x1]) (rest := []) ⟨hx, hb, hml, hown, hts⟩ (c_X6_isShelf l D κ A S x1 _ h) (va_cwS 1 hts gX6_put_X6_isShelf rfl rfl rfl (by decide +kernel) ⟨Nat.le_of_ble_eq_true rfl, Nat.le_of_ble_eq_true rfl⟩) (pg_S hK hX hG (pg_A hA hS)) rfl rfl hl.1 rfl (lv_room (Nat.le_of_ble_eq_true rfl)) dX6_put_1 ⟨Nat.le_of_ble_eq_true rfl, Nat.le_of_ble_eq_true rfl⟩) hS (fun z3 S2 H locs1 h hG hS => ?_)
  refine lv_if_ne (tgt := 9) hx hb dX6_put_4 rfl (fun hc => ?_) (fun hc => ?_)
  · replace h := h.1 hc
    refine lv_aload_n hx hb dX6_put_9 rfl (lv_at hl 0 rfl) ?_
    have hk := h.1
    replace h := h.2
    obtain ⟨r4, hr4, h⟩ := h
    refine gg_get (v := .ref r4) (ci := 6) (C := RX6) (T := TX6) (N := 32) hx hb hts (fun _ h => List.mem_cons_of_mem _ (List.mem_append_right _ (h))) hown hK hG (kc_7 hk) rfl 24 (by decide) (hts (.fieldLink RX6 32 "FourStonesModel" "holds" "[I") (List.mem_of_getElem? (i := 1) rfl)) (fun _ h9 => h9) (congrArg (fun z => some (va_rf z)) hr4) dX6_put_10 ?_
    refine lv_iload_n hx hb dX6_put_13 rfl (lv_at hl 1 rfl) ?_
    have hk := h.1
    replace h := h.2
    have hi := h.1
    replace h := h.2
    refine gg_iald hx hb hK hG hk hi dX6_put_14 ?_
    refine lv_iconst (v := (2 : Int32)) hx hb dX6_put_15 (by decide) ?_
    refine lv_icmp_eq (tgt := 36) hx hb dX6_put_16 rfl (fun hc => ?_) (fun hc => ?_)
    · replace h := h.1 hc
      refine lv_iload_n hx hb dX6_put_36 rfl (lv_at hl 2 rfl) ?_
      refine lv_iconst (v := (0 : Int32)) hx hb dX6_put_37 (by decide) ?_
      refine lv_aload_n hx hb dX6_put_38 rfl (lv_at hl 0 rfl) ?_
      have hk := h.1
      replace h := h.2
      obtain ⟨r5, hr5, h⟩ := h
      refine gg_get (v := .ref r5) (ci := 6) (C := RX6) (T := TX6) (N := 32) hx hb hts (fun _ h => List.mem_cons_of_mem _ (List.mem_append_right _ (h))) hown hK hG (kc_7 hk) rfl 28 (by decide) (hts (.fieldLink RX6 44 "FourStonesModel" "size" "[I") (List.mem_of_getElem? (i := 2) rfl)) (fun _ h9 => h9) (congrArg (fun z => some (va_rf z)) hr5) dX6_put_39 ?_
      refine lv_iload_n hx hb dX6_put_42 rfl (lv_at hl 1 rfl) ?_
      have hk := h.1
      replace h := h.2
      have hi := h.1
      replace h := h.2
      refine gg_iald hx hb hK hG hk hi dX6_put_43 ?_
      refine lv_iconst (v := (1 : Int32)) hx hb dX6_put_44 (by decide) ?_
      refine lv_isub hx hb dX6_put_45 ?_
      refine gc_i (va_runS (As := [.int x2, .int (0 : Int32), .int ((gA S2 r5 (x1).toNatClampNeg) - (1 : Int32))]) (rest := []) ⟨hx, hb, hml, hown, hts⟩ (c_X6_isIn l D κ A S2 x2 (0 : Int32) ((gA S2 r5 (x1).toNatClampNeg) - (1 : Int32)) _ h) (va_cwS 3 hts gX6_put_X6_isIn rfl rfl rfl (by decide +kernel) ⟨Nat.le_of_ble_eq_true rfl, Nat.le_of_ble_eq_true rfl⟩) (pg_S hK hX hG (pg_A hA hS)) rfl rfl hl.1 rfl (lv_room (Nat.le_of_ble_eq_true rfl)) dX6_put_46 ⟨Nat.le_of_ble_eq_true rfl, Nat.le_of_ble_eq_true rfl⟩) hS (fun z8 S7 H locs6 h hG hS => ?_)
      refine lv_if_ne (tgt := 55) hx hb dX6_put_49 rfl (fun hc => ?_) (fun hc => ?_)
      · replace h := h.1 hc
        refine lv_aload_n hx hb dX6_put_55 rfl (lv_at hl 0 rfl) ?_
        have hk := h.1
        replace h := h.2
        obtain ⟨r9, hr9, h⟩ := h
        refine gg_get (v := .ref r9) (ci := 6) (C := RX6) (T := TX6) (N := 32) hx hb hts (fun _ h => List.mem_cons_of_mem _ (List.mem_append_right _ (h))) hown hK hG (kc_7 hk) rfl 29 (by decide) (hts (.fieldLink RX6 47 "FourStonesModel" "items" "[I") (List.mem_of_getElem? (i := 3) rfl)) (fun _ h9 => h9) (congrArg (fun z => some (va_rf z)) hr9) dX6_put_56 ?_
        refine lv_bipush (v := (100 : Int32)) hx hb dX6_put_59 (by decide) ?_
        refine lv_iload_n hx hb dX6_put_61 rfl (lv_at hl 1 rfl) ?_
        refine lv_imul hx hb dX6_put_62 ?_
        refine lv_iload_n hx hb dX6_put_63 rfl (lv_at hl 2 rfl) ?_
        refine lv_iadd hx hb dX6_put_64 ?_
        refine lv_aload_n hx hb dX6_put_65 rfl (lv_at hl 0 rfl) ?_
        have hk := h.1
        replace h := h.2
        obtain ⟨r10, hr10, h⟩ := h
        refine gg_get (v := .ref r10) (ci := 6) (C := RX6) (T := TX6) (N := 32) hx hb hts (fun _ h => List.mem_cons_of_mem _ (List.mem_append_right _ (h))) hown hK hG (kc_7 hk) rfl 27 (by decide) (hts (.fieldLink RX6 41 "FourStonesModel" "sort" "[I") (List.mem_of_getElem? (i := 4) rfl)) (fun _ h9 => h9) (congrArg (fun z => some (va_rf z)) hr10) dX6_put_66 ?_
        refine lv_iload_n hx hb dX6_put_69 rfl (lv_at hl 1 rfl) ?_
        have hk := h.1
        replace h := h.2
        have hi := h.1
        replace h := h.2
        refine gg_iald hx hb hK hG hk hi dX6_put_70 ?_
        refine lv_if_ne (tgt := 79) hx hb dX6_put_71 rfl (fun hc => ?_) (fun hc => ?_)
        · replace h := h.1 hc
          refine lv_aload_n hx hb dX6_put_79 rfl (lv_at hl 0 rfl) ?_
          have hk := h.1
          replace h := h.2
          obtain ⟨r11, hr11, h⟩ := h
          refine gg_get (v := .ref r11) (ci := 6) (C := RX6) (T := TX6) (N := 32) hx hb hts (fun _ h => List.mem_cons_of_mem _ (List.mem_append_right _ (h))) hown hK hG (kc_7 hk) rfl 27 (by decide) (hts (.fieldLink RX6 41 "FourStonesModel" "sort" "[I") (List.mem_of_getElem? (i := 4) rfl)) (fun _ h9 => h9) (congrArg (fun z => some (va_rf z)) hr11) dX6_put_80 ?_
          refine lv_iload_n hx hb dX6_put_83 rfl (lv_at hl 1 rfl) ?_
          have hk := h.1
          replace h := h.2
          have hi := h.1
          replace h := h.2
          refine gg_iald hx hb hK hG hk hi dX6_put_84 ?_
          refine lv_iconst (v := (1 : Int32)) hx hb dX6_put_85 (by decide) ?_
          refine lv_icmp_ne (tgt := 94) hx hb dX6_put_86 rfl (fun hc => ?_) (fun hc => ?_)
          · replace h := h.1 hc
            refine lv_iload_n hx hb dX6_put_94 rfl (lv_at hl 3 rfl) ?_
            have hk := h.1
            replace h := h.2
            have hi := h.1
            replace h := h.2
            obtain ⟨S12, eS12⟩ : ∃ z, z = sA S7 r9 ((((100 : Int32) * x1) + x2)).toNatClampNeg x3 := ⟨_, rfl⟩
            replace h := h S12 eS12
            refine gg_iast hx hb hK hG hS hk hi dX6_put_95 (fun H locs13 hG hS => ?_)
            rw [← eS12] at hG
            refine lv_iconst (v := (0 : Int32)) hx hb dX6_put_96 (by decide) ?_
            exact W.iret hx hb hr (gr_i h hG hK hX hS) hS.2.2 dX6_put_97
          · replace h := h.2 hc
            refine lv_iload_n hx hb dX6_put_89 rfl (lv_at hl 3 rfl) ?_
            refine lv_i2s (v := (x3).toInt16.toInt32) hx hb dX6_put_90 rfl ?_
            refine lv_goto (tgt := 95) hx hb dX6_put_91 rfl ?_
            have hk := h.1
            replace h := h.2
            have hi := h.1
            replace h := h.2
            obtain ⟨S14, eS14⟩ : ∃ z, z = sA S7 r9 ((((100 : Int32) * x1) + x2)).toNatClampNeg (x3).toInt16.toInt32 := ⟨_, rfl⟩
            replace h := h S14 eS14
            refine gg_iast hx hb hK hG hS hk hi dX6_put_95 (fun H locs15 hG hS => ?_)
            rw [← eS14] at hG
            refine lv_iconst (v := (0 : Int32)) hx hb dX6_put_96 (by decide) ?_
            exact W.iret hx hb hr (gr_i h hG hK hX hS) hS.2.2 dX6_put_97
        · replace h := h.2 hc
          refine lv_iload_n hx hb dX6_put_74 rfl (lv_at hl 3 rfl) ?_
          refine lv_i2b (v := (x3).toInt8.toInt32) hx hb dX6_put_75 rfl ?_
          refine lv_goto (tgt := 95) hx hb dX6_put_76 rfl ?_
          have hk := h.1
          replace h := h.2
          have hi := h.1
          replace h := h.2
          obtain ⟨S16, eS16⟩ : ∃ z, z = sA S7 r9 ((((100 : Int32) * x1) + x2)).toNatClampNeg (x3).toInt8.toInt32 := ⟨_, rfl⟩
          replace h := h S16 eS16
          refine gg_iast hx hb hK hG hS hk hi dX6_put_95 (fun H locs17 hG hS => ?_)
          rw [← eS16] at hG
          refine lv_iconst (v := (0 : Int32)) hx hb dX6_put_96 (by decide) ?_
          exact W.iret hx hb hr (gr_i h hG hK hX hS) hS.2.2 dX6_put_97
      · replace h := h.2 hc
        refine lv_bipush (v := (-13 : Int32)) hx hb dX6_put_52 (by decide) ?_
        exact W.iret hx hb hr (gr_i h hG hK hX hS) hS.2.2 dX6_put_54
    · replace h := h.2 hc
      refine lv_aload_n hx hb dX6_put_19 rfl (lv_at hl 0 rfl) ?_
      have hk := h.1
      replace h := h.2
      obtain ⟨r18, hr18, h⟩ := h
      refine gg_get (v := .ref r18) (ci := 6) (C := RX6) (T := TX6) (N := 32) hx hb hts (fun _ h => List.mem_cons_of_mem _ (List.mem_append_right _ (h))) hown hK hG (kc_7 hk) rfl 24 (by decide) (hts (.fieldLink RX6 32 "FourStonesModel" "holds" "[I") (List.mem_of_getElem? (i := 1) rfl)) (fun _ h9 => h9) (congrArg (fun z => some (va_rf z)) hr18) dX6_put_20 ?_
      refine lv_iload_n hx hb dX6_put_23 rfl (lv_at hl 1 rfl) ?_
      have hk := h.1
      replace h := h.2
      have hi := h.1
      replace h := h.2
      refine gg_iald hx hb hK hG hk hi dX6_put_24 ?_
      refine lv_if_ne (tgt := 33) hx hb dX6_put_25 rfl (fun hc => ?_) (fun hc => ?_)
      · replace h := h.1 hc
        refine lv_bipush (v := (-12 : Int32)) hx hb dX6_put_33 (by decide) ?_
        exact W.iret hx hb hr (gr_i h hG hK hX hS) hS.2.2 dX6_put_35
      · replace h := h.2 hc
        refine lv_bipush (v := (-11 : Int32)) hx hb dX6_put_28 (by decide) ?_
        refine lv_goto (tgt := 35) hx hb dX6_put_30 rfl ?_
        exact W.iret hx hb hr (gr_i h hG hK hX hS) hS.2.2 dX6_put_35
  · replace h := h.2 hc
    refine lv_iconst (v := (-1 : Int32)) hx hb dX6_put_7 (by decide) ?_
    exact W.iret hx hb hr (gr_i h hG hK hX hS) hS.2.2 dX6_put_8
set_option maxHeartbeats 4000000 in
set_option maxRecDepth 100000 in
theorem c_X6_element (l : Launch) (D : va_G) (κ : Nat → ClassId) (A : Nat → Prop) (S : Hp) (a0 : Nat) (x1 : Int32) (x2 : Int32) (Q : Int64 → Hp → Prop) (h : wp_X6_element a0 x1 x2 S Q) : Met l yX6_element wsX6_element ({ frames := 3, cells := 0, slots := 0, locals := 144 } : Room) (PG D κ A S [.ref a0, .int x1, .int x2]) (va_Ql Q (BG D κ A) A) 0 0 A := by
  refine Met.ofW (cc := cX6_element) (maxL := 3) (ret := (some .long)) (by decide) rfl ?_
  intro p e s m args below meth c s₁ B hml hv
  obtain ⟨hargs, hA, hG, hK, hX⟩ := hv
  have hx := B.exec
  have hb := B.bytes
  have hr := B.returns
  have hts := atoms_spec (ws := wsX6_element) B.pre
  have hown : s.vm.findClass RX6 = some m.cls := findClass_of_methodNamed B.named
  have hlocks := B.notSynchronized
  subst hargs
  clear B
  have hS : va_S A s.heap s.heap [] := va_S.rf
  have hl := lv_entry ([.ref a0, .int x1, .int x2]) (n := 3) (Nat.le_of_ble_eq_true rfl)
  rw [lg_entry_eq]
  generalize (lg_sl ([.ref a0, .int x1, .int x2]) ++ List.replicate (3 - (lg_sl ([.ref a0, .int x1, .int x2])).length) Slot.unset).toArray = ls at hl ⊢
  have hl : lv_has ls 3 [(0, .ref a0), (1, .int x1), (2, .int x2)] := hl
  have hG : GG D κ A S s.heap := hG
  have j_43 : ∀  (v0 : Nat) (v1 : Int32) (v2 : Int32) (w0 : Nat) (w1 : Int32) (S : Hp) (ls : Array Slot) (H : Heap) (locs : List Loc), lv_has ls 3 [(0, .ref v0), (1, .int v1), (2, .int v2)] → GG D κ A S H → va_S A s.heap H locs → J_X6_element_43  Q v0 v1 v2 w0 w1 S → W p l e ({ frames := 3, cells := 0, slots := 0, locals := 144 } : Room) s m ([.ref a0, .int x1, .int x2] : List Value).toArray below meth c H locs 0 0 (MQ below (va_Ql Q (BG D κ A) A) ([.ref a0, .int x1, .int x2] : List Value).toArray s 0 0 A) (F0 m 43 ls [.int w1, .ref w0]) := by
    intro  v0 v1 v2 w0 w1 S ls H locs hl hG hS h
    unfold J_X6_element_43 at h
    have hk := h.1
    replace h := h.2
    obtain ⟨S1, eS1⟩ : ∃ z, z = sI S 101 w0 w1 := ⟨_, rfl⟩
    replace h := h S1 eS1
    refine gg_put (ci := 6) (C := RX6) (T := TX6) (N := 32) hx hb hts (fun _ h => List.mem_cons_of_mem _ (List.mem_append_right _ (h))) tyX6 tyX6_ok nmX6 hown hK hG hS (kc_7 hk) rfl 31 (by decide) (hts (.fieldLink RX6 221 "FourStonesModel" "thrown" "I") (List.mem_of_getElem? (i := 3) rfl)) (fun _ h9 => h9) rfl (tyX6_ok 31 (by decide)) rfl rfl (Nat.le_of_ble_eq_true rfl) dX6_element_43 (S' := S1) (fun b hb9 => by rw [eS1]; exact cO_sI hb9) (by rw [eS1]; exact cs_101 hk) (fun H locs2 hG hS => ?_)
    refine lv_aload_n hx hb dX6_element_46 rfl (lv_at hl 0 rfl) ?_
    have hk := h.1
    replace h := h.2
    refine gg_get (ci := 6) (C := RX6) (T := TX6) (N := 32) hx hb hts (fun _ h => List.mem_cons_of_mem _ (List.mem_append_right _ (h))) hown hK hG (kc_7 hk) rfl 31 (by decide) (hts (.fieldLink RX6 221 "FourStonesModel" "thrown" "I") (List.mem_of_getElem? (i := 3) rfl)) (fun _ h9 => h9) rfl dX6_element_47 ?_
    refine lv_if_ne (tgt := 68) hx hb dX6_element_50 rfl (fun hc => ?_) (fun hc => ?_)
    · replace h := h.1 hc
      refine lv_lconst (v := (0 : Int64)) hx hb dX6_element_68 (by decide) ?_
      exact W.lret hx hb hr (gr_l h hG hK hX hS) hS.2.2 dX6_element_69
    · replace h := h.2 hc
      refine lv_aload_n hx hb dX6_element_53 rfl (lv_at hl 0 rfl) ?_
      have hk := h.1
      replace h := h.2
      obtain ⟨r3, hr3, h⟩ := h
      refine gg_get (v := .ref r3) (ci := 6) (C := RX6) (T := TX6) (N := 32) hx hb hts (fun _ h => List.mem_cons_of_mem _ (List.mem_append_right _ (h))) hown hK hG (kc_7 hk) rfl 29 (by decide) (hts (.fieldLink RX6 47 "FourStonesModel" "items" "[I") (List.mem_of_getElem? (i := 4) rfl)) (fun _ h9 => h9) (congrArg (fun z => some (va_rf z)) hr3) dX6_element_54 ?_
      refine lv_bipush (v := (100 : Int32)) hx hb dX6_element_57 (by decide) ?_
      refine lv_iload_n hx hb dX6_element_59 rfl (lv_at hl 1 rfl) ?_
      refine lv_imul hx hb dX6_element_60 ?_
      refine lv_iload_n hx hb dX6_element_61 rfl (lv_at hl 2 rfl) ?_
      refine lv_iadd hx hb dX6_element_62 ?_
      have hk := h.1
      replace h := h.2
      have hi := h.1
      replace h := h.2
      refine gg_iald hx hb hK hG hk hi dX6_element_63 ?_
      refine lv_i2l (v := ((gA S1 r3 ((((100 : Int32) * v1) + v2)).toNatClampNeg)).toInt64) hx hb dX6_element_64 rfl ?_
      refine lv_goto (tgt := 69) hx hb dX6_element_65 rfl ?_
      exact W.lret hx hb hr (gr_l h hG hK hX hS) hS.2.2 dX6_element_69
  have j_38 : ∀  (v0 : Nat) (v1 : Int32) (v2 : Int32) (w0 : Nat) (S : Hp) (ls : Array Slot) (H : Heap) (locs : List Loc), lv_has ls 3 [(0, .ref v0), (1, .int v1), (2, .int v2)] → GG D κ A S H → va_S A s.heap H locs → J_X6_element_38  Q v0 v1 v2 w0 S → W p l e ({ frames := 3, cells := 0, slots := 0, locals := 144 } : Room) s m ([.ref a0, .int x1, .int x2] : List Value).toArray below meth c H locs 0 0 (MQ below (va_Ql Q (BG D κ A) A) ([.ref a0, .int x1, .int x2] : List Value).toArray s 0 0 A) (F0 m 38 ls [.ref w0]) := by
    intro  v0 v1 v2 w0 S ls H locs hl hG hS h
    unfold J_X6_element_38 at h
    refine lv_iconst (v := (2 : Int32)) hx hb dX6_element_38 (by decide) ?_
    refine lv_goto (tgt := 43) hx hb dX6_element_39 rfl ?_
    exact j_43  v0 v1 v2 w0 (2 : Int32) S ls _ _ (lv_sub hl [0, 1, 2] rfl) hG hS h
  refine lv_aload_n hx hb dX6_element_0 rfl (lv_at hl 0 rfl) ?_
  refine lv_iload_n hx hb dX6_element_1 rfl (lv_at hl 1 rfl) ?_
  refine gc_i (va_runS (As := [.int x1]) (rest := [.ref a0]) ⟨hx, hb, hml, hown, hts⟩ (c_X6_isShelf l D κ A S x1 _ h) (va_cwS 1 hts gX6_element_X6_isShelf rfl rfl rfl (by decide +kernel) ⟨Nat.le_of_ble_eq_true rfl, Nat.le_of_ble_eq_true rfl⟩) (pg_S hK hX hG (pg_A hA hS)) rfl rfl hl.1 rfl (lv_room (Nat.le_of_ble_eq_true rfl)) dX6_element_2 ⟨Nat.le_of_ble_eq_true rfl, Nat.le_of_ble_eq_true rfl⟩) hS (fun z3 S2 H locs1 h hG hS => ?_)
  refine lv_if_ne (tgt := 12) hx hb dX6_element_5 rfl (fun hc => ?_) (fun hc => ?_)
  · replace h := h.1 hc
    refine lv_aload_n hx hb dX6_element_12 rfl (lv_at hl 0 rfl) ?_
    have hk := h.1
    replace h := h.2
    obtain ⟨r4, hr4, h⟩ := h
    refine gg_get (v := .ref r4) (ci := 6) (C := RX6) (T := TX6) (N := 32) hx hb hts (fun _ h => List.mem_cons_of_mem _ (List.mem_append_right _ (h))) hown hK hG (kc_7 hk) rfl 24 (by decide) (hts (.fieldLink RX6 32 "FourStonesModel" "holds" "[I") (List.mem_of_getElem? (i := 1) rfl)) (fun _ h9 => h9) (congrArg (fun z => some (va_rf z)) hr4) dX6_element_13 ?_
    refine lv_iload_n hx hb dX6_element_16 rfl (lv_at hl 1 rfl) ?_
    have hk := h.1
    replace h := h.2
    have hi := h.1
    replace h := h.2
    refine gg_iald hx hb hK hG hk hi dX6_element_17 ?_
    refine lv_iconst (v := (2 : Int32)) hx hb dX6_element_18 (by decide) ?_
    refine lv_icmp_ne (tgt := 38) hx hb dX6_element_19 rfl (fun hc => ?_) (fun hc => ?_)
    · replace h := h.1 hc
      exact j_38  a0 x1 x2 a0 S2 ls _ _ (lv_sub hl [0, 1, 2] rfl) hG hS h
    · replace h := h.2 hc
      refine lv_iload_n hx hb dX6_element_22 rfl (lv_at hl 2 rfl) ?_
      refine lv_iconst (v := (0 : Int32)) hx hb dX6_element_23 (by decide) ?_
      refine lv_aload_n hx hb dX6_element_24 rfl (lv_at hl 0 rfl) ?_
      have hk := h.1
      replace h := h.2
      obtain ⟨r5, hr5, h⟩ := h
      refine gg_get (v := .ref r5) (ci := 6) (C := RX6) (T := TX6) (N := 32) hx hb hts (fun _ h => List.mem_cons_of_mem _ (List.mem_append_right _ (h))) hown hK hG (kc_7 hk) rfl 28 (by decide) (hts (.fieldLink RX6 44 "FourStonesModel" "size" "[I") (List.mem_of_getElem? (i := 2) rfl)) (fun _ h9 => h9) (congrArg (fun z => some (va_rf z)) hr5) dX6_element_25 ?_
      refine lv_iload_n hx hb dX6_element_28 rfl (lv_at hl 1 rfl) ?_
      have hk := h.1
      replace h := h.2
      have hi := h.1
      replace h := h.2
      refine gg_iald hx hb hK hG hk hi dX6_element_29 ?_
      refine lv_iconst (v := (1 : Int32)) hx hb dX6_element_30 (by decide) ?_
      refine lv_isub hx hb dX6_element_31 ?_
      refine gc_i (va_runS (As := [.int x2, .int (0 : Int32), .int ((gA S2 r5 (x1).toNatClampNeg) - (1 : Int32))]) (rest := [.ref a0]) ⟨hx, hb, hml, hown, hts⟩ (c_X6_isIn l D κ A S2 x2 (0 : Int32) ((gA S2 r5 (x1).toNatClampNeg) - (1 : Int32)) _ h) (va_cwS 3 hts gX6_element_X6_isIn rfl rfl rfl (by decide +kernel) ⟨Nat.le_of_ble_eq_true rfl, Nat.le_of_ble_eq_true rfl⟩) (pg_S hK hX hG (pg_A hA hS)) rfl rfl hl.1 rfl (lv_room (Nat.le_of_ble_eq_true rfl)) dX6_element_32 ⟨Nat.le_of_ble_eq_true rfl, Nat.le_of_ble_eq_true rfl⟩) hS (fun z8 S7 H locs6 h hG hS => ?_)
      refine lv_if_ne (tgt := 42) hx hb dX6_element_35 rfl (fun hc => ?_) (fun hc => ?_)
      · replace h := h.1 hc
        refine lv_iconst (v := (0 : Int32)) hx hb dX6_element_42 (by decide) ?_
        exact j_43  a0 x1 x2 a0 (0 : Int32) S7 ls _ _ (lv_sub hl [0, 1, 2] rfl) hG hS h
      · replace h := h.2 hc
        exact j_38  a0 x1 x2 a0 S7 ls _ _ (lv_sub hl [0, 1, 2] rfl) hG hS h
  · replace h := h.2 hc
    refine lv_iconst (v := (1 : Int32)) hx hb dX6_element_8 (by decide) ?_
    refine lv_goto (tgt := 43) hx hb dX6_element_9 rfl ?_
    exact j_43  a0 x1 x2 a0 (1 : Int32) S2 ls _ _ (lv_sub hl [0, 1, 2] rfl) hG hS h
set_option maxHeartbeats 4000000 in
set_option maxRecDepth 100000 in
theorem c_X6_thrown (l : Launch) (D : va_G) (κ : Nat → ClassId) (A : Nat → Prop) (S : Hp) (a0 : Nat) (Q : Int32 → Hp → Prop) (h : wp_X6_thrown a0 S Q) : Met l yX6_thrown wsX6_thrown ({ frames := 1, cells := 0, slots := 0, locals := 48 } : Room) (PG D κ A S [.ref a0]) (va_Qi Q (BG D κ A) A) 0 0 A := by
  refine Met.ofW (cc := cX6_thrown) (maxL := 1) (ret := (some .int)) (by decide) rfl ?_
  intro p e s m args below meth c s₁ B hml hv
  obtain ⟨hargs, hA, hG, hK, hX⟩ := hv
  have hx := B.exec
  have hb := B.bytes
  have hr := B.returns
  have hts := atoms_spec (ws := wsX6_thrown) B.pre
  have hown : s.vm.findClass RX6 = some m.cls := findClass_of_methodNamed B.named
  have hlocks := B.notSynchronized
  subst hargs
  clear B
  have hS : va_S A s.heap s.heap [] := va_S.rf
  have hl := lv_entry ([.ref a0]) (n := 1) (Nat.le_of_ble_eq_true rfl)
  rw [lg_entry_eq]
  generalize (lg_sl ([.ref a0]) ++ List.replicate (1 - (lg_sl ([.ref a0])).length) Slot.unset).toArray = ls at hl ⊢
  have hl : lv_has ls 1 [(0, .ref a0)] := hl
  have hG : GG D κ A S s.heap := hG
  refine lv_aload_n hx hb dX6_thrown_0 rfl (lv_at hl 0 rfl) ?_
  have hk := h.1
  replace h := h.2
  refine gg_get (ci := 6) (C := RX6) (T := TX6) (N := 32) hx hb hts (fun _ h => List.mem_cons_of_mem _ (List.mem_append_right _ (h))) hown hK hG (kc_7 hk) rfl 31 (by decide) (hts (.fieldLink RX6 221 "FourStonesModel" "thrown" "I") (List.mem_of_getElem? (i := 1) rfl)) (fun _ h9 => h9) rfl dX6_thrown_1 ?_
  exact W.iret hx hb hr (gr_i h hG hK hX hS) hS.2.2 dX6_thrown_4
set_option maxHeartbeats 4000000 in
set_option maxRecDepth 100000 in
theorem c_X6_copy (l : Launch) (D : va_G) (κ : Nat → ClassId) (A : Nat → Prop) (S : Hp) (a0 : Nat) (x1 : Int32) (x2 : Int32) (x3 : Int32) (x4 : Int32) (x5 : Int32) (Q : Int32 → Hp → Prop) (h : wp_X6_copy a0 x1 x2 x3 x4 x5 S Q) : Met l yX6_copy wsX6_copy ({ frames := 3, cells := 0, slots := 0, locals := 144 } : Room) (PG D κ A S [.ref a0, .int x1, .int x2, .int x3, .int x4, .int x5]) (va_Qi Q (BG D κ A) A) 0 0 A := by
  refine Met.ofW (cc := cX6_copy) (maxL := 7) (ret := (some .int)) (by decide) rfl ?_
  intro p e s m args below meth c s₁ B hml hv
  obtain ⟨hargs, hA, hG, hK, hX⟩ := hv
  have hx := B.exec
  have hb := B.bytes
  have hr := B.returns
  have hts := atoms_spec (ws := wsX6_copy) B.pre
  have hown : s.vm.findClass RX6 = some m.cls := findClass_of_methodNamed B.named
  have hlocks := B.notSynchronized
  subst hargs
  clear B
  have hS : va_S A s.heap s.heap [] := va_S.rf
  have hl := lv_entry ([.ref a0, .int x1, .int x2, .int x3, .int x4, .int x5]) (n := 7) (Nat.le_of_ble_eq_true rfl)
  rw [lg_entry_eq]
  generalize (lg_sl ([.ref a0, .int x1, .int x2, .int x3, .int x4, .int x5]) ++ List.replicate (7 - (lg_sl ([.ref a0, .int x1, .int x2, .int x3, .int x4, .int x5])).length) Slot.unset).toArray = ls at hl ⊢
  have hl : lv_has ls 7 [(0, .ref a0), (1, .int x1), (2, .int x2), (3, .int x3), (4, .int x4), (5, .int x5)] := hl
  have hG : GG D κ A S s.heap := hG
  have k_159 : ∀  (n : Nat), ∀ (v0 : Nat) (v3 : Int32) (v4 : Int32) (v5 : Int32) (v6 : Int32) (S : Hp) (ls : Array Slot) (H : Heap) (locs : List Loc), lv_has ls 7 [(0, .ref v0), (3, .int v3), (4, .int v4), (5, .int v5), (6, .int v6)] → GG D κ A S H → va_S A s.heap H locs → it (L_X6_copy_159  Q) n (v0, v3, v4, v5, v6, S) → W p l e ({ frames := 3, cells := 0, slots := 0, locals := 144 } : Room) s m ([.ref a0, .int x1, .int x2, .int x3, .int x4, .int x5] : List Value).toArray below meth c H locs 0 0 (MQ below (va_Qi Q (BG D κ A) A) ([.ref a0, .int x1, .int x2, .int x3, .int x4, .int x5] : List Value).toArray s 0 0 A) (F0 m 159 ls []) := by
    intro  n
    induction n with
    | zero => intro v0 v3 v4 v5 v6 S ls H locs hl hG hS h; exact False.elim h
    | succ n hC159 =>
      intro v0 v3 v4 v5 v6 S ls H locs hl hG hS h
      replace h : L_X6_copy_159  Q (it (L_X6_copy_159  Q) n) (v0, v3, v4, v5, v6, S) := h
      simp only [L_X6_copy_159] at h
      refine lv_iload hx hb dX6_copy_159 (lv_at hl 4 rfl) ?_
      refine lv_iload hx hb dX6_copy_161 (lv_at hl 3 rfl) ?_
      refine lv_icmp_ge (tgt := 194) hx hb dX6_copy_163 rfl (fun hc => ?_) (fun hc => ?_)
      · replace h := h.1 hc
        refine lv_iload hx hb dX6_copy_194 (lv_at hl 3 rfl) ?_
        exact W.iret hx hb hr (gr_i h hG hK hX hS) hS.2.2 dX6_copy_196
      · replace h := h.2 hc
        refine lv_aload_n hx hb dX6_copy_166 rfl (lv_at hl 0 rfl) ?_
        have hk := h.1
        replace h := h.2
        obtain ⟨r1, hr1, h⟩ := h
        refine gg_get (v := .ref r1) (ci := 6) (C := RX6) (T := TX6) (N := 32) hx hb hts (fun _ h => List.mem_cons_of_mem _ (List.mem_append_right _ (h))) hown hK hG (kc_7 hk) rfl 29 (by decide) (hts (.fieldLink RX6 47 "FourStonesModel" "items" "[I") (List.mem_of_getElem? (i := 5) rfl)) (fun _ h9 => h9) (congrArg (fun z => some (va_rf z)) hr1) dX6_copy_167 ?_
        refine lv_bipush (v := (100 : Int32)) hx hb dX6_copy_170 (by decide) ?_
        refine lv_iload_n hx hb dX6_copy_172 rfl (lv_at hl 1 rfl) ?_
        refine lv_imul hx hb dX6_copy_173 ?_
        refine lv_iload hx hb dX6_copy_174 (lv_at hl 2 rfl) ?_
        refine lv_iadd hx hb dX6_copy_176 ?_
        refine lv_iload hx hb dX6_copy_177 (lv_at hl 4 rfl) ?_
        refine lv_iadd hx hb dX6_copy_179 ?_
        refine lv_aload_n hx hb dX6_copy_180 rfl (lv_at hl 0 rfl) ?_
        have hk := h.1
        replace h := h.2
        obtain ⟨r2, hr2, h⟩ := h
        refine gg_get (v := .ref r2) (ci := 6) (C := RX6) (T := TX6) (N := 32) hx hb hts (fun _ h => List.mem_cons_of_mem _ (List.mem_append_right _ (h))) hown hK hG (kc_7 hk) rfl 30 (by decide) (hts (.fieldLink RX6 50 "FourStonesModel" "moved" "[I") (List.mem_of_getElem? (i := 4) rfl)) (fun _ h9 => h9) (congrArg (fun z => some (va_rf z)) hr2) dX6_copy_181 ?_
        refine lv_iload hx hb dX6_copy_184 (lv_at hl 4 rfl) ?_
        have hk := h.1
        replace h := h.2
        have hi := h.1
        replace h := h.2
        refine gg_iald hx hb hK hG hk hi dX6_copy_186 ?_
        have hk := h.1
        replace h := h.2
        have hi := h.1
        replace h := h.2
        obtain ⟨S3, eS3⟩ : ∃ z, z = sA S r1 (((((100 : Int32) * v3) + v4) + v6)).toNatClampNeg (gA S r2 (v6).toNatClampNeg) := ⟨_, rfl⟩
        replace h := h S3 eS3
        refine gg_iast hx hb hK hG hS hk hi dX6_copy_187 (fun H locs4 hG hS => ?_)
        rw [← eS3] at hG
        obtain ⟨y5, ey5⟩ : ∃ z, z = v6 + (1 : Int32) := ⟨_, rfl⟩
        replace h := h y5 ey5
        refine lv_iinc (v := y5) (lv' := [(6, .int y5), (0, .ref v0), (3, .int v3), (4, .int v4), (5, .int v5)]) hx hb dX6_copy_188 hl (k := 4) rfl (by rw [ey5]; rfl) (by decide) rfl (fun ls hl => ?_)
        refine lv_goto (tgt := 159) hx hb dX6_copy_191 rfl ?_
        exact hC159 v0 v3 v4 v5 y5 S3 ls _ _ (lv_sub hl [1, 2, 3, 4, 0] rfl) hG hS h
  have k_122 : ∀  (n : Nat), ∀ (v0 : Nat) (v1 : Int32) (v2 : Int32) (v3 : Int32) (v4 : Int32) (v5 : Int32) (v6 : Int32) (S : Hp) (ls : Array Slot) (H : Heap) (locs : List Loc), lv_has ls 7 [(0, .ref v0), (1, .int v1), (2, .int v2), (3, .int v3), (4, .int v4), (5, .int v5), (6, .int v6)] → GG D κ A S H → va_S A s.heap H locs → it (L_X6_copy_122  Q) n (v0, v1, v2, v3, v4, v5, v6, S) → W p l e ({ frames := 3, cells := 0, slots := 0, locals := 144 } : Room) s m ([.ref a0, .int x1, .int x2, .int x3, .int x4, .int x5] : List Value).toArray below meth c H locs 0 0 (MQ below (va_Qi Q (BG D κ A) A) ([.ref a0, .int x1, .int x2, .int x3, .int x4, .int x5] : List Value).toArray s 0 0 A) (F0 m 122 ls []) := by
    intro  n
    induction n with
    | zero => intro v0 v1 v2 v3 v4 v5 v6 S ls H locs hl hG hS h; exact False.elim h
    | succ n hC122 =>
      intro v0 v1 v2 v3 v4 v5 v6 S ls H locs hl hG hS h
      replace h : L_X6_copy_122  Q (it (L_X6_copy_122  Q) n) (v0, v1, v2, v3, v4, v5, v6, S) := h
      simp only [L_X6_copy_122] at h
      refine lv_iload hx hb dX6_copy_122 (lv_at hl 6 rfl) ?_
      refine lv_iload hx hb dX6_copy_124 (lv_at hl 5 rfl) ?_
      refine lv_icmp_ge (tgt := 156) hx hb dX6_copy_126 rfl (fun hc => ?_) (fun hc => ?_)
      · replace h := h.1 hc
        refine lv_iconst (v := (0 : Int32)) hx hb dX6_copy_156 (by decide) ?_
        refine lv_istore (lv' := [(6, .int (0 : Int32)), (0, .ref v0), (1, .int v1), (2, .int v2), (3, .int v3), (4, .int v4), (5, .int v5)]) hx hb dX6_copy_157 hl (by decide) rfl (fun ls hl => ?_)
        obtain ⟨nn, h⟩ := h
        exact k_159  nn v0 v3 v4 v5 (0 : Int32) S ls _ _ (lv_sub hl [1, 4, 5, 6, 0] rfl) hG hS h
      · replace h := h.2 hc
        refine lv_aload_n hx hb dX6_copy_129 rfl (lv_at hl 0 rfl) ?_
        have hk := h.1
        replace h := h.2
        obtain ⟨r1, hr1, h⟩ := h
        refine gg_get (v := .ref r1) (ci := 6) (C := RX6) (T := TX6) (N := 32) hx hb hts (fun _ h => List.mem_cons_of_mem _ (List.mem_append_right _ (h))) hown hK hG (kc_7 hk) rfl 30 (by decide) (hts (.fieldLink RX6 50 "FourStonesModel" "moved" "[I") (List.mem_of_getElem? (i := 4) rfl)) (fun _ h9 => h9) (congrArg (fun z => some (va_rf z)) hr1) dX6_copy_130 ?_
        refine lv_iload hx hb dX6_copy_133 (lv_at hl 6 rfl) ?_
        refine lv_aload_n hx hb dX6_copy_135 rfl (lv_at hl 0 rfl) ?_
        have hk := h.1
        replace h := h.2
        obtain ⟨r2, hr2, h⟩ := h
        refine gg_get (v := .ref r2) (ci := 6) (C := RX6) (T := TX6) (N := 32) hx hb hts (fun _ h => List.mem_cons_of_mem _ (List.mem_append_right _ (h))) hown hK hG (kc_7 hk) rfl 29 (by decide) (hts (.fieldLink RX6 47 "FourStonesModel" "items" "[I") (List.mem_of_getElem? (i := 5) rfl)) (fun _ h9 => h9) (congrArg (fun z => some (va_rf z)) hr2) dX6_copy_136 ?_
        refine lv_bipush (v := (100 : Int32)) hx hb dX6_copy_139 (by decide) ?_
        refine lv_iload_n hx hb dX6_copy_141 rfl (lv_at hl 1 rfl) ?_
        refine lv_imul hx hb dX6_copy_142 ?_
        refine lv_iload_n hx hb dX6_copy_143 rfl (lv_at hl 2 rfl) ?_
        refine lv_iadd hx hb dX6_copy_144 ?_
        refine lv_iload hx hb dX6_copy_145 (lv_at hl 6 rfl) ?_
        refine lv_iadd hx hb dX6_copy_147 ?_
        have hk := h.1
        replace h := h.2
        have hi := h.1
        replace h := h.2
        refine gg_iald hx hb hK hG hk hi dX6_copy_148 ?_
        have hk := h.1
        replace h := h.2
        have hi := h.1
        replace h := h.2
        obtain ⟨S3, eS3⟩ : ∃ z, z = sA S r1 (v6).toNatClampNeg (gA S r2 (((((100 : Int32) * v1) + v2) + v6)).toNatClampNeg) := ⟨_, rfl⟩
        replace h := h S3 eS3
        refine gg_iast hx hb hK hG hS hk hi dX6_copy_149 (fun H locs4 hG hS => ?_)
        rw [← eS3] at hG
        obtain ⟨y5, ey5⟩ : ∃ z, z = v6 + (1 : Int32) := ⟨_, rfl⟩
        replace h := h y5 ey5
        refine lv_iinc (v := y5) (lv' := [(6, .int y5), (0, .ref v0), (1, .int v1), (2, .int v2), (3, .int v3), (4, .int v4), (5, .int v5)]) hx hb dX6_copy_150 hl (k := 6) rfl (by rw [ey5]; rfl) (by decide) rfl (fun ls hl => ?_)
        refine lv_goto (tgt := 122) hx hb dX6_copy_153 rfl ?_
        exact hC122 v0 v1 v2 v3 v4 v5 y5 S3 ls _ _ (lv_sub hl [1, 2, 3, 4, 5, 6, 0] rfl) hG hS h
  refine lv_iload_n hx hb dX6_copy_0 rfl (lv_at hl 1 rfl) ?_
  refine gc_i (va_runS (As := [.int x1]) (rest := []) ⟨hx, hb, hml, hown, hts⟩ (c_X6_isShelf l D κ A S x1 _ h) (va_cwS 1 hts gX6_copy_X6_isShelf rfl rfl rfl (by decide +kernel) ⟨Nat.le_of_ble_eq_true rfl, Nat.le_of_ble_eq_true rfl⟩) (pg_S hK hX hG (pg_A hA hS)) rfl rfl hl.1 rfl (lv_room (Nat.le_of_ble_eq_true rfl)) dX6_copy_1 ⟨Nat.le_of_ble_eq_true rfl, Nat.le_of_ble_eq_true rfl⟩) hS (fun z3 S2 H locs1 h hG hS => ?_)
  refine lv_if_eq (tgt := 14) hx hb dX6_copy_4 rfl (fun hc => ?_) (fun hc => ?_)
  · replace h := h.1 hc
    refine lv_iconst (v := (-1 : Int32)) hx hb dX6_copy_14 (by decide) ?_
    exact W.iret hx hb hr (gr_i h hG hK hX hS) hS.2.2 dX6_copy_15
  · replace h := h.2 hc
    refine lv_iload_n hx hb dX6_copy_7 rfl (lv_at hl 3 rfl) ?_
    refine gc_i (va_runS (As := [.int x3]) (rest := []) ⟨hx, hb, hml, hown, hts⟩ (c_X6_isShelf l D κ A S2 x3 _ h) (va_cwS 1 hts gX6_copy_X6_isShelf rfl rfl rfl (by decide +kernel) ⟨Nat.le_of_ble_eq_true rfl, Nat.le_of_ble_eq_true rfl⟩) (pg_S hK hX hG (pg_A hA hS)) rfl rfl hl.1 rfl (lv_room (Nat.le_of_ble_eq_true rfl)) dX6_copy_8 ⟨Nat.le_of_ble_eq_true rfl, Nat.le_of_ble_eq_true rfl⟩) hS (fun z6 S5 H locs4 h hG hS => ?_)
    refine lv_if_ne (tgt := 16) hx hb dX6_copy_11 rfl (fun hc => ?_) (fun hc => ?_)
    · replace h := h.1 hc
      refine lv_aload_n hx hb dX6_copy_16 rfl (lv_at hl 0 rfl) ?_
      have hk := h.1
      replace h := h.2
      obtain ⟨r7, hr7, h⟩ := h
      refine gg_get (v := .ref r7) (ci := 6) (C := RX6) (T := TX6) (N := 32) hx hb hts (fun _ h => List.mem_cons_of_mem _ (List.mem_append_right _ (h))) hown hK hG (kc_7 hk) rfl 24 (by decide) (hts (.fieldLink RX6 32 "FourStonesModel" "holds" "[I") (List.mem_of_getElem? (i := 1) rfl)) (fun _ h9 => h9) (congrArg (fun z => some (va_rf z)) hr7) dX6_copy_17 ?_
      refine lv_iload_n hx hb dX6_copy_20 rfl (lv_at hl 1 rfl) ?_
      have hk := h.1
      replace h := h.2
      have hi := h.1
      replace h := h.2
      refine gg_iald hx hb hK hG hk hi dX6_copy_21 ?_
      refine lv_if_eq (tgt := 34) hx hb dX6_copy_22 rfl (fun hc => ?_) (fun hc => ?_)
      · replace h := h.1 hc
        refine lv_bipush (v := (-11 : Int32)) hx hb dX6_copy_34 (by decide) ?_
        exact W.iret hx hb hr (gr_i h hG hK hX hS) hS.2.2 dX6_copy_36
      · replace h := h.2 hc
        refine lv_aload_n hx hb dX6_copy_25 rfl (lv_at hl 0 rfl) ?_
        have hk := h.1
        replace h := h.2
        obtain ⟨r8, hr8, h⟩ := h
        refine gg_get (v := .ref r8) (ci := 6) (C := RX6) (T := TX6) (N := 32) hx hb hts (fun _ h => List.mem_cons_of_mem _ (List.mem_append_right _ (h))) hown hK hG (kc_7 hk) rfl 24 (by decide) (hts (.fieldLink RX6 32 "FourStonesModel" "holds" "[I") (List.mem_of_getElem? (i := 1) rfl)) (fun _ h9 => h9) (congrArg (fun z => some (va_rf z)) hr8) dX6_copy_26 ?_
        refine lv_iload_n hx hb dX6_copy_29 rfl (lv_at hl 3 rfl) ?_
        have hk := h.1
        replace h := h.2
        have hi := h.1
        replace h := h.2
        refine gg_iald hx hb hK hG hk hi dX6_copy_30 ?_
        refine lv_if_ne (tgt := 37) hx hb dX6_copy_31 rfl (fun hc => ?_) (fun hc => ?_)
        · replace h := h.1 hc
          refine lv_aload_n hx hb dX6_copy_37 rfl (lv_at hl 0 rfl) ?_
          have hk := h.1
          replace h := h.2
          obtain ⟨r9, hr9, h⟩ := h
          refine gg_get (v := .ref r9) (ci := 6) (C := RX6) (T := TX6) (N := 32) hx hb hts (fun _ h => List.mem_cons_of_mem _ (List.mem_append_right _ (h))) hown hK hG (kc_7 hk) rfl 24 (by decide) (hts (.fieldLink RX6 32 "FourStonesModel" "holds" "[I") (List.mem_of_getElem? (i := 1) rfl)) (fun _ h9 => h9) (congrArg (fun z => some (va_rf z)) hr9) dX6_copy_38 ?_
          refine lv_iload_n hx hb dX6_copy_41 rfl (lv_at hl 1 rfl) ?_
          have hk := h.1
          replace h := h.2
          have hi := h.1
          replace h := h.2
          refine gg_iald hx hb hK hG hk hi dX6_copy_42 ?_
          refine lv_iconst (v := (1 : Int32)) hx hb dX6_copy_43 (by decide) ?_
          refine lv_icmp_eq (tgt := 72) hx hb dX6_copy_44 rfl (fun hc => ?_) (fun hc => ?_)
          · replace h := h.1 hc
            refine lv_bipush (v := (-12 : Int32)) hx hb dX6_copy_72 (by decide) ?_
            exact W.iret hx hb hr (gr_i h hG hK hX hS) hS.2.2 dX6_copy_74
          · replace h := h.2 hc
            refine lv_aload_n hx hb dX6_copy_47 rfl (lv_at hl 0 rfl) ?_
            have hk := h.1
            replace h := h.2
            obtain ⟨r10, hr10, h⟩ := h
            refine gg_get (v := .ref r10) (ci := 6) (C := RX6) (T := TX6) (N := 32) hx hb hts (fun _ h => List.mem_cons_of_mem _ (List.mem_append_right _ (h))) hown hK hG (kc_7 hk) rfl 24 (by decide) (hts (.fieldLink RX6 32 "FourStonesModel" "holds" "[I") (List.mem_of_getElem? (i := 1) rfl)) (fun _ h9 => h9) (congrArg (fun z => some (va_rf z)) hr10) dX6_copy_48 ?_
            refine lv_iload_n hx hb dX6_copy_51 rfl (lv_at hl 3 rfl) ?_
            have hk := h.1
            replace h := h.2
            have hi := h.1
            replace h := h.2
            refine gg_iald hx hb hK hG hk hi dX6_copy_52 ?_
            refine lv_iconst (v := (1 : Int32)) hx hb dX6_copy_53 (by decide) ?_
            refine lv_icmp_eq (tgt := 72) hx hb dX6_copy_54 rfl (fun hc => ?_) (fun hc => ?_)
            · replace h := h.1 hc
              refine lv_bipush (v := (-12 : Int32)) hx hb dX6_copy_72 (by decide) ?_
              exact W.iret hx hb hr (gr_i h hG hK hX hS) hS.2.2 dX6_copy_74
            · replace h := h.2 hc
              refine lv_aload_n hx hb dX6_copy_57 rfl (lv_at hl 0 rfl) ?_
              have hk := h.1
              replace h := h.2
              obtain ⟨r11, hr11, h⟩ := h
              refine gg_get (v := .ref r11) (ci := 6) (C := RX6) (T := TX6) (N := 32) hx hb hts (fun _ h => List.mem_cons_of_mem _ (List.mem_append_right _ (h))) hown hK hG (kc_7 hk) rfl 27 (by decide) (hts (.fieldLink RX6 41 "FourStonesModel" "sort" "[I") (List.mem_of_getElem? (i := 2) rfl)) (fun _ h9 => h9) (congrArg (fun z => some (va_rf z)) hr11) dX6_copy_58 ?_
              refine lv_iload_n hx hb dX6_copy_61 rfl (lv_at hl 1 rfl) ?_
              have hk := h.1
              replace h := h.2
              have hi := h.1
              replace h := h.2
              refine gg_iald hx hb hK hG hk hi dX6_copy_62 ?_
              refine lv_aload_n hx hb dX6_copy_63 rfl (lv_at hl 0 rfl) ?_
              have hk := h.1
              replace h := h.2
              obtain ⟨r12, hr12, h⟩ := h
              refine gg_get (v := .ref r12) (ci := 6) (C := RX6) (T := TX6) (N := 32) hx hb hts (fun _ h => List.mem_cons_of_mem _ (List.mem_append_right _ (h))) hown hK hG (kc_7 hk) rfl 27 (by decide) (hts (.fieldLink RX6 41 "FourStonesModel" "sort" "[I") (List.mem_of_getElem? (i := 2) rfl)) (fun _ h9 => h9) (congrArg (fun z => some (va_rf z)) hr12) dX6_copy_64 ?_
              refine lv_iload_n hx hb dX6_copy_67 rfl (lv_at hl 3 rfl) ?_
              have hk := h.1
              replace h := h.2
              have hi := h.1
              replace h := h.2
              refine gg_iald hx hb hK hG hk hi dX6_copy_68 ?_
              refine lv_icmp_eq (tgt := 75) hx hb dX6_copy_69 rfl (fun hc => ?_) (fun hc => ?_)
              · replace h := h.1 hc
                refine lv_iload hx hb dX6_copy_75 (lv_at hl 5 rfl) ?_
                refine lv_if_lt (tgt := 116) hx hb dX6_copy_77 rfl (fun hc => ?_) (fun hc => ?_)
                · replace h := h.1 hc
                  refine lv_bipush (v := (-13 : Int32)) hx hb dX6_copy_116 (by decide) ?_
                  exact W.iret hx hb hr (gr_i h hG hK hX hS) hS.2.2 dX6_copy_118
                · replace h := h.2 hc
                  refine lv_iload_n hx hb dX6_copy_80 rfl (lv_at hl 2 rfl) ?_
                  refine lv_if_lt (tgt := 116) hx hb dX6_copy_81 rfl (fun hc => ?_) (fun hc => ?_)
                  · replace h := h.1 hc
                    refine lv_bipush (v := (-13 : Int32)) hx hb dX6_copy_116 (by decide) ?_
                    exact W.iret hx hb hr (gr_i h hG hK hX hS) hS.2.2 dX6_copy_118
                  · replace h := h.2 hc
                    refine lv_iload hx hb dX6_copy_84 (lv_at hl 4 rfl) ?_
                    refine lv_if_lt (tgt := 116) hx hb dX6_copy_86 rfl (fun hc => ?_) (fun hc => ?_)
                    · replace h := h.1 hc
                      refine lv_bipush (v := (-13 : Int32)) hx hb dX6_copy_116 (by decide) ?_
                      exact W.iret hx hb hr (gr_i h hG hK hX hS) hS.2.2 dX6_copy_118
                    · replace h := h.2 hc
                      refine lv_iload hx hb dX6_copy_89 (lv_at hl 5 rfl) ?_
                      refine lv_aload_n hx hb dX6_copy_91 rfl (lv_at hl 0 rfl) ?_
                      have hk := h.1
                      replace h := h.2
                      obtain ⟨r13, hr13, h⟩ := h
                      refine gg_get (v := .ref r13) (ci := 6) (C := RX6) (T := TX6) (N := 32) hx hb hts (fun _ h => List.mem_cons_of_mem _ (List.mem_append_right _ (h))) hown hK hG (kc_7 hk) rfl 28 (by decide) (hts (.fieldLink RX6 44 "FourStonesModel" "size" "[I") (List.mem_of_getElem? (i := 3) rfl)) (fun _ h9 => h9) (congrArg (fun z => some (va_rf z)) hr13) dX6_copy_92 ?_
                      refine lv_iload_n hx hb dX6_copy_95 rfl (lv_at hl 1 rfl) ?_
                      have hk := h.1
                      replace h := h.2
                      have hi := h.1
                      replace h := h.2
                      refine gg_iald hx hb hK hG hk hi dX6_copy_96 ?_
                      refine lv_iload_n hx hb dX6_copy_97 rfl (lv_at hl 2 rfl) ?_
                      refine lv_isub hx hb dX6_copy_98 ?_
                      refine lv_icmp_gt (tgt := 116) hx hb dX6_copy_99 rfl (fun hc => ?_) (fun hc => ?_)
                      · replace h := h.1 hc
                        refine lv_bipush (v := (-13 : Int32)) hx hb dX6_copy_116 (by decide) ?_
                        exact W.iret hx hb hr (gr_i h hG hK hX hS) hS.2.2 dX6_copy_118
                      · replace h := h.2 hc
                        refine lv_iload hx hb dX6_copy_102 (lv_at hl 5 rfl) ?_
                        refine lv_aload_n hx hb dX6_copy_104 rfl (lv_at hl 0 rfl) ?_
                        have hk := h.1
                        replace h := h.2
                        obtain ⟨r14, hr14, h⟩ := h
                        refine gg_get (v := .ref r14) (ci := 6) (C := RX6) (T := TX6) (N := 32) hx hb hts (fun _ h => List.mem_cons_of_mem _ (List.mem_append_right _ (h))) hown hK hG (kc_7 hk) rfl 28 (by decide) (hts (.fieldLink RX6 44 "FourStonesModel" "size" "[I") (List.mem_of_getElem? (i := 3) rfl)) (fun _ h9 => h9) (congrArg (fun z => some (va_rf z)) hr14) dX6_copy_105 ?_
                        refine lv_iload_n hx hb dX6_copy_108 rfl (lv_at hl 3 rfl) ?_
                        have hk := h.1
                        replace h := h.2
                        have hi := h.1
                        replace h := h.2
                        refine gg_iald hx hb hK hG hk hi dX6_copy_109 ?_
                        refine lv_iload hx hb dX6_copy_110 (lv_at hl 4 rfl) ?_
                        refine lv_isub hx hb dX6_copy_112 ?_
                        refine lv_icmp_le (tgt := 119) hx hb dX6_copy_113 rfl (fun hc => ?_) (fun hc => ?_)
                        · replace h := h.1 hc
                          refine lv_iconst (v := (0 : Int32)) hx hb dX6_copy_119 (by decide) ?_
                          refine lv_istore (lv' := [(6, .int (0 : Int32)), (0, .ref a0), (1, .int x1), (2, .int x2), (3, .int x3), (4, .int x4), (5, .int x5)]) hx hb dX6_copy_120 hl (by decide) rfl (fun ls hl => ?_)
                          obtain ⟨nn, h⟩ := h
                          exact k_122  nn a0 x1 x2 x3 x4 x5 (0 : Int32) S5 ls _ _ (lv_sub hl [1, 2, 3, 4, 5, 6, 0] rfl) hG hS h
                        · replace h := h.2 hc
                          refine lv_bipush (v := (-13 : Int32)) hx hb dX6_copy_116 (by decide) ?_
                          exact W.iret hx hb hr (gr_i h hG hK hX hS) hS.2.2 dX6_copy_118
              · replace h := h.2 hc
                refine lv_bipush (v := (-12 : Int32)) hx hb dX6_copy_72 (by decide) ?_
                exact W.iret hx hb hr (gr_i h hG hK hX hS) hS.2.2 dX6_copy_74
        · replace h := h.2 hc
          refine lv_bipush (v := (-11 : Int32)) hx hb dX6_copy_34 (by decide) ?_
          exact W.iret hx hb hr (gr_i h hG hK hX hS) hS.2.2 dX6_copy_36
    · replace h := h.2 hc
      refine lv_iconst (v := (-1 : Int32)) hx hb dX6_copy_14 (by decide) ?_
      exact W.iret hx hb hr (gr_i h hG hK hX hS) hS.2.2 dX6_copy_15
set_option maxHeartbeats 4000000 in
set_option maxRecDepth 100000 in
theorem c_X6_costOf (l : Launch) (D : va_G) (κ : Nat → ClassId) (A : Nat → Prop) (S : Hp) (a0 : Nat) (x1 : Int32) (Q : Int32 → Hp → Prop) (h : wp_X6_costOf a0 x1 S Q) : Met l yX6_costOf wsX6_costOf ({ frames := 1, cells := 0, slots := 0, locals := 48 } : Room) (PG D κ A S [.ref a0, .int x1]) (va_Qi Q (BG D κ A) A) 0 0 A := by
  refine Met.ofW (cc := cX6_costOf) (maxL := 3) (ret := (some .int)) (by decide) rfl ?_
  intro p e s m args below meth c s₁ B hml hv
  obtain ⟨hargs, hA, hG, hK, hX⟩ := hv
  have hx := B.exec
  have hb := B.bytes
  have hr := B.returns
  have hts := atoms_spec (ws := wsX6_costOf) B.pre
  have hown : s.vm.findClass RX6 = some m.cls := findClass_of_methodNamed B.named
  have hlocks := B.notSynchronized
  subst hargs
  clear B
  have hS : va_S A s.heap s.heap [] := va_S.rf
  have hl := lv_entry ([.ref a0, .int x1]) (n := 3) (Nat.le_of_ble_eq_true rfl)
  rw [lg_entry_eq]
  generalize (lg_sl ([.ref a0, .int x1]) ++ List.replicate (3 - (lg_sl ([.ref a0, .int x1])).length) Slot.unset).toArray = ls at hl ⊢
  have hl : lv_has ls 3 [(0, .ref a0), (1, .int x1)] := hl
  have hG : GG D κ A S s.heap := hG
  refine lv_aload_n hx hb dX6_costOf_0 rfl (lv_at hl 0 rfl) ?_
  have hk := h.1
  replace h := h.2
  obtain ⟨r1, hr1, h⟩ := h
  refine gg_get (v := .ref r1) (ci := 6) (C := RX6) (T := TX6) (N := 32) hx hb hts (fun _ h => List.mem_cons_of_mem _ (List.mem_append_right _ (h))) hown hK hG (kc_7 hk) rfl 26 (by decide) (hts (.fieldLink RX6 38 "FourStonesModel" "figureOf" "[I") (List.mem_of_getElem? (i := 1) rfl)) (fun _ h9 => h9) (congrArg (fun z => some (va_rf z)) hr1) dX6_costOf_1 ?_
  refine lv_iload_n hx hb dX6_costOf_4 rfl (lv_at hl 1 rfl) ?_
  have hk := h.1
  replace h := h.2
  have hi := h.1
  replace h := h.2
  refine gg_iald hx hb hK hG hk hi dX6_costOf_5 ?_
  refine lv_topi (fun y2 ey2 => ?_)
  replace h := h y2 ey2
  refine lv_istore_n (lv' := [(2, .int y2), (0, .ref a0), (1, .int x1)]) hx hb dX6_costOf_6 rfl hl (by decide) rfl (fun ls hl => ?_)
  refine lv_aload_n hx hb dX6_costOf_7 rfl (lv_at hl 1 rfl) ?_
  have hk := h.1
  replace h := h.2
  obtain ⟨r3, hr3, h⟩ := h
  refine gg_get (v := .ref r3) (ci := 6) (C := RX6) (T := TX6) (N := 32) hx hb hts (fun _ h => List.mem_cons_of_mem _ (List.mem_append_right _ (h))) hown hK hG (kc_7 hk) rfl 25 (by decide) (hts (.fieldLink RX6 35 "FourStonesModel" "kindOf" "[I") (List.mem_of_getElem? (i := 2) rfl)) (fun _ h9 => h9) (congrArg (fun z => some (va_rf z)) hr3) dX6_costOf_8 ?_
  refine lv_iload_n hx hb dX6_costOf_11 rfl (lv_at hl 2 rfl) ?_
  have hk := h.1
  replace h := h.2
  have hi := h.1
  replace h := h.2
  refine gg_iald hx hb hK hG hk hi dX6_costOf_12 ?_
  by_cases hd : ((gA S r3 (x1).toNatClampNeg)).toInt < 1 ∨ 7 < ((gA S r3 (x1).toNatClampNeg)).toInt
  · replace h := h.2.2.2.2.2.2.2 hd
    refine lv_tableOut (tgt := 88) hx hb dX6_costOf_13 hd rfl ?_
    refine lv_iconst (v := (5 : Int32)) hx hb dX6_costOf_88 (by decide) ?_
    exact W.iret hx hb hr (gr_i h hG hK hX hS) hS.2.2 dX6_costOf_89
  · have hd2 : ((gA S r3 (x1).toNatClampNeg)).toInt = 1 ∨ ((gA S r3 (x1).toNatClampNeg)).toInt = 2 ∨ ((gA S r3 (x1).toNatClampNeg)).toInt = 3 ∨ ((gA S r3 (x1).toNatClampNeg)).toInt = 4 ∨ ((gA S r3 (x1).toNatClampNeg)).toInt = 5 ∨ ((gA S r3 (x1).toNatClampNeg)).toInt = 6 ∨ ((gA S r3 (x1).toNatClampNeg)).toInt = 7 := by omega
    rcases hd2 with hc | hc | hc | hc | hc | hc | hc
    · replace h := h.1 hc
      refine lv_tableIn (off := 43) (tgt := 56) hx hb dX6_costOf_13 (by rw [hc]; decide) (by rw [hc]; decide) (by rw [hc]; rfl) rfl ?_
      refine lv_iconst (v := (4 : Int32)) hx hb dX6_costOf_56 (by decide) ?_
      exact W.iret hx hb hr (gr_i h hG hK hX hS) hS.2.2 dX6_costOf_57
    · replace h := h.2.1 hc
      refine lv_tableIn (off := 45) (tgt := 58) hx hb dX6_costOf_13 (by rw [hc]; decide) (by rw [hc]; decide) (by rw [hc]; rfl) rfl ?_
      refine lv_iconst (v := (5 : Int32)) hx hb dX6_costOf_58 (by decide) ?_
      refine lv_iload_n hx hb dX6_costOf_59 rfl (lv_at hl 0 rfl) ?_
      refine lv_iconst (v := (1 : Int32)) hx hb dX6_costOf_60 (by decide) ?_
      refine lv_iadd hx hb dX6_costOf_61 ?_
      refine lv_imul hx hb dX6_costOf_62 ?_
      exact W.iret hx hb hr (gr_i h hG hK hX hS) hS.2.2 dX6_costOf_63
    · replace h := h.2.2.1 hc
      refine lv_tableIn (off := 51) (tgt := 64) hx hb dX6_costOf_13 (by rw [hc]; decide) (by rw [hc]; decide) (by rw [hc]; rfl) rfl ?_
      refine lv_iconst (v := (5 : Int32)) hx hb dX6_costOf_64 (by decide) ?_
      refine lv_iload_n hx hb dX6_costOf_65 rfl (lv_at hl 0 rfl) ?_
      refine lv_isub hx hb dX6_costOf_66 ?_
      exact W.iret hx hb hr (gr_i h hG hK hX hS) hS.2.2 dX6_costOf_67
    · replace h := h.2.2.2.1 hc
      refine lv_tableIn (off := 55) (tgt := 68) hx hb dX6_costOf_13 (by rw [hc]; decide) (by rw [hc]; decide) (by rw [hc]; rfl) rfl ?_
      refine lv_iconst (v := (5 : Int32)) hx hb dX6_costOf_68 (by decide) ?_
      refine lv_iload_n hx hb dX6_costOf_69 rfl (lv_at hl 0 rfl) ?_
      refine lv_iconst (v := (1 : Int32)) hx hb dX6_costOf_70 (by decide) ?_
      refine lv_iadd hx hb dX6_costOf_71 ?_
      refine lv_imul hx hb dX6_costOf_72 ?_
      refine lv_iconst (v := (4 : Int32)) hx hb dX6_costOf_73 (by decide) ?_
      refine lv_iadd hx hb dX6_costOf_74 ?_
      exact W.iret hx hb hr (gr_i h hG hK hX hS) hS.2.2 dX6_costOf_75
    · replace h := h.2.2.2.2.1 hc
      refine lv_tableIn (off := 63) (tgt := 76) hx hb dX6_costOf_13 (by rw [hc]; decide) (by rw [hc]; decide) (by rw [hc]; rfl) rfl ?_
      refine lv_bipush (v := (10 : Int32)) hx hb dX6_costOf_76 (by decide) ?_
      exact W.iret hx hb hr (gr_i h hG hK hX hS) hS.2.2 dX6_costOf_78
    · replace h := h.2.2.2.2.2.1 hc
      refine lv_tableIn (off := 66) (tgt := 79) hx hb dX6_costOf_13 (by rw [hc]; decide) (by rw [hc]; decide) (by rw [hc]; rfl) rfl ?_
      refine lv_iconst (v := (4 : Int32)) hx hb dX6_costOf_79 (by decide) ?_
      refine lv_iload_n hx hb dX6_costOf_80 rfl (lv_at hl 0 rfl) ?_
      refine lv_iadd hx hb dX6_costOf_81 ?_
      exact W.iret hx hb hr (gr_i h hG hK hX hS) hS.2.2 dX6_costOf_82
    · replace h := h.2.2.2.2.2.2.1 hc
      refine lv_tableIn (off := 70) (tgt := 83) hx hb dX6_costOf_13 (by rw [hc]; decide) (by rw [hc]; decide) (by rw [hc]; rfl) rfl ?_
      refine lv_bipush (v := (12 : Int32)) hx hb dX6_costOf_83 (by decide) ?_
      refine lv_iload_n hx hb dX6_costOf_85 rfl (lv_at hl 0 rfl) ?_
      refine lv_isub hx hb dX6_costOf_86 ?_
      exact W.iret hx hb hr (gr_i h hG hK hX hS) hS.2.2 dX6_costOf_87
set_option maxHeartbeats 4000000 in
set_option maxRecDepth 100000 in
theorem c_X6_cost (l : Launch) (D : va_G) (κ : Nat → ClassId) (A : Nat → Prop) (S : Hp) (a0 : Nat) (x1 : Int32) (Q : Int32 → Hp → Prop) (h : wp_X6_cost a0 x1 S Q) : Met l yX6_cost wsX6_cost ({ frames := 3, cells := 0, slots := 0, locals := 144 } : Room) (PG D κ A S [.ref a0, .int x1]) (va_Qi Q (BG D κ A) A) 0 0 A := by
  refine Met.ofW (cc := cX6_cost) (maxL := 2) (ret := (some .int)) (by decide) rfl ?_
  intro p e s m args below meth c s₁ B hml hv
  obtain ⟨hargs, hA, hG, hK, hX⟩ := hv
  have hx := B.exec
  have hb := B.bytes
  have hr := B.returns
  have hts := atoms_spec (ws := wsX6_cost) B.pre
  have hown : s.vm.findClass RX6 = some m.cls := findClass_of_methodNamed B.named
  have hlocks := B.notSynchronized
  subst hargs
  clear B
  have hS : va_S A s.heap s.heap [] := va_S.rf
  have hl := lv_entry ([.ref a0, .int x1]) (n := 2) (Nat.le_of_ble_eq_true rfl)
  rw [lg_entry_eq]
  generalize (lg_sl ([.ref a0, .int x1]) ++ List.replicate (2 - (lg_sl ([.ref a0, .int x1])).length) Slot.unset).toArray = ls at hl ⊢
  have hl : lv_has ls 2 [(0, .ref a0), (1, .int x1)] := hl
  have hG : GG D κ A S s.heap := hG
  refine lv_iload_n hx hb dX6_cost_0 rfl (lv_at hl 1 rfl) ?_
  refine gc_i (va_runS (As := [.int x1]) (rest := []) ⟨hx, hb, hml, hown, hts⟩ (c_X6_isShelf l D κ A S x1 _ h) (va_cwS 1 hts gX6_cost_X6_isShelf rfl rfl rfl (by decide +kernel) ⟨Nat.le_of_ble_eq_true rfl, Nat.le_of_ble_eq_true rfl⟩) (pg_S hK hX hG (pg_A hA hS)) rfl rfl hl.1 rfl (lv_room (Nat.le_of_ble_eq_true rfl)) dX6_cost_1 ⟨Nat.le_of_ble_eq_true rfl, Nat.le_of_ble_eq_true rfl⟩) hS (fun z3 S2 H locs1 h hG hS => ?_)
  refine lv_if_ne (tgt := 9) hx hb dX6_cost_4 rfl (fun hc => ?_) (fun hc => ?_)
  · replace h := h.1 hc
    refine lv_aload_n hx hb dX6_cost_9 rfl (lv_at hl 0 rfl) ?_
    refine lv_iload_n hx hb dX6_cost_10 rfl (lv_at hl 1 rfl) ?_
    have hk := h.1
    replace h := h.2
    refine gc_i (va_runV (As := [.int x1]) (rest := []) ⟨hx, hb, hml, hown, hts⟩ (c_X6_noScale l D κ A S2 a0 x1 _ h) (cwV 1 hts gX6_cost_X6_noScale rfl rfl rfl (by decide +kernel) ⟨Nat.le_of_ble_eq_true rfl, Nat.le_of_ble_eq_true rfl⟩) (pg_V (q := (RX6, TX6, 32)) hK hX hG (pg_A hA hS) (kc_7 hk) rfl) rfl rfl hl.1 rfl (lv_room (Nat.le_of_ble_eq_true rfl)) dX6_cost_11 ⟨Nat.le_of_ble_eq_true rfl, Nat.le_of_ble_eq_true rfl⟩) hS (fun z6 S5 H locs4 h hG hS => ?_)
    refine lv_if_eq (tgt := 25) hx hb dX6_cost_14 rfl (fun hc => ?_) (fun hc => ?_)
    · replace h := h.1 hc
      refine lv_aload_n hx hb dX6_cost_25 rfl (lv_at hl 0 rfl) ?_
      refine lv_iload_n hx hb dX6_cost_26 rfl (lv_at hl 1 rfl) ?_
      have hk := h.1
      replace h := h.2
      refine gc_i (va_runV (As := [.int x1]) (rest := []) ⟨hx, hb, hml, hown, hts⟩ (c_X6_costOf l D κ A S5 a0 x1 _ h) (cwV 1 hts gX6_cost_X6_costOf rfl rfl rfl (by decide +kernel) ⟨Nat.le_of_ble_eq_true rfl, Nat.le_of_ble_eq_true rfl⟩) (pg_V (q := (RX6, TX6, 32)) hK hX hG (pg_A hA hS) (kc_7 hk) rfl) rfl rfl hl.1 rfl (lv_room (Nat.le_of_ble_eq_true rfl)) dX6_cost_27 ⟨Nat.le_of_ble_eq_true rfl, Nat.le_of_ble_eq_true rfl⟩) hS (fun z9 S8 H locs7 h hG hS => ?_)
      exact W.iret hx hb hr (gr_i h hG hK hX hS) hS.2.2 dX6_cost_30
    · replace h := h.2 hc
      refine lv_aload_n hx hb dX6_cost_17 rfl (lv_at hl 0 rfl) ?_
      refine lv_iload_n hx hb dX6_cost_18 rfl (lv_at hl 1 rfl) ?_
      have hk := h.1
      replace h := h.2
      refine gc_i (va_runV (As := [.int x1]) (rest := []) ⟨hx, hb, hml, hown, hts⟩ (c_X6_noScale l D κ A S5 a0 x1 _ h) (cwV 1 hts gX6_cost_X6_noScale rfl rfl rfl (by decide +kernel) ⟨Nat.le_of_ble_eq_true rfl, Nat.le_of_ble_eq_true rfl⟩) (pg_V (q := (RX6, TX6, 32)) hK hX hG (pg_A hA hS) (kc_7 hk) rfl) rfl rfl hl.1 rfl (lv_room (Nat.le_of_ble_eq_true rfl)) dX6_cost_19 ⟨Nat.le_of_ble_eq_true rfl, Nat.le_of_ble_eq_true rfl⟩) hS (fun z12 S11 H locs10 h hG hS => ?_)
      refine lv_goto (tgt := 30) hx hb dX6_cost_22 rfl ?_
      exact W.iret hx hb hr (gr_i h hG hK hX hS) hS.2.2 dX6_cost_30
  · replace h := h.2 hc
    refine lv_iconst (v := (-1 : Int32)) hx hb dX6_cost_7 (by decide) ?_
    exact W.iret hx hb hr (gr_i h hG hK hX hS) hS.2.2 dX6_cost_8
set_option maxHeartbeats 4000000 in
set_option maxRecDepth 100000 in
theorem c_X6_toss (l : Launch) (D : va_G) (κ : Nat → ClassId) (A : Nat → Prop) (S : Hp) (a0 : Nat) (x1 : Int32) (Q : Int32 → Hp → Prop) (h : wp_X6_toss a0 x1 S Q) : Met l yX6_toss wsX6_toss ({ frames := 3, cells := 0, slots := 0, locals := 144 } : Room) (PG D κ A S [.ref a0, .int x1]) (va_Qi Q (BG D κ A) A) 0 0 A := by
  refine Met.ofW (cc := cX6_toss) (maxL := 3) (ret := (some .int)) (by decide) rfl ?_
  intro p e s m args below meth c s₁ B hml hv
  obtain ⟨hargs, hA, hG, hK, hX⟩ := hv
  have hx := B.exec
  have hb := B.bytes
  have hr := B.returns
  have hts := atoms_spec (ws := wsX6_toss) B.pre
  have hown : s.vm.findClass RX6 = some m.cls := findClass_of_methodNamed B.named
  have hlocks := B.notSynchronized
  subst hargs
  clear B
  have hS : va_S A s.heap s.heap [] := va_S.rf
  have hl := lv_entry ([.ref a0, .int x1]) (n := 3) (Nat.le_of_ble_eq_true rfl)
  rw [lg_entry_eq]
  generalize (lg_sl ([.ref a0, .int x1]) ++ List.replicate (3 - (lg_sl ([.ref a0, .int x1])).length) Slot.unset).toArray = ls at hl ⊢
  have hl : lv_has ls 3 [(0, .ref a0), (1, .int x1)] := hl
  have hG : GG D κ A S s.heap := hG
  refine lv_iload_n hx hb dX6_toss_0 rfl (lv_at hl 1 rfl) ?_
  refine gc_i (va_runS (As := [.int x1]) (rest := []) ⟨hx, hb, hml, hown, hts⟩ (c_X6_isShelf l D κ A S x1 _ h) (va_cwS 1 hts gX6_toss_X6_isShelf rfl rfl rfl (by decide +kernel) ⟨Nat.le_of_ble_eq_true rfl, Nat.le_of_ble_eq_true rfl⟩) (pg_S hK hX hG (pg_A hA hS)) rfl rfl hl.1 rfl (lv_room (Nat.le_of_ble_eq_true rfl)) dX6_toss_1 ⟨Nat.le_of_ble_eq_true rfl, Nat.le_of_ble_eq_true rfl⟩) hS (fun z3 S2 H locs1 h hG hS => ?_)
  refine lv_if_ne (tgt := 9) hx hb dX6_toss_4 rfl (fun hc => ?_) (fun hc => ?_)
  · replace h := h.1 hc
    refine lv_aload_n hx hb dX6_toss_9 rfl (lv_at hl 0 rfl) ?_
    refine lv_iload_n hx hb dX6_toss_10 rfl (lv_at hl 1 rfl) ?_
    have hk := h.1
    replace h := h.2
    refine gc_i (va_runV (As := [.int x1]) (rest := []) ⟨hx, hb, hml, hown, hts⟩ (c_X6_noScale l D κ A S2 a0 x1 _ h) (cwV 1 hts gX6_toss_X6_noScale rfl rfl rfl (by decide +kernel) ⟨Nat.le_of_ble_eq_true rfl, Nat.le_of_ble_eq_true rfl⟩) (pg_V (q := (RX6, TX6, 32)) hK hX hG (pg_A hA hS) (kc_7 hk) rfl) rfl rfl hl.1 rfl (lv_room (Nat.le_of_ble_eq_true rfl)) dX6_toss_11 ⟨Nat.le_of_ble_eq_true rfl, Nat.le_of_ble_eq_true rfl⟩) hS (fun z6 S5 H locs4 h hG hS => ?_)
    refine lv_if_eq (tgt := 23) hx hb dX6_toss_14 rfl (fun hc => ?_) (fun hc => ?_)
    · replace h := h.1 hc
      refine lv_aload_n hx hb dX6_toss_23 rfl (lv_at hl 0 rfl) ?_
      have hk := h.1
      replace h := h.2
      obtain ⟨r7, hr7, h⟩ := h
      refine gg_get (v := .ref r7) (ci := 6) (C := RX6) (T := TX6) (N := 32) hx hb hts (fun _ h => List.mem_cons_of_mem _ (List.mem_append_right _ (h))) hown hK hG (kc_7 hk) rfl 26 (by decide) (hts (.fieldLink RX6 38 "FourStonesModel" "figureOf" "[I") (List.mem_of_getElem? (i := 1) rfl)) (fun _ h9 => h9) (congrArg (fun z => some (va_rf z)) hr7) dX6_toss_24 ?_
      refine lv_iload_n hx hb dX6_toss_27 rfl (lv_at hl 1 rfl) ?_
      have hk := h.1
      replace h := h.2
      have hi := h.1
      replace h := h.2
      refine gg_iald hx hb hK hG hk hi dX6_toss_28 ?_
      refine lv_topi (fun y8 ey8 => ?_)
      replace h := h y8 ey8
      refine lv_istore_n (lv' := [(2, .int y8), (0, .ref a0), (1, .int x1)]) hx hb dX6_toss_29 rfl hl (by decide) rfl (fun ls hl => ?_)
      refine lv_aload_n hx hb dX6_toss_30 rfl (lv_at hl 1 rfl) ?_
      have hk := h.1
      replace h := h.2
      obtain ⟨r9, hr9, h⟩ := h
      refine gg_get (v := .ref r9) (ci := 6) (C := RX6) (T := TX6) (N := 32) hx hb hts (fun _ h => List.mem_cons_of_mem _ (List.mem_append_right _ (h))) hown hK hG (kc_7 hk) rfl 25 (by decide) (hts (.fieldLink RX6 35 "FourStonesModel" "kindOf" "[I") (List.mem_of_getElem? (i := 2) rfl)) (fun _ h9 => h9) (congrArg (fun z => some (va_rf z)) hr9) dX6_toss_31 ?_
      refine lv_iload_n hx hb dX6_toss_34 rfl (lv_at hl 2 rfl) ?_
      have hk := h.1
      replace h := h.2
      have hi := h.1
      replace h := h.2
      refine gg_iald hx hb hK hG hk hi dX6_toss_35 ?_
      refine lv_iconst (v := (5 : Int32)) hx hb dX6_toss_36 (by decide) ?_
      refine lv_icmp_eq (tgt := 44) hx hb dX6_toss_37 rfl (fun hc => ?_) (fun hc => ?_)
      · replace h := h.1 hc
        refine lv_bipush (v := (-15 : Int32)) hx hb dX6_toss_44 (by decide) ?_
        exact W.iret hx hb hr (gr_i h hG hK hX hS) hS.2.2 dX6_toss_46
      · replace h := h.2 hc
        refine lv_iload_n hx hb dX6_toss_40 rfl (lv_at hl 0 rfl) ?_
        refine lv_if_ne (tgt := 47) hx hb dX6_toss_41 rfl (fun hc => ?_) (fun hc => ?_)
        · replace h := h.1 hc
          refine lv_aload_n hx hb dX6_toss_47 rfl (lv_at hl 1 rfl) ?_
          have hk := h.1
          replace h := h.2
          obtain ⟨r10, hr10, h⟩ := h
          refine gg_get (v := .ref r10) (ci := 6) (C := RX6) (T := TX6) (N := 32) hx hb hts (fun _ h => List.mem_cons_of_mem _ (List.mem_append_right _ (h))) hown hK hG (kc_7 hk) rfl 25 (by decide) (hts (.fieldLink RX6 35 "FourStonesModel" "kindOf" "[I") (List.mem_of_getElem? (i := 2) rfl)) (fun _ h9 => h9) (congrArg (fun z => some (va_rf z)) hr10) dX6_toss_48 ?_
          refine lv_iload_n hx hb dX6_toss_51 rfl (lv_at hl 2 rfl) ?_
          have hk := h.1
          replace h := h.2
          have hi := h.1
          replace h := h.2
          refine gg_iald hx hb hK hG hk hi dX6_toss_52 ?_
          refine lv_bipush (v := (6 : Int32)) hx hb dX6_toss_53 (by decide) ?_
          refine lv_icmp_ne (tgt := 65) hx hb dX6_toss_55 rfl (fun hc => ?_) (fun hc => ?_)
          · replace h := h.1 hc
            refine lv_aload_n hx hb dX6_toss_65 rfl (lv_at hl 1 rfl) ?_
            have hk := h.1
            replace h := h.2
            obtain ⟨r11, hr11, h⟩ := h
            refine gg_get (v := .ref r11) (ci := 6) (C := RX6) (T := TX6) (N := 32) hx hb hts (fun _ h => List.mem_cons_of_mem _ (List.mem_append_right _ (h))) hown hK hG (kc_7 hk) rfl 25 (by decide) (hts (.fieldLink RX6 35 "FourStonesModel" "kindOf" "[I") (List.mem_of_getElem? (i := 2) rfl)) (fun _ h9 => h9) (congrArg (fun z => some (va_rf z)) hr11) dX6_toss_66 ?_
            refine lv_iload_n hx hb dX6_toss_69 rfl (lv_at hl 2 rfl) ?_
            have hk := h.1
            replace h := h.2
            have hi := h.1
            replace h := h.2
            refine gg_iald hx hb hK hG hk hi dX6_toss_70 ?_
            refine lv_bipush (v := (7 : Int32)) hx hb dX6_toss_71 (by decide) ?_
            refine lv_icmp_ne (tgt := 88) hx hb dX6_toss_73 rfl (fun hc => ?_) (fun hc => ?_)
            · replace h := h.1 hc
              refine lv_iload_n hx hb dX6_toss_88 rfl (lv_at hl 0 rfl) ?_
              exact W.iret hx hb hr (gr_i h hG hK hX hS) hS.2.2 dX6_toss_89
            · replace h := h.2 hc
              refine lv_sipush (v := (200 : Int32)) hx hb dX6_toss_76 (by decide) ?_
              refine lv_aload_n hx hb dX6_toss_79 rfl (lv_at hl 1 rfl) ?_
              refine lv_iload_n hx hb dX6_toss_80 rfl (lv_at hl 2 rfl) ?_
              have hk := h.1
              replace h := h.2
              refine gc_i (va_runV (As := [.int x1]) (rest := [.int (200 : Int32)]) ⟨hx, hb, hml, hown, hts⟩ (c_X6_costOf l D κ A S5 a0 x1 _ h) (cwV 1 hts gX6_toss_X6_costOf rfl rfl rfl (by decide +kernel) ⟨Nat.le_of_ble_eq_true rfl, Nat.le_of_ble_eq_true rfl⟩) (pg_V (q := (RX6, TX6, 32)) hK hX hG (pg_A hA hS) (kc_7 hk) rfl) rfl rfl hl.1 rfl (lv_room (Nat.le_of_ble_eq_true rfl)) dX6_toss_81 ⟨Nat.le_of_ble_eq_true rfl, Nat.le_of_ble_eq_true rfl⟩) hS (fun z14 S13 H locs12 h hG hS => ?_)
              refine lv_iadd hx hb dX6_toss_84 ?_
              refine lv_goto (tgt := 89) hx hb dX6_toss_85 rfl ?_
              exact W.iret hx hb hr (gr_i h hG hK hX hS) hS.2.2 dX6_toss_89
          · replace h := h.2 hc
            refine lv_bipush (v := (100 : Int32)) hx hb dX6_toss_58 (by decide) ?_
            refine lv_iload_n hx hb dX6_toss_60 rfl (lv_at hl 0 rfl) ?_
            refine lv_iadd hx hb dX6_toss_61 ?_
            refine lv_goto (tgt := 89) hx hb dX6_toss_62 rfl ?_
            exact W.iret hx hb hr (gr_i h hG hK hX hS) hS.2.2 dX6_toss_89
        · replace h := h.2 hc
          refine lv_bipush (v := (-15 : Int32)) hx hb dX6_toss_44 (by decide) ?_
          exact W.iret hx hb hr (gr_i h hG hK hX hS) hS.2.2 dX6_toss_46
    · replace h := h.2 hc
      refine lv_aload_n hx hb dX6_toss_17 rfl (lv_at hl 0 rfl) ?_
      refine lv_iload_n hx hb dX6_toss_18 rfl (lv_at hl 1 rfl) ?_
      have hk := h.1
      replace h := h.2
      refine gc_i (va_runV (As := [.int x1]) (rest := []) ⟨hx, hb, hml, hown, hts⟩ (c_X6_noScale l D κ A S5 a0 x1 _ h) (cwV 1 hts gX6_toss_X6_noScale rfl rfl rfl (by decide +kernel) ⟨Nat.le_of_ble_eq_true rfl, Nat.le_of_ble_eq_true rfl⟩) (pg_V (q := (RX6, TX6, 32)) hK hX hG (pg_A hA hS) (kc_7 hk) rfl) rfl rfl hl.1 rfl (lv_room (Nat.le_of_ble_eq_true rfl)) dX6_toss_19 ⟨Nat.le_of_ble_eq_true rfl, Nat.le_of_ble_eq_true rfl⟩) hS (fun z17 S16 H locs15 h hG hS => ?_)
      exact W.iret hx hb hr (gr_i h hG hK hX hS) hS.2.2 dX6_toss_22
  · replace h := h.2 hc
    refine lv_iconst (v := (-1 : Int32)) hx hb dX6_toss_7 (by decide) ?_
    exact W.iret hx hb hr (gr_i h hG hK hX hS) hS.2.2 dX6_toss_8
