theorem dX5_isShelf_0 : decode cX5_isShelf 0 = .ok (.iload_n 0, 1) := by decide +kernel
theorem dX5_isShelf_1 : decode cX5_isShelf 1 = .ok (.ifCond .lt 13, 3) := by decide +kernel
theorem dX5_isShelf_4 : decode cX5_isShelf 4 = .ok (.iload_n 0, 1) := by decide +kernel
theorem dX5_isShelf_5 : decode cX5_isShelf 5 = .ok (.bipush 8, 2) := by decide +kernel
theorem dX5_isShelf_7 : decode cX5_isShelf 7 = .ok (.if_icmp .ge 7, 3) := by decide +kernel
theorem dX5_isShelf_10 : decode cX5_isShelf 10 = .ok (.iconst 1, 1) := by decide +kernel
theorem dX5_isShelf_11 : decode cX5_isShelf 11 = .ok (.goto 4, 3) := by decide +kernel
theorem dX5_isShelf_14 : decode cX5_isShelf 14 = .ok (.iconst 0, 1) := by decide +kernel
theorem dX5_isShelf_15 : decode cX5_isShelf 15 = .ok (.ireturn, 1) := by decide +kernel
theorem dX6_power_0 : decode cX6_power 0 = .ok (.iconst 1, 1) := by decide +kernel
theorem dX6_power_1 : decode cX6_power 1 = .ok (.istore_n 1, 1) := by decide +kernel
theorem dX6_power_2 : decode cX6_power 2 = .ok (.iconst 0, 1) := by decide +kernel
theorem dX6_power_3 : decode cX6_power 3 = .ok (.istore_n 2, 1) := by decide +kernel
theorem dX6_power_4 : decode cX6_power 4 = .ok (.iload_n 2, 1) := by decide +kernel
theorem dX6_power_5 : decode cX6_power 5 = .ok (.iload_n 0, 1) := by decide +kernel
theorem dX6_power_6 : decode cX6_power 6 = .ok (.if_icmp .ge 13, 3) := by decide +kernel
theorem dX6_power_9 : decode cX6_power 9 = .ok (.iload_n 1, 1) := by decide +kernel
theorem dX6_power_10 : decode cX6_power 10 = .ok (.iconst 3, 1) := by decide +kernel
theorem dX6_power_11 : decode cX6_power 11 = .ok (.imul, 1) := by decide +kernel
theorem dX6_power_12 : decode cX6_power 12 = .ok (.istore_n 1, 1) := by decide +kernel
theorem dX6_power_13 : decode cX6_power 13 = .ok (.iinc 2 1, 3) := by decide +kernel
theorem dX6_power_16 : decode cX6_power 16 = .ok (.goto (-12), 3) := by decide +kernel
theorem dX6_power_19 : decode cX6_power 19 = .ok (.iload_n 1, 1) := by decide +kernel
theorem dX6_power_20 : decode cX6_power 20 = .ok (.ireturn, 1) := by decide +kernel
def L_X6_power_4  (Q : Int32 → Hp → Prop) (C4 : Int32 × Int32 × Int32 × Hp → Prop) : Int32 × Int32 × Int32 × Hp → Prop := fun (v0, v1, v2, S) =>
    ((v0 ≤ v2 →
      Q v1 S)
    ∧ (¬ (v0 ≤ v2) →
      ∀ y1, y1 = (v1 * (3 : Int32)) →
      ∀ y2, y2 = v2 + (1 : Int32) →
      C4 (v0, y1, y2, S)))
def wp_X6_power (x0 : Int32) (S : Hp) (Q : Int32 → Hp → Prop) : Prop :=
  ∃ n, it (L_X6_power_4  Q) n (x0, (1 : Int32), (0 : Int32), S)
set_option maxHeartbeats 4000000 in
set_option maxRecDepth 100000 in
theorem c_X6_power (l : Launch) (D : va_G) (κ : Nat → ClassId) (A : Nat → Prop) (S : Hp) (x0 : Int32) (Q : Int32 → Hp → Prop) (h : wp_X6_power x0 S Q) : Met l yX6_power wsX6_power ({ frames := 1, cells := 0, slots := 0, locals := 48 } : Room) (PG D κ A S [.int x0]) (va_Qi Q (BG D κ A) A) 0 0 A := by
  refine Met.ofW (cc := cX6_power) (maxL := 3) (ret := (some .int)) (by decide) rfl ?_
  intro p e s m args below meth c s₁ B hml hv
  obtain ⟨hargs, hA, hG, hK⟩ := hv
  have hx := B.exec
  have hb := B.bytes
  have hr := B.returns
  have hts := atoms_spec (ws := wsX6_power) B.pre
  have hown : s.vm.findClass RX6 = some m.cls := findClass_of_methodNamed B.named
  have hlocks := B.notSynchronized
  subst hargs
  clear B
  have hS : va_S A s.heap s.heap [] := va_S.rf
  have hl := lv_entry ([.int x0]) (n := 3) (Nat.le_of_ble_eq_true rfl)
  rw [lg_entry_eq]
  generalize (lg_sl ([.int x0]) ++ List.replicate (3 - (lg_sl ([.int x0])).length) Slot.unset).toArray = ls at hl ⊢
  have hl : lv_has ls 3 [(0, .int x0)] := hl
  have hG : GG D κ A S s.heap := hG
  have k_4 : ∀  (n : Nat), ∀ (v0 : Int32) (v1 : Int32) (v2 : Int32) (S : Hp) (ls : Array Slot) (H : Heap) (locs : List Loc), lv_has ls 3 [(0, .int v0), (1, .int v1), (2, .int v2)] → GG D κ A S H → va_S A s.heap H locs → it (L_X6_power_4  Q) n (v0, v1, v2, S) → W p l e ({ frames := 1, cells := 0, slots := 0, locals := 48 } : Room) s m ([.int x0] : List Value).toArray below meth c H locs 0 0 (MQ below (va_Qi Q (BG D κ A) A) ([.int x0] : List Value).toArray s 0 0 A) (F0 m 4 ls []) := by
    intro  n
    induction n with
    | zero => intro v0 v1 v2 S ls H locs hl hG hS h; exact False.elim h
    | succ n hC4 =>
      intro v0 v1 v2 S ls H locs hl hG hS h
      replace h : L_X6_power_4  Q (it (L_X6_power_4  Q) n) (v0, v1, v2, S) := h
      simp only [L_X6_power_4] at h
      refine lv_iload_n hx hb dX6_power_4 rfl (lv_at hl 2 rfl) ?_
      refine lv_iload_n hx hb dX6_power_5 rfl (lv_at hl 0 rfl) ?_
      refine lv_icmp_ge (tgt := 19) hx hb dX6_power_6 rfl (fun hc => ?_) (fun hc => ?_)
      · replace h := h.1 hc
        refine lv_iload_n hx hb dX6_power_19 rfl (lv_at hl 1 rfl) ?_
        exact W.iret hx hb hr (gr_i h hG hK hS) hS.2.2 dX6_power_20
      · replace h := h.2 hc
        refine lv_iload_n hx hb dX6_power_9 rfl (lv_at hl 1 rfl) ?_
        refine lv_iconst (v := (3 : Int32)) hx hb dX6_power_10 (by decide) ?_
        refine lv_imul hx hb dX6_power_11 ?_
        refine lv_topi (fun y1 ey1 => ?_)
        replace h := h y1 ey1
        refine lv_istore_n (lv' := [(1, .int y1), (0, .int v0), (2, .int v2)]) hx hb dX6_power_12 rfl hl (by decide) rfl (fun ls hl => ?_)
        obtain ⟨y2, ey2⟩ : ∃ z, z = v2 + (1 : Int32) := ⟨_, rfl⟩
        replace h := h y2 ey2
        refine lv_iinc (v := y2) (lv' := [(2, .int y2), (1, .int y1), (0, .int v0)]) hx hb dX6_power_13 hl (k := 2) rfl (by rw [ey2]; rfl) (by decide) rfl (fun ls hl => ?_)
        refine lv_goto (tgt := 4) hx hb dX6_power_16 rfl ?_
        exact hC4 v0 y1 y2 S ls _ _ (lv_sub hl [2, 1, 0] rfl) hG hS h
  refine lv_iconst (v := (1 : Int32)) hx hb dX6_power_0 (by decide) ?_
  refine lv_istore_n (lv' := [(1, .int (1 : Int32)), (0, .int x0)]) hx hb dX6_power_1 rfl hl (by decide) rfl (fun ls hl => ?_)
  refine lv_iconst (v := (0 : Int32)) hx hb dX6_power_2 (by decide) ?_
  refine lv_istore_n (lv' := [(2, .int (0 : Int32)), (1, .int (1 : Int32)), (0, .int x0)]) hx hb dX6_power_3 rfl hl (by decide) rfl (fun ls hl => ?_)
  obtain ⟨nn, h⟩ := h
  exact k_4  nn x0 (1 : Int32) (0 : Int32) S ls _ _ (lv_sub hl [2, 1, 0] rfl) hG hS h
def wp_X5_isShelf (x0 : Int32) (S : Hp) (Q : Int32 → Hp → Prop) : Prop :=
  ((x0 < 0 →
    Q (0 : Int32) S)
  ∧ (¬ (x0 < 0) →
    (((8 : Int32) ≤ x0 →
      Q (0 : Int32) S)
    ∧ (¬ ((8 : Int32) ≤ x0) →
      Q (1 : Int32) S))))
set_option maxHeartbeats 4000000 in
set_option maxRecDepth 100000 in
theorem c_X5_isShelf (l : Launch) (D : va_G) (κ : Nat → ClassId) (A : Nat → Prop) (S : Hp) (x0 : Int32) (Q : Int32 → Hp → Prop) (h : wp_X5_isShelf x0 S Q) : Met l yX5_isShelf wsX5_isShelf ({ frames := 1, cells := 0, slots := 0, locals := 48 } : Room) (PG D κ A S [.int x0]) (va_Qi Q (BG D κ A) A) 0 0 A := by
  refine Met.ofW (cc := cX5_isShelf) (maxL := 1) (ret := (some .boolean)) (by decide) rfl ?_
  intro p e s m args below meth c s₁ B hml hv
  obtain ⟨hargs, hA, hG, hK⟩ := hv
  have hx := B.exec
  have hb := B.bytes
  have hr := B.returns
  have hts := atoms_spec (ws := wsX5_isShelf) B.pre
  have hown : s.vm.findClass RX5 = some m.cls := findClass_of_methodNamed B.named
  have hlocks := B.notSynchronized
  subst hargs
  clear B
  have hS : va_S A s.heap s.heap [] := va_S.rf
  have hl := lv_entry ([.int x0]) (n := 1) (Nat.le_of_ble_eq_true rfl)
  rw [lg_entry_eq]
  generalize (lg_sl ([.int x0]) ++ List.replicate (1 - (lg_sl ([.int x0])).length) Slot.unset).toArray = ls at hl ⊢
  have hl : lv_has ls 1 [(0, .int x0)] := hl
  have hG : GG D κ A S s.heap := hG
  refine lv_iload_n hx hb dX5_isShelf_0 rfl (lv_at hl 0 rfl) ?_
  refine lv_if_lt (tgt := 14) hx hb dX5_isShelf_1 rfl (fun hc => ?_) (fun hc => ?_)
  · replace h := h.1 hc
    refine lv_iconst (v := (0 : Int32)) hx hb dX5_isShelf_14 (by decide) ?_
    exact W.zret (ty := .boolean) hx hb hr (by decide) (gr_i h hG hK hS) hS.2.2 dX5_isShelf_15
  · replace h := h.2 hc
    refine lv_iload_n hx hb dX5_isShelf_4 rfl (lv_at hl 0 rfl) ?_
    refine lv_bipush (v := (8 : Int32)) hx hb dX5_isShelf_5 (by decide) ?_
    refine lv_icmp_ge (tgt := 14) hx hb dX5_isShelf_7 rfl (fun hc => ?_) (fun hc => ?_)
    · replace h := h.1 hc
      refine lv_iconst (v := (0 : Int32)) hx hb dX5_isShelf_14 (by decide) ?_
      exact W.zret (ty := .boolean) hx hb hr (by decide) (gr_i h hG hK hS) hS.2.2 dX5_isShelf_15
    · replace h := h.2 hc
      refine lv_iconst (v := (1 : Int32)) hx hb dX5_isShelf_10 (by decide) ?_
      refine lv_goto (tgt := 15) hx hb dX5_isShelf_11 rfl ?_
      exact W.zret (ty := .boolean) hx hb hr (by decide) (gr_i h hG hK hS) hS.2.2 dX5_isShelf_15
