set_option maxHeartbeats 4000000 in
set_option maxRecDepth 100000 in
theorem c_X5_withoutLowest (l : Launch) (D : va_G) (κ : Nat → ClassId) (A : Nat → Prop) (S : Hp) (x0 : Int32) (Q : Int32 → Hp → Prop) (h : wp_X5_withoutLowest x0 S Q) : Met l yX5_withoutLowest wsX5_withoutLowest ({ frames := 2, cells := 0, slots := 0, locals := 96 } : Room) (PG D κ A S [.int x0]) (va_Qi Q (BG D κ A) A) 0 0 A := by
  refine Met.ofW (cc := cX5_withoutLowest) (maxL := 1) (ret := (some .int)) (by decide) rfl ?_
  intro p e s m args below meth c s₁ B hml hv
  obtain ⟨hargs, hA, hG, hK, hX⟩ := hv
  have hx := B.exec
  have hb := B.bytes
  have hr := B.returns
  have hts := atoms_spec (ws := wsX5_withoutLowest) B.pre
  have hown : s.vm.findClass RX5 = some m.cls := findClass_of_methodNamed B.named
  have hlocks := B.notSynchronized
  subst hargs
  clear B
  have hS : va_S A s.heap s.heap [] := va_S.rf
  have hl := lv_entry ([.int x0]) (n := 1) (Nat.le_of_ble_eq_true rfl)
  rw [lg_entry_eq]
  generalize (lg_sl ([.int x0]) ++ List.replicate (1 - (lg_sl ([.int x0])).length) Slot.unset).toArray = ls at hl ⊢
  have hl : lv_has ls 1 [(0, .int x0)] := hl
  have hG : GG D κ A S s.heap := hG
  refine lv_iload_n hx hb dX5_withoutLowest_0 rfl (lv_at hl 0 rfl) ?_
  refine lv_iconst (v := (1 : Int32)) hx hb dX5_withoutLowest_1 (by decide) ?_
  refine lv_iadd hx hb dX5_withoutLowest_2 ?_
  refine lv_iconst (v := (3 : Int32)) hx hb dX5_withoutLowest_3 (by decide) ?_
  refine gc_i (va_runS (As := [.int (x0 + (1 : Int32)), .int (3 : Int32)]) (rest := []) ⟨hx, hb, hml, hown, hts⟩ (c_J9_floorDiv_7cf53 l D κ A S (x0 + (1 : Int32)) (3 : Int32) _ h) (va_cwS 2 hts gX5_withoutLowest_J9_floorDiv_7cf53 rfl rfl rfl (by decide +kernel) ⟨Nat.le_of_ble_eq_true rfl, Nat.le_of_ble_eq_true rfl⟩) (pg_S hK hX hG (pg_A hA hS)) rfl rfl hl.1 rfl (lv_room (Nat.le_of_ble_eq_true rfl)) dX5_withoutLowest_4 ⟨Nat.le_of_ble_eq_true rfl, Nat.le_of_ble_eq_true rfl⟩) hS (fun z3 S2 H locs1 h hG hS => ?_)
  exact W.iret hx hb hr (gr_i h hG hK hX hS) hS.2.2 dX5_withoutLowest_7
set_option maxHeartbeats 4000000 in
set_option maxRecDepth 100000 in
theorem c_X5_lowestDigit (l : Launch) (D : va_G) (κ : Nat → ClassId) (A : Nat → Prop) (S : Hp) (x0 : Int32) (Q : Int32 → Hp → Prop) (h : wp_X5_lowestDigit x0 S Q) : Met l yX5_lowestDigit wsX5_lowestDigit ({ frames := 2, cells := 0, slots := 0, locals := 96 } : Room) (PG D κ A S [.int x0]) (va_Qi Q (BG D κ A) A) 0 0 A := by
  refine Met.ofW (cc := cX5_lowestDigit) (maxL := 1) (ret := (some .int)) (by decide) rfl ?_
  intro p e s m args below meth c s₁ B hml hv
  obtain ⟨hargs, hA, hG, hK, hX⟩ := hv
  have hx := B.exec
  have hb := B.bytes
  have hr := B.returns
  have hts := atoms_spec (ws := wsX5_lowestDigit) B.pre
  have hown : s.vm.findClass RX5 = some m.cls := findClass_of_methodNamed B.named
  have hlocks := B.notSynchronized
  subst hargs
  clear B
  have hS : va_S A s.heap s.heap [] := va_S.rf
  have hl := lv_entry ([.int x0]) (n := 1) (Nat.le_of_ble_eq_true rfl)
  rw [lg_entry_eq]
  generalize (lg_sl ([.int x0]) ++ List.replicate (1 - (lg_sl ([.int x0])).length) Slot.unset).toArray = ls at hl ⊢
  have hl : lv_has ls 1 [(0, .int x0)] := hl
  have hG : GG D κ A S s.heap := hG
  refine lv_iload_n hx hb dX5_lowestDigit_0 rfl (lv_at hl 0 rfl) ?_
  refine lv_iconst (v := (1 : Int32)) hx hb dX5_lowestDigit_1 (by decide) ?_
  refine lv_iadd hx hb dX5_lowestDigit_2 ?_
  refine lv_iconst (v := (3 : Int32)) hx hb dX5_lowestDigit_3 (by decide) ?_
  refine gc_i (va_runS (As := [.int (x0 + (1 : Int32)), .int (3 : Int32)]) (rest := []) ⟨hx, hb, hml, hown, hts⟩ (c_J9_floorMod_7cf53 l D κ A S (x0 + (1 : Int32)) (3 : Int32) _ h) (va_cwS 2 hts gX5_lowestDigit_J9_floorMod_7cf53 rfl rfl rfl (by decide +kernel) ⟨Nat.le_of_ble_eq_true rfl, Nat.le_of_ble_eq_true rfl⟩) (pg_S hK hX hG (pg_A hA hS)) rfl rfl hl.1 rfl (lv_room (Nat.le_of_ble_eq_true rfl)) dX5_lowestDigit_4 ⟨Nat.le_of_ble_eq_true rfl, Nat.le_of_ble_eq_true rfl⟩) hS (fun z3 S2 H locs1 h hG hS => ?_)
  refine lv_iconst (v := (1 : Int32)) hx hb dX5_lowestDigit_7 (by decide) ?_
  refine lv_isub hx hb dX5_lowestDigit_8 ?_
  exact W.iret hx hb hr (gr_i h hG hK hX hS) hS.2.2 dX5_lowestDigit_9
set_option maxHeartbeats 4000000 in
set_option maxRecDepth 100000 in
theorem c_X5_digits (l : Launch) (D : va_G) (κ : Nat → ClassId) (A : Nat → Prop) (S : Hp) (a0 : Nat) (x1 : Int32) (x2 : Int32) (Q : Int32 → Hp → Prop) (h : wp_X5_digits a0 x1 x2 S Q) : Met l yX5_digits wsX5_digits ({ frames := 3, cells := 0, slots := 0, locals := 144 } : Room) (PG D κ A S [.ref a0, .int x1, .int x2]) (va_Qi Q (BG D κ A) A) 0 0 A := by
  refine Met.ofW (cc := cX5_digits) (maxL := 5) (ret := (some .int)) (by decide) rfl ?_
  intro p e s m args below meth c s₁ B hml hv
  obtain ⟨hargs, hA, hG, hK, hX⟩ := hv
  have hx := B.exec
  have hb := B.bytes
  have hr := B.returns
  have hts := atoms_spec (ws := wsX5_digits) B.pre
  have hown : s.vm.findClass RX5 = some m.cls := findClass_of_methodNamed B.named
  have hlocks := B.notSynchronized
  subst hargs
  clear B
  have hS : va_S A s.heap s.heap [] := va_S.rf
  have hl := lv_entry ([.ref a0, .int x1, .int x2]) (n := 5) (Nat.le_of_ble_eq_true rfl)
  rw [lg_entry_eq]
  generalize (lg_sl ([.ref a0, .int x1, .int x2]) ++ List.replicate (5 - (lg_sl ([.ref a0, .int x1, .int x2])).length) Slot.unset).toArray = ls at hl ⊢
  have hl : lv_has ls 5 [(0, .ref a0), (1, .int x1), (2, .int x2)] := hl
  have hG : GG D κ A S s.heap := hG
  have j_47 : ∀  (v2 : Int32) (v3 : Int32) (v4 : Int32) (S : Hp) (ls : Array Slot) (H : Heap) (locs : List Loc), lv_has ls 5 [(2, .int v2), (3, .int v3), (4, .int v4)] → GG D κ A S H → va_S A s.heap H locs → J_X5_digits_47  Q v2 v3 v4 S → W p l e ({ frames := 3, cells := 0, slots := 0, locals := 144 } : Room) s m ([.ref a0, .int x1, .int x2] : List Value).toArray below meth c H locs 0 0 (MQ below (va_Qi Q (BG D κ A) A) ([.ref a0, .int x1, .int x2] : List Value).toArray s 0 0 A) (F0 m 47 ls []) := by
    intro  v2 v3 v4 S ls H locs hl hG hS h
    unfold J_X5_digits_47 at h
    refine lv_iload_n hx hb dX5_digits_47 rfl (lv_at hl 0 rfl) ?_
    refine lv_iconst (v := (-1 : Int32)) hx hb dX5_digits_48 (by decide) ?_
    refine lv_icmp_ne (tgt := 57) hx hb dX5_digits_49 rfl (fun hc => ?_) (fun hc => ?_)
    · replace h := h.1 hc
      refine lv_iload_n hx hb dX5_digits_57 rfl (lv_at hl 1 rfl) ?_
      refine gc_i (va_runS (As := [.int v3]) (rest := []) ⟨hx, hb, hml, hown, hts⟩ (c_X5_lowestDigit l D κ A S v3 _ h) (va_cwS 1 hts gX5_digits_X5_lowestDigit rfl rfl rfl (by decide +kernel) ⟨Nat.le_of_ble_eq_true rfl, Nat.le_of_ble_eq_true rfl⟩) (pg_S hK hX hG (pg_A hA hS)) rfl rfl hl.1 rfl (lv_room (Nat.le_of_ble_eq_true rfl)) dX5_digits_58 ⟨Nat.le_of_ble_eq_true rfl, Nat.le_of_ble_eq_true rfl⟩) hS (fun z3 S2 H locs1 h hG hS => ?_)
      refine lv_iconst (v := (3 : Int32)) hx hb dX5_digits_61 (by decide) ?_
      refine gc_i (va_runS (As := [.int z3, .int (3 : Int32)]) (rest := []) ⟨hx, hb, hml, hown, hts⟩ (c_J9_floorMod_7cf53 l D κ A S2 z3 (3 : Int32) _ h) (va_cwS 2 hts gX5_digits_J9_floorMod_7cf53 rfl rfl rfl (by decide +kernel) ⟨Nat.le_of_ble_eq_true rfl, Nat.le_of_ble_eq_true rfl⟩) (pg_S hK hX hG (pg_A hA hS)) rfl rfl hl.1 rfl (lv_room (Nat.le_of_ble_eq_true rfl)) dX5_digits_62 ⟨Nat.le_of_ble_eq_true rfl, Nat.le_of_ble_eq_true rfl⟩) hS (fun z6 S5 H locs4 h hG hS => ?_)
      exact W.iret hx hb hr (gr_i h hG hK hX hS) hS.2.2 dX5_digits_65
    · replace h := h.2 hc
      refine lv_iload hx hb dX5_digits_52 (lv_at hl 2 rfl) ?_
      refine lv_goto (tgt := 65) hx hb dX5_digits_54 rfl ?_
      exact W.iret hx hb hr (gr_i h hG hK hX hS) hS.2.2 dX5_digits_65
  have k_19 : ∀  (n : Nat), ∀ (v2 : Int32) (v3 : Int32) (v4 : Int32) (S : Hp) (ls : Array Slot) (H : Heap) (locs : List Loc), lv_has ls 5 [(2, .int v2), (3, .int v3), (4, .int v4)] → GG D κ A S H → va_S A s.heap H locs → it (L_X5_digits_19  Q) n (v2, v3, v4, S) → W p l e ({ frames := 3, cells := 0, slots := 0, locals := 144 } : Room) s m ([.ref a0, .int x1, .int x2] : List Value).toArray below meth c H locs 0 0 (MQ below (va_Qi Q (BG D κ A) A) ([.ref a0, .int x1, .int x2] : List Value).toArray s 0 0 A) (F0 m 19 ls []) := by
    intro  n
    induction n with
    | zero => intro v2 v3 v4 S ls H locs hl hG hS h; exact False.elim h
    | succ n hC19 =>
      intro v2 v3 v4 S ls H locs hl hG hS h
      replace h : L_X5_digits_19  Q (it (L_X5_digits_19  Q) n) (v2, v3, v4, S) := h
      simp only [L_X5_digits_19] at h
      refine lv_iload_n hx hb dX5_digits_19 rfl (lv_at hl 1 rfl) ?_
      refine lv_if_eq (tgt := 47) hx hb dX5_digits_20 rfl (fun hc => ?_) (fun hc => ?_)
      · replace h := h.1 hc
        exact j_47  v2 v3 v4 S ls _ _ (lv_sub hl [0, 1, 2] rfl) hG hS h
      · replace h := h.2 hc
        refine lv_iload hx hb dX5_digits_23 (lv_at hl 2 rfl) ?_
        refine lv_iload_n hx hb dX5_digits_25 rfl (lv_at hl 0 rfl) ?_
        refine lv_icmp_eq (tgt := 47) hx hb dX5_digits_26 rfl (fun hc => ?_) (fun hc => ?_)
        · replace h := h.1 hc
          exact j_47  v2 v3 v4 S ls _ _ (lv_sub hl [0, 1, 2] rfl) hG hS h
        · replace h := h.2 hc
          refine lv_iload hx hb dX5_digits_29 (lv_at hl 2 rfl) ?_
          refine lv_bipush (v := (10 : Int32)) hx hb dX5_digits_31 (by decide) ?_
          refine lv_icmp_ge (tgt := 47) hx hb dX5_digits_33 rfl (fun hc => ?_) (fun hc => ?_)
          · replace h := h.1 hc
            exact j_47  v2 v3 v4 S ls _ _ (lv_sub hl [0, 1, 2] rfl) hG hS h
          · replace h := h.2 hc
            refine lv_iload_n hx hb dX5_digits_36 rfl (lv_at hl 1 rfl) ?_
            refine gc_i (va_runS (As := [.int v3]) (rest := []) ⟨hx, hb, hml, hown, hts⟩ (c_X5_withoutLowest l D κ A S v3 _ h) (va_cwS 1 hts gX5_digits_X5_withoutLowest rfl rfl rfl (by decide +kernel) ⟨Nat.le_of_ble_eq_true rfl, Nat.le_of_ble_eq_true rfl⟩) (pg_S hK hX hG (pg_A hA hS)) rfl rfl hl.1 rfl (lv_room (Nat.le_of_ble_eq_true rfl)) dX5_digits_37 ⟨Nat.le_of_ble_eq_true rfl, Nat.le_of_ble_eq_true rfl⟩) hS (fun z3 S2 H locs1 h hG hS => ?_)
            refine lv_istore_n (lv' := [(3, .int z3), (2, .int v2), (4, .int v4)]) hx hb dX5_digits_40 rfl hl (by decide) rfl (fun ls hl => ?_)
            obtain ⟨y4, ey4⟩ : ∃ z, z = v4 + (1 : Int32) := ⟨_, rfl⟩
            replace h := h y4 ey4
            refine lv_iinc (v := y4) (lv' := [(4, .int y4), (3, .int z3), (2, .int v2)]) hx hb dX5_digits_41 hl (k := 2) rfl (by rw [ey4]; rfl) (by decide) rfl (fun ls hl => ?_)
            refine lv_goto (tgt := 19) hx hb dX5_digits_44 rfl ?_
            exact hC19 v2 z3 y4 S2 ls _ _ (lv_sub hl [2, 1, 0] rfl) hG hS h
  refine lv_iload_n hx hb dX5_digits_0 rfl (lv_at hl 1 rfl) ?_
  refine gc_i (va_runS (As := [.int x1]) (rest := []) ⟨hx, hb, hml, hown, hts⟩ (c_X5_isNumber l D κ A S x1 _ h) (va_cwS 1 hts gX5_digits_X5_isNumber rfl rfl rfl (by decide +kernel) ⟨Nat.le_of_ble_eq_true rfl, Nat.le_of_ble_eq_true rfl⟩) (pg_S hK hX hG (pg_A hA hS)) rfl rfl hl.1 rfl (lv_room (Nat.le_of_ble_eq_true rfl)) dX5_digits_1 ⟨Nat.le_of_ble_eq_true rfl, Nat.le_of_ble_eq_true rfl⟩) hS (fun z3 S2 H locs1 h hG hS => ?_)
  refine lv_if_eq (tgt := 12) hx hb dX5_digits_4 rfl (fun hc => ?_) (fun hc => ?_)
  · replace h := h.1 hc
    refine lv_iconst (v := (-1 : Int32)) hx hb dX5_digits_12 (by decide) ?_
    exact W.iret hx hb hr (gr_i h hG hK hX hS) hS.2.2 dX5_digits_13
  · replace h := h.2 hc
    refine lv_iload_n hx hb dX5_digits_7 rfl (lv_at hl 2 rfl) ?_
    refine lv_iconst (v := (-1 : Int32)) hx hb dX5_digits_8 (by decide) ?_
    refine lv_icmp_ge (tgt := 14) hx hb dX5_digits_9 rfl (fun hc => ?_) (fun hc => ?_)
    · replace h := h.1 hc
      refine lv_iload_n hx hb dX5_digits_14 rfl (lv_at hl 1 rfl) ?_
      refine lv_istore_n (lv' := [(3, .int x1), (0, .ref a0), (1, .int x1), (2, .int x2)]) hx hb dX5_digits_15 rfl hl (by decide) rfl (fun ls hl => ?_)
      refine lv_iconst (v := (0 : Int32)) hx hb dX5_digits_16 (by decide) ?_
      refine lv_istore (lv' := [(4, .int (0 : Int32)), (3, .int x1), (0, .ref a0), (1, .int x1), (2, .int x2)]) hx hb dX5_digits_17 hl (by decide) rfl (fun ls hl => ?_)
      obtain ⟨nn, h⟩ := h
      exact k_19  nn x2 x1 (0 : Int32) S2 ls _ _ (lv_sub hl [4, 1, 0] rfl) hG hS h
    · replace h := h.2 hc
      refine lv_iconst (v := (-1 : Int32)) hx hb dX5_digits_12 (by decide) ?_
      exact W.iret hx hb hr (gr_i h hG hK hX hS) hS.2.2 dX5_digits_13
set_option maxHeartbeats 4000000 in
set_option maxRecDepth 100000 in
theorem c_X5_added (l : Launch) (D : va_G) (κ : Nat → ClassId) (A : Nat → Prop) (S : Hp) (a0 : Nat) (x1 : Int32) (x2 : Int32) (Q : Int32 → Hp → Prop) (h : wp_X5_added a0 x1 x2 S Q) : Met l yX5_added wsX5_added ({ frames := 3, cells := 0, slots := 0, locals := 144 } : Room) (PG D κ A S [.ref a0, .int x1, .int x2]) (va_Qi Q (BG D κ A) A) 0 0 A := by
  refine Met.ofW (cc := cX5_added) (maxL := 9) (ret := (some .int)) (by decide) rfl ?_
  intro p e s m args below meth c s₁ B hml hv
  obtain ⟨hargs, hA, hG, hK, hX⟩ := hv
  have hx := B.exec
  have hb := B.bytes
  have hr := B.returns
  have hts := atoms_spec (ws := wsX5_added) B.pre
  have hown : s.vm.findClass RX5 = some m.cls := findClass_of_methodNamed B.named
  have hlocks := B.notSynchronized
  subst hargs
  clear B
  have hS : va_S A s.heap s.heap [] := va_S.rf
  have hl := lv_entry ([.ref a0, .int x1, .int x2]) (n := 9) (Nat.le_of_ble_eq_true rfl)
  rw [lg_entry_eq]
  generalize (lg_sl ([.ref a0, .int x1, .int x2]) ++ List.replicate (9 - (lg_sl ([.ref a0, .int x1, .int x2])).length) Slot.unset).toArray = ls at hl ⊢
  have hl : lv_has ls 9 [(0, .ref a0), (1, .int x1), (2, .int x2)] := hl
  have hG : GG D κ A S s.heap := hG
  have j_67 : ∀ (C30 : Int32 × Int32 × Int32 × Int32 × Int32 × Hp → Prop) (hC30 : ∀ (v3 : Int32) (v4 : Int32) (v5 : Int32) (v6 : Int32) (v7 : Int32) (S : Hp) (ls : Array Slot) (H : Heap) (locs : List Loc), lv_has ls 9 [(3, .int v3), (4, .int v4), (5, .int v5), (6, .int v6), (7, .int v7)] → GG D κ A S H → va_S A s.heap H locs → C30 (v3, v4, v5, v6, v7, S) → W p l e ({ frames := 3, cells := 0, slots := 0, locals := 144 } : Room) s m ([.ref a0, .int x1, .int x2] : List Value).toArray below meth c H locs 0 0 (MQ below (va_Qi Q (BG D κ A) A) ([.ref a0, .int x1, .int x2] : List Value).toArray s 0 0 A) (F0 m 30 ls [])) (v3 : Int32) (v4 : Int32) (v5 : Int32) (v6 : Int32) (v7 : Int32) (S : Hp) (ls : Array Slot) (H : Heap) (locs : List Loc), lv_has ls 9 [(3, .int v3), (4, .int v4), (5, .int v5), (6, .int v6), (7, .int v7)] → GG D κ A S H → va_S A s.heap H locs → J_X5_added_67 C30 Q v3 v4 v5 v6 v7 S → W p l e ({ frames := 3, cells := 0, slots := 0, locals := 144 } : Room) s m ([.ref a0, .int x1, .int x2] : List Value).toArray below meth c H locs 0 0 (MQ below (va_Qi Q (BG D κ A) A) ([.ref a0, .int x1, .int x2] : List Value).toArray s 0 0 A) (F0 m 67 ls []) := by
    intro C30 hC30 v3 v4 v5 v6 v7 S ls H locs hl hG hS h
    unfold J_X5_added_67 at h
    refine lv_iload_n hx hb dX5_added_67 rfl (lv_at hl 0 rfl) ?_
    refine gc_i (va_runS (As := [.int v3]) (rest := []) ⟨hx, hb, hml, hown, hts⟩ (c_X5_withoutLowest l D κ A S v3 _ h) (va_cwS 1 hts gX5_added_X5_withoutLowest rfl rfl rfl (by decide +kernel) ⟨Nat.le_of_ble_eq_true rfl, Nat.le_of_ble_eq_true rfl⟩) (pg_S hK hX hG (pg_A hA hS)) rfl rfl hl.1 rfl (lv_room (Nat.le_of_ble_eq_true rfl)) dX5_added_68 ⟨Nat.le_of_ble_eq_true rfl, Nat.le_of_ble_eq_true rfl⟩) hS (fun z3 S2 H locs1 h hG hS => ?_)
    refine lv_istore_n (lv' := [(3, .int z3), (4, .int v4), (5, .int v5), (6, .int v6), (7, .int v7)]) hx hb dX5_added_71 rfl hl (by decide) rfl (fun ls hl => ?_)
    refine lv_iload hx hb dX5_added_72 (lv_at hl 1 rfl) ?_
    refine gc_i (va_runS (As := [.int v4]) (rest := []) ⟨hx, hb, hml, hown, hts⟩ (c_X5_withoutLowest l D κ A S2 v4 _ h) (va_cwS 1 hts gX5_added_X5_withoutLowest rfl rfl rfl (by decide +kernel) ⟨Nat.le_of_ble_eq_true rfl, Nat.le_of_ble_eq_true rfl⟩) (pg_S hK hX hG (pg_A hA hS)) rfl rfl hl.1 rfl (lv_room (Nat.le_of_ble_eq_true rfl)) dX5_added_74 ⟨Nat.le_of_ble_eq_true rfl, Nat.le_of_ble_eq_true rfl⟩) hS (fun z6 S5 H locs4 h hG hS => ?_)
    refine lv_istore (lv' := [(4, .int z6), (3, .int z3), (5, .int v5), (6, .int v6), (7, .int v7)]) hx hb dX5_added_77 hl (by decide) rfl (fun ls hl => ?_)
    obtain ⟨y7, ey7⟩ : ∃ z, z = v7 + (1 : Int32) := ⟨_, rfl⟩
    replace h := h y7 ey7
    refine lv_iinc (v := y7) (lv' := [(7, .int y7), (4, .int z6), (3, .int z3), (5, .int v5), (6, .int v6)]) hx hb dX5_added_79 hl (k := 4) rfl (by rw [ey7]; rfl) (by decide) rfl (fun ls hl => ?_)
    refine lv_goto (tgt := 30) hx hb dX5_added_82 rfl ?_
    exact hC30 z3 z6 v5 v6 y7 S5 ls _ _ (lv_sub hl [2, 1, 3, 4, 0] rfl) hG hS h
  have k_30 : ∀  (n : Nat), ∀ (v3 : Int32) (v4 : Int32) (v5 : Int32) (v6 : Int32) (v7 : Int32) (S : Hp) (ls : Array Slot) (H : Heap) (locs : List Loc), lv_has ls 9 [(3, .int v3), (4, .int v4), (5, .int v5), (6, .int v6), (7, .int v7)] → GG D κ A S H → va_S A s.heap H locs → it (L_X5_added_30  Q) n (v3, v4, v5, v6, v7, S) → W p l e ({ frames := 3, cells := 0, slots := 0, locals := 144 } : Room) s m ([.ref a0, .int x1, .int x2] : List Value).toArray below meth c H locs 0 0 (MQ below (va_Qi Q (BG D κ A) A) ([.ref a0, .int x1, .int x2] : List Value).toArray s 0 0 A) (F0 m 30 ls []) := by
    intro  n
    induction n with
    | zero => intro v3 v4 v5 v6 v7 S ls H locs hl hG hS h; exact False.elim h
    | succ n hC30 =>
      intro v3 v4 v5 v6 v7 S ls H locs hl hG hS h
      replace h : L_X5_added_30  Q (it (L_X5_added_30  Q) n) (v3, v4, v5, v6, v7, S) := h
      simp only [L_X5_added_30] at h
      refine lv_iload hx hb dX5_added_30 (lv_at hl 4 rfl) ?_
      refine lv_bipush (v := (10 : Int32)) hx hb dX5_added_32 (by decide) ?_
      refine lv_icmp_ge (tgt := 85) hx hb dX5_added_34 rfl (fun hc => ?_) (fun hc => ?_)
      · replace h := h.1 hc
        refine lv_iload hx hb dX5_added_85 (lv_at hl 3 rfl) ?_
        exact W.iret hx hb hr (gr_i h hG hK hX hS) hS.2.2 dX5_added_87
      · replace h := h.2 hc
        refine lv_iload_n hx hb dX5_added_37 rfl (lv_at hl 0 rfl) ?_
        refine gc_i (va_runS (As := [.int v3]) (rest := []) ⟨hx, hb, hml, hown, hts⟩ (c_X5_lowestDigit l D κ A S v3 _ h) (va_cwS 1 hts gX5_added_X5_lowestDigit rfl rfl rfl (by decide +kernel) ⟨Nat.le_of_ble_eq_true rfl, Nat.le_of_ble_eq_true rfl⟩) (pg_S hK hX hG (pg_A hA hS)) rfl rfl hl.1 rfl (lv_room (Nat.le_of_ble_eq_true rfl)) dX5_added_38 ⟨Nat.le_of_ble_eq_true rfl, Nat.le_of_ble_eq_true rfl⟩) hS (fun z3 S2 H locs1 h hG hS => ?_)
        refine lv_iload hx hb dX5_added_41 (lv_at hl 1 rfl) ?_
        refine gc_i (va_runS (As := [.int v4]) (rest := [.int z3]) ⟨hx, hb, hml, hown, hts⟩ (c_X5_lowestDigit l D κ A S2 v4 _ h) (va_cwS 1 hts gX5_added_X5_lowestDigit rfl rfl rfl (by decide +kernel) ⟨Nat.le_of_ble_eq_true rfl, Nat.le_of_ble_eq_true rfl⟩) (pg_S hK hX hG (pg_A hA hS)) rfl rfl hl.1 rfl (lv_room (Nat.le_of_ble_eq_true rfl)) dX5_added_43 ⟨Nat.le_of_ble_eq_true rfl, Nat.le_of_ble_eq_true rfl⟩) hS (fun z6 S5 H locs4 h hG hS => ?_)
        refine lv_iadd hx hb dX5_added_46 ?_
        refine lv_iload hx hb dX5_added_47 (lv_at hl 2 rfl) ?_
        refine lv_iadd hx hb dX5_added_49 ?_
        refine lv_topi (fun y7 ey7 => ?_)
        replace h := h y7 ey7
        refine lv_istore (lv' := [(8, .int y7), (3, .int v3), (4, .int v4), (5, .int v5), (6, .int v6), (7, .int v7)]) hx hb dX5_added_50 hl (by decide) rfl (fun ls hl => ?_)
        refine lv_iload hx hb dX5_added_52 (lv_at hl 0 rfl) ?_
        refine gc_i (va_runS (As := [.int y7]) (rest := []) ⟨hx, hb, hml, hown, hts⟩ (c_X5_withoutLowest l D κ A S5 y7 _ h) (va_cwS 1 hts gX5_added_X5_withoutLowest rfl rfl rfl (by decide +kernel) ⟨Nat.le_of_ble_eq_true rfl, Nat.le_of_ble_eq_true rfl⟩) (pg_S hK hX hG (pg_A hA hS)) rfl rfl hl.1 rfl (lv_room (Nat.le_of_ble_eq_true rfl)) dX5_added_54 ⟨Nat.le_of_ble_eq_true rfl, Nat.le_of_ble_eq_true rfl⟩) hS (fun z10 S9 H locs8 h hG hS => ?_)
        refine lv_istore (lv' := [(5, .int z10), (8, .int y7), (3, .int v3), (4, .int v4), (6, .int v6), (7, .int v7)]) hx hb dX5_added_57 hl (by decide) rfl (fun ls hl => ?_)
        refine lv_iload hx hb dX5_added_59 (lv_at hl 0 rfl) ?_
        refine lv_if_eq (tgt := 67) hx hb dX5_added_61 rfl (fun hc => ?_) (fun hc => ?_)
        · replace h := h.1 hc
          exact j_67 _ hC30 v3 v4 z10 v6 v7 S9 ls _ _ (lv_sub hl [2, 3, 0, 4, 5] rfl) hG hS h
        · replace h := h.2 hc
          obtain ⟨y11, ey11⟩ : ∃ z, z = v6 + (1 : Int32) := ⟨_, rfl⟩
          replace h := h y11 ey11
          refine lv_iinc (v := y11) (lv' := [(6, .int y11), (5, .int z10), (8, .int y7), (3, .int v3), (4, .int v4), (7, .int v7)]) hx hb dX5_added_64 hl (k := 4) rfl (by rw [ey11]; rfl) (by decide) rfl (fun ls hl => ?_)
          exact j_67 _ hC30 v3 v4 z10 y11 v7 S9 ls _ _ (lv_sub hl [3, 4, 1, 0, 5] rfl) hG hS h
  refine lv_iload_n hx hb dX5_added_0 rfl (lv_at hl 1 rfl) ?_
  refine gc_i (va_runS (As := [.int x1]) (rest := []) ⟨hx, hb, hml, hown, hts⟩ (c_X5_isNumber l D κ A S x1 _ h) (va_cwS 1 hts gX5_added_X5_isNumber rfl rfl rfl (by decide +kernel) ⟨Nat.le_of_ble_eq_true rfl, Nat.le_of_ble_eq_true rfl⟩) (pg_S hK hX hG (pg_A hA hS)) rfl rfl hl.1 rfl (lv_room (Nat.le_of_ble_eq_true rfl)) dX5_added_1 ⟨Nat.le_of_ble_eq_true rfl, Nat.le_of_ble_eq_true rfl⟩) hS (fun z3 S2 H locs1 h hG hS => ?_)
  refine lv_if_eq (tgt := 14) hx hb dX5_added_4 rfl (fun hc => ?_) (fun hc => ?_)
  · replace h := h.1 hc
    refine lv_iconst (v := (-1 : Int32)) hx hb dX5_added_14 (by decide) ?_
    exact W.iret hx hb hr (gr_i h hG hK hX hS) hS.2.2 dX5_added_15
  · replace h := h.2 hc
    refine lv_iload_n hx hb dX5_added_7 rfl (lv_at hl 2 rfl) ?_
    refine gc_i (va_runS (As := [.int x2]) (rest := []) ⟨hx, hb, hml, hown, hts⟩ (c_X5_isNumber l D κ A S2 x2 _ h) (va_cwS 1 hts gX5_added_X5_isNumber rfl rfl rfl (by decide +kernel) ⟨Nat.le_of_ble_eq_true rfl, Nat.le_of_ble_eq_true rfl⟩) (pg_S hK hX hG (pg_A hA hS)) rfl rfl hl.1 rfl (lv_room (Nat.le_of_ble_eq_true rfl)) dX5_added_8 ⟨Nat.le_of_ble_eq_true rfl, Nat.le_of_ble_eq_true rfl⟩) hS (fun z6 S5 H locs4 h hG hS => ?_)
    refine lv_if_ne (tgt := 16) hx hb dX5_added_11 rfl (fun hc => ?_) (fun hc => ?_)
    · replace h := h.1 hc
      refine lv_iload_n hx hb dX5_added_16 rfl (lv_at hl 1 rfl) ?_
      refine lv_istore_n (lv' := [(3, .int x1), (0, .ref a0), (1, .int x1), (2, .int x2)]) hx hb dX5_added_17 rfl hl (by decide) rfl (fun ls hl => ?_)
      refine lv_iload_n hx hb dX5_added_18 rfl (lv_at hl 3 rfl) ?_
      refine lv_istore (lv' := [(4, .int x2), (3, .int x1), (0, .ref a0), (1, .int x1), (2, .int x2)]) hx hb dX5_added_19 hl (by decide) rfl (fun ls hl => ?_)
      refine lv_iconst (v := (0 : Int32)) hx hb dX5_added_21 (by decide) ?_
      refine lv_istore (lv' := [(5, .int (0 : Int32)), (4, .int x2), (3, .int x1), (0, .ref a0), (1, .int x1), (2, .int x2)]) hx hb dX5_added_22 hl (by decide) rfl (fun ls hl => ?_)
      refine lv_iconst (v := (0 : Int32)) hx hb dX5_added_24 (by decide) ?_
      refine lv_istore (lv' := [(6, .int (0 : Int32)), (5, .int (0 : Int32)), (4, .int x2), (3, .int x1), (0, .ref a0), (1, .int x1), (2, .int x2)]) hx hb dX5_added_25 hl (by decide) rfl (fun ls hl => ?_)
      refine lv_iconst (v := (0 : Int32)) hx hb dX5_added_27 (by decide) ?_
      refine lv_istore (lv' := [(7, .int (0 : Int32)), (6, .int (0 : Int32)), (5, .int (0 : Int32)), (4, .int x2), (3, .int x1), (0, .ref a0), (1, .int x1), (2, .int x2)]) hx hb dX5_added_28 hl (by decide) rfl (fun ls hl => ?_)
      obtain ⟨nn, h⟩ := h
      exact k_30  nn x1 x2 (0 : Int32) (0 : Int32) (0 : Int32) S5 ls _ _ (lv_sub hl [4, 3, 2, 1, 0] rfl) hG hS h
    · replace h := h.2 hc
      refine lv_iconst (v := (-1 : Int32)) hx hb dX5_added_14 (by decide) ?_
      exact W.iret hx hb hr (gr_i h hG hK hX hS) hS.2.2 dX5_added_15
set_option maxHeartbeats 4000000 in
set_option maxRecDepth 100000 in
theorem c_X5_haveAll (l : Launch) (D : va_G) (κ : Nat → ClassId) (A : Nat → Prop) (S : Hp) (x0 : Int32) (x1 : Int32) (x2 : Int32) (x3 : Int32) (Q : Int32 → Hp → Prop) (h : wp_X5_haveAll x0 x1 x2 x3 S Q) : Met l yX5_haveAll wsX5_haveAll ({ frames := 2, cells := 0, slots := 0, locals := 96 } : Room) (PG D κ A S [.int x0, .int x1, .int x2, .int x3]) (va_Qi Q (BG D κ A) A) 0 0 A := by
  refine Met.ofW (cc := cX5_haveAll) (maxL := 9) (ret := (some .boolean)) (by decide) rfl ?_
  intro p e s m args below meth c s₁ B hml hv
  obtain ⟨hargs, hA, hG, hK, hX⟩ := hv
  have hx := B.exec
  have hb := B.bytes
  have hr := B.returns
  have hts := atoms_spec (ws := wsX5_haveAll) B.pre
  have hown : s.vm.findClass RX5 = some m.cls := findClass_of_methodNamed B.named
  have hlocks := B.notSynchronized
  subst hargs
  clear B
  have hS : va_S A s.heap s.heap [] := va_S.rf
  have hl := lv_entry ([.int x0, .int x1, .int x2, .int x3]) (n := 9) (Nat.le_of_ble_eq_true rfl)
  rw [lg_entry_eq]
  generalize (lg_sl ([.int x0, .int x1, .int x2, .int x3]) ++ List.replicate (9 - (lg_sl ([.int x0, .int x1, .int x2, .int x3])).length) Slot.unset).toArray = ls at hl ⊢
  have hl : lv_has ls 9 [(0, .int x0), (1, .int x1), (2, .int x2), (3, .int x3)] := hl
  have hG : GG D κ A S s.heap := hG
  have k_26 : ∀  (n : Nat), ∀ (v2 : Int32) (v3 : Int32) (v4 : Int64) (v6 : Int32) (S : Hp) (ls : Array Slot) (H : Heap) (locs : List Loc), lv_has ls 9 [(2, .int v2), (3, .int v3), (4, .long v4), (6, .int v6)] → GG D κ A S H → va_S A s.heap H locs → it (L_X5_haveAll_26  Q) n (v2, v3, v4, v6, S) → W p l e ({ frames := 2, cells := 0, slots := 0, locals := 96 } : Room) s m ([.int x0, .int x1, .int x2, .int x3] : List Value).toArray below meth c H locs 0 0 (MQ below (va_Qi Q (BG D κ A) A) ([.int x0, .int x1, .int x2, .int x3] : List Value).toArray s 0 0 A) (F0 m 26 ls []) := by
    intro  n
    induction n with
    | zero => intro v2 v3 v4 v6 S ls H locs hl hG hS h; exact False.elim h
    | succ n hC26 =>
      intro v2 v3 v4 v6 S ls H locs hl hG hS h
      replace h : L_X5_haveAll_26  Q (it (L_X5_haveAll_26  Q) n) (v2, v3, v4, v6, S) := h
      simp only [L_X5_haveAll_26] at h
      refine lv_iload hx hb dX5_haveAll_26 (lv_at hl 3 rfl) ?_
      refine lv_iload_n hx hb dX5_haveAll_28 rfl (lv_at hl 1 rfl) ?_
      refine lv_icmp_gt (tgt := 75) hx hb dX5_haveAll_29 rfl (fun hc => ?_) (fun hc => ?_)
      · replace h := h.1 hc
        refine lv_iconst (v := (1 : Int32)) hx hb dX5_haveAll_75 (by decide) ?_
        exact W.zret (ty := .boolean) hx hb hr (by decide) (gr_i h hG hK hX hS) hS.2.2 dX5_haveAll_76
      · replace h := h.2 hc
        refine lv_lload hx hb dX5_haveAll_32 (lv_at hl 2 rfl) ?_
        refine lv_iload hx hb dX5_haveAll_34 (lv_at hl 3 rfl) ?_
        refine lv_lshr (v := (v4 >>> ((v6).toInt64 &&& 63))) hx hb dX5_haveAll_36 rfl ?_
        refine lv_lload hx hb dX5_haveAll_37 (lv_at hl 2 rfl) ?_
        refine lv_iload hx hb dX5_haveAll_39 (lv_at hl 3 rfl) ?_
        refine lv_iload_n hx hb dX5_haveAll_41 rfl (lv_at hl 0 rfl) ?_
        refine lv_isub hx hb dX5_haveAll_42 ?_
        refine va_mabs hx hb (hml.trans hl.1.symm) hown (hts (.methodLink RX5 305 Lib.Math.abs.name) (List.mem_of_getElem? (i := 1) rfl)) (hts (.static Lib.Math.abs.name) (List.mem_of_getElem? (i := 2) rfl)) (hts (.initialized "java/lang/Math") (List.mem_of_getElem? (i := 3) rfl)) (hts (.code Lib.Math.abs.name Lib.Math.abs.code 1 (some .int)) (List.mem_of_getElem? (i := 4) rfl)) (Nat.le_of_ble_eq_true rfl) (Nat.le_of_ble_eq_true rfl) (Nat.le_of_ble_eq_true rfl) (Nat.le_of_ble_eq_true rfl) dX5_haveAll_43 ?_
        refine lv_lshr (v := (v4 >>> (((if 0 ≤ (v6 - v2) then (v6 - v2) else 0 - (v6 - v2))).toInt64 &&& 63))) hx hb dX5_haveAll_46 rfl ?_
        refine lv_lor hx hb dX5_haveAll_47 ?_
        refine lv_lload hx hb dX5_haveAll_48 (lv_at hl 2 rfl) ?_
        refine lv_iload hx hb dX5_haveAll_50 (lv_at hl 3 rfl) ?_
        refine lv_iload_n hx hb dX5_haveAll_52 rfl (lv_at hl 0 rfl) ?_
        refine lv_iadd hx hb dX5_haveAll_53 ?_
        refine lv_lshr (v := (v4 >>> (((v6 + v2)).toInt64 &&& 63))) hx hb dX5_haveAll_54 rfl ?_
        refine lv_lor hx hb dX5_haveAll_55 ?_
        refine lv_topl (fun y2 ey2 => ?_)
        replace h := h y2 ey2
        refine lv_lstore (lv' := [(7, .long y2), (2, .int v2), (3, .int v3), (4, .long v4), (6, .int v6)]) hx hb dX5_haveAll_56 hl (by decide) rfl (fun ls hl => ?_)
        refine lv_lload hx hb dX5_haveAll_58 (lv_at hl 0 rfl) ?_
        refine lv_lconst (v := (1 : Int64)) hx hb dX5_haveAll_60 (by decide) ?_
        refine lv_land hx hb dX5_haveAll_61 ?_
        refine lv_lconst (v := (0 : Int64)) hx hb dX5_haveAll_62 (by decide) ?_
        refine W.lcmp hx hb dX5_haveAll_63 ?_
        refine lv_if_ne (tgt := 69) hx hb dX5_haveAll_64 rfl (fun hc => ?_) (fun hc => ?_)
        · replace h := h.1 hc
          obtain ⟨y3, ey3⟩ : ∃ z, z = v6 + (1 : Int32) := ⟨_, rfl⟩
          replace h := h y3 ey3
          refine lv_iinc (v := y3) (lv' := [(6, .int y3), (7, .long y2), (2, .int v2), (3, .int v3), (4, .long v4)]) hx hb dX5_haveAll_69 hl (k := 4) rfl (by rw [ey3]; rfl) (by decide) rfl (fun ls hl => ?_)
          refine lv_goto (tgt := 26) hx hb dX5_haveAll_72 rfl ?_
          exact hC26 v2 v3 v4 y3 S ls _ _ (lv_sub hl [2, 3, 4, 0] rfl) hG hS h
        · replace h := h.2 hc
          refine lv_iconst (v := (0 : Int32)) hx hb dX5_haveAll_67 (by decide) ?_
          exact W.zret (ty := .boolean) hx hb hr (by decide) (gr_i h hG hK hX hS) hS.2.2 dX5_haveAll_68
  refine lv_lconst (v := (1 : Int64)) hx hb dX5_haveAll_0 (by decide) ?_
  refine lv_lconst (v := (1 : Int64)) hx hb dX5_haveAll_1 (by decide) ?_
  refine lv_iload_n hx hb dX5_haveAll_2 rfl (lv_at hl 0 rfl) ?_
  refine lv_lshl (v := ((1 : Int64) <<< ((x0).toInt64 &&& 63))) hx hb dX5_haveAll_3 rfl ?_
  refine lv_lor hx hb dX5_haveAll_4 ?_
  refine lv_lconst (v := (1 : Int64)) hx hb dX5_haveAll_5 (by decide) ?_
  refine lv_iload_n hx hb dX5_haveAll_6 rfl (lv_at hl 1 rfl) ?_
  refine lv_lshl (v := ((1 : Int64) <<< ((x1).toInt64 &&& 63))) hx hb dX5_haveAll_7 rfl ?_
  refine lv_lor hx hb dX5_haveAll_8 ?_
  refine lv_lconst (v := (1 : Int64)) hx hb dX5_haveAll_9 (by decide) ?_
  refine lv_iload_n hx hb dX5_haveAll_10 rfl (lv_at hl 1 rfl) ?_
  refine lv_iload_n hx hb dX5_haveAll_11 rfl (lv_at hl 0 rfl) ?_
  refine lv_isub hx hb dX5_haveAll_12 ?_
  refine lv_lshl (v := ((1 : Int64) <<< (((x1 - x0)).toInt64 &&& 63))) hx hb dX5_haveAll_13 rfl ?_
  refine lv_lor hx hb dX5_haveAll_14 ?_
  refine lv_lconst (v := (1 : Int64)) hx hb dX5_haveAll_15 (by decide) ?_
  refine lv_iload_n hx hb dX5_haveAll_16 rfl (lv_at hl 1 rfl) ?_
  refine lv_iload_n hx hb dX5_haveAll_17 rfl (lv_at hl 0 rfl) ?_
  refine lv_iadd hx hb dX5_haveAll_18 ?_
  refine lv_lshl (v := ((1 : Int64) <<< (((x1 + x0)).toInt64 &&& 63))) hx hb dX5_haveAll_19 rfl ?_
  refine lv_lor hx hb dX5_haveAll_20 ?_
  refine lv_topl (fun y1 ey1 => ?_)
  replace h := h y1 ey1
  refine lv_lstore (lv' := [(4, .long y1), (0, .int x0), (1, .int x1), (2, .int x2), (3, .int x3)]) hx hb dX5_haveAll_21 hl (by decide) rfl (fun ls hl => ?_)
  refine lv_iconst (v := (1 : Int32)) hx hb dX5_haveAll_23 (by decide) ?_
  refine lv_istore (lv' := [(6, .int (1 : Int32)), (4, .long y1), (0, .int x0), (1, .int x1), (2, .int x2), (3, .int x3)]) hx hb dX5_haveAll_24 hl (by decide) rfl (fun ls hl => ?_)
  obtain ⟨nn, h⟩ := h
  exact k_26  nn x2 x3 y1 (1 : Int32) S ls _ _ (lv_sub hl [4, 5, 1, 0] rfl) hG hS h
set_option maxHeartbeats 4000000 in
set_option maxRecDepth 100000 in
theorem c_X5_searchSets (l : Launch) (D : va_G) (κ : Nat → ClassId) (A : Nat → Prop) (S : Hp) (x0 : Int32) (x1 : Int32) (x2 : Int32) (x3 : Int32) (Q : Int32 → Hp → Prop) (h : wp_X5_searchSets x0 x1 x2 x3 S Q) : Met l yX5_searchSets wsX5_searchSets ({ frames := 3, cells := 0, slots := 0, locals := 144 } : Room) (PG D κ A S [.int x0, .int x1, .int x2, .int x3]) (va_Qi Q (BG D κ A) A) 0 0 A := by
  refine Met.ofW (cc := cX5_searchSets) (maxL := 10) (ret := (some .int)) (by decide) rfl ?_
  intro p e s m args below meth c s₁ B hml hv
  obtain ⟨hargs, hA, hG, hK, hX⟩ := hv
  have hx := B.exec
  have hb := B.bytes
  have hr := B.returns
  have hts := atoms_spec (ws := wsX5_searchSets) B.pre
  have hown : s.vm.findClass RX5 = some m.cls := findClass_of_methodNamed B.named
  have hlocks := B.notSynchronized
  subst hargs
  clear B
  have hS : va_S A s.heap s.heap [] := va_S.rf
  have hl := lv_entry ([.int x0, .int x1, .int x2, .int x3]) (n := 10) (Nat.le_of_ble_eq_true rfl)
  rw [lg_entry_eq]
  generalize (lg_sl ([.int x0, .int x1, .int x2, .int x3]) ++ List.replicate (10 - (lg_sl ([.int x0, .int x1, .int x2, .int x3])).length) Slot.unset).toArray = ls at hl ⊢
  have hl : lv_has ls 10 [(0, .int x0), (1, .int x1), (2, .int x2), (3, .int x3)] := hl
  have hG : GG D κ A S s.heap := hG
  have j_119 : ∀ (C39 : Int32 × Int32 × Int32 × Int32 × Int32 × Int32 × Int32 × Int32 × Hp → Prop) (hC39 : ∀ (v0 : Int32) (v1 : Int32) (v2 : Int32) (v3 : Int32) (v4 : Int32) (v5 : Int32) (v6 : Int32) (v7 : Int32) (S : Hp) (ls : Array Slot) (H : Heap) (locs : List Loc), lv_has ls 10 [(0, .int v0), (1, .int v1), (2, .int v2), (3, .int v3), (4, .int v4), (5, .int v5), (6, .int v6), (7, .int v7)] → GG D κ A S H → va_S A s.heap H locs → C39 (v0, v1, v2, v3, v4, v5, v6, v7, S) → W p l e ({ frames := 3, cells := 0, slots := 0, locals := 144 } : Room) s m ([.int x0, .int x1, .int x2, .int x3] : List Value).toArray below meth c H locs 0 0 (MQ below (va_Qi Q (BG D κ A) A) ([.int x0, .int x1, .int x2, .int x3] : List Value).toArray s 0 0 A) (F0 m 39 ls [])) (C61 : Int32 × Int32 × Int32 × Int32 × Int32 × Int32 × Int32 × Int32 × Int32 × Hp → Prop) (hC61 : ∀ (v0 : Int32) (v1 : Int32) (v2 : Int32) (v3 : Int32) (v4 : Int32) (v5 : Int32) (v6 : Int32) (v7 : Int32) (v8 : Int32) (S : Hp) (ls : Array Slot) (H : Heap) (locs : List Loc), lv_has ls 10 [(0, .int v0), (1, .int v1), (2, .int v2), (3, .int v3), (4, .int v4), (5, .int v5), (6, .int v6), (7, .int v7), (8, .int v8)] → GG D κ A S H → va_S A s.heap H locs → C61 (v0, v1, v2, v3, v4, v5, v6, v7, v8, S) → W p l e ({ frames := 3, cells := 0, slots := 0, locals := 144 } : Room) s m ([.int x0, .int x1, .int x2, .int x3] : List Value).toArray below meth c H locs 0 0 (MQ below (va_Qi Q (BG D κ A) A) ([.int x0, .int x1, .int x2, .int x3] : List Value).toArray s 0 0 A) (F0 m 61 ls [])) (C74 : Int32 × Int32 × Int32 × Int32 × Int32 × Int32 × Int32 × Int32 × Int32 × Int32 × Hp → Prop) (hC74 : ∀ (v0 : Int32) (v1 : Int32) (v2 : Int32) (v3 : Int32) (v4 : Int32) (v5 : Int32) (v6 : Int32) (v7 : Int32) (v8 : Int32) (v9 : Int32) (S : Hp) (ls : Array Slot) (H : Heap) (locs : List Loc), lv_has ls 10 [(0, .int v0), (1, .int v1), (2, .int v2), (3, .int v3), (4, .int v4), (5, .int v5), (6, .int v6), (7, .int v7), (8, .int v8), (9, .int v9)] → GG D κ A S H → va_S A s.heap H locs → C74 (v0, v1, v2, v3, v4, v5, v6, v7, v8, v9, S) → W p l e ({ frames := 3, cells := 0, slots := 0, locals := 144 } : Room) s m ([.int x0, .int x1, .int x2, .int x3] : List Value).toArray below meth c H locs 0 0 (MQ below (va_Qi Q (BG D κ A) A) ([.int x0, .int x1, .int x2, .int x3] : List Value).toArray s 0 0 A) (F0 m 74 ls [])) (v0 : Int32) (v1 : Int32) (v2 : Int32) (v3 : Int32) (v4 : Int32) (v5 : Int32) (v6 : Int32) (v7 : Int32) (v8 : Int32) (v9 : Int32) (S : Hp) (ls : Array Slot) (H : Heap) (locs : List Loc), lv_has ls 10 [(0, .int v0), (1, .int v1), (2, .int v2), (3, .int v3), (4, .int v4), (5, .int v5), (6, .int v6), (7, .int v7), (8, .int v8), (9, .int v9)] → GG D κ A S H → va_S A s.heap H locs → J_X5_searchSets_119 C39 C61 C74 Q v0 v1 v2 v3 v4 v5 v6 v7 v8 v9 S → W p l e ({ frames := 3, cells := 0, slots := 0, locals := 144 } : Room) s m ([.int x0, .int x1, .int x2, .int x3] : List Value).toArray below meth c H locs 0 0 (MQ below (va_Qi Q (BG D κ A) A) ([.int x0, .int x1, .int x2, .int x3] : List Value).toArray s 0 0 A) (F0 m 119 ls []) := by
    intro C39 hC39 C61 hC61 C74 hC74 v0 v1 v2 v3 v4 v5 v6 v7 v8 v9 S ls H locs hl hG hS h
    unfold J_X5_searchSets_119 at h
    obtain ⟨y1, ey1⟩ : ∃ z, z = v9 + (1 : Int32) := ⟨_, rfl⟩
    replace h := h y1 ey1
    refine lv_iinc (v := y1) (lv' := [(9, .int y1), (0, .int v0), (1, .int v1), (2, .int v2), (3, .int v3), (4, .int v4), (5, .int v5), (6, .int v6), (7, .int v7), (8, .int v8)]) hx hb dX5_searchSets_119 hl (k := 9) rfl (by rw [ey1]; rfl) (by decide) rfl (fun ls hl => ?_)
    refine lv_goto (tgt := 74) hx hb dX5_searchSets_122 rfl ?_
    exact hC74 v0 v1 v2 v3 v4 v5 v6 v7 v8 y1 S ls _ _ (lv_sub hl [1, 2, 3, 4, 5, 6, 7, 8, 9, 0] rfl) hG hS h
  have k_74 : ∀ (C39 : Int32 × Int32 × Int32 × Int32 × Int32 × Int32 × Int32 × Int32 × Hp → Prop) (hC39 : ∀ (v0 : Int32) (v1 : Int32) (v2 : Int32) (v3 : Int32) (v4 : Int32) (v5 : Int32) (v6 : Int32) (v7 : Int32) (S : Hp) (ls : Array Slot) (H : Heap) (locs : List Loc), lv_has ls 10 [(0, .int v0), (1, .int v1), (2, .int v2), (3, .int v3), (4, .int v4), (5, .int v5), (6, .int v6), (7, .int v7)] → GG D κ A S H → va_S A s.heap H locs → C39 (v0, v1, v2, v3, v4, v5, v6, v7, S) → W p l e ({ frames := 3, cells := 0, slots := 0, locals := 144 } : Room) s m ([.int x0, .int x1, .int x2, .int x3] : List Value).toArray below meth c H locs 0 0 (MQ below (va_Qi Q (BG D κ A) A) ([.int x0, .int x1, .int x2, .int x3] : List Value).toArray s 0 0 A) (F0 m 39 ls [])) (C61 : Int32 × Int32 × Int32 × Int32 × Int32 × Int32 × Int32 × Int32 × Int32 × Hp → Prop) (hC61 : ∀ (v0 : Int32) (v1 : Int32) (v2 : Int32) (v3 : Int32) (v4 : Int32) (v5 : Int32) (v6 : Int32) (v7 : Int32) (v8 : Int32) (S : Hp) (ls : Array Slot) (H : Heap) (locs : List Loc), lv_has ls 10 [(0, .int v0), (1, .int v1), (2, .int v2), (3, .int v3), (4, .int v4), (5, .int v5), (6, .int v6), (7, .int v7), (8, .int v8)] → GG D κ A S H → va_S A s.heap H locs → C61 (v0, v1, v2, v3, v4, v5, v6, v7, v8, S) → W p l e ({ frames := 3, cells := 0, slots := 0, locals := 144 } : Room) s m ([.int x0, .int x1, .int x2, .int x3] : List Value).toArray below meth c H locs 0 0 (MQ below (va_Qi Q (BG D κ A) A) ([.int x0, .int x1, .int x2, .int x3] : List Value).toArray s 0 0 A) (F0 m 61 ls [])) (n : Nat), ∀ (v0 : Int32) (v1 : Int32) (v2 : Int32) (v3 : Int32) (v4 : Int32) (v5 : Int32) (v6 : Int32) (v7 : Int32) (v8 : Int32) (v9 : Int32) (S : Hp) (ls : Array Slot) (H : Heap) (locs : List Loc), lv_has ls 10 [(0, .int v0), (1, .int v1), (2, .int v2), (3, .int v3), (4, .int v4), (5, .int v5), (6, .int v6), (7, .int v7), (8, .int v8), (9, .int v9)] → GG D κ A S H → va_S A s.heap H locs → it (L_X5_searchSets_74 C39 C61 Q) n (v0, v1, v2, v3, v4, v5, v6, v7, v8, v9, S) → W p l e ({ frames := 3, cells := 0, slots := 0, locals := 144 } : Room) s m ([.int x0, .int x1, .int x2, .int x3] : List Value).toArray below meth c H locs 0 0 (MQ below (va_Qi Q (BG D κ A) A) ([.int x0, .int x1, .int x2, .int x3] : List Value).toArray s 0 0 A) (F0 m 74 ls []) := by
    intro C39 hC39 C61 hC61 n
    induction n with
    | zero => intro v0 v1 v2 v3 v4 v5 v6 v7 v8 v9 S ls H locs hl hG hS h; exact False.elim h
    | succ n hC74 =>
      intro v0 v1 v2 v3 v4 v5 v6 v7 v8 v9 S ls H locs hl hG hS h
      replace h : L_X5_searchSets_74 C39 C61 Q (it (L_X5_searchSets_74 C39 C61 Q) n) (v0, v1, v2, v3, v4, v5, v6, v7, v8, v9, S) := h
      simp only [L_X5_searchSets_74] at h
      refine lv_iload hx hb dX5_searchSets_74 (lv_at hl 9 rfl) ?_
      refine lv_iload_n hx hb dX5_searchSets_76 rfl (lv_at hl 1 rfl) ?_
      refine lv_icmp_gt (tgt := 125) hx hb dX5_searchSets_77 rfl (fun hc => ?_) (fun hc => ?_)
      · replace h := h.1 hc
        obtain ⟨y1, ey1⟩ : ∃ z, z = v8 + (1 : Int32) := ⟨_, rfl⟩
        replace h := h y1 ey1
        refine lv_iinc (v := y1) (lv' := [(8, .int y1), (0, .int v0), (1, .int v1), (2, .int v2), (3, .int v3), (4, .int v4), (5, .int v5), (6, .int v6), (7, .int v7), (9, .int v9)]) hx hb dX5_searchSets_125 hl (k := 8) rfl (by rw [ey1]; rfl) (by decide) rfl (fun ls hl => ?_)
        refine lv_goto (tgt := 61) hx hb dX5_searchSets_128 rfl ?_
        exact hC61 v0 v1 v2 v3 v4 v5 v6 v7 y1 S ls _ _ (lv_sub hl [1, 2, 3, 4, 5, 6, 7, 8, 0] rfl) hG hS h
      · replace h := h.2 hc
        refine lv_iload hx hb dX5_searchSets_80 (lv_at hl 7 rfl) ?_
        refine lv_iload hx hb dX5_searchSets_82 (lv_at hl 8 rfl) ?_
        refine lv_iload hx hb dX5_searchSets_84 (lv_at hl 9 rfl) ?_
        refine lv_iload_n hx hb dX5_searchSets_86 rfl (lv_at hl 2 rfl) ?_
        refine gc_i (va_runS (As := [.int v7, .int v8, .int v9, .int v2]) (rest := []) ⟨hx, hb, hml, hown, hts⟩ (c_X5_haveAll l D κ A S v7 v8 v9 v2 _ h) (va_cwS 4 hts gX5_searchSets_X5_haveAll rfl rfl rfl (by decide +kernel) ⟨Nat.le_of_ble_eq_true rfl, Nat.le_of_ble_eq_true rfl⟩) (pg_S hK hX hG (pg_A hA hS)) rfl rfl hl.1 rfl (lv_room (Nat.le_of_ble_eq_true rfl)) dX5_searchSets_87 ⟨Nat.le_of_ble_eq_true rfl, Nat.le_of_ble_eq_true rfl⟩) hS (fun z4 S3 H locs2 h hG hS => ?_)
        refine lv_if_ne (tgt := 96) hx hb dX5_searchSets_90 rfl (fun hc => ?_) (fun hc => ?_)
        · replace h := h.1 hc
          refine lv_iload_n hx hb dX5_searchSets_96 rfl (lv_at hl 3 rfl) ?_
          refine lv_if_eq (tgt := 116) hx hb dX5_searchSets_97 rfl (fun hc => ?_) (fun hc => ?_)
          · replace h := h.1 hc
            obtain ⟨y5, ey5⟩ : ∃ z, z = v4 + (1 : Int32) := ⟨_, rfl⟩
            replace h := h y5 ey5
            refine lv_iinc (v := y5) (lv' := [(4, .int y5), (0, .int v0), (1, .int v1), (2, .int v2), (3, .int v3), (5, .int v5), (6, .int v6), (7, .int v7), (8, .int v8), (9, .int v9)]) hx hb dX5_searchSets_116 hl (k := 4) rfl (by rw [ey5]; rfl) (by decide) rfl (fun ls hl => ?_)
            exact j_119 _ hC39 _ hC61 _ hC74 v0 v1 v2 v3 y5 v5 v6 v7 v8 v9 S3 ls _ _ (lv_sub hl [1, 2, 3, 4, 0, 5, 6, 7, 8, 9] rfl) hG hS h
          · replace h := h.2 hc
            refine lv_iload hx hb dX5_searchSets_100 (lv_at hl 7 rfl) ?_
            refine lv_sipush (v := (10000 : Int32)) hx hb dX5_searchSets_102 (by decide) ?_
            refine lv_imul hx hb dX5_searchSets_105 ?_
            refine lv_iload hx hb dX5_searchSets_106 (lv_at hl 8 rfl) ?_
            refine lv_bipush (v := (100 : Int32)) hx hb dX5_searchSets_108 (by decide) ?_
            refine lv_imul hx hb dX5_searchSets_110 ?_
            refine lv_iadd hx hb dX5_searchSets_111 ?_
            refine lv_iload hx hb dX5_searchSets_112 (lv_at hl 9 rfl) ?_
            refine lv_iadd hx hb dX5_searchSets_114 ?_
            exact W.iret hx hb hr (gr_i h hG hK hX hS) hS.2.2 dX5_searchSets_115
        · replace h := h.2 hc
          refine lv_goto (tgt := 119) hx hb dX5_searchSets_93 rfl ?_
          exact j_119 _ hC39 _ hC61 _ hC74 v0 v1 v2 v3 v4 v5 v6 v7 v8 v9 S3 ls _ _ (lv_sub hl [0, 1, 2, 3, 4, 5, 6, 7, 8, 9] rfl) hG hS h
  have k_61 : ∀ (C39 : Int32 × Int32 × Int32 × Int32 × Int32 × Int32 × Int32 × Int32 × Hp → Prop) (hC39 : ∀ (v0 : Int32) (v1 : Int32) (v2 : Int32) (v3 : Int32) (v4 : Int32) (v5 : Int32) (v6 : Int32) (v7 : Int32) (S : Hp) (ls : Array Slot) (H : Heap) (locs : List Loc), lv_has ls 10 [(0, .int v0), (1, .int v1), (2, .int v2), (3, .int v3), (4, .int v4), (5, .int v5), (6, .int v6), (7, .int v7)] → GG D κ A S H → va_S A s.heap H locs → C39 (v0, v1, v2, v3, v4, v5, v6, v7, S) → W p l e ({ frames := 3, cells := 0, slots := 0, locals := 144 } : Room) s m ([.int x0, .int x1, .int x2, .int x3] : List Value).toArray below meth c H locs 0 0 (MQ below (va_Qi Q (BG D κ A) A) ([.int x0, .int x1, .int x2, .int x3] : List Value).toArray s 0 0 A) (F0 m 39 ls [])) (n : Nat), ∀ (v0 : Int32) (v1 : Int32) (v2 : Int32) (v3 : Int32) (v4 : Int32) (v5 : Int32) (v6 : Int32) (v7 : Int32) (v8 : Int32) (S : Hp) (ls : Array Slot) (H : Heap) (locs : List Loc), lv_has ls 10 [(0, .int v0), (1, .int v1), (2, .int v2), (3, .int v3), (4, .int v4), (5, .int v5), (6, .int v6), (7, .int v7), (8, .int v8)] → GG D κ A S H → va_S A s.heap H locs → it (L_X5_searchSets_61 C39 Q) n (v0, v1, v2, v3, v4, v5, v6, v7, v8, S) → W p l e ({ frames := 3, cells := 0, slots := 0, locals := 144 } : Room) s m ([.int x0, .int x1, .int x2, .int x3] : List Value).toArray below meth c H locs 0 0 (MQ below (va_Qi Q (BG D κ A) A) ([.int x0, .int x1, .int x2, .int x3] : List Value).toArray s 0 0 A) (F0 m 61 ls []) := by
    intro C39 hC39 n
    induction n with
    | zero => intro v0 v1 v2 v3 v4 v5 v6 v7 v8 S ls H locs hl hG hS h; exact False.elim h
    | succ n hC61 =>
      intro v0 v1 v2 v3 v4 v5 v6 v7 v8 S ls H locs hl hG hS h
      replace h : L_X5_searchSets_61 C39 Q (it (L_X5_searchSets_61 C39 Q) n) (v0, v1, v2, v3, v4, v5, v6, v7, v8, S) := h
      simp only [L_X5_searchSets_61] at h
      refine lv_iload hx hb dX5_searchSets_61 (lv_at hl 8 rfl) ?_
      refine lv_iload hx hb dX5_searchSets_63 (lv_at hl 6 rfl) ?_
      refine lv_icmp_gt (tgt := 131) hx hb dX5_searchSets_65 rfl (fun hc => ?_) (fun hc => ?_)
      · replace h := h.1 hc
        obtain ⟨y1, ey1⟩ : ∃ z, z = v7 + (1 : Int32) := ⟨_, rfl⟩
        replace h := h y1 ey1
        refine lv_iinc (v := y1) (lv' := [(7, .int y1), (0, .int v0), (1, .int v1), (2, .int v2), (3, .int v3), (4, .int v4), (5, .int v5), (6, .int v6), (8, .int v8)]) hx hb dX5_searchSets_131 hl (k := 7) rfl (by rw [ey1]; rfl) (by decide) rfl (fun ls hl => ?_)
        refine lv_goto (tgt := 39) hx hb dX5_searchSets_134 rfl ?_
        exact hC39 v0 v1 v2 v3 v4 v5 v6 y1 S ls _ _ (lv_sub hl [1, 2, 3, 4, 5, 6, 7, 0] rfl) hG hS h
      · replace h := h.2 hc
        refine lv_iload hx hb dX5_searchSets_68 (lv_at hl 8 rfl) ?_
        refine lv_iconst (v := (1 : Int32)) hx hb dX5_searchSets_70 (by decide) ?_
        refine lv_iadd hx hb dX5_searchSets_71 ?_
        refine lv_topi (fun y2 ey2 => ?_)
        replace h := h y2 ey2
        refine lv_istore (lv' := [(9, .int y2), (0, .int v0), (1, .int v1), (2, .int v2), (3, .int v3), (4, .int v4), (5, .int v5), (6, .int v6), (7, .int v7), (8, .int v8)]) hx hb dX5_searchSets_72 hl (by decide) rfl (fun ls hl => ?_)
        obtain ⟨nn, h⟩ := h
        exact k_74 _ hC39 _ hC61 nn v0 v1 v2 v3 v4 v5 v6 v7 v8 y2 S ls _ _ (lv_sub hl [1, 2, 3, 4, 5, 6, 7, 8, 9, 0] rfl) hG hS h
  have j_59 : ∀ (C39 : Int32 × Int32 × Int32 × Int32 × Int32 × Int32 × Int32 × Int32 × Hp → Prop) (hC39 : ∀ (v0 : Int32) (v1 : Int32) (v2 : Int32) (v3 : Int32) (v4 : Int32) (v5 : Int32) (v6 : Int32) (v7 : Int32) (S : Hp) (ls : Array Slot) (H : Heap) (locs : List Loc), lv_has ls 10 [(0, .int v0), (1, .int v1), (2, .int v2), (3, .int v3), (4, .int v4), (5, .int v5), (6, .int v6), (7, .int v7)] → GG D κ A S H → va_S A s.heap H locs → C39 (v0, v1, v2, v3, v4, v5, v6, v7, S) → W p l e ({ frames := 3, cells := 0, slots := 0, locals := 144 } : Room) s m ([.int x0, .int x1, .int x2, .int x3] : List Value).toArray below meth c H locs 0 0 (MQ below (va_Qi Q (BG D κ A) A) ([.int x0, .int x1, .int x2, .int x3] : List Value).toArray s 0 0 A) (F0 m 39 ls [])) (v0 : Int32) (v1 : Int32) (v2 : Int32) (v3 : Int32) (v4 : Int32) (v5 : Int32) (v6 : Int32) (v7 : Int32) (w0 : Int32) (S : Hp) (ls : Array Slot) (H : Heap) (locs : List Loc), lv_has ls 10 [(0, .int v0), (1, .int v1), (2, .int v2), (3, .int v3), (4, .int v4), (5, .int v5), (6, .int v6), (7, .int v7)] → GG D κ A S H → va_S A s.heap H locs → J_X5_searchSets_59 C39 Q v0 v1 v2 v3 v4 v5 v6 v7 w0 S → W p l e ({ frames := 3, cells := 0, slots := 0, locals := 144 } : Room) s m ([.int x0, .int x1, .int x2, .int x3] : List Value).toArray below meth c H locs 0 0 (MQ below (va_Qi Q (BG D κ A) A) ([.int x0, .int x1, .int x2, .int x3] : List Value).toArray s 0 0 A) (F0 m 59 ls [.int w0]) := by
    intro C39 hC39 v0 v1 v2 v3 v4 v5 v6 v7 w0 S ls H locs hl hG hS h
    unfold J_X5_searchSets_59 at h
    refine lv_istore (lv' := [(8, .int w0), (0, .int v0), (1, .int v1), (2, .int v2), (3, .int v3), (4, .int v4), (5, .int v5), (6, .int v6), (7, .int v7)]) hx hb dX5_searchSets_59 hl (by decide) rfl (fun ls hl => ?_)
    obtain ⟨nn, h⟩ := h
    exact k_61 _ hC39 nn v0 v1 v2 v3 v4 v5 v6 v7 w0 S ls _ _ (lv_sub hl [1, 2, 3, 4, 5, 6, 7, 8, 0] rfl) hG hS h
  have k_39 : ∀  (n : Nat), ∀ (v0 : Int32) (v1 : Int32) (v2 : Int32) (v3 : Int32) (v4 : Int32) (v5 : Int32) (v6 : Int32) (v7 : Int32) (S : Hp) (ls : Array Slot) (H : Heap) (locs : List Loc), lv_has ls 10 [(0, .int v0), (1, .int v1), (2, .int v2), (3, .int v3), (4, .int v4), (5, .int v5), (6, .int v6), (7, .int v7)] → GG D κ A S H → va_S A s.heap H locs → it (L_X5_searchSets_39  Q) n (v0, v1, v2, v3, v4, v5, v6, v7, S) → W p l e ({ frames := 3, cells := 0, slots := 0, locals := 144 } : Room) s m ([.int x0, .int x1, .int x2, .int x3] : List Value).toArray below meth c H locs 0 0 (MQ below (va_Qi Q (BG D κ A) A) ([.int x0, .int x1, .int x2, .int x3] : List Value).toArray s 0 0 A) (F0 m 39 ls []) := by
    intro  n
    induction n with
    | zero => intro v0 v1 v2 v3 v4 v5 v6 v7 S ls H locs hl hG hS h; exact False.elim h
    | succ n hC39 =>
      intro v0 v1 v2 v3 v4 v5 v6 v7 S ls H locs hl hG hS h
      replace h : L_X5_searchSets_39  Q (it (L_X5_searchSets_39  Q) n) (v0, v1, v2, v3, v4, v5, v6, v7, S) := h
      simp only [L_X5_searchSets_39] at h
      refine lv_iload hx hb dX5_searchSets_39 (lv_at hl 7 rfl) ?_
      refine lv_iload hx hb dX5_searchSets_41 (lv_at hl 5 rfl) ?_
      refine lv_icmp_gt (tgt := 137) hx hb dX5_searchSets_43 rfl (fun hc => ?_) (fun hc => ?_)
      · replace h := h.1 hc
        refine lv_iload_n hx hb dX5_searchSets_137 rfl (lv_at hl 3 rfl) ?_
        refine lv_if_eq (tgt := 146) hx hb dX5_searchSets_138 rfl (fun hc => ?_) (fun hc => ?_)
        · replace h := h.1 hc
          refine lv_iload hx hb dX5_searchSets_146 (lv_at hl 4 rfl) ?_
          exact W.iret hx hb hr (gr_i h hG hK hX hS) hS.2.2 dX5_searchSets_148
        · replace h := h.2 hc
          refine lv_bipush (v := (-4 : Int32)) hx hb dX5_searchSets_141 (by decide) ?_
          refine lv_goto (tgt := 148) hx hb dX5_searchSets_143 rfl ?_
          exact W.iret hx hb hr (gr_i h hG hK hX hS) hS.2.2 dX5_searchSets_148
      · replace h := h.2 hc
        refine lv_iload_n hx hb dX5_searchSets_46 rfl (lv_at hl 0 rfl) ?_
        refine lv_iconst (v := (2 : Int32)) hx hb dX5_searchSets_47 (by decide) ?_
        refine lv_icmp_lt (tgt := 58) hx hb dX5_searchSets_48 rfl (fun hc => ?_) (fun hc => ?_)
        · replace h := h.1 hc
          refine lv_iconst (v := (0 : Int32)) hx hb dX5_searchSets_58 (by decide) ?_
          exact j_59 _ hC39 v0 v1 v2 v3 v4 v5 v6 v7 (0 : Int32) S ls _ _ (lv_sub hl [0, 1, 2, 3, 4, 5, 6, 7] rfl) hG hS h
        · replace h := h.2 hc
          refine lv_iload hx hb dX5_searchSets_51 (lv_at hl 7 rfl) ?_
          refine lv_iconst (v := (1 : Int32)) hx hb dX5_searchSets_53 (by decide) ?_
          refine lv_iadd hx hb dX5_searchSets_54 ?_
          refine lv_goto (tgt := 59) hx hb dX5_searchSets_55 rfl ?_
          exact j_59 _ hC39 v0 v1 v2 v3 v4 v5 v6 v7 (v7 + (1 : Int32)) S ls _ _ (lv_sub hl [0, 1, 2, 3, 4, 5, 6, 7] rfl) hG hS h
  have j_37 : ∀  (v0 : Int32) (v1 : Int32) (v2 : Int32) (v3 : Int32) (v4 : Int32) (v5 : Int32) (v6 : Int32) (w0 : Int32) (S : Hp) (ls : Array Slot) (H : Heap) (locs : List Loc), lv_has ls 10 [(0, .int v0), (1, .int v1), (2, .int v2), (3, .int v3), (4, .int v4), (5, .int v5), (6, .int v6)] → GG D κ A S H → va_S A s.heap H locs → J_X5_searchSets_37  Q v0 v1 v2 v3 v4 v5 v6 w0 S → W p l e ({ frames := 3, cells := 0, slots := 0, locals := 144 } : Room) s m ([.int x0, .int x1, .int x2, .int x3] : List Value).toArray below meth c H locs 0 0 (MQ below (va_Qi Q (BG D κ A) A) ([.int x0, .int x1, .int x2, .int x3] : List Value).toArray s 0 0 A) (F0 m 37 ls [.int w0]) := by
    intro  v0 v1 v2 v3 v4 v5 v6 w0 S ls H locs hl hG hS h
    unfold J_X5_searchSets_37 at h
    refine lv_istore (lv' := [(7, .int w0), (0, .int v0), (1, .int v1), (2, .int v2), (3, .int v3), (4, .int v4), (5, .int v5), (6, .int v6)]) hx hb dX5_searchSets_37 hl (by decide) rfl (fun ls hl => ?_)
    obtain ⟨nn, h⟩ := h
    exact k_39  nn v0 v1 v2 v3 v4 v5 v6 w0 S ls _ _ (lv_sub hl [1, 2, 3, 4, 5, 6, 7, 0] rfl) hG hS h
  have j_25 : ∀  (v0 : Int32) (v1 : Int32) (v2 : Int32) (v3 : Int32) (v4 : Int32) (v5 : Int32) (w0 : Int32) (S : Hp) (ls : Array Slot) (H : Heap) (locs : List Loc), lv_has ls 10 [(0, .int v0), (1, .int v1), (2, .int v2), (3, .int v3), (4, .int v4), (5, .int v5)] → GG D κ A S H → va_S A s.heap H locs → J_X5_searchSets_25  Q v0 v1 v2 v3 v4 v5 w0 S → W p l e ({ frames := 3, cells := 0, slots := 0, locals := 144 } : Room) s m ([.int x0, .int x1, .int x2, .int x3] : List Value).toArray below meth c H locs 0 0 (MQ below (va_Qi Q (BG D κ A) A) ([.int x0, .int x1, .int x2, .int x3] : List Value).toArray s 0 0 A) (F0 m 25 ls [.int w0]) := by
    intro  v0 v1 v2 v3 v4 v5 w0 S ls H locs hl hG hS h
    unfold J_X5_searchSets_25 at h
    refine lv_istore (lv' := [(6, .int w0), (0, .int v0), (1, .int v1), (2, .int v2), (3, .int v3), (4, .int v4), (5, .int v5)]) hx hb dX5_searchSets_25 hl (by decide) rfl (fun ls hl => ?_)
    refine lv_iload_n hx hb dX5_searchSets_27 rfl (lv_at hl 1 rfl) ?_
    refine lv_iconst (v := (3 : Int32)) hx hb dX5_searchSets_28 (by decide) ?_
    refine lv_icmp_ne (tgt := 36) hx hb dX5_searchSets_29 rfl (fun hc => ?_) (fun hc => ?_)
    · replace h := h.1 hc
      refine lv_iconst (v := (0 : Int32)) hx hb dX5_searchSets_36 (by decide) ?_
      exact j_37  v0 v1 v2 v3 v4 v5 w0 (0 : Int32) S ls _ _ (lv_sub hl [1, 2, 3, 4, 5, 6, 0] rfl) hG hS h
    · replace h := h.2 hc
      refine lv_iconst (v := (1 : Int32)) hx hb dX5_searchSets_32 (by decide) ?_
      refine lv_goto (tgt := 37) hx hb dX5_searchSets_33 rfl ?_
      exact j_37  v0 v1 v2 v3 v4 v5 w0 (1 : Int32) S ls _ _ (lv_sub hl [1, 2, 3, 4, 5, 6, 0] rfl) hG hS h
  have j_13 : ∀  (v0 : Int32) (v1 : Int32) (v2 : Int32) (v3 : Int32) (v4 : Int32) (w0 : Int32) (S : Hp) (ls : Array Slot) (H : Heap) (locs : List Loc), lv_has ls 10 [(0, .int v0), (1, .int v1), (2, .int v2), (3, .int v3), (4, .int v4)] → GG D κ A S H → va_S A s.heap H locs → J_X5_searchSets_13  Q v0 v1 v2 v3 v4 w0 S → W p l e ({ frames := 3, cells := 0, slots := 0, locals := 144 } : Room) s m ([.int x0, .int x1, .int x2, .int x3] : List Value).toArray below meth c H locs 0 0 (MQ below (va_Qi Q (BG D κ A) A) ([.int x0, .int x1, .int x2, .int x3] : List Value).toArray s 0 0 A) (F0 m 13 ls [.int w0]) := by
    intro  v0 v1 v2 v3 v4 w0 S ls H locs hl hG hS h
    unfold J_X5_searchSets_13 at h
    refine lv_istore (lv' := [(5, .int w0), (0, .int v0), (1, .int v1), (2, .int v2), (3, .int v3), (4, .int v4)]) hx hb dX5_searchSets_13 hl (by decide) rfl (fun ls hl => ?_)
    refine lv_iload_n hx hb dX5_searchSets_15 rfl (lv_at hl 1 rfl) ?_
    refine lv_iconst (v := (2 : Int32)) hx hb dX5_searchSets_16 (by decide) ?_
    refine lv_icmp_lt (tgt := 24) hx hb dX5_searchSets_17 rfl (fun hc => ?_) (fun hc => ?_)
    · replace h := h.1 hc
      refine lv_iconst (v := (0 : Int32)) hx hb dX5_searchSets_24 (by decide) ?_
      exact j_25  v0 v1 v2 v3 v4 w0 (0 : Int32) S ls _ _ (lv_sub hl [1, 2, 3, 4, 5, 0] rfl) hG hS h
    · replace h := h.2 hc
      refine lv_iload_n hx hb dX5_searchSets_20 rfl (lv_at hl 2 rfl) ?_
      refine lv_goto (tgt := 25) hx hb dX5_searchSets_21 rfl ?_
      exact j_25  v0 v1 v2 v3 v4 w0 v1 S ls _ _ (lv_sub hl [1, 2, 3, 4, 5, 0] rfl) hG hS h
  refine lv_iconst (v := (0 : Int32)) hx hb dX5_searchSets_0 (by decide) ?_
  refine lv_istore (lv' := [(4, .int (0 : Int32)), (0, .int x0), (1, .int x1), (2, .int x2), (3, .int x3)]) hx hb dX5_searchSets_1 hl (by decide) rfl (fun ls hl => ?_)
  refine lv_iload_n hx hb dX5_searchSets_3 rfl (lv_at hl 1 rfl) ?_
  refine lv_iconst (v := (3 : Int32)) hx hb dX5_searchSets_4 (by decide) ?_
  refine lv_icmp_ne (tgt := 12) hx hb dX5_searchSets_5 rfl (fun hc => ?_) (fun hc => ?_)
  · replace h := h.1 hc
    refine lv_iconst (v := (0 : Int32)) hx hb dX5_searchSets_12 (by decide) ?_
    exact j_13  x0 x1 x2 x3 (0 : Int32) (0 : Int32) S ls _ _ (lv_sub hl [1, 2, 3, 4, 0] rfl) hG hS h
  · replace h := h.2 hc
    refine lv_iload_n hx hb dX5_searchSets_8 rfl (lv_at hl 2 rfl) ?_
    refine lv_goto (tgt := 13) hx hb dX5_searchSets_9 rfl ?_
    exact j_13  x0 x1 x2 x3 (0 : Int32) x1 S ls _ _ (lv_sub hl [1, 2, 3, 4, 0] rfl) hG hS h
set_option maxHeartbeats 4000000 in
set_option maxRecDepth 100000 in
theorem c_X5_sets (l : Launch) (D : va_G) (κ : Nat → ClassId) (A : Nat → Prop) (S : Hp) (a0 : Nat) (x1 : Int32) (x2 : Int32) (x3 : Int32) (x4 : Int32) (Q : Int32 → Hp → Prop) (h : wp_X5_sets a0 x1 x2 x3 x4 S Q) : Met l yX5_sets wsX5_sets ({ frames := 4, cells := 0, slots := 0, locals := 192 } : Room) (PG D κ A S [.ref a0, .int x1, .int x2, .int x3, .int x4]) (va_Qi Q (BG D κ A) A) 0 0 A := by
  refine Met.ofW (cc := cX5_sets) (maxL := 5) (ret := (some .int)) (by decide) rfl ?_
  intro p e s m args below meth c s₁ B hml hv
  obtain ⟨hargs, hA, hG, hK, hX⟩ := hv
  have hx := B.exec
  have hb := B.bytes
  have hr := B.returns
  have hts := atoms_spec (ws := wsX5_sets) B.pre
  have hown : s.vm.findClass RX5 = some m.cls := findClass_of_methodNamed B.named
  have hlocks := B.notSynchronized
  subst hargs
  clear B
  have hS : va_S A s.heap s.heap [] := va_S.rf
  have hl := lv_entry ([.ref a0, .int x1, .int x2, .int x3, .int x4]) (n := 5) (Nat.le_of_ble_eq_true rfl)
  rw [lg_entry_eq]
  generalize (lg_sl ([.ref a0, .int x1, .int x2, .int x3, .int x4]) ++ List.replicate (5 - (lg_sl ([.ref a0, .int x1, .int x2, .int x3, .int x4])).length) Slot.unset).toArray = ls at hl ⊢
  have hl : lv_has ls 5 [(0, .ref a0), (1, .int x1), (2, .int x2), (3, .int x3), (4, .int x4)] := hl
  have hG : GG D κ A S s.heap := hG
  have j_59 : ∀  (w0 : Int32) (w1 : Int32) (w2 : Int32) (w3 : Int32) (S : Hp) (ls : Array Slot) (H : Heap) (locs : List Loc), lv_has ls 5 [] → GG D κ A S H → va_S A s.heap H locs → J_X5_sets_59  Q w0 w1 w2 w3 S → W p l e ({ frames := 4, cells := 0, slots := 0, locals := 192 } : Room) s m ([.ref a0, .int x1, .int x2, .int x3, .int x4] : List Value).toArray below meth c H locs 0 0 (MQ below (va_Qi Q (BG D κ A) A) ([.ref a0, .int x1, .int x2, .int x3, .int x4] : List Value).toArray s 0 0 A) (F0 m 59 ls [.int w3, .int w2, .int w1, .int w0]) := by
    intro  w0 w1 w2 w3 S ls H locs hl hG hS h
    unfold J_X5_sets_59 at h
    refine gc_i (va_runS (As := [.int w0, .int w1, .int w2, .int w3]) (rest := []) ⟨hx, hb, hml, hown, hts⟩ (c_X5_searchSets l D κ A S w0 w1 w2 w3 _ h) (va_cwS 4 hts gX5_sets_X5_searchSets rfl rfl rfl (by decide +kernel) ⟨Nat.le_of_ble_eq_true rfl, Nat.le_of_ble_eq_true rfl⟩) (pg_S hK hX hG (pg_A hA hS)) rfl rfl hl.1 rfl (lv_room (Nat.le_of_ble_eq_true rfl)) dX5_sets_59 ⟨Nat.le_of_ble_eq_true rfl, Nat.le_of_ble_eq_true rfl⟩) hS (fun z3 S2 H locs1 h hG hS => ?_)
    exact W.iret hx hb hr (gr_i h hG hK hX hS) hS.2.2 dX5_sets_62
  refine lv_iload_n hx hb dX5_sets_0 rfl (lv_at hl 1 rfl) ?_
  refine lv_iconst (v := (1 : Int32)) hx hb dX5_sets_1 (by decide) ?_
  refine lv_icmp_lt (tgt := 43) hx hb dX5_sets_2 rfl (fun hc => ?_) (fun hc => ?_)
  · replace h := h.1 hc
    refine lv_iconst (v := (-1 : Int32)) hx hb dX5_sets_43 (by decide) ?_
    exact W.iret hx hb hr (gr_i h hG hK hX hS) hS.2.2 dX5_sets_44
  · replace h := h.2 hc
    refine lv_iload_n hx hb dX5_sets_5 rfl (lv_at hl 1 rfl) ?_
    refine lv_iconst (v := (3 : Int32)) hx hb dX5_sets_6 (by decide) ?_
    refine lv_icmp_gt (tgt := 43) hx hb dX5_sets_7 rfl (fun hc => ?_) (fun hc => ?_)
    · replace h := h.1 hc
      refine lv_iconst (v := (-1 : Int32)) hx hb dX5_sets_43 (by decide) ?_
      exact W.iret hx hb hr (gr_i h hG hK hX hS) hS.2.2 dX5_sets_44
    · replace h := h.2 hc
      refine lv_iload_n hx hb dX5_sets_10 rfl (lv_at hl 2 rfl) ?_
      refine lv_iconst (v := (1 : Int32)) hx hb dX5_sets_11 (by decide) ?_
      refine lv_icmp_lt (tgt := 43) hx hb dX5_sets_12 rfl (fun hc => ?_) (fun hc => ?_)
      · replace h := h.1 hc
        refine lv_iconst (v := (-1 : Int32)) hx hb dX5_sets_43 (by decide) ?_
        exact W.iret hx hb hr (gr_i h hG hK hX hS) hS.2.2 dX5_sets_44
      · replace h := h.2 hc
        refine lv_iload_n hx hb dX5_sets_15 rfl (lv_at hl 2 rfl) ?_
        refine lv_bipush (v := (30 : Int32)) hx hb dX5_sets_16 (by decide) ?_
        refine lv_icmp_gt (tgt := 43) hx hb dX5_sets_18 rfl (fun hc => ?_) (fun hc => ?_)
        · replace h := h.1 hc
          refine lv_iconst (v := (-1 : Int32)) hx hb dX5_sets_43 (by decide) ?_
          exact W.iret hx hb hr (gr_i h hG hK hX hS) hS.2.2 dX5_sets_44
        · replace h := h.2 hc
          refine lv_iload_n hx hb dX5_sets_21 rfl (lv_at hl 3 rfl) ?_
          refine lv_iconst (v := (1 : Int32)) hx hb dX5_sets_22 (by decide) ?_
          refine lv_icmp_lt (tgt := 43) hx hb dX5_sets_23 rfl (fun hc => ?_) (fun hc => ?_)
          · replace h := h.1 hc
            refine lv_iconst (v := (-1 : Int32)) hx hb dX5_sets_43 (by decide) ?_
            exact W.iret hx hb hr (gr_i h hG hK hX hS) hS.2.2 dX5_sets_44
          · replace h := h.2 hc
            refine lv_iload_n hx hb dX5_sets_26 rfl (lv_at hl 3 rfl) ?_
            refine lv_bipush (v := (13 : Int32)) hx hb dX5_sets_27 (by decide) ?_
            refine lv_icmp_gt (tgt := 43) hx hb dX5_sets_29 rfl (fun hc => ?_) (fun hc => ?_)
            · replace h := h.1 hc
              refine lv_iconst (v := (-1 : Int32)) hx hb dX5_sets_43 (by decide) ?_
              exact W.iret hx hb hr (gr_i h hG hK hX hS) hS.2.2 dX5_sets_44
            · replace h := h.2 hc
              refine lv_iload hx hb dX5_sets_32 (lv_at hl 4 rfl) ?_
              refine lv_if_lt (tgt := 43) hx hb dX5_sets_34 rfl (fun hc => ?_) (fun hc => ?_)
              · replace h := h.1 hc
                refine lv_iconst (v := (-1 : Int32)) hx hb dX5_sets_43 (by decide) ?_
                exact W.iret hx hb hr (gr_i h hG hK hX hS) hS.2.2 dX5_sets_44
              · replace h := h.2 hc
                refine lv_iload hx hb dX5_sets_37 (lv_at hl 4 rfl) ?_
                refine lv_iconst (v := (1 : Int32)) hx hb dX5_sets_39 (by decide) ?_
                refine lv_icmp_le (tgt := 45) hx hb dX5_sets_40 rfl (fun hc => ?_) (fun hc => ?_)
                · replace h := h.1 hc
                  refine lv_iload_n hx hb dX5_sets_45 rfl (lv_at hl 1 rfl) ?_
                  refine lv_iload_n hx hb dX5_sets_46 rfl (lv_at hl 2 rfl) ?_
                  refine lv_iload_n hx hb dX5_sets_47 rfl (lv_at hl 3 rfl) ?_
                  refine lv_iload hx hb dX5_sets_48 (lv_at hl 4 rfl) ?_
                  refine lv_iconst (v := (1 : Int32)) hx hb dX5_sets_50 (by decide) ?_
                  refine lv_icmp_ne (tgt := 58) hx hb dX5_sets_51 rfl (fun hc => ?_) (fun hc => ?_)
                  · replace h := h.1 hc
                    refine lv_iconst (v := (0 : Int32)) hx hb dX5_sets_58 (by decide) ?_
                    exact j_59  x1 x2 x3 (0 : Int32) S ls _ _ (lv_sub hl [] rfl) hG hS h
                  · replace h := h.2 hc
                    refine lv_iconst (v := (1 : Int32)) hx hb dX5_sets_54 (by decide) ?_
                    refine lv_goto (tgt := 59) hx hb dX5_sets_55 rfl ?_
                    exact j_59  x1 x2 x3 (1 : Int32) S ls _ _ (lv_sub hl [] rfl) hG hS h
                · replace h := h.2 hc
                  refine lv_iconst (v := (-1 : Int32)) hx hb dX5_sets_43 (by decide) ?_
                  exact W.iret hx hb hr (gr_i h hG hK hX hS) hS.2.2 dX5_sets_44
set_option maxHeartbeats 4000000 in
set_option maxRecDepth 100000 in
theorem c_X5_lostWithout (l : Launch) (D : va_G) (κ : Nat → ClassId) (A : Nat → Prop) (S : Hp) (a0 : Nat) (a1 : Nat) (x2 : Int32) (x3 : Int32) (Q : Int32 → Hp → Prop) (h : wp_X5_lostWithout a0 a1 x2 x3 S Q) : Met l yX5_lostWithout wsX5_lostWithout ({ frames := 4, cells := 0, slots := 0, locals := 192 } : Room) (PG D κ A S [.ref a0, .ref a1, .int x2, .int x3]) (va_Qi Q (BG D κ A) A) 0 0 A := by
  refine Met.ofW (cc := cX5_lostWithout) (maxL := 6) (ret := (some .int)) (by decide) rfl ?_
  intro p e s m args below meth c s₁ B hml hv
  obtain ⟨hargs, hA, hG, hK, hX⟩ := hv
  have hx := B.exec
  have hb := B.bytes
  have hr := B.returns
  have hts := atoms_spec (ws := wsX5_lostWithout) B.pre
  have hown : s.vm.findClass RX5 = some m.cls := findClass_of_methodNamed B.named
  have hlocks := B.notSynchronized
  subst hargs
  clear B
  have hS : va_S A s.heap s.heap [] := va_S.rf
  have hl := lv_entry ([.ref a0, .ref a1, .int x2, .int x3]) (n := 6) (Nat.le_of_ble_eq_true rfl)
  rw [lg_entry_eq]
  generalize (lg_sl ([.ref a0, .ref a1, .int x2, .int x3]) ++ List.replicate (6 - (lg_sl ([.ref a0, .ref a1, .int x2, .int x3])).length) Slot.unset).toArray = ls at hl ⊢
  have hl : lv_has ls 6 [(0, .ref a0), (1, .ref a1), (2, .int x2), (3, .int x3)] := hl
  have hG : GG D κ A S s.heap := hG
  have j_37 : ∀ (C18 : Nat × Int32 × Int32 × Int32 × Hp → Prop) (hC18 : ∀ (v0 : Nat) (v3 : Int32) (v4 : Int32) (v5 : Int32) (S : Hp) (ls : Array Slot) (H : Heap) (locs : List Loc), lv_has ls 6 [(0, .ref v0), (3, .int v3), (4, .int v4), (5, .int v5)] → GG D κ A S H → va_S A s.heap H locs → C18 (v0, v3, v4, v5, S) → W p l e ({ frames := 4, cells := 0, slots := 0, locals := 192 } : Room) s m ([.ref a0, .ref a1, .int x2, .int x3] : List Value).toArray below meth c H locs 0 0 (MQ below (va_Qi Q (BG D κ A) A) ([.ref a0, .ref a1, .int x2, .int x3] : List Value).toArray s 0 0 A) (F0 m 18 ls [])) (v0 : Nat) (v3 : Int32) (v4 : Int32) (v5 : Int32) (S : Hp) (ls : Array Slot) (H : Heap) (locs : List Loc), lv_has ls 6 [(0, .ref v0), (3, .int v3), (4, .int v4), (5, .int v5)] → GG D κ A S H → va_S A s.heap H locs → J_X5_lostWithout_37 C18 Q v0 v3 v4 v5 S → W p l e ({ frames := 4, cells := 0, slots := 0, locals := 192 } : Room) s m ([.ref a0, .ref a1, .int x2, .int x3] : List Value).toArray below meth c H locs 0 0 (MQ below (va_Qi Q (BG D κ A) A) ([.ref a0, .ref a1, .int x2, .int x3] : List Value).toArray s 0 0 A) (F0 m 37 ls []) := by
    intro C18 hC18 v0 v3 v4 v5 S ls H locs hl hG hS h
    unfold J_X5_lostWithout_37 at h
    obtain ⟨y1, ey1⟩ : ∃ z, z = v5 + (1 : Int32) := ⟨_, rfl⟩
    replace h := h y1 ey1
    refine lv_iinc (v := y1) (lv' := [(5, .int y1), (0, .ref v0), (3, .int v3), (4, .int v4)]) hx hb dX5_lostWithout_37 hl (k := 3) rfl (by rw [ey1]; rfl) (by decide) rfl (fun ls hl => ?_)
    refine lv_goto (tgt := 18) hx hb dX5_lostWithout_40 rfl ?_
    exact hC18 v0 v3 v4 y1 S ls _ _ (lv_sub hl [1, 2, 3, 0] rfl) hG hS h
  have k_18 : ∀  (n : Nat), ∀ (v0 : Nat) (v3 : Int32) (v4 : Int32) (v5 : Int32) (S : Hp) (ls : Array Slot) (H : Heap) (locs : List Loc), lv_has ls 6 [(0, .ref v0), (3, .int v3), (4, .int v4), (5, .int v5)] → GG D κ A S H → va_S A s.heap H locs → it (L_X5_lostWithout_18  Q) n (v0, v3, v4, v5, S) → W p l e ({ frames := 4, cells := 0, slots := 0, locals := 192 } : Room) s m ([.ref a0, .ref a1, .int x2, .int x3] : List Value).toArray below meth c H locs 0 0 (MQ below (va_Qi Q (BG D κ A) A) ([.ref a0, .ref a1, .int x2, .int x3] : List Value).toArray s 0 0 A) (F0 m 18 ls []) := by
    intro  n
    induction n with
    | zero => intro v0 v3 v4 v5 S ls H locs hl hG hS h; exact False.elim h
    | succ n hC18 =>
      intro v0 v3 v4 v5 S ls H locs hl hG hS h
      replace h : L_X5_lostWithout_18  Q (it (L_X5_lostWithout_18  Q) n) (v0, v3, v4, v5, S) := h
      simp only [L_X5_lostWithout_18] at h
      refine lv_iload hx hb dX5_lostWithout_18 (lv_at hl 3 rfl) ?_
      refine lv_iload_n hx hb dX5_lostWithout_20 rfl (lv_at hl 1 rfl) ?_
      refine lv_icmp_gt (tgt := 43) hx hb dX5_lostWithout_21 rfl (fun hc => ?_) (fun hc => ?_)
      · replace h := h.1 hc
        refine lv_iload hx hb dX5_lostWithout_43 (lv_at hl 2 rfl) ?_
        exact W.iret hx hb hr (gr_i h hG hK hX hS) hS.2.2 dX5_lostWithout_45
      · replace h := h.2 hc
        refine lv_aload_n hx hb dX5_lostWithout_24 rfl (lv_at hl 0 rfl) ?_
        have hk := h.1
        replace h := h.2
        obtain ⟨r1, hr1, h⟩ := h
        refine gg_get (v := .ref r1) (ci := 5) (C := RX5) (T := TX5) (N := 13) hx hb hts (fun _ h => List.mem_cons_of_mem _ (List.mem_append_left _ (List.mem_append_left _ (List.mem_append_right _ (h))))) hown hK hG (kc_6 hk) rfl 10 (by decide) (hts (.fieldLink RX5 58 "FourStones" "had" "[I") (List.mem_of_getElem? (i := 2) rfl)) (fun _ h9 => h9) (congrArg (fun z => some (va_rf z)) hr1) dX5_lostWithout_25 ?_
        refine lv_iload hx hb dX5_lostWithout_28 (lv_at hl 3 rfl) ?_
        have hk := h.1
        replace h := h.2
        have hi := h.1
        replace h := h.2
        refine gg_iald hx hb hK hG hk hi dX5_lostWithout_30 ?_
        refine lv_if_ne (tgt := 37) hx hb dX5_lostWithout_31 rfl (fun hc => ?_) (fun hc => ?_)
        · replace h := h.1 hc
          exact j_37 _ hC18 v0 v3 v4 v5 S ls _ _ (lv_sub hl [0, 1, 2, 3] rfl) hG hS h
        · replace h := h.2 hc
          obtain ⟨y2, ey2⟩ : ∃ z, z = v4 + (1 : Int32) := ⟨_, rfl⟩
          replace h := h y2 ey2
          refine lv_iinc (v := y2) (lv' := [(4, .int y2), (0, .ref v0), (3, .int v3), (5, .int v5)]) hx hb dX5_lostWithout_34 hl (k := 2) rfl (by rw [ey2]; rfl) (by decide) rfl (fun ls hl => ?_)
          exact j_37 _ hC18 v0 v3 y2 v5 S ls _ _ (lv_sub hl [1, 2, 0, 3] rfl) hG hS h
  refine lv_aload_n hx hb dX5_lostWithout_0 rfl (lv_at hl 0 rfl) ?_
  refine lv_aload_n hx hb dX5_lostWithout_1 rfl (lv_at hl 1 rfl) ?_
  refine lv_aload_n hx hb dX5_lostWithout_2 rfl (lv_at hl 0 rfl) ?_
  have hk := h.1
  replace h := h.2
  obtain ⟨r1, hr1, h⟩ := h
  refine gg_get (v := .ref r1) (ci := 5) (C := RX5) (T := TX5) (N := 13) hx hb hts (fun _ h => List.mem_cons_of_mem _ (List.mem_append_left _ (List.mem_append_left _ (List.mem_append_right _ (h))))) hown hK hG (kc_6 hk) rfl 1 (by decide) (hts (.fieldLink RX5 19 "FourStones" "lyings" "LFourStones$Lyings;") (List.mem_of_getElem? (i := 1) rfl)) (fun _ h9 => h9) (congrArg (fun z => some (va_rf z)) hr1) dX5_lostWithout_3 ?_
  refine lv_iconst (v := (1 : Int32)) hx hb dX5_lostWithout_6 (by decide) ?_
  refine lv_iload_n hx hb dX5_lostWithout_7 rfl (lv_at hl 2 rfl) ?_
  refine lv_ishl hx hb dX5_lostWithout_8 ?_
  have hk := h.1
  replace h := h.2
  refine gc_v (va_runV (As := [.ref a1, .ref r1, .int ((1 : Int32) <<< (x2 &&& 31))]) (rest := []) ⟨hx, hb, hml, hown, hts⟩ (c_X5_markHad l D κ A S a0 a1 r1 ((1 : Int32) <<< (x2 &&& 31)) _ h) (cwV 3 hts gX5_lostWithout_X5_markHad rfl rfl rfl (by decide +kernel) ⟨Nat.le_of_ble_eq_true rfl, Nat.le_of_ble_eq_true rfl⟩) (pg_V (q := (RX5, TX5, 13)) hK hX hG (pg_A hA hS) (kc_6 hk) rfl) rfl rfl hl.1 rfl (lv_room (Nat.le_of_ble_eq_true rfl)) dX5_lostWithout_9 ⟨Nat.le_of_ble_eq_true rfl, Nat.le_of_ble_eq_true rfl⟩) hS (fun S3 H locs2 h hG hS => ?_)
  refine lv_iconst (v := (0 : Int32)) hx hb dX5_lostWithout_12 (by decide) ?_
  refine lv_istore (lv' := [(4, .int (0 : Int32)), (0, .ref a0), (1, .ref a1), (2, .int x2), (3, .int x3)]) hx hb dX5_lostWithout_13 hl (by decide) rfl (fun ls hl => ?_)
  refine lv_iconst (v := (1 : Int32)) hx hb dX5_lostWithout_15 (by decide) ?_
  refine lv_istore (lv' := [(5, .int (1 : Int32)), (4, .int (0 : Int32)), (0, .ref a0), (1, .ref a1), (2, .int x2), (3, .int x3)]) hx hb dX5_lostWithout_16 hl (by decide) rfl (fun ls hl => ?_)
  obtain ⟨nn, h⟩ := h
  exact k_18  nn a0 x3 (0 : Int32) (1 : Int32) S3 ls _ _ (lv_sub hl [2, 5, 1, 0] rfl) hG hS h
set_option maxHeartbeats 4000000 in
set_option maxRecDepth 100000 in
theorem c_X5_lost (l : Launch) (D : va_G) (κ : Nat → ClassId) (A : Nat → Prop) (S : Hp) (a0 : Nat) (x1 : Int32) (x2 : Int32) (Q : Int32 → Hp → Prop) (h : wp_X5_lost a0 x1 x2 S Q) : Met l yX5_lost wsX5_lost ({ frames := 5, cells := 0, slots := 0, locals := 240 } : Room) (PG D κ A S [.ref a0, .int x1, .int x2]) (va_Qi Q (BG D κ A) A) 0 0 A := by
  refine Met.ofW (cc := cX5_lost) (maxL := 4) (ret := (some .int)) (by decide) rfl ?_
  intro p e s m args below meth c s₁ B hml hv
  obtain ⟨hargs, hA, hG, hK, hX⟩ := hv
  have hx := B.exec
  have hb := B.bytes
  have hr := B.returns
  have hts := atoms_spec (ws := wsX5_lost) B.pre
  have hown : s.vm.findClass RX5 = some m.cls := findClass_of_methodNamed B.named
  have hlocks := B.notSynchronized
  subst hargs
  clear B
  have hS : va_S A s.heap s.heap [] := va_S.rf
  have hl := lv_entry ([.ref a0, .int x1, .int x2]) (n := 4) (Nat.le_of_ble_eq_true rfl)
  rw [lg_entry_eq]
  generalize (lg_sl ([.ref a0, .int x1, .int x2]) ++ List.replicate (4 - (lg_sl ([.ref a0, .int x1, .int x2])).length) Slot.unset).toArray = ls at hl ⊢
  have hl : lv_has ls 4 [(0, .ref a0), (1, .int x1), (2, .int x2)] := hl
  have hG : GG D κ A S s.heap := hG
  refine lv_iload_n hx hb dX5_lost_0 rfl (lv_at hl 1 rfl) ?_
  refine gc_i (va_runS (As := [.int x1]) (rest := []) ⟨hx, hb, hml, hown, hts⟩ (c_X5_isShelf l D κ A S x1 _ h) (va_cwS 1 hts gX5_lost_X5_isShelf rfl rfl rfl (by decide +kernel) ⟨Nat.le_of_ble_eq_true rfl, Nat.le_of_ble_eq_true rfl⟩) (pg_S hK hX hG (pg_A hA hS)) rfl rfl hl.1 rfl (lv_room (Nat.le_of_ble_eq_true rfl)) dX5_lost_1 ⟨Nat.le_of_ble_eq_true rfl, Nat.le_of_ble_eq_true rfl⟩) hS (fun z3 S2 H locs1 h hG hS => ?_)
  refine lv_if_eq (tgt := 18) hx hb dX5_lost_4 rfl (fun hc => ?_) (fun hc => ?_)
  · replace h := h.1 hc
    refine lv_iconst (v := (-1 : Int32)) hx hb dX5_lost_18 (by decide) ?_
    exact W.iret hx hb hr (gr_i h hG hK hX hS) hS.2.2 dX5_lost_19
  · replace h := h.2 hc
    refine lv_aload_n hx hb dX5_lost_7 rfl (lv_at hl 0 rfl) ?_
    have hk := h.1
    replace h := h.2
    obtain ⟨r4, hr4, h⟩ := h
    refine gg_get (v := .ref r4) (ci := 5) (C := RX5) (T := TX5) (N := 13) hx hb hts (fun _ h => List.mem_cons_of_mem _ (List.mem_append_left _ (List.mem_append_left _ (List.mem_append_left _ (List.mem_append_right _ (h)))))) hown hK hG (kc_6 hk) rfl 0 (by decide) (hts (.fieldLink RX5 10 "FourStones" "stones" "LFourStones$Stones;") (List.mem_of_getElem? (i := 1) rfl)) (fun _ h9 => h9) (congrArg (fun z => some (va_rf z)) hr4) dX5_lost_8 ?_
    refine lv_iload_n hx hb dX5_lost_11 rfl (lv_at hl 2 rfl) ?_
    have hk := h.1
    replace h := h.2
    refine gc_i (va_runV (As := [.int x2]) (rest := []) ⟨hx, hb, hml, hown, hts⟩ (c_X4_isStone l D κ A S2 r4 x2 _ h) (cwV 1 hts gX5_lost_X4_isStone rfl rfl rfl (by decide +kernel) ⟨Nat.le_of_ble_eq_true rfl, Nat.le_of_ble_eq_true rfl⟩) (pg_V (q := (RX4, TX4, 3)) hK hX hG (pg_A hA hS) (kc_5 hk) rfl) rfl rfl hl.1 rfl (lv_room (Nat.le_of_ble_eq_true rfl)) dX5_lost_12 ⟨Nat.le_of_ble_eq_true rfl, Nat.le_of_ble_eq_true rfl⟩) hS (fun z7 S6 H locs5 h hG hS => ?_)
    refine lv_if_ne (tgt := 20) hx hb dX5_lost_15 rfl (fun hc => ?_) (fun hc => ?_)
    · replace h := h.1 hc
      refine lv_aload_n hx hb dX5_lost_20 rfl (lv_at hl 0 rfl) ?_
      have hk := h.1
      replace h := h.2
      obtain ⟨r8, hr8, h⟩ := h
      refine gg_get (v := .ref r8) (ci := 5) (C := RX5) (T := TX5) (N := 13) hx hb hts (fun _ h => List.mem_cons_of_mem _ (List.mem_append_left _ (List.mem_append_left _ (List.mem_append_left _ (List.mem_append_right _ (h)))))) hown hK hG (kc_6 hk) rfl 6 (by decide) (hts (.fieldLink RX5 34 "FourStones" "scales" "[LFourStones$Scale;") (List.mem_of_getElem? (i := 2) rfl)) (fun _ h9 => h9) (congrArg (fun z => some (va_rf z)) hr8) dX5_lost_21 ?_
      refine lv_iload_n hx hb dX5_lost_24 rfl (lv_at hl 1 rfl) ?_
      have hk := h.1
      replace h := h.2
      have hi := h.1
      replace h := h.2
      refine gg_aldq hx hb hK hG hk hi dX5_lost_25 (fun hc => ?_) (fun r9 hc => ?_)
      · replace h := h.1 hc
        refine lv_astore_nN (lv' := [(3, .null), (0, .ref a0), (1, .int x1), (2, .int x2)]) hx hb dX5_lost_26 rfl hl (by decide) rfl (fun ls hl => ?_)
        refine lv_aload_nN hx hb dX5_lost_27 rfl (lv_at hl 0 rfl) ?_
        refine lv_ifnonnullN hx hb dX5_lost_28 ?_
        refine lv_aload_n hx hb dX5_lost_31 rfl (lv_at hl 1 rfl) ?_
        refine lv_iload_n hx hb dX5_lost_32 rfl (lv_at hl 2 rfl) ?_
        have hk := h.1
        replace h := h.2
        refine gc_i (va_runV (As := [.int x1]) (rest := []) ⟨hx, hb, hml, hown, hts⟩ (c_X5_notHeld l D κ A S6 a0 x1 _ h) (cwV 1 hts gX5_lost_X5_notHeld rfl rfl rfl (by decide +kernel) ⟨Nat.le_of_ble_eq_true rfl, Nat.le_of_ble_eq_true rfl⟩) (pg_V (q := (RX5, TX5, 13)) hK hX hG (pg_A hA hS) (kc_6 hk) rfl) rfl rfl hl.1 rfl (lv_room (Nat.le_of_ble_eq_true rfl)) dX5_lost_33 ⟨Nat.le_of_ble_eq_true rfl, Nat.le_of_ble_eq_true rfl⟩) hS (fun z12 S11 H locs10 h hG hS => ?_)
        exact W.iret hx hb hr (gr_i h hG hK hX hS) hS.2.2 dX5_lost_36
      · replace h := h.2 r9 hc
        refine lv_astore_n (lv' := [(3, .ref r9), (0, .ref a0), (1, .int x1), (2, .int x2)]) hx hb dX5_lost_26 rfl hl (by decide) rfl (fun ls hl => ?_)
        refine lv_aload_n hx hb dX5_lost_27 rfl (lv_at hl 0 rfl) ?_
        refine lv_ifnonnull (tgt := 37) hx hb dX5_lost_28 rfl ?_
        refine lv_aload_n hx hb dX5_lost_37 rfl (lv_at hl 1 rfl) ?_
        refine lv_aload_n hx hb dX5_lost_38 rfl (lv_at hl 0 rfl) ?_
        refine lv_iload_n hx hb dX5_lost_39 rfl (lv_at hl 3 rfl) ?_
        refine lv_aload_n hx hb dX5_lost_40 rfl (lv_at hl 1 rfl) ?_
        refine lv_aload_n hx hb dX5_lost_41 rfl (lv_at hl 0 rfl) ?_
        refine lv_aload_n hx hb dX5_lost_42 rfl (lv_at hl 1 rfl) ?_
        have hk := h.1
        replace h := h.2
        obtain ⟨r13, hr13, h⟩ := h
        refine gg_get (v := .ref r13) (ci := 5) (C := RX5) (T := TX5) (N := 13) hx hb hts (fun _ h => List.mem_cons_of_mem _ (List.mem_append_left _ (List.mem_append_left _ (List.mem_append_left _ (List.mem_append_right _ (h)))))) hown hK hG (kc_6 hk) rfl 1 (by decide) (hts (.fieldLink RX5 19 "FourStones" "lyings" "LFourStones$Lyings;") (List.mem_of_getElem? (i := 3) rfl)) (fun _ h9 => h9) (congrArg (fun z => some (va_rf z)) hr13) dX5_lost_43 ?_
        have hk := h.1
        replace h := h.2
        refine gc_i (va_runV (As := [.ref r9, .ref r13]) (rest := [.int x2, .ref r9, .ref a0]) ⟨hx, hb, hml, hown, hts⟩ (c_X5_firstNotHad l D κ A S6 a0 r9 r13 _ h) (cwV 2 hts gX5_lost_X5_firstNotHad rfl rfl rfl (by decide +kernel) ⟨Nat.le_of_ble_eq_true rfl, Nat.le_of_ble_eq_true rfl⟩) (pg_V (q := (RX5, TX5, 13)) hK hX hG (pg_A hA hS) (kc_6 hk) rfl) rfl rfl hl.1 rfl (lv_room (Nat.le_of_ble_eq_true rfl)) dX5_lost_46 ⟨Nat.le_of_ble_eq_true rfl, Nat.le_of_ble_eq_true rfl⟩) hS (fun z16 S15 H locs14 h hG hS => ?_)
        refine lv_iconst (v := (1 : Int32)) hx hb dX5_lost_49 (by decide) ?_
        refine lv_isub hx hb dX5_lost_50 ?_
        have hk := h.1
        replace h := h.2
        refine gc_i (va_runV (As := [.ref r9, .int x2, .int (z16 - (1 : Int32))]) (rest := []) ⟨hx, hb, hml, hown, hts⟩ (c_X5_lostWithout l D κ A S15 a0 r9 x2 (z16 - (1 : Int32)) _ h) (cwV 3 hts gX5_lost_X5_lostWithout rfl rfl rfl (by decide +kernel) ⟨Nat.le_of_ble_eq_true rfl, Nat.le_of_ble_eq_true rfl⟩) (pg_V (q := (RX5, TX5, 13)) hK hX hG (pg_A hA hS) (kc_6 hk) rfl) rfl rfl hl.1 rfl (lv_room (Nat.le_of_ble_eq_true rfl)) dX5_lost_51 ⟨Nat.le_of_ble_eq_true rfl, Nat.le_of_ble_eq_true rfl⟩) hS (fun z19 S18 H locs17 h hG hS => ?_)
        exact W.iret hx hb hr (gr_i h hG hK hX hS) hS.2.2 dX5_lost_54
    · replace h := h.2 hc
      refine lv_iconst (v := (-1 : Int32)) hx hb dX5_lost_18 (by decide) ?_
      exact W.iret hx hb hr (gr_i h hG hK hX hS) hS.2.2 dX5_lost_19
set_option maxHeartbeats 4000000 in
set_option maxRecDepth 100000 in
theorem c_X5_harmsLeast (l : Launch) (D : va_G) (κ : Nat → ClassId) (A : Nat → Prop) (S : Hp) (a0 : Nat) (x1 : Int32) (Q : Int32 → Hp → Prop) (h : wp_X5_harmsLeast a0 x1 S Q) : Met l yX5_harmsLeast wsX5_harmsLeast ({ frames := 5, cells := 0, slots := 0, locals := 240 } : Room) (PG D κ A S [.ref a0, .int x1]) (va_Qi Q (BG D κ A) A) 0 0 A := by
  refine Met.ofW (cc := cX5_harmsLeast) (maxL := 8) (ret := (some .int)) (by decide) rfl ?_
  intro p e s m args below meth c s₁ B hml hv
  obtain ⟨hargs, hA, hG, hK, hX⟩ := hv
  have hx := B.exec
  have hb := B.bytes
  have hr := B.returns
  have hts := atoms_spec (ws := wsX5_harmsLeast) B.pre
  have hown : s.vm.findClass RX5 = some m.cls := findClass_of_methodNamed B.named
  have hlocks := B.notSynchronized
  subst hargs
  clear B
  have hS : va_S A s.heap s.heap [] := va_S.rf
  have hl := lv_entry ([.ref a0, .int x1]) (n := 8) (Nat.le_of_ble_eq_true rfl)
  rw [lg_entry_eq]
  generalize (lg_sl ([.ref a0, .int x1]) ++ List.replicate (8 - (lg_sl ([.ref a0, .int x1])).length) Slot.unset).toArray = ls at hl ⊢
  have hl : lv_has ls 8 [(0, .ref a0), (1, .int x1)] := hl
  have hG : GG D κ A S s.heap := hG
  have j_90 : ∀ (C48 : Nat × Nat × Int32 × Int32 × Int32 × Int32 × Hp → Prop) (hC48 : ∀ (v0 : Nat) (v2 : Nat) (v3 : Int32) (v4 : Int32) (v5 : Int32) (v6 : Int32) (S : Hp) (ls : Array Slot) (H : Heap) (locs : List Loc), lv_has ls 8 [(0, .ref v0), (2, .ref v2), (3, .int v3), (4, .int v4), (5, .int v5), (6, .int v6)] → GG D κ A S H → va_S A s.heap H locs → C48 (v0, v2, v3, v4, v5, v6, S) → W p l e ({ frames := 5, cells := 0, slots := 0, locals := 240 } : Room) s m ([.ref a0, .int x1] : List Value).toArray below meth c H locs 0 0 (MQ below (va_Qi Q (BG D κ A) A) ([.ref a0, .int x1] : List Value).toArray s 0 0 A) (F0 m 48 ls [])) (v0 : Nat) (v2 : Nat) (v3 : Int32) (v4 : Int32) (v5 : Int32) (v6 : Int32) (S : Hp) (ls : Array Slot) (H : Heap) (locs : List Loc), lv_has ls 8 [(0, .ref v0), (2, .ref v2), (3, .int v3), (4, .int v4), (5, .int v5), (6, .int v6)] → GG D κ A S H → va_S A s.heap H locs → J_X5_harmsLeast_90 C48 Q v0 v2 v3 v4 v5 v6 S → W p l e ({ frames := 5, cells := 0, slots := 0, locals := 240 } : Room) s m ([.ref a0, .int x1] : List Value).toArray below meth c H locs 0 0 (MQ below (va_Qi Q (BG D κ A) A) ([.ref a0, .int x1] : List Value).toArray s 0 0 A) (F0 m 90 ls []) := by
    intro C48 hC48 v0 v2 v3 v4 v5 v6 S ls H locs hl hG hS h
    unfold J_X5_harmsLeast_90 at h
    obtain ⟨y1, ey1⟩ : ∃ z, z = v6 + (1 : Int32) := ⟨_, rfl⟩
    replace h := h y1 ey1
    refine lv_iinc (v := y1) (lv' := [(6, .int y1), (0, .ref v0), (2, .ref v2), (3, .int v3), (4, .int v4), (5, .int v5)]) hx hb dX5_harmsLeast_90 hl (k := 5) rfl (by rw [ey1]; rfl) (by decide) rfl (fun ls hl => ?_)
    refine lv_goto (tgt := 48) hx hb dX5_harmsLeast_93 rfl ?_
    exact hC48 v0 v2 v3 v4 v5 y1 S ls _ _ (lv_sub hl [1, 2, 3, 4, 5, 0] rfl) hG hS h
  have j_82 : ∀ (C48 : Nat × Nat × Int32 × Int32 × Int32 × Int32 × Hp → Prop) (hC48 : ∀ (v0 : Nat) (v2 : Nat) (v3 : Int32) (v4 : Int32) (v5 : Int32) (v6 : Int32) (S : Hp) (ls : Array Slot) (H : Heap) (locs : List Loc), lv_has ls 8 [(0, .ref v0), (2, .ref v2), (3, .int v3), (4, .int v4), (5, .int v5), (6, .int v6)] → GG D κ A S H → va_S A s.heap H locs → C48 (v0, v2, v3, v4, v5, v6, S) → W p l e ({ frames := 5, cells := 0, slots := 0, locals := 240 } : Room) s m ([.ref a0, .int x1] : List Value).toArray below meth c H locs 0 0 (MQ below (va_Qi Q (BG D κ A) A) ([.ref a0, .int x1] : List Value).toArray s 0 0 A) (F0 m 48 ls [])) (v0 : Nat) (v2 : Nat) (v3 : Int32) (v6 : Int32) (v7 : Int32) (S : Hp) (ls : Array Slot) (H : Heap) (locs : List Loc), lv_has ls 8 [(0, .ref v0), (2, .ref v2), (3, .int v3), (6, .int v6), (7, .int v7)] → GG D κ A S H → va_S A s.heap H locs → J_X5_harmsLeast_82 C48 Q v0 v2 v3 v6 v7 S → W p l e ({ frames := 5, cells := 0, slots := 0, locals := 240 } : Room) s m ([.ref a0, .int x1] : List Value).toArray below meth c H locs 0 0 (MQ below (va_Qi Q (BG D κ A) A) ([.ref a0, .int x1] : List Value).toArray s 0 0 A) (F0 m 82 ls []) := by
    intro C48 hC48 v0 v2 v3 v6 v7 S ls H locs hl hG hS h
    unfold J_X5_harmsLeast_82 at h
    refine lv_iload hx hb dX5_harmsLeast_82 (lv_at hl 3 rfl) ?_
    refine lv_istore (lv' := [(4, .int v6), (0, .ref v0), (2, .ref v2), (3, .int v3), (6, .int v6), (7, .int v7)]) hx hb dX5_harmsLeast_84 hl (by decide) rfl (fun ls hl => ?_)
    refine lv_iload hx hb dX5_harmsLeast_86 (lv_at hl 5 rfl) ?_
    refine lv_istore (lv' := [(5, .int v7), (4, .int v6), (0, .ref v0), (2, .ref v2), (3, .int v3), (6, .int v6), (7, .int v7)]) hx hb dX5_harmsLeast_88 hl (by decide) rfl (fun ls hl => ?_)
    exact j_90 _ hC48 v0 v2 v3 v6 v7 v6 S ls _ _ (lv_sub hl [2, 3, 4, 1, 0, 5] rfl) hG hS h
  have k_48 : ∀  (n : Nat), ∀ (v0 : Nat) (v2 : Nat) (v3 : Int32) (v4 : Int32) (v5 : Int32) (v6 : Int32) (S : Hp) (ls : Array Slot) (H : Heap) (locs : List Loc), lv_has ls 8 [(0, .ref v0), (2, .ref v2), (3, .int v3), (4, .int v4), (5, .int v5), (6, .int v6)] → GG D κ A S H → va_S A s.heap H locs → it (L_X5_harmsLeast_48  Q) n (v0, v2, v3, v4, v5, v6, S) → W p l e ({ frames := 5, cells := 0, slots := 0, locals := 240 } : Room) s m ([.ref a0, .int x1] : List Value).toArray below meth c H locs 0 0 (MQ below (va_Qi Q (BG D κ A) A) ([.ref a0, .int x1] : List Value).toArray s 0 0 A) (F0 m 48 ls []) := by
    intro  n
    induction n with
    | zero => intro v0 v2 v3 v4 v5 v6 S ls H locs hl hG hS h; exact False.elim h
    | succ n hC48 =>
      intro v0 v2 v3 v4 v5 v6 S ls H locs hl hG hS h
      replace h : L_X5_harmsLeast_48  Q (it (L_X5_harmsLeast_48  Q) n) (v0, v2, v3, v4, v5, v6, S) := h
      simp only [L_X5_harmsLeast_48] at h
      refine lv_iload hx hb dX5_harmsLeast_48 (lv_at hl 5 rfl) ?_
      refine lv_aload_n hx hb dX5_harmsLeast_50 rfl (lv_at hl 0 rfl) ?_
      have hk := h.1
      replace h := h.2
      obtain ⟨r1, hr1, h⟩ := h
      refine gg_get (v := .ref r1) (ci := 5) (C := RX5) (T := TX5) (N := 13) hx hb hts (fun _ h => List.mem_cons_of_mem _ (List.mem_append_left _ (List.mem_append_left _ (List.mem_append_left _ (List.mem_append_right _ (h)))))) hown hK hG (kc_6 hk) rfl 0 (by decide) (hts (.fieldLink RX5 10 "FourStones" "stones" "LFourStones$Stones;") (List.mem_of_getElem? (i := 3) rfl)) (fun _ h9 => h9) (congrArg (fun z => some (va_rf z)) hr1) dX5_harmsLeast_51 ?_
      have hk := h.1
      replace h := h.2
      refine gg_get (ci := 4) (C := RX4) (T := TX4) (N := 3) hx hb hts (fun _ h => List.mem_cons_of_mem _ (List.mem_append_left _ (List.mem_append_left _ (List.mem_append_right _ (h))))) hown hK hG (kc_5 hk) rfl 2 (by decide) (hts (.fieldLink RX5 175 "FourStones$Stones" "count" "I") (List.mem_of_getElem? (i := 4) rfl)) (fun _ h9 => h9) rfl dX5_harmsLeast_54 ?_
      refine lv_icmp_ge (tgt := 96) hx hb dX5_harmsLeast_57 rfl (fun hc => ?_) (fun hc => ?_)
      · replace h := h.1 hc
        refine lv_iload hx hb dX5_harmsLeast_96 (lv_at hl 3 rfl) ?_
        exact W.iret hx hb hr (gr_i h hG hK hX hS) hS.2.2 dX5_harmsLeast_98
      · replace h := h.2 hc
        refine lv_aload_n hx hb dX5_harmsLeast_60 rfl (lv_at hl 0 rfl) ?_
        refine lv_aload_n hx hb dX5_harmsLeast_61 rfl (lv_at hl 1 rfl) ?_
        refine lv_iload hx hb dX5_harmsLeast_62 (lv_at hl 5 rfl) ?_
        refine lv_iload_n hx hb dX5_harmsLeast_64 rfl (lv_at hl 2 rfl) ?_
        have hk := h.1
        replace h := h.2
        refine gc_i (va_runV (As := [.ref v2, .int v6, .int v3]) (rest := []) ⟨hx, hb, hml, hown, hts⟩ (c_X5_lostWithout l D κ A S v0 v2 v6 v3 _ h) (cwV 3 hts gX5_harmsLeast_X5_lostWithout rfl rfl rfl (by decide +kernel) ⟨Nat.le_of_ble_eq_true rfl, Nat.le_of_ble_eq_true rfl⟩) (pg_V (q := (RX5, TX5, 13)) hK hX hG (pg_A hA hS) (kc_6 hk) rfl) rfl rfl hl.1 rfl (lv_room (Nat.le_of_ble_eq_true rfl)) dX5_harmsLeast_65 ⟨Nat.le_of_ble_eq_true rfl, Nat.le_of_ble_eq_true rfl⟩) hS (fun z4 S3 H locs2 h hG hS => ?_)
        refine lv_istore (lv' := [(7, .int z4), (0, .ref v0), (2, .ref v2), (3, .int v3), (4, .int v4), (5, .int v5), (6, .int v6)]) hx hb dX5_harmsLeast_68 hl (by decide) rfl (fun ls hl => ?_)
        refine lv_iload hx hb dX5_harmsLeast_70 (lv_at hl 4 rfl) ?_
        refine lv_if_lt (tgt := 82) hx hb dX5_harmsLeast_72 rfl (fun hc => ?_) (fun hc => ?_)
        · replace h := h.1 hc
          exact j_82 _ hC48 v0 v2 v3 v6 z4 S3 ls _ _ (lv_sub hl [1, 2, 3, 6, 0] rfl) hG hS h
        · replace h := h.2 hc
          refine lv_iload hx hb dX5_harmsLeast_75 (lv_at hl 0 rfl) ?_
          refine lv_iload hx hb dX5_harmsLeast_77 (lv_at hl 5 rfl) ?_
          refine lv_icmp_ge (tgt := 90) hx hb dX5_harmsLeast_79 rfl (fun hc => ?_) (fun hc => ?_)
          · replace h := h.1 hc
            exact j_90 _ hC48 v0 v2 v3 v4 v5 v6 S3 ls _ _ (lv_sub hl [1, 2, 3, 4, 5, 6] rfl) hG hS h
          · replace h := h.2 hc
            exact j_82 _ hC48 v0 v2 v3 v6 z4 S3 ls _ _ (lv_sub hl [1, 2, 3, 6, 0] rfl) hG hS h
  refine lv_iload_n hx hb dX5_harmsLeast_0 rfl (lv_at hl 1 rfl) ?_
  refine gc_i (va_runS (As := [.int x1]) (rest := []) ⟨hx, hb, hml, hown, hts⟩ (c_X5_isShelf l D κ A S x1 _ h) (va_cwS 1 hts gX5_harmsLeast_X5_isShelf rfl rfl rfl (by decide +kernel) ⟨Nat.le_of_ble_eq_true rfl, Nat.le_of_ble_eq_true rfl⟩) (pg_S hK hX hG (pg_A hA hS)) rfl rfl hl.1 rfl (lv_room (Nat.le_of_ble_eq_true rfl)) dX5_harmsLeast_1 ⟨Nat.le_of_ble_eq_true rfl, Nat.le_of_ble_eq_true rfl⟩) hS (fun z3 S2 H locs1 h hG hS => ?_)
  refine lv_if_ne (tgt := 9) hx hb dX5_harmsLeast_4 rfl (fun hc => ?_) (fun hc => ?_)
  · replace h := h.1 hc
    refine lv_aload_n hx hb dX5_harmsLeast_9 rfl (lv_at hl 0 rfl) ?_
    have hk := h.1
    replace h := h.2
    obtain ⟨r4, hr4, h⟩ := h
    refine gg_get (v := .ref r4) (ci := 5) (C := RX5) (T := TX5) (N := 13) hx hb hts (fun _ h => List.mem_cons_of_mem _ (List.mem_append_left _ (List.mem_append_left _ (List.mem_append_left _ (List.mem_append_right _ (h)))))) hown hK hG (kc_6 hk) rfl 6 (by decide) (hts (.fieldLink RX5 34 "FourStones" "scales" "[LFourStones$Scale;") (List.mem_of_getElem? (i := 1) rfl)) (fun _ h9 => h9) (congrArg (fun z => some (va_rf z)) hr4) dX5_harmsLeast_10 ?_
    refine lv_iload_n hx hb dX5_harmsLeast_13 rfl (lv_at hl 1 rfl) ?_
    have hk := h.1
    replace h := h.2
    have hi := h.1
    replace h := h.2
    refine gg_aldq hx hb hK hG hk hi dX5_harmsLeast_14 (fun hc => ?_) (fun r5 hc => ?_)
    · replace h := h.1 hc
      refine lv_astore_nN (lv' := [(2, .null), (0, .ref a0), (1, .int x1)]) hx hb dX5_harmsLeast_15 rfl hl (by decide) rfl (fun ls hl => ?_)
      refine lv_aload_nN hx hb dX5_harmsLeast_16 rfl (lv_at hl 0 rfl) ?_
      refine lv_ifnonnullN hx hb dX5_harmsLeast_17 ?_
      refine lv_aload_n hx hb dX5_harmsLeast_20 rfl (lv_at hl 1 rfl) ?_
      refine lv_iload_n hx hb dX5_harmsLeast_21 rfl (lv_at hl 2 rfl) ?_
      have hk := h.1
      replace h := h.2
      refine gc_i (va_runV (As := [.int x1]) (rest := []) ⟨hx, hb, hml, hown, hts⟩ (c_X5_notHeld l D κ A S2 a0 x1 _ h) (cwV 1 hts gX5_harmsLeast_X5_notHeld rfl rfl rfl (by decide +kernel) ⟨Nat.le_of_ble_eq_true rfl, Nat.le_of_ble_eq_true rfl⟩) (pg_V (q := (RX5, TX5, 13)) hK hX hG (pg_A hA hS) (kc_6 hk) rfl) rfl rfl hl.1 rfl (lv_room (Nat.le_of_ble_eq_true rfl)) dX5_harmsLeast_22 ⟨Nat.le_of_ble_eq_true rfl, Nat.le_of_ble_eq_true rfl⟩) hS (fun z8 S7 H locs6 h hG hS => ?_)
      exact W.iret hx hb hr (gr_i h hG hK hX hS) hS.2.2 dX5_harmsLeast_25
    · replace h := h.2 r5 hc
      refine lv_astore_n (lv' := [(2, .ref r5), (0, .ref a0), (1, .int x1)]) hx hb dX5_harmsLeast_15 rfl hl (by decide) rfl (fun ls hl => ?_)
      refine lv_aload_n hx hb dX5_harmsLeast_16 rfl (lv_at hl 0 rfl) ?_
      refine lv_ifnonnull (tgt := 26) hx hb dX5_harmsLeast_17 rfl ?_
      refine lv_aload_n hx hb dX5_harmsLeast_26 rfl (lv_at hl 1 rfl) ?_
      refine lv_aload_n hx hb dX5_harmsLeast_27 rfl (lv_at hl 0 rfl) ?_
      refine lv_aload_n hx hb dX5_harmsLeast_28 rfl (lv_at hl 1 rfl) ?_
      have hk := h.1
      replace h := h.2
      obtain ⟨r9, hr9, h⟩ := h
      refine gg_get (v := .ref r9) (ci := 5) (C := RX5) (T := TX5) (N := 13) hx hb hts (fun _ h => List.mem_cons_of_mem _ (List.mem_append_left _ (List.mem_append_left _ (List.mem_append_left _ (List.mem_append_right _ (h)))))) hown hK hG (kc_6 hk) rfl 1 (by decide) (hts (.fieldLink RX5 19 "FourStones" "lyings" "LFourStones$Lyings;") (List.mem_of_getElem? (i := 2) rfl)) (fun _ h9 => h9) (congrArg (fun z => some (va_rf z)) hr9) dX5_harmsLeast_29 ?_
      have hk := h.1
      replace h := h.2
      refine gc_i (va_runV (As := [.ref r5, .ref r9]) (rest := []) ⟨hx, hb, hml, hown, hts⟩ (c_X5_firstNotHad l D κ A S2 a0 r5 r9 _ h) (cwV 2 hts gX5_harmsLeast_X5_firstNotHad rfl rfl rfl (by decide +kernel) ⟨Nat.le_of_ble_eq_true rfl, Nat.le_of_ble_eq_true rfl⟩) (pg_V (q := (RX5, TX5, 13)) hK hX hG (pg_A hA hS) (kc_6 hk) rfl) rfl rfl hl.1 rfl (lv_room (Nat.le_of_ble_eq_true rfl)) dX5_harmsLeast_32 ⟨Nat.le_of_ble_eq_true rfl, Nat.le_of_ble_eq_true rfl⟩) hS (fun z12 S11 H locs10 h hG hS => ?_)
      refine lv_iconst (v := (1 : Int32)) hx hb dX5_harmsLeast_35 (by decide) ?_
      refine lv_isub hx hb dX5_harmsLeast_36 ?_
      refine lv_topi (fun y13 ey13 => ?_)
      replace h := h y13 ey13
      refine lv_istore_n (lv' := [(3, .int y13), (2, .ref r5), (0, .ref a0), (1, .int x1)]) hx hb dX5_harmsLeast_37 rfl hl (by decide) rfl (fun ls hl => ?_)
      refine lv_bipush (v := (-4 : Int32)) hx hb dX5_harmsLeast_38 (by decide) ?_
      refine lv_istore (lv' := [(4, .int (-4 : Int32)), (3, .int y13), (2, .ref r5), (0, .ref a0), (1, .int x1)]) hx hb dX5_harmsLeast_40 hl (by decide) rfl (fun ls hl => ?_)
      refine lv_iconst (v := (0 : Int32)) hx hb dX5_harmsLeast_42 (by decide) ?_
      refine lv_istore (lv' := [(5, .int (0 : Int32)), (4, .int (-4 : Int32)), (3, .int y13), (2, .ref r5), (0, .ref a0), (1, .int x1)]) hx hb dX5_harmsLeast_43 hl (by decide) rfl (fun ls hl => ?_)
      refine lv_iconst (v := (0 : Int32)) hx hb dX5_harmsLeast_45 (by decide) ?_
      refine lv_istore (lv' := [(6, .int (0 : Int32)), (5, .int (0 : Int32)), (4, .int (-4 : Int32)), (3, .int y13), (2, .ref r5), (0, .ref a0), (1, .int x1)]) hx hb dX5_harmsLeast_46 hl (by decide) rfl (fun ls hl => ?_)
      obtain ⟨nn, h⟩ := h
      exact k_48  nn a0 r5 y13 (-4 : Int32) (0 : Int32) (0 : Int32) S11 ls _ _ (lv_sub hl [5, 4, 3, 2, 1, 0] rfl) hG hS h
  · replace h := h.2 hc
    refine lv_iconst (v := (-1 : Int32)) hx hb dX5_harmsLeast_7 (by decide) ?_
    exact W.iret hx hb hr (gr_i h hG hK hX hS) hS.2.2 dX5_harmsLeast_8
set_option maxHeartbeats 4000000 in
set_option maxRecDepth 100000 in
theorem c_X5_trials (l : Launch) (D : va_G) (κ : Nat → ClassId) (A : Nat → Prop) (S : Hp) (a0 : Nat) (x1 : Int32) (Q : Int32 → Hp → Prop) (h : wp_X5_trials a0 x1 S Q) : Met l yX5_trials wsX5_trials ({ frames := 3, cells := 0, slots := 0, locals := 144 } : Room) (PG D κ A S [.ref a0, .int x1]) (va_Qi Q (BG D κ A) A) 0 0 A := by
  refine Met.ofW (cc := cX5_trials) (maxL := 5) (ret := (some .int)) (by decide) rfl ?_
  intro p e s m args below meth c s₁ B hml hv
  obtain ⟨hargs, hA, hG, hK, hX⟩ := hv
  have hx := B.exec
  have hb := B.bytes
  have hr := B.returns
  have hts := atoms_spec (ws := wsX5_trials) B.pre
  have hown : s.vm.findClass RX5 = some m.cls := findClass_of_methodNamed B.named
  have hlocks := B.notSynchronized
  subst hargs
  clear B
  have hS : va_S A s.heap s.heap [] := va_S.rf
  have hl := lv_entry ([.ref a0, .int x1]) (n := 5) (Nat.le_of_ble_eq_true rfl)
  rw [lg_entry_eq]
  generalize (lg_sl ([.ref a0, .int x1]) ++ List.replicate (5 - (lg_sl ([.ref a0, .int x1])).length) Slot.unset).toArray = ls at hl ⊢
  have hl : lv_has ls 5 [(0, .ref a0), (1, .int x1)] := hl
  have hG : GG D κ A S s.heap := hG
  have k_28 : ∀  (n : Nat), ∀ (v2 : Int32) (v3 : Int32) (v4 : Int32) (S : Hp) (ls : Array Slot) (H : Heap) (locs : List Loc), lv_has ls 5 [(2, .int v2), (3, .int v3), (4, .int v4)] → GG D κ A S H → va_S A s.heap H locs → it (L_X5_trials_28  Q) n (v2, v3, v4, S) → W p l e ({ frames := 3, cells := 0, slots := 0, locals := 144 } : Room) s m ([.ref a0, .int x1] : List Value).toArray below meth c H locs 0 0 (MQ below (va_Qi Q (BG D κ A) A) ([.ref a0, .int x1] : List Value).toArray s 0 0 A) (F0 m 28 ls []) := by
    intro  n
    induction n with
    | zero => intro v2 v3 v4 S ls H locs hl hG hS h; exact False.elim h
    | succ n hC28 =>
      intro v2 v3 v4 S ls H locs hl hG hS h
      replace h : L_X5_trials_28  Q (it (L_X5_trials_28  Q) n) (v2, v3, v4, S) := h
      simp only [L_X5_trials_28] at h
      refine lv_iload hx hb dX5_trials_28 (lv_at hl 2 rfl) ?_
      refine lv_iload_n hx hb dX5_trials_30 rfl (lv_at hl 0 rfl) ?_
      refine lv_icmp_ge (tgt := 46) hx hb dX5_trials_31 rfl (fun hc => ?_) (fun hc => ?_)
      · replace h := h.1 hc
        refine lv_iload_n hx hb dX5_trials_46 rfl (lv_at hl 1 rfl) ?_
        exact W.iret hx hb hr (gr_i h hG hK hX hS) hS.2.2 dX5_trials_47
      · replace h := h.2 hc
        obtain ⟨y1, ey1⟩ : ∃ z, z = v3 + (1 : Int32) := ⟨_, rfl⟩
        replace h := h y1 ey1
        refine lv_iinc (v := y1) (lv' := [(3, .int y1), (2, .int v2), (4, .int v4)]) hx hb dX5_trials_34 hl (k := 1) rfl (by rw [ey1]; rfl) (by decide) rfl (fun ls hl => ?_)
        refine lv_iload hx hb dX5_trials_37 (lv_at hl 2 rfl) ?_
        refine lv_iconst (v := (3 : Int32)) hx hb dX5_trials_39 (by decide) ?_
        refine lv_imul hx hb dX5_trials_40 ?_
        refine lv_topi (fun y2 ey2 => ?_)
        replace h := h y2 ey2
        refine lv_istore (lv' := [(4, .int y2), (3, .int y1), (2, .int v2)]) hx hb dX5_trials_41 hl (by decide) rfl (fun ls hl => ?_)
        refine lv_goto (tgt := 28) hx hb dX5_trials_43 rfl ?_
        exact hC28 v2 y1 y2 S ls _ _ (lv_sub hl [2, 1, 0] rfl) hG hS h
  refine lv_iload_n hx hb dX5_trials_0 rfl (lv_at hl 1 rfl) ?_
  refine gc_i (va_runS (As := [.int x1]) (rest := []) ⟨hx, hb, hml, hown, hts⟩ (c_J6_bitCount_0f7a4 l D κ A S x1 _ h) (va_cwS 1 hts gX5_trials_J6_bitCount_0f7a4 rfl rfl rfl (by decide +kernel) ⟨Nat.le_of_ble_eq_true rfl, Nat.le_of_ble_eq_true rfl⟩) (pg_S hK hX hG (pg_A hA hS)) rfl rfl hl.1 rfl (lv_room (Nat.le_of_ble_eq_true rfl)) dX5_trials_1 ⟨Nat.le_of_ble_eq_true rfl, Nat.le_of_ble_eq_true rfl⟩) hS (fun z3 S2 H locs1 h hG hS => ?_)
  refine lv_istore_n (lv' := [(2, .int z3), (0, .ref a0), (1, .int x1)]) hx hb dX5_trials_4 rfl hl (by decide) rfl (fun ls hl => ?_)
  refine lv_aload_n hx hb dX5_trials_5 rfl (lv_at hl 1 rfl) ?_
  have hk := h.1
  replace h := h.2
  obtain ⟨r4, hr4, h⟩ := h
  refine gg_get (v := .ref r4) (ci := 5) (C := RX5) (T := TX5) (N := 13) hx hb hts (fun _ h => List.mem_cons_of_mem _ (List.mem_append_left _ (List.mem_append_right _ (h)))) hown hK hG (kc_6 hk) rfl 0 (by decide) (hts (.fieldLink RX5 10 "FourStones" "stones" "LFourStones$Stones;") (List.mem_of_getElem? (i := 1) rfl)) (fun _ h9 => h9) (congrArg (fun z => some (va_rf z)) hr4) dX5_trials_6 ?_
  refine lv_iload_n hx hb dX5_trials_9 rfl (lv_at hl 2 rfl) ?_
  have hk := h.1
  replace h := h.2
  refine gc_i (va_runV (As := [.int x1]) (rest := []) ⟨hx, hb, hml, hown, hts⟩ (c_X4_areStones l D κ A S2 r4 x1 _ h) (cwV 1 hts gX5_trials_X4_areStones rfl rfl rfl (by decide +kernel) ⟨Nat.le_of_ble_eq_true rfl, Nat.le_of_ble_eq_true rfl⟩) (pg_V (q := (RX4, TX4, 3)) hK hX hG (pg_A hA hS) (kc_5 hk) rfl) rfl rfl hl.1 rfl (lv_room (Nat.le_of_ble_eq_true rfl)) dX5_trials_10 ⟨Nat.le_of_ble_eq_true rfl, Nat.le_of_ble_eq_true rfl⟩) hS (fun z7 S6 H locs5 h hG hS => ?_)
  refine lv_if_eq (tgt := 21) hx hb dX5_trials_13 rfl (fun hc => ?_) (fun hc => ?_)
  · replace h := h.1 hc
    refine lv_iconst (v := (-1 : Int32)) hx hb dX5_trials_21 (by decide) ?_
    exact W.iret hx hb hr (gr_i h hG hK hX hS) hS.2.2 dX5_trials_22
  · replace h := h.2 hc
    refine lv_iload_n hx hb dX5_trials_16 rfl (lv_at hl 0 rfl) ?_
    refine lv_iconst (v := (2 : Int32)) hx hb dX5_trials_17 (by decide) ?_
    refine lv_icmp_ge (tgt := 23) hx hb dX5_trials_18 rfl (fun hc => ?_) (fun hc => ?_)
    · replace h := h.1 hc
      refine lv_iconst (v := (0 : Int32)) hx hb dX5_trials_23 (by decide) ?_
      refine lv_istore_n (lv' := [(3, .int (0 : Int32)), (2, .int z3), (0, .ref a0), (1, .int x1)]) hx hb dX5_trials_24 rfl hl (by decide) rfl (fun ls hl => ?_)
      refine lv_iconst (v := (1 : Int32)) hx hb dX5_trials_25 (by decide) ?_
      refine lv_istore (lv' := [(4, .int (1 : Int32)), (3, .int (0 : Int32)), (2, .int z3), (0, .ref a0), (1, .int x1)]) hx hb dX5_trials_26 hl (by decide) rfl (fun ls hl => ?_)
      obtain ⟨nn, h⟩ := h
      exact k_28  nn z3 (0 : Int32) (1 : Int32) S6 ls _ _ (lv_sub hl [2, 1, 0] rfl) hG hS h
    · replace h := h.2 hc
      refine lv_iconst (v := (-1 : Int32)) hx hb dX5_trials_21 (by decide) ?_
      exact W.iret hx hb hr (gr_i h hG hK hX hS) hS.2.2 dX5_trials_22
set_option maxHeartbeats 4000000 in
set_option maxRecDepth 100000 in
theorem c_X5_areTrials (l : Launch) (D : va_G) (κ : Nat → ClassId) (A : Nat → Prop) (S : Hp) (a0 : Nat) (Q : Int32 → Hp → Prop) (h : wp_X5_areTrials a0 S Q) : Met l yX5_areTrials wsX5_areTrials ({ frames := 1, cells := 0, slots := 0, locals := 48 } : Room) (PG D κ A S [.ref a0]) (va_Qi Q (BG D κ A) A) 0 0 A := by
  refine Met.ofW (cc := cX5_areTrials) (maxL := 5) (ret := (some .boolean)) (by decide) rfl ?_
  intro p e s m args below meth c s₁ B hml hv
  obtain ⟨hargs, hA, hG, hK, hX⟩ := hv
  have hx := B.exec
  have hb := B.bytes
  have hr := B.returns
  have hts := atoms_spec (ws := wsX5_areTrials) B.pre
  have hown : s.vm.findClass RX5 = some m.cls := findClass_of_methodNamed B.named
  have hlocks := B.notSynchronized
  subst hargs
  clear B
  have hS : va_S A s.heap s.heap [] := va_S.rf
  have hl := lv_entry ([.ref a0]) (n := 5) (Nat.le_of_ble_eq_true rfl)
  rw [lg_entry_eq]
  generalize (lg_sl ([.ref a0]) ++ List.replicate (5 - (lg_sl ([.ref a0])).length) Slot.unset).toArray = ls at hl ⊢
  have hl : lv_has ls 5 [(0, .ref a0)] := hl
  have hG : GG D κ A S s.heap := hG
  have k_16 : ∀  (n : Nat), ∀ (v0 : Nat) (v1 : Int32) (v2 : Int32) (S : Hp) (ls : Array Slot) (H : Heap) (locs : List Loc), lv_has ls 5 [(0, .ref v0), (1, .int v1), (2, .int v2)] → GG D κ A S H → va_S A s.heap H locs → it (L_X5_areTrials_16  Q) n (v0, v1, v2, S) → W p l e ({ frames := 1, cells := 0, slots := 0, locals := 48 } : Room) s m ([.ref a0] : List Value).toArray below meth c H locs 0 0 (MQ below (va_Qi Q (BG D κ A) A) ([.ref a0] : List Value).toArray s 0 0 A) (F0 m 16 ls []) := by
    intro  n
    induction n with
    | zero => intro v0 v1 v2 S ls H locs hl hG hS h; exact False.elim h
    | succ n hC16 =>
      intro v0 v1 v2 S ls H locs hl hG hS h
      replace h : L_X5_areTrials_16  Q (it (L_X5_areTrials_16  Q) n) (v0, v1, v2, S) := h
      simp only [L_X5_areTrials_16] at h
      refine lv_iload_n hx hb dX5_areTrials_16 rfl (lv_at hl 2 rfl) ?_
      refine lv_iconst (v := (1 : Int32)) hx hb dX5_areTrials_17 (by decide) ?_
      refine lv_iadd hx hb dX5_areTrials_18 ?_
      refine lv_iload_n hx hb dX5_areTrials_19 rfl (lv_at hl 1 rfl) ?_
      refine lv_icmp_ge (tgt := 69) hx hb dX5_areTrials_20 rfl (fun hc => ?_) (fun hc => ?_)
      · replace h := h.1 hc
        refine lv_iconst (v := (1 : Int32)) hx hb dX5_areTrials_69 (by decide) ?_
        exact W.zret (ty := .boolean) hx hb hr (by decide) (gr_i h hG hK hX hS) hS.2.2 dX5_areTrials_70
      · replace h := h.2 hc
        refine lv_aload_n hx hb dX5_areTrials_23 rfl (lv_at hl 0 rfl) ?_
        have hk := h.1
        replace h := h.2
        obtain ⟨r1, hr1, h⟩ := h
        refine gg_get (v := .ref r1) (ci := 1) (C := RX1) (T := TX1) (N := 2) hx hb hts (fun _ h => List.mem_cons_of_mem _ (List.mem_append_right _ (h))) hown hK hG (kc_2 hk) rfl 1 (by decide) (hts (.fieldLink RX5 209 "FourStones$Row" "cells" "[I") (List.mem_of_getElem? (i := 1) rfl)) (fun _ h9 => h9) (congrArg (fun z => some (va_rf z)) hr1) dX5_areTrials_24 ?_
        refine lv_iload_n hx hb dX5_areTrials_27 rfl (lv_at hl 2 rfl) ?_
        have hk := h.1
        replace h := h.2
        have hi := h.1
        replace h := h.2
        refine gg_iald hx hb hK hG hk hi dX5_areTrials_28 ?_
        refine lv_topi (fun y2 ey2 => ?_)
        replace h := h y2 ey2
        refine lv_istore_n (lv' := [(3, .int y2), (0, .ref v0), (1, .int v1), (2, .int v2)]) hx hb dX5_areTrials_29 rfl hl (by decide) rfl (fun ls hl => ?_)
        refine lv_aload_n hx hb dX5_areTrials_30 rfl (lv_at hl 1 rfl) ?_
        have hk := h.1
        replace h := h.2
        obtain ⟨r3, hr3, h⟩ := h
        refine gg_get (v := .ref r3) (ci := 1) (C := RX1) (T := TX1) (N := 2) hx hb hts (fun _ h => List.mem_cons_of_mem _ (List.mem_append_right _ (h))) hown hK hG (kc_2 hk) rfl 1 (by decide) (hts (.fieldLink RX5 209 "FourStones$Row" "cells" "[I") (List.mem_of_getElem? (i := 1) rfl)) (fun _ h9 => h9) (congrArg (fun z => some (va_rf z)) hr3) dX5_areTrials_31 ?_
        refine lv_iload_n hx hb dX5_areTrials_34 rfl (lv_at hl 3 rfl) ?_
        refine lv_iconst (v := (1 : Int32)) hx hb dX5_areTrials_35 (by decide) ?_
        refine lv_iadd hx hb dX5_areTrials_36 ?_
        have hk := h.1
        replace h := h.2
        have hi := h.1
        replace h := h.2
        refine gg_iald hx hb hK hG hk hi dX5_areTrials_37 ?_
        refine lv_topi (fun y4 ey4 => ?_)
        replace h := h y4 ey4
        refine lv_istore (lv' := [(4, .int y4), (3, .int y2), (0, .ref v0), (1, .int v1), (2, .int v2)]) hx hb dX5_areTrials_38 hl (by decide) rfl (fun ls hl => ?_)
        refine lv_iload_n hx hb dX5_areTrials_40 rfl (lv_at hl 1 rfl) ?_
        refine lv_if_lt (tgt := 61) hx hb dX5_areTrials_41 rfl (fun hc => ?_) (fun hc => ?_)
        · replace h := h.1 hc
          refine lv_iconst (v := (0 : Int32)) hx hb dX5_areTrials_61 (by decide) ?_
          exact W.zret (ty := .boolean) hx hb hr (by decide) (gr_i h hG hK hX hS) hS.2.2 dX5_areTrials_62
        · replace h := h.2 hc
          refine lv_iload_n hx hb dX5_areTrials_44 rfl (lv_at hl 1 rfl) ?_
          refine lv_bipush (v := (81 : Int32)) hx hb dX5_areTrials_45 (by decide) ?_
          refine lv_icmp_ge (tgt := 61) hx hb dX5_areTrials_47 rfl (fun hc => ?_) (fun hc => ?_)
          · replace h := h.1 hc
            refine lv_iconst (v := (0 : Int32)) hx hb dX5_areTrials_61 (by decide) ?_
            exact W.zret (ty := .boolean) hx hb hr (by decide) (gr_i h hG hK hX hS) hS.2.2 dX5_areTrials_62
          · replace h := h.2 hc
            refine lv_iload hx hb dX5_areTrials_50 (lv_at hl 0 rfl) ?_
            refine lv_if_lt (tgt := 61) hx hb dX5_areTrials_52 rfl (fun hc => ?_) (fun hc => ?_)
            · replace h := h.1 hc
              refine lv_iconst (v := (0 : Int32)) hx hb dX5_areTrials_61 (by decide) ?_
              exact W.zret (ty := .boolean) hx hb hr (by decide) (gr_i h hG hK hX hS) hS.2.2 dX5_areTrials_62
            · replace h := h.2 hc
              refine lv_iload hx hb dX5_areTrials_55 (lv_at hl 0 rfl) ?_
              refine lv_iconst (v := (2 : Int32)) hx hb dX5_areTrials_57 (by decide) ?_
              refine lv_icmp_le (tgt := 63) hx hb dX5_areTrials_58 rfl (fun hc => ?_) (fun hc => ?_)
              · replace h := h.1 hc
                obtain ⟨y5, ey5⟩ : ∃ z, z = v2 + (2 : Int32) := ⟨_, rfl⟩
                replace h := h y5 ey5
                refine lv_iinc (v := y5) (lv' := [(2, .int y5), (4, .int y4), (3, .int y2), (0, .ref v0), (1, .int v1)]) hx hb dX5_areTrials_63 hl (k := 4) rfl (by rw [ey5]; rfl) (by decide) rfl (fun ls hl => ?_)
                refine lv_goto (tgt := 16) hx hb dX5_areTrials_66 rfl ?_
                exact hC16 v0 v1 y5 S ls _ _ (lv_sub hl [3, 4, 0] rfl) hG hS h
              · replace h := h.2 hc
                refine lv_iconst (v := (0 : Int32)) hx hb dX5_areTrials_61 (by decide) ?_
                exact W.zret (ty := .boolean) hx hb hr (by decide) (gr_i h hG hK hX hS) hS.2.2 dX5_areTrials_62
  refine lv_aload_n hx hb dX5_areTrials_0 rfl (lv_at hl 0 rfl) ?_
  have hk := h.1
  replace h := h.2
  obtain ⟨r1, hr1, h⟩ := h
  refine gg_get (v := .ref r1) (ci := 1) (C := RX1) (T := TX1) (N := 2) hx hb hts (fun _ h => List.mem_cons_of_mem _ (List.mem_append_right _ (h))) hown hK hG (kc_2 hk) rfl 1 (by decide) (hts (.fieldLink RX5 209 "FourStones$Row" "cells" "[I") (List.mem_of_getElem? (i := 1) rfl)) (fun _ h9 => h9) (congrArg (fun z => some (va_rf z)) hr1) dX5_areTrials_1 ?_
  have hk := h.1
  replace h := h.2
  refine gg_alen8 hx hb hK hG hk dX5_areTrials_4 ?_
  refine lv_topi (fun y2 ey2 => ?_)
  replace h := h y2 ey2
  refine lv_istore_n (lv' := [(1, .int y2), (0, .ref a0)]) hx hb dX5_areTrials_5 rfl hl (by decide) rfl (fun ls hl => ?_)
  refine lv_iload_n hx hb dX5_areTrials_6 rfl (lv_at hl 0 rfl) ?_
  refine lv_iconst (v := (2 : Int32)) hx hb dX5_areTrials_7 (by decide) ?_
  refine lv_irem hx hb dX5_areTrials_8 (by decide) ?_
  refine lv_if_eq (tgt := 14) hx hb dX5_areTrials_9 rfl (fun hc => ?_) (fun hc => ?_)
  · replace h := h.1 hc
    refine lv_iconst (v := (0 : Int32)) hx hb dX5_areTrials_14 (by decide) ?_
    refine lv_istore_n (lv' := [(2, .int (0 : Int32)), (1, .int y2), (0, .ref a0)]) hx hb dX5_areTrials_15 rfl hl (by decide) rfl (fun ls hl => ?_)
    obtain ⟨nn, h⟩ := h
    exact k_16  nn a0 y2 (0 : Int32) S ls _ _ (lv_sub hl [2, 1, 0] rfl) hG hS h
  · replace h := h.2 hc
    refine lv_iconst (v := (0 : Int32)) hx hb dX5_areTrials_12 (by decide) ?_
    exact W.zret (ty := .boolean) hx hb hr (by decide) (gr_i h hG hK hX hS) hS.2.2 dX5_areTrials_13
set_option maxHeartbeats 4000000 in
set_option maxRecDepth 100000 in
theorem c_X5_isLighterBy (l : Launch) (D : va_G) (κ : Nat → ClassId) (A : Nat → Prop) (S : Hp) (a0 : Nat) (x1 : Int32) (Q : Int32 → Hp → Prop) (h : wp_X5_isLighterBy a0 x1 S Q) : Met l yX5_isLighterBy wsX5_isLighterBy ({ frames := 1, cells := 0, slots := 0, locals := 48 } : Room) (PG D κ A S [.ref a0, .int x1]) (va_Qi Q (BG D κ A) A) 0 0 A := by
  refine Met.ofW (cc := cX5_isLighterBy) (maxL := 6) (ret := (some .boolean)) (by decide) rfl ?_
  intro p e s m args below meth c s₁ B hml hv
  obtain ⟨hargs, hA, hG, hK, hX⟩ := hv
  have hx := B.exec
  have hb := B.bytes
  have hr := B.returns
  have hts := atoms_spec (ws := wsX5_isLighterBy) B.pre
  have hown : s.vm.findClass RX5 = some m.cls := findClass_of_methodNamed B.named
  have hlocks := B.notSynchronized
  subst hargs
  clear B
  have hS : va_S A s.heap s.heap [] := va_S.rf
  have hl := lv_entry ([.ref a0, .int x1]) (n := 6) (Nat.le_of_ble_eq_true rfl)
  rw [lg_entry_eq]
  generalize (lg_sl ([.ref a0, .int x1]) ++ List.replicate (6 - (lg_sl ([.ref a0, .int x1])).length) Slot.unset).toArray = ls at hl ⊢
  have hl : lv_has ls 6 [(0, .ref a0), (1, .int x1)] := hl
  have hG : GG D κ A S s.heap := hG
  have k_26 : ∀ (C8 : Nat × Int32 × Int32 × Int32 × Hp → Prop) (hC8 : ∀ (v0 : Nat) (v1 : Int32) (v2 : Int32) (v3 : Int32) (S : Hp) (ls : Array Slot) (H : Heap) (locs : List Loc), lv_has ls 6 [(0, .ref v0), (1, .int v1), (2, .int v2), (3, .int v3)] → GG D κ A S H → va_S A s.heap H locs → C8 (v0, v1, v2, v3, S) → W p l e ({ frames := 1, cells := 0, slots := 0, locals := 48 } : Room) s m ([.ref a0, .int x1] : List Value).toArray below meth c H locs 0 0 (MQ below (va_Qi Q (BG D κ A) A) ([.ref a0, .int x1] : List Value).toArray s 0 0 A) (F0 m 8 ls [])) (n : Nat), ∀ (v0 : Nat) (v1 : Int32) (v2 : Int32) (v3 : Int32) (v4 : Int32) (v5 : Int32) (S : Hp) (ls : Array Slot) (H : Heap) (locs : List Loc), lv_has ls 6 [(0, .ref v0), (1, .int v1), (2, .int v2), (3, .int v3), (4, .int v4), (5, .int v5)] → GG D κ A S H → va_S A s.heap H locs → it (L_X5_isLighterBy_26 C8 Q) n (v0, v1, v2, v3, v4, v5, S) → W p l e ({ frames := 1, cells := 0, slots := 0, locals := 48 } : Room) s m ([.ref a0, .int x1] : List Value).toArray below meth c H locs 0 0 (MQ below (va_Qi Q (BG D κ A) A) ([.ref a0, .int x1] : List Value).toArray s 0 0 A) (F0 m 26 ls []) := by
    intro C8 hC8 n
    induction n with
    | zero => intro v0 v1 v2 v3 v4 v5 S ls H locs hl hG hS h; exact False.elim h
    | succ n hC26 =>
      intro v0 v1 v2 v3 v4 v5 S ls H locs hl hG hS h
      replace h : L_X5_isLighterBy_26 C8 Q (it (L_X5_isLighterBy_26 C8 Q) n) (v0, v1, v2, v3, v4, v5, S) := h
      simp only [L_X5_isLighterBy_26] at h
      refine lv_iload hx hb dX5_isLighterBy_26 (lv_at hl 5 rfl) ?_
      refine lv_iload_n hx hb dX5_isLighterBy_28 rfl (lv_at hl 1 rfl) ?_
      refine lv_icmp_ge (tgt := 44) hx hb dX5_isLighterBy_29 rfl (fun hc => ?_) (fun hc => ?_)
      · replace h := h.1 hc
        refine lv_iload hx hb dX5_isLighterBy_44 (lv_at hl 4 rfl) ?_
        refine lv_iconst (v := (3 : Int32)) hx hb dX5_isLighterBy_46 (by decide) ?_
        refine lv_irem hx hb dX5_isLighterBy_47 (by decide) ?_
        refine lv_aload_n hx hb dX5_isLighterBy_48 rfl (lv_at hl 0 rfl) ?_
        have hk := h.1
        replace h := h.2
        obtain ⟨r1, hr1, h⟩ := h
        refine gg_get (v := .ref r1) (ci := 1) (C := RX1) (T := TX1) (N := 2) hx hb hts (fun _ h => List.mem_cons_of_mem _ (List.mem_append_right _ (h))) hown hK hG (kc_2 hk) rfl 1 (by decide) (hts (.fieldLink RX5 209 "FourStones$Row" "cells" "[I") (List.mem_of_getElem? (i := 1) rfl)) (fun _ h9 => h9) (congrArg (fun z => some (va_rf z)) hr1) dX5_isLighterBy_49 ?_
        refine lv_iload_n hx hb dX5_isLighterBy_52 rfl (lv_at hl 3 rfl) ?_
        refine lv_iconst (v := (1 : Int32)) hx hb dX5_isLighterBy_53 (by decide) ?_
        refine lv_iadd hx hb dX5_isLighterBy_54 ?_
        have hk := h.1
        replace h := h.2
        have hi := h.1
        replace h := h.2
        refine gg_iald hx hb hK hG hk hi dX5_isLighterBy_55 ?_
        refine lv_icmp_eq (tgt := 61) hx hb dX5_isLighterBy_56 rfl (fun hc => ?_) (fun hc => ?_)
        · replace h := h.1 hc
          obtain ⟨y2, ey2⟩ : ∃ z, z = v3 + (2 : Int32) := ⟨_, rfl⟩
          replace h := h y2 ey2
          refine lv_iinc (v := y2) (lv' := [(3, .int y2), (0, .ref v0), (1, .int v1), (2, .int v2), (4, .int v4), (5, .int v5)]) hx hb dX5_isLighterBy_61 hl (k := 3) rfl (by rw [ey2]; rfl) (by decide) rfl (fun ls hl => ?_)
          refine lv_goto (tgt := 8) hx hb dX5_isLighterBy_64 rfl ?_
          exact hC8 v0 v1 v2 y2 S ls _ _ (lv_sub hl [1, 2, 3, 0] rfl) hG hS h
        · replace h := h.2 hc
          refine lv_iconst (v := (0 : Int32)) hx hb dX5_isLighterBy_59 (by decide) ?_
          exact W.zret (ty := .boolean) hx hb hr (by decide) (gr_i h hG hK hX hS) hS.2.2 dX5_isLighterBy_60
      · replace h := h.2 hc
        refine lv_iload hx hb dX5_isLighterBy_32 (lv_at hl 4 rfl) ?_
        refine lv_iconst (v := (3 : Int32)) hx hb dX5_isLighterBy_34 (by decide) ?_
        refine lv_idiv hx hb dX5_isLighterBy_35 (by decide) ?_
        refine lv_topi (fun y3 ey3 => ?_)
        replace h := h y3 ey3
        refine lv_istore (lv' := [(4, .int y3), (0, .ref v0), (1, .int v1), (2, .int v2), (3, .int v3), (5, .int v5)]) hx hb dX5_isLighterBy_36 hl (by decide) rfl (fun ls hl => ?_)
        obtain ⟨y4, ey4⟩ : ∃ z, z = v5 + (1 : Int32) := ⟨_, rfl⟩
        replace h := h y4 ey4
        refine lv_iinc (v := y4) (lv' := [(5, .int y4), (4, .int y3), (0, .ref v0), (1, .int v1), (2, .int v2), (3, .int v3)]) hx hb dX5_isLighterBy_38 hl (k := 5) rfl (by rw [ey4]; rfl) (by decide) rfl (fun ls hl => ?_)
        refine lv_goto (tgt := 26) hx hb dX5_isLighterBy_41 rfl ?_
        exact hC26 v0 v1 v2 v3 y3 y4 S ls _ _ (lv_sub hl [2, 3, 4, 5, 1, 0] rfl) hG hS h
  have k_8 : ∀  (n : Nat), ∀ (v0 : Nat) (v1 : Int32) (v2 : Int32) (v3 : Int32) (S : Hp) (ls : Array Slot) (H : Heap) (locs : List Loc), lv_has ls 6 [(0, .ref v0), (1, .int v1), (2, .int v2), (3, .int v3)] → GG D κ A S H → va_S A s.heap H locs → it (L_X5_isLighterBy_8  Q) n (v0, v1, v2, v3, S) → W p l e ({ frames := 1, cells := 0, slots := 0, locals := 48 } : Room) s m ([.ref a0, .int x1] : List Value).toArray below meth c H locs 0 0 (MQ below (va_Qi Q (BG D κ A) A) ([.ref a0, .int x1] : List Value).toArray s 0 0 A) (F0 m 8 ls []) := by
    intro  n
    induction n with
    | zero => intro v0 v1 v2 v3 S ls H locs hl hG hS h; exact False.elim h
    | succ n hC8 =>
      intro v0 v1 v2 v3 S ls H locs hl hG hS h
      replace h : L_X5_isLighterBy_8  Q (it (L_X5_isLighterBy_8  Q) n) (v0, v1, v2, v3, S) := h
      simp only [L_X5_isLighterBy_8] at h
      refine lv_iload_n hx hb dX5_isLighterBy_8 rfl (lv_at hl 3 rfl) ?_
      refine lv_iconst (v := (1 : Int32)) hx hb dX5_isLighterBy_9 (by decide) ?_
      refine lv_iadd hx hb dX5_isLighterBy_10 ?_
      refine lv_iload_n hx hb dX5_isLighterBy_11 rfl (lv_at hl 2 rfl) ?_
      refine lv_icmp_ge (tgt := 67) hx hb dX5_isLighterBy_12 rfl (fun hc => ?_) (fun hc => ?_)
      · replace h := h.1 hc
        refine lv_iconst (v := (1 : Int32)) hx hb dX5_isLighterBy_67 (by decide) ?_
        exact W.zret (ty := .boolean) hx hb hr (by decide) (gr_i h hG hK hX hS) hS.2.2 dX5_isLighterBy_68
      · replace h := h.2 hc
        refine lv_aload_n hx hb dX5_isLighterBy_15 rfl (lv_at hl 0 rfl) ?_
        have hk := h.1
        replace h := h.2
        obtain ⟨r1, hr1, h⟩ := h
        refine gg_get (v := .ref r1) (ci := 1) (C := RX1) (T := TX1) (N := 2) hx hb hts (fun _ h => List.mem_cons_of_mem _ (List.mem_append_right _ (h))) hown hK hG (kc_2 hk) rfl 1 (by decide) (hts (.fieldLink RX5 209 "FourStones$Row" "cells" "[I") (List.mem_of_getElem? (i := 1) rfl)) (fun _ h9 => h9) (congrArg (fun z => some (va_rf z)) hr1) dX5_isLighterBy_16 ?_
        refine lv_iload_n hx hb dX5_isLighterBy_19 rfl (lv_at hl 3 rfl) ?_
        have hk := h.1
        replace h := h.2
        have hi := h.1
        replace h := h.2
        refine gg_iald hx hb hK hG hk hi dX5_isLighterBy_20 ?_
        refine lv_topi (fun y2 ey2 => ?_)
        replace h := h y2 ey2
        refine lv_istore (lv' := [(4, .int y2), (0, .ref v0), (1, .int v1), (2, .int v2), (3, .int v3)]) hx hb dX5_isLighterBy_21 hl (by decide) rfl (fun ls hl => ?_)
        refine lv_iconst (v := (0 : Int32)) hx hb dX5_isLighterBy_23 (by decide) ?_
        refine lv_istore (lv' := [(5, .int (0 : Int32)), (4, .int y2), (0, .ref v0), (1, .int v1), (2, .int v2), (3, .int v3)]) hx hb dX5_isLighterBy_24 hl (by decide) rfl (fun ls hl => ?_)
        obtain ⟨nn, h⟩ := h
        exact k_26 _ hC8 nn v0 v1 v2 v3 y2 (0 : Int32) S ls _ _ (lv_sub hl [2, 3, 4, 5, 1, 0] rfl) hG hS h
  refine lv_aload_n hx hb dX5_isLighterBy_0 rfl (lv_at hl 0 rfl) ?_
  have hk := h.1
  replace h := h.2
  obtain ⟨r1, hr1, h⟩ := h
  refine gg_get (v := .ref r1) (ci := 1) (C := RX1) (T := TX1) (N := 2) hx hb hts (fun _ h => List.mem_cons_of_mem _ (List.mem_append_right _ (h))) hown hK hG (kc_2 hk) rfl 1 (by decide) (hts (.fieldLink RX5 209 "FourStones$Row" "cells" "[I") (List.mem_of_getElem? (i := 1) rfl)) (fun _ h9 => h9) (congrArg (fun z => some (va_rf z)) hr1) dX5_isLighterBy_1 ?_
  have hk := h.1
  replace h := h.2
  refine gg_alen8 hx hb hK hG hk dX5_isLighterBy_4 ?_
  refine lv_topi (fun y2 ey2 => ?_)
  replace h := h y2 ey2
  refine lv_istore_n (lv' := [(2, .int y2), (0, .ref a0), (1, .int x1)]) hx hb dX5_isLighterBy_5 rfl hl (by decide) rfl (fun ls hl => ?_)
  refine lv_iconst (v := (0 : Int32)) hx hb dX5_isLighterBy_6 (by decide) ?_
  refine lv_istore_n (lv' := [(3, .int (0 : Int32)), (2, .int y2), (0, .ref a0), (1, .int x1)]) hx hb dX5_isLighterBy_7 rfl hl (by decide) rfl (fun ls hl => ?_)
  obtain ⟨nn, h⟩ := h
  exact k_8  nn a0 x1 y2 (0 : Int32) S ls _ _ (lv_sub hl [2, 3, 1, 0] rfl) hG hS h
set_option maxHeartbeats 4000000 in
set_option maxRecDepth 100000 in
theorem c_X5_found (l : Launch) (D : va_G) (κ : Nat → ClassId) (A : Nat → Prop) (S : Hp) (a0 : Nat) (x1 : Int32) (Q : Int32 → Hp → Prop) (h : wp_X5_found a0 x1 S Q) : Met l yX5_found wsX5_found ({ frames := 3, cells := 0, slots := 0, locals := 144 } : Room) (PG D κ A S [.ref a0, .int x1]) (va_Qi Q (BG D κ A) A) 0 0 A := by
  refine Met.ofW (cc := cX5_found) (maxL := 5) (ret := (some .int)) (by decide) rfl ?_
  intro p e s m args below meth c s₁ B hml hv
  obtain ⟨hargs, hA, hG, hK, hX⟩ := hv
  have hx := B.exec
  have hb := B.bytes
  have hr := B.returns
  have hts := atoms_spec (ws := wsX5_found) B.pre
  have hown : s.vm.findClass RX5 = some m.cls := findClass_of_methodNamed B.named
  have hlocks := B.notSynchronized
  subst hargs
  clear B
  have hS : va_S A s.heap s.heap [] := va_S.rf
  have hl := lv_entry ([.ref a0, .int x1]) (n := 5) (Nat.le_of_ble_eq_true rfl)
  rw [lg_entry_eq]
  generalize (lg_sl ([.ref a0, .int x1]) ++ List.replicate (5 - (lg_sl ([.ref a0, .int x1])).length) Slot.unset).toArray = ls at hl ⊢
  have hl : lv_has ls 5 [(0, .ref a0), (1, .int x1)] := hl
  have hG : GG D κ A S s.heap := hG
  have j_63 : ∀ (C41 : Nat × Int32 × Int32 × Hp → Prop) (hC41 : ∀ (v2 : Nat) (v3 : Int32) (v4 : Int32) (S : Hp) (ls : Array Slot) (H : Heap) (locs : List Loc), lv_has ls 5 [(2, .ref v2), (3, .int v3), (4, .int v4)] → GG D κ A S H → va_S A s.heap H locs → C41 (v2, v3, v4, S) → W p l e ({ frames := 3, cells := 0, slots := 0, locals := 144 } : Room) s m ([.ref a0, .int x1] : List Value).toArray below meth c H locs 0 0 (MQ below (va_Qi Q (BG D κ A) A) ([.ref a0, .int x1] : List Value).toArray s 0 0 A) (F0 m 41 ls [])) (v2 : Nat) (v3 : Int32) (v4 : Int32) (S : Hp) (ls : Array Slot) (H : Heap) (locs : List Loc), lv_has ls 5 [(2, .ref v2), (3, .int v3), (4, .int v4)] → GG D κ A S H → va_S A s.heap H locs → J_X5_found_63 C41 Q v2 v3 v4 S → W p l e ({ frames := 3, cells := 0, slots := 0, locals := 144 } : Room) s m ([.ref a0, .int x1] : List Value).toArray below meth c H locs 0 0 (MQ below (va_Qi Q (BG D κ A) A) ([.ref a0, .int x1] : List Value).toArray s 0 0 A) (F0 m 63 ls []) := by
    intro C41 hC41 v2 v3 v4 S ls H locs hl hG hS h
    unfold J_X5_found_63 at h
    obtain ⟨y1, ey1⟩ : ∃ z, z = v4 + (1 : Int32) := ⟨_, rfl⟩
    replace h := h y1 ey1
    refine lv_iinc (v := y1) (lv' := [(4, .int y1), (2, .ref v2), (3, .int v3)]) hx hb dX5_found_63 hl (k := 2) rfl (by rw [ey1]; rfl) (by decide) rfl (fun ls hl => ?_)
    refine lv_goto (tgt := 41) hx hb dX5_found_66 rfl ?_
    exact hC41 v2 v3 y1 S ls _ _ (lv_sub hl [1, 2, 0] rfl) hG hS h
  have k_41 : ∀  (n : Nat), ∀ (v2 : Nat) (v3 : Int32) (v4 : Int32) (S : Hp) (ls : Array Slot) (H : Heap) (locs : List Loc), lv_has ls 5 [(2, .ref v2), (3, .int v3), (4, .int v4)] → GG D κ A S H → va_S A s.heap H locs → it (L_X5_found_41  Q) n (v2, v3, v4, S) → W p l e ({ frames := 3, cells := 0, slots := 0, locals := 144 } : Room) s m ([.ref a0, .int x1] : List Value).toArray below meth c H locs 0 0 (MQ below (va_Qi Q (BG D κ A) A) ([.ref a0, .int x1] : List Value).toArray s 0 0 A) (F0 m 41 ls []) := by
    intro  n
    induction n with
    | zero => intro v2 v3 v4 S ls H locs hl hG hS h; exact False.elim h
    | succ n hC41 =>
      intro v2 v3 v4 S ls H locs hl hG hS h
      replace h : L_X5_found_41  Q (it (L_X5_found_41  Q) n) (v2, v3, v4, S) := h
      simp only [L_X5_found_41] at h
      refine lv_iload hx hb dX5_found_41 (lv_at hl 2 rfl) ?_
      refine lv_iconst (v := (4 : Int32)) hx hb dX5_found_43 (by decide) ?_
      refine lv_icmp_ge (tgt := 69) hx hb dX5_found_44 rfl (fun hc => ?_) (fun hc => ?_)
      · replace h := h.1 hc
        refine lv_iload_n hx hb dX5_found_69 rfl (lv_at hl 1 rfl) ?_
        exact W.iret hx hb hr (gr_i h hG hK hX hS) hS.2.2 dX5_found_70
      · replace h := h.2 hc
        refine lv_aload_n hx hb dX5_found_47 rfl (lv_at hl 0 rfl) ?_
        refine lv_iload hx hb dX5_found_48 (lv_at hl 2 rfl) ?_
        refine gc_i (va_runS (As := [.ref v2, .int v4]) (rest := []) ⟨hx, hb, hml, hown, hts⟩ (c_X5_isLighterBy l D κ A S v2 v4 _ h) (va_cwS 2 hts gX5_found_X5_isLighterBy rfl rfl rfl (by decide +kernel) ⟨Nat.le_of_ble_eq_true rfl, Nat.le_of_ble_eq_true rfl⟩) (pg_S hK hX hG (pg_A hA hS)) rfl rfl hl.1 rfl (lv_room (Nat.le_of_ble_eq_true rfl)) dX5_found_50 ⟨Nat.le_of_ble_eq_true rfl, Nat.le_of_ble_eq_true rfl⟩) hS (fun z3 S2 H locs1 h hG hS => ?_)
        refine lv_if_eq (tgt := 63) hx hb dX5_found_53 rfl (fun hc => ?_) (fun hc => ?_)
        · replace h := h.1 hc
          exact j_63 _ hC41 v2 v3 v4 S2 ls _ _ (lv_sub hl [0, 1, 2] rfl) hG hS h
        · replace h := h.2 hc
          refine lv_iload_n hx hb dX5_found_56 rfl (lv_at hl 1 rfl) ?_
          refine lv_iconst (v := (1 : Int32)) hx hb dX5_found_57 (by decide) ?_
          refine lv_iload hx hb dX5_found_58 (lv_at hl 2 rfl) ?_
          refine lv_ishl hx hb dX5_found_60 ?_
          refine lv_ior hx hb dX5_found_61 ?_
          refine lv_topi (fun y4 ey4 => ?_)
          replace h := h y4 ey4
          refine lv_istore_n (lv' := [(3, .int y4), (2, .ref v2), (4, .int v4)]) hx hb dX5_found_62 rfl hl (by decide) rfl (fun ls hl => ?_)
          exact j_63 _ hC41 v2 y4 v4 S2 ls _ _ (lv_sub hl [1, 0, 2] rfl) hG hS h
  refine lv_iload_n hx hb dX5_found_0 rfl (lv_at hl 1 rfl) ?_
  refine gc_i (va_runS (As := [.int x1]) (rest := []) ⟨hx, hb, hml, hown, hts⟩ (c_X5_isShelf l D κ A S x1 _ h) (va_cwS 1 hts gX5_found_X5_isShelf rfl rfl rfl (by decide +kernel) ⟨Nat.le_of_ble_eq_true rfl, Nat.le_of_ble_eq_true rfl⟩) (pg_S hK hX hG (pg_A hA hS)) rfl rfl hl.1 rfl (lv_room (Nat.le_of_ble_eq_true rfl)) dX5_found_1 ⟨Nat.le_of_ble_eq_true rfl, Nat.le_of_ble_eq_true rfl⟩) hS (fun z3 S2 H locs1 h hG hS => ?_)
  refine lv_if_ne (tgt := 9) hx hb dX5_found_4 rfl (fun hc => ?_) (fun hc => ?_)
  · replace h := h.1 hc
    refine lv_aload_n hx hb dX5_found_9 rfl (lv_at hl 0 rfl) ?_
    refine lv_iload_n hx hb dX5_found_10 rfl (lv_at hl 1 rfl) ?_
    refine lv_iconst (v := (0 : Int32)) hx hb dX5_found_11 (by decide) ?_
    have hk := h.1
    replace h := h.2
    refine gc_q (va_runV (As := [.int x1, .int (0 : Int32)]) (rest := []) ⟨hx, hb, hml, hown, hts⟩ (c_X5_rowOfSort l D κ A S2 a0 x1 (0 : Int32) _ h) (cwV 2 hts gX5_found_X5_rowOfSort rfl rfl rfl (by decide +kernel) ⟨Nat.le_of_ble_eq_true rfl, Nat.le_of_ble_eq_true rfl⟩) (pg_V (q := (RX5, TX5, 13)) hK hX hG (pg_A hA hS) (kc_6 hk) rfl) rfl rfl hl.1 rfl (lv_room (Nat.le_of_ble_eq_true rfl)) dX5_found_12 ⟨Nat.le_of_ble_eq_true rfl, Nat.le_of_ble_eq_true rfl⟩) hS (fun z6 S5 H locs4 h hG hS hc => ?_) (fun z6 S5 H locs4 h hG hS r7 hc => ?_)
    · replace h := h.1 hc
      refine lv_astore_nN (lv' := [(2, .null), (0, .ref a0), (1, .int x1)]) hx hb dX5_found_15 rfl hl (by decide) rfl (fun ls hl => ?_)
      refine lv_aload_nN hx hb dX5_found_16 rfl (lv_at hl 0 rfl) ?_
      refine lv_ifnonnullN hx hb dX5_found_17 ?_
      refine lv_aload_n hx hb dX5_found_20 rfl (lv_at hl 1 rfl) ?_
      refine lv_iload_n hx hb dX5_found_21 rfl (lv_at hl 2 rfl) ?_
      have hk := h.1
      replace h := h.2
      refine gc_i (va_runV (As := [.int x1]) (rest := []) ⟨hx, hb, hml, hown, hts⟩ (c_X5_notHeld l D κ A S5 a0 x1 _ h) (cwV 1 hts gX5_found_X5_notHeld rfl rfl rfl (by decide +kernel) ⟨Nat.le_of_ble_eq_true rfl, Nat.le_of_ble_eq_true rfl⟩) (pg_V (q := (RX5, TX5, 13)) hK hX hG (pg_A hA hS) (kc_6 hk) rfl) rfl rfl hl.1 rfl (lv_room (Nat.le_of_ble_eq_true rfl)) dX5_found_22 ⟨Nat.le_of_ble_eq_true rfl, Nat.le_of_ble_eq_true rfl⟩) hS (fun z10 S9 H locs8 h hG hS => ?_)
      exact W.iret hx hb hr (gr_i h hG hK hX hS) hS.2.2 dX5_found_25
    · replace h := h.2 r7 hc
      refine lv_astore_n (lv' := [(2, .ref r7), (0, .ref a0), (1, .int x1)]) hx hb dX5_found_15 rfl hl (by decide) rfl (fun ls hl => ?_)
      refine lv_aload_n hx hb dX5_found_16 rfl (lv_at hl 0 rfl) ?_
      refine lv_ifnonnull (tgt := 26) hx hb dX5_found_17 rfl ?_
      refine lv_aload_n hx hb dX5_found_26 rfl (lv_at hl 0 rfl) ?_
      refine gc_i (va_runS (As := [.ref r7]) (rest := []) ⟨hx, hb, hml, hown, hts⟩ (c_X5_areTrials l D κ A S5 r7 _ h) (va_cwS 1 hts gX5_found_X5_areTrials rfl rfl rfl (by decide +kernel) ⟨Nat.le_of_ble_eq_true rfl, Nat.le_of_ble_eq_true rfl⟩) (pg_S hK hX hG (pg_A hA hS)) rfl rfl hl.1 rfl (lv_room (Nat.le_of_ble_eq_true rfl)) dX5_found_27 ⟨Nat.le_of_ble_eq_true rfl, Nat.le_of_ble_eq_true rfl⟩) hS (fun z13 S12 H locs11 h hG hS => ?_)
      refine lv_if_ne (tgt := 36) hx hb dX5_found_30 rfl (fun hc => ?_) (fun hc => ?_)
      · replace h := h.1 hc
        refine lv_iconst (v := (0 : Int32)) hx hb dX5_found_36 (by decide) ?_
        refine lv_istore_n (lv' := [(3, .int (0 : Int32)), (2, .ref r7), (0, .ref a0), (1, .int x1)]) hx hb dX5_found_37 rfl hl (by decide) rfl (fun ls hl => ?_)
        refine lv_iconst (v := (0 : Int32)) hx hb dX5_found_38 (by decide) ?_
        refine lv_istore (lv' := [(4, .int (0 : Int32)), (3, .int (0 : Int32)), (2, .ref r7), (0, .ref a0), (1, .int x1)]) hx hb dX5_found_39 hl (by decide) rfl (fun ls hl => ?_)
        obtain ⟨nn, h⟩ := h
        exact k_41  nn r7 (0 : Int32) (0 : Int32) S12 ls _ _ (lv_sub hl [2, 1, 0] rfl) hG hS h
      · replace h := h.2 hc
        refine lv_bipush (v := (-13 : Int32)) hx hb dX5_found_33 (by decide) ?_
        exact W.iret hx hb hr (gr_i h hG hK hX hS) hS.2.2 dX5_found_35
  · replace h := h.2 hc
    refine lv_iconst (v := (-1 : Int32)) hx hb dX5_found_7 (by decide) ?_
    exact W.iret hx hb hr (gr_i h hG hK hX hS) hS.2.2 dX5_found_8
set_option maxHeartbeats 4000000 in
set_option maxRecDepth 100000 in
theorem c_X5_twice (l : Launch) (D : va_G) (κ : Nat → ClassId) (A : Nat → Prop) (S : Hp) (a0 : Nat) (x1 : Int32) (x2 : Int32) (x3 : Int32) (Q : Int32 → Hp → Prop) (h : wp_X5_twice a0 x1 x2 x3 S Q) : Met l yX5_twice wsX5_twice ({ frames := 1, cells := 0, slots := 0, locals := 48 } : Room) (PG D κ A S [.ref a0, .int x1, .int x2, .int x3]) (va_Qi Q (BG D κ A) A) 0 0 A := by
  refine Met.ofW (cc := cX5_twice) (maxL := 6) (ret := (some .int)) (by decide) rfl ?_
  intro p e s m args below meth c s₁ B hml hv
  obtain ⟨hargs, hA, hG, hK, hX⟩ := hv
  have hx := B.exec
  have hb := B.bytes
  have hr := B.returns
  have hts := atoms_spec (ws := wsX5_twice) B.pre
  have hown : s.vm.findClass RX5 = some m.cls := findClass_of_methodNamed B.named
  have hlocks := B.notSynchronized
  subst hargs
  clear B
  have hS : va_S A s.heap s.heap [] := va_S.rf
  have hl := lv_entry ([.ref a0, .int x1, .int x2, .int x3]) (n := 6) (Nat.le_of_ble_eq_true rfl)
  rw [lg_entry_eq]
  generalize (lg_sl ([.ref a0, .int x1, .int x2, .int x3]) ++ List.replicate (6 - (lg_sl ([.ref a0, .int x1, .int x2, .int x3])).length) Slot.unset).toArray = ls at hl ⊢
  have hl : lv_has ls 6 [(0, .ref a0), (1, .int x1), (2, .int x2), (3, .int x3)] := hl
  have hG : GG D κ A S s.heap := hG
  have j_11 : ∀  (v1 : Int32) (v2 : Int32) (v3 : Int32) (w0 : Int32) (S : Hp) (ls : Array Slot) (H : Heap) (locs : List Loc), lv_has ls 6 [(1, .int v1), (2, .int v2), (3, .int v3)] → GG D κ A S H → va_S A s.heap H locs → J_X5_twice_11  Q v1 v2 v3 w0 S → W p l e ({ frames := 1, cells := 0, slots := 0, locals := 48 } : Room) s m ([.ref a0, .int x1, .int x2, .int x3] : List Value).toArray below meth c H locs 0 0 (MQ below (va_Qi Q (BG D κ A) A) ([.ref a0, .int x1, .int x2, .int x3] : List Value).toArray s 0 0 A) (F0 m 11 ls [.int w0]) := by
    intro  v1 v2 v3 w0 S ls H locs hl hG hS h
    unfold J_X5_twice_11 at h
    refine lv_istore (lv' := [(4, .int w0), (1, .int v1), (2, .int v2), (3, .int v3)]) hx hb dX5_twice_11 hl (by decide) rfl (fun ls hl => ?_)
    refine lv_iload_n hx hb dX5_twice_13 rfl (lv_at hl 1 rfl) ?_
    refine lv_if_lt (tgt := 44) hx hb dX5_twice_14 rfl (fun hc => ?_) (fun hc => ?_)
    · replace h := h.1 hc
      refine lv_iload hx hb dX5_twice_44 (lv_at hl 0 rfl) ?_
      refine lv_iconst (v := (-1 : Int32)) hx hb dX5_twice_46 (by decide) ?_
      refine lv_iadd hx hb dX5_twice_47 ?_
      exact W.iret hx hb hr (gr_i h hG hK hX hS) hS.2.2 dX5_twice_48
    · replace h := h.2 hc
      refine lv_iload_n hx hb dX5_twice_17 rfl (lv_at hl 1 rfl) ?_
      refine lv_sipush (v := (999 : Int32)) hx hb dX5_twice_18 (by decide) ?_
      refine lv_icmp_gt (tgt := 44) hx hb dX5_twice_21 rfl (fun hc => ?_) (fun hc => ?_)
      · replace h := h.1 hc
        refine lv_iload hx hb dX5_twice_44 (lv_at hl 0 rfl) ?_
        refine lv_iconst (v := (-1 : Int32)) hx hb dX5_twice_46 (by decide) ?_
        refine lv_iadd hx hb dX5_twice_47 ?_
        exact W.iret hx hb hr (gr_i h hG hK hX hS) hS.2.2 dX5_twice_48
      · replace h := h.2 hc
        refine lv_iload_n hx hb dX5_twice_24 rfl (lv_at hl 2 rfl) ?_
        refine lv_if_lt (tgt := 44) hx hb dX5_twice_25 rfl (fun hc => ?_) (fun hc => ?_)
        · replace h := h.1 hc
          refine lv_iload hx hb dX5_twice_44 (lv_at hl 0 rfl) ?_
          refine lv_iconst (v := (-1 : Int32)) hx hb dX5_twice_46 (by decide) ?_
          refine lv_iadd hx hb dX5_twice_47 ?_
          exact W.iret hx hb hr (gr_i h hG hK hX hS) hS.2.2 dX5_twice_48
        · replace h := h.2 hc
          refine lv_iload_n hx hb dX5_twice_28 rfl (lv_at hl 2 rfl) ?_
          refine lv_sipush (v := (999 : Int32)) hx hb dX5_twice_29 (by decide) ?_
          refine lv_icmp_gt (tgt := 44) hx hb dX5_twice_32 rfl (fun hc => ?_) (fun hc => ?_)
          · replace h := h.1 hc
            refine lv_iload hx hb dX5_twice_44 (lv_at hl 0 rfl) ?_
            refine lv_iconst (v := (-1 : Int32)) hx hb dX5_twice_46 (by decide) ?_
            refine lv_iadd hx hb dX5_twice_47 ?_
            exact W.iret hx hb hr (gr_i h hG hK hX hS) hS.2.2 dX5_twice_48
          · replace h := h.2 hc
            refine lv_iload_n hx hb dX5_twice_35 rfl (lv_at hl 3 rfl) ?_
            refine lv_if_lt (tgt := 44) hx hb dX5_twice_36 rfl (fun hc => ?_) (fun hc => ?_)
            · replace h := h.1 hc
              refine lv_iload hx hb dX5_twice_44 (lv_at hl 0 rfl) ?_
              refine lv_iconst (v := (-1 : Int32)) hx hb dX5_twice_46 (by decide) ?_
              refine lv_iadd hx hb dX5_twice_47 ?_
              exact W.iret hx hb hr (gr_i h hG hK hX hS) hS.2.2 dX5_twice_48
            · replace h := h.2 hc
              refine lv_iload_n hx hb dX5_twice_39 rfl (lv_at hl 3 rfl) ?_
              refine lv_iconst (v := (1 : Int32)) hx hb dX5_twice_40 (by decide) ?_
              refine lv_icmp_le (tgt := 49) hx hb dX5_twice_41 rfl (fun hc => ?_) (fun hc => ?_)
              · replace h := h.1 hc
                refine lv_iload_n hx hb dX5_twice_49 rfl (lv_at hl 1 rfl) ?_
                refine lv_iload_n hx hb dX5_twice_50 rfl (lv_at hl 2 rfl) ?_
                refine lv_iadd hx hb dX5_twice_51 ?_
                refine lv_iconst (v := (2 : Int32)) hx hb dX5_twice_52 (by decide) ?_
                refine lv_irem hx hb dX5_twice_53 (by decide) ?_
                refine lv_if_eq (tgt := 63) hx hb dX5_twice_54 rfl (fun hc => ?_) (fun hc => ?_)
                · replace h := h.1 hc
                  refine lv_iload_n hx hb dX5_twice_63 rfl (lv_at hl 1 rfl) ?_
                  refine lv_iload_n hx hb dX5_twice_64 rfl (lv_at hl 2 rfl) ?_
                  refine lv_iadd hx hb dX5_twice_65 ?_
                  refine lv_iconst (v := (2 : Int32)) hx hb dX5_twice_66 (by decide) ?_
                  refine lv_idiv hx hb dX5_twice_67 (by decide) ?_
                  refine lv_topi (fun y1 ey1 => ?_)
                  replace h := h y1 ey1
                  refine lv_istore (lv' := [(5, .int y1), (4, .int w0), (1, .int v1), (2, .int v2), (3, .int v3)]) hx hb dX5_twice_68 hl (by decide) rfl (fun ls hl => ?_)
                  refine lv_iload_n hx hb dX5_twice_70 rfl (lv_at hl 4 rfl) ?_
                  refine lv_if_ne (tgt := 79) hx hb dX5_twice_71 rfl (fun hc => ?_) (fun hc => ?_)
                  · replace h := h.1 hc
                    refine lv_iload_n hx hb dX5_twice_79 rfl (lv_at hl 2 rfl) ?_
                    refine lv_iload hx hb dX5_twice_80 (lv_at hl 0 rfl) ?_
                    refine lv_isub hx hb dX5_twice_82 ?_
                    exact W.iret hx hb hr (gr_i h hG hK hX hS) hS.2.2 dX5_twice_83
                  · replace h := h.2 hc
                    refine lv_iload hx hb dX5_twice_74 (lv_at hl 0 rfl) ?_
                    refine lv_goto (tgt := 83) hx hb dX5_twice_76 rfl ?_
                    exact W.iret hx hb hr (gr_i h hG hK hX hS) hS.2.2 dX5_twice_83
                · replace h := h.2 hc
                  refine lv_iload hx hb dX5_twice_57 (lv_at hl 0 rfl) ?_
                  refine lv_bipush (v := (-4 : Int32)) hx hb dX5_twice_59 (by decide) ?_
                  refine lv_iadd hx hb dX5_twice_61 ?_
                  exact W.iret hx hb hr (gr_i h hG hK hX hS) hS.2.2 dX5_twice_62
              · replace h := h.2 hc
                refine lv_iload hx hb dX5_twice_44 (lv_at hl 0 rfl) ?_
                refine lv_iconst (v := (-1 : Int32)) hx hb dX5_twice_46 (by decide) ?_
                refine lv_iadd hx hb dX5_twice_47 ?_
                exact W.iret hx hb hr (gr_i h hG hK hX hS) hS.2.2 dX5_twice_48
  refine lv_iload_n hx hb dX5_twice_0 rfl (lv_at hl 3 rfl) ?_
  refine lv_iconst (v := (1 : Int32)) hx hb dX5_twice_1 (by decide) ?_
  refine lv_icmp_ne (tgt := 10) hx hb dX5_twice_2 rfl (fun hc => ?_) (fun hc => ?_)
  · replace h := h.1 hc
    refine lv_iconst (v := (0 : Int32)) hx hb dX5_twice_10 (by decide) ?_
    exact j_11  x1 x2 x3 (0 : Int32) S ls _ _ (lv_sub hl [1, 2, 3] rfl) hG hS h
  · replace h := h.2 hc
    refine lv_ldc (v := (-1000000000 : Int32)) hx hb hown (hts (.constant RX5 116 (-1000000000)) (List.mem_of_getElem? (i := 1) rfl)) dX5_twice_5 ?_
    refine lv_goto (tgt := 11) hx hb dX5_twice_7 rfl ?_
    exact j_11  x1 x2 x3 (-1000000000 : Int32) S ls _ _ (lv_sub hl [1, 2, 3] rfl) hG hS h
set_option maxHeartbeats 4000000 in
set_option maxRecDepth 100000 in
theorem c_X5_collectOtherLyings (l : Launch) (D : va_G) (κ : Nat → ClassId) (A : Nat → Prop) (S : Hp) (a0 : Nat) (x1 : Int32) (Q : Int32 → Hp → Prop) (h : wp_X5_collectOtherLyings a0 x1 S Q) : Met l yX5_collectOtherLyings wsX5_collectOtherLyings ({ frames := 4, cells := 0, slots := 0, locals := 192 } : Room) (PG D κ A S [.ref a0, .int x1]) (va_Qi Q (BG D κ A) A) 0 0 A := by
  refine Met.ofW (cc := cX5_collectOtherLyings) (maxL := 4) (ret := (some .int)) (by decide) rfl ?_
  intro p e s m args below meth c s₁ B hml hv
  obtain ⟨hargs, hA, hG, hK, hX⟩ := hv
  have hx := B.exec
  have hb := B.bytes
  have hr := B.returns
  have hts := atoms_spec (ws := wsX5_collectOtherLyings) B.pre
  have hown : s.vm.findClass RX5 = some m.cls := findClass_of_methodNamed B.named
  have hlocks := B.notSynchronized
  subst hargs
  clear B
  have hS : va_S A s.heap s.heap [] := va_S.rf
  have hl := lv_entry ([.ref a0, .int x1]) (n := 4) (Nat.le_of_ble_eq_true rfl)
  rw [lg_entry_eq]
  generalize (lg_sl ([.ref a0, .int x1]) ++ List.replicate (4 - (lg_sl ([.ref a0, .int x1])).length) Slot.unset).toArray = ls at hl ⊢
  have hl : lv_has ls 4 [(0, .ref a0), (1, .int x1)] := hl
  have hG : GG D κ A S s.heap := hG
  have j_41 : ∀ (C4 : Nat × Int32 × Int32 × Int32 × Hp → Prop) (hC4 : ∀ (v0 : Nat) (v1 : Int32) (v2 : Int32) (v3 : Int32) (S : Hp) (ls : Array Slot) (H : Heap) (locs : List Loc), lv_has ls 4 [(0, .ref v0), (1, .int v1), (2, .int v2), (3, .int v3)] → GG D κ A S H → va_S A s.heap H locs → C4 (v0, v1, v2, v3, S) → W p l e ({ frames := 4, cells := 0, slots := 0, locals := 192 } : Room) s m ([.ref a0, .int x1] : List Value).toArray below meth c H locs 0 0 (MQ below (va_Qi Q (BG D κ A) A) ([.ref a0, .int x1] : List Value).toArray s 0 0 A) (F0 m 4 ls [])) (v0 : Nat) (v1 : Int32) (v2 : Int32) (v3 : Int32) (S : Hp) (ls : Array Slot) (H : Heap) (locs : List Loc), lv_has ls 4 [(0, .ref v0), (1, .int v1), (2, .int v2), (3, .int v3)] → GG D κ A S H → va_S A s.heap H locs → J_X5_collectOtherLyings_41 C4 Q v0 v1 v2 v3 S → W p l e ({ frames := 4, cells := 0, slots := 0, locals := 192 } : Room) s m ([.ref a0, .int x1] : List Value).toArray below meth c H locs 0 0 (MQ below (va_Qi Q (BG D κ A) A) ([.ref a0, .int x1] : List Value).toArray s 0 0 A) (F0 m 41 ls []) := by
    intro C4 hC4 v0 v1 v2 v3 S ls H locs hl hG hS h
    unfold J_X5_collectOtherLyings_41 at h
    obtain ⟨y1, ey1⟩ : ∃ z, z = v3 + (1 : Int32) := ⟨_, rfl⟩
    replace h := h y1 ey1
    refine lv_iinc (v := y1) (lv' := [(3, .int y1), (0, .ref v0), (1, .int v1), (2, .int v2)]) hx hb dX5_collectOtherLyings_41 hl (k := 3) rfl (by rw [ey1]; rfl) (by decide) rfl (fun ls hl => ?_)
    refine lv_goto (tgt := 4) hx hb dX5_collectOtherLyings_44 rfl ?_
    exact hC4 v0 v1 v2 y1 S ls _ _ (lv_sub hl [1, 2, 3, 0] rfl) hG hS h
  have k_4 : ∀  (n : Nat), ∀ (v0 : Nat) (v1 : Int32) (v2 : Int32) (v3 : Int32) (S : Hp) (ls : Array Slot) (H : Heap) (locs : List Loc), lv_has ls 4 [(0, .ref v0), (1, .int v1), (2, .int v2), (3, .int v3)] → GG D κ A S H → va_S A s.heap H locs → it (L_X5_collectOtherLyings_4  Q) n (v0, v1, v2, v3, S) → W p l e ({ frames := 4, cells := 0, slots := 0, locals := 192 } : Room) s m ([.ref a0, .int x1] : List Value).toArray below meth c H locs 0 0 (MQ below (va_Qi Q (BG D κ A) A) ([.ref a0, .int x1] : List Value).toArray s 0 0 A) (F0 m 4 ls []) := by
    intro  n
    induction n with
    | zero => intro v0 v1 v2 v3 S ls H locs hl hG hS h; exact False.elim h
    | succ n hC4 =>
      intro v0 v1 v2 v3 S ls H locs hl hG hS h
      replace h : L_X5_collectOtherLyings_4  Q (it (L_X5_collectOtherLyings_4  Q) n) (v0, v1, v2, v3, S) := h
      simp only [L_X5_collectOtherLyings_4] at h
      refine lv_iload_n hx hb dX5_collectOtherLyings_4 rfl (lv_at hl 3 rfl) ?_
      refine lv_aload_n hx hb dX5_collectOtherLyings_5 rfl (lv_at hl 0 rfl) ?_
      have hk := h.1
      replace h := h.2
      obtain ⟨r1, hr1, h⟩ := h
      refine gg_get (v := .ref r1) (ci := 5) (C := RX5) (T := TX5) (N := 13) hx hb hts (fun _ h => List.mem_cons_of_mem _ (List.mem_append_left _ (List.mem_append_left _ (List.mem_append_right _ (h))))) hown hK hG (kc_6 hk) rfl 1 (by decide) (hts (.fieldLink RX5 19 "FourStones" "lyings" "LFourStones$Lyings;") (List.mem_of_getElem? (i := 1) rfl)) (fun _ h9 => h9) (congrArg (fun z => some (va_rf z)) hr1) dX5_collectOtherLyings_6 ?_
      have hk := h.1
      replace h := h.2
      refine gg_get (ci := 0) (C := RX0) (T := TX0) (N := 5) hx hb hts (fun _ h => List.mem_cons_of_mem _ (List.mem_append_left _ (List.mem_append_right _ (h)))) hown hK hG (kc_1 hk) rfl 4 (by decide) (hts (.fieldLink RX5 129 "FourStones$Lyings" "count" "I") (List.mem_of_getElem? (i := 2) rfl)) (fun _ h9 => h9) rfl dX5_collectOtherLyings_9 ?_
      refine lv_icmp_ge (tgt := 47) hx hb dX5_collectOtherLyings_12 rfl (fun hc => ?_) (fun hc => ?_)
      · replace h := h.1 hc
        refine lv_iload_n hx hb dX5_collectOtherLyings_47 rfl (lv_at hl 2 rfl) ?_
        exact W.iret hx hb hr (gr_i h hG hK hX hS) hS.2.2 dX5_collectOtherLyings_48
      · replace h := h.2 hc
        refine lv_aload_n hx hb dX5_collectOtherLyings_15 rfl (lv_at hl 0 rfl) ?_
        have hk := h.1
        replace h := h.2
        obtain ⟨r2, hr2, h⟩ := h
        refine gg_get (v := .ref r2) (ci := 5) (C := RX5) (T := TX5) (N := 13) hx hb hts (fun _ h => List.mem_cons_of_mem _ (List.mem_append_left _ (List.mem_append_left _ (List.mem_append_right _ (h))))) hown hK hG (kc_6 hk) rfl 8 (by decide) (hts (.fieldLink RX5 47 "FourStones" "plainScale" "LFourStones$Scale;") (List.mem_of_getElem? (i := 3) rfl)) (fun _ h9 => h9) (congrArg (fun z => some (va_rf z)) hr2) dX5_collectOtherLyings_16 ?_
        refine lv_aload_n hx hb dX5_collectOtherLyings_19 rfl (lv_at hl 0 rfl) ?_
        have hk := h.1
        replace h := h.2
        obtain ⟨r3, hr3, h⟩ := h
        refine gg_get (v := .ref r3) (ci := 5) (C := RX5) (T := TX5) (N := 13) hx hb hts (fun _ h => List.mem_cons_of_mem _ (List.mem_append_left _ (List.mem_append_left _ (List.mem_append_right _ (h))))) hown hK hG (kc_6 hk) rfl 1 (by decide) (hts (.fieldLink RX5 19 "FourStones" "lyings" "LFourStones$Lyings;") (List.mem_of_getElem? (i := 1) rfl)) (fun _ h9 => h9) (congrArg (fun z => some (va_rf z)) hr3) dX5_collectOtherLyings_20 ?_
        refine lv_iload_n hx hb dX5_collectOtherLyings_23 rfl (lv_at hl 3 rfl) ?_
        refine lv_iload_n hx hb dX5_collectOtherLyings_24 rfl (lv_at hl 1 rfl) ?_
        have hk := h.1
        replace h := h.2
        refine gc_i (va_runV (As := [.ref r3, .int v3, .int v1]) (rest := []) ⟨hx, hb, hml, hown, hts⟩ (c_X2_hits l D κ A S r2 r3 v3 v1 _ h) (cwV 3 hts gX5_collectOtherLyings_X2_hits rfl rfl rfl (by decide +kernel) ⟨Nat.le_of_ble_eq_true rfl, Nat.le_of_ble_eq_true rfl⟩) (pg_V (q := (RX2, TX2, 2)) hK hX hG (pg_A hA hS) (kc_3 hk) rfl) rfl rfl hl.1 rfl (lv_room (Nat.le_of_ble_eq_true rfl)) dX5_collectOtherLyings_25 ⟨Nat.le_of_ble_eq_true rfl, Nat.le_of_ble_eq_true rfl⟩) hS (fun z6 S5 H locs4 h hG hS => ?_)
        refine lv_if_eq (tgt := 41) hx hb dX5_collectOtherLyings_28 rfl (fun hc => ?_) (fun hc => ?_)
        · replace h := h.1 hc
          exact j_41 _ hC4 v0 v1 v2 v3 S5 ls _ _ (lv_sub hl [0, 1, 2, 3] rfl) hG hS h
        · replace h := h.2 hc
          refine lv_aload_n hx hb dX5_collectOtherLyings_31 rfl (lv_at hl 0 rfl) ?_
          have hk := h.1
          replace h := h.2
          obtain ⟨r7, hr7, h⟩ := h
          refine gg_get (v := .ref r7) (ci := 5) (C := RX5) (T := TX5) (N := 13) hx hb hts (fun _ h => List.mem_cons_of_mem _ (List.mem_append_left _ (List.mem_append_left _ (List.mem_append_right _ (h))))) hown hK hG (kc_6 hk) rfl 12 (by decide) (hts (.fieldLink RX5 65 "FourStones" "otherLyings" "[I") (List.mem_of_getElem? (i := 4) rfl)) (fun _ h9 => h9) (congrArg (fun z => some (va_rf z)) hr7) dX5_collectOtherLyings_32 ?_
          refine lv_iload_n hx hb dX5_collectOtherLyings_35 rfl (lv_at hl 2 rfl) ?_
          refine lv_iload_n hx hb dX5_collectOtherLyings_36 rfl (lv_at hl 3 rfl) ?_
          have hk := h.1
          replace h := h.2
          have hi := h.1
          replace h := h.2
          obtain ⟨S8, eS8⟩ : ∃ z, z = sA S5 r7 (v2).toNatClampNeg v3 := ⟨_, rfl⟩
          replace h := h S8 eS8
          refine gg_iast hx hb hK hG hS hk hi dX5_collectOtherLyings_37 (fun H locs9 hG hS => ?_)
          rw [← eS8] at hG
          obtain ⟨y10, ey10⟩ : ∃ z, z = v2 + (1 : Int32) := ⟨_, rfl⟩
          replace h := h y10 ey10
          refine lv_iinc (v := y10) (lv' := [(2, .int y10), (0, .ref v0), (1, .int v1), (3, .int v3)]) hx hb dX5_collectOtherLyings_38 hl (k := 2) rfl (by rw [ey10]; rfl) (by decide) rfl (fun ls hl => ?_)
          exact j_41 _ hC4 v0 v1 y10 v3 S8 ls _ _ (lv_sub hl [1, 2, 0, 3] rfl) hG hS h
  refine lv_iconst (v := (0 : Int32)) hx hb dX5_collectOtherLyings_0 (by decide) ?_
  refine lv_istore_n (lv' := [(2, .int (0 : Int32)), (0, .ref a0), (1, .int x1)]) hx hb dX5_collectOtherLyings_1 rfl hl (by decide) rfl (fun ls hl => ?_)
  refine lv_iconst (v := (0 : Int32)) hx hb dX5_collectOtherLyings_2 (by decide) ?_
  refine lv_istore_n (lv' := [(3, .int (0 : Int32)), (2, .int (0 : Int32)), (0, .ref a0), (1, .int x1)]) hx hb dX5_collectOtherLyings_3 rfl hl (by decide) rfl (fun ls hl => ?_)
  obtain ⟨nn, h⟩ := h
  exact k_4  nn a0 x1 (0 : Int32) (0 : Int32) S ls _ _ (lv_sub hl [2, 3, 1, 0] rfl) hG hS h
set_option maxHeartbeats 4000000 in
set_option maxRecDepth 100000 in
theorem c_X5_customers (l : Launch) (D : va_G) (κ : Nat → ClassId) (A : Nat → Prop) (S : Hp) (a0 : Nat) (x1 : Int32) (x2 : Int32) (x3 : Int32) (Q : Int32 → Hp → Prop) (h : wp_X5_customers a0 x1 x2 x3 S Q) : Met l yX5_customers wsX5_customers ({ frames := 5, cells := 0, slots := 0, locals := 240 } : Room) (PG D κ A S [.ref a0, .int x1, .int x2, .int x3]) (va_Qi Q (BG D κ A) A) 0 0 A := by
  refine Met.ofW (cc := cX5_customers) (maxL := 8) (ret := (some .int)) (by decide) rfl ?_
  intro p e s m args below meth c s₁ B hml hv
  obtain ⟨hargs, hA, hG, hK, hX⟩ := hv
  have hx := B.exec
  have hb := B.bytes
  have hr := B.returns
  have hts := atoms_spec (ws := wsX5_customers) B.pre
  have hown : s.vm.findClass RX5 = some m.cls := findClass_of_methodNamed B.named
  have hlocks := B.notSynchronized
  subst hargs
  clear B
  have hS : va_S A s.heap s.heap [] := va_S.rf
  have hl := lv_entry ([.ref a0, .int x1, .int x2, .int x3]) (n := 8) (Nat.le_of_ble_eq_true rfl)
  rw [lg_entry_eq]
  generalize (lg_sl ([.ref a0, .int x1, .int x2, .int x3]) ++ List.replicate (8 - (lg_sl ([.ref a0, .int x1, .int x2, .int x3])).length) Slot.unset).toArray = ls at hl ⊢
  have hl : lv_has ls 8 [(0, .ref a0), (1, .int x1), (2, .int x2), (3, .int x3)] := hl
  have hG : GG D κ A S s.heap := hG
  have j_141 : ∀ (C38 : Nat × Int32 × Int32 × Int32 × Int32 × Int32 × Hp → Prop) (hC38 : ∀ (v0 : Nat) (v1 : Int32) (v3 : Int32) (v4 : Int32) (v5 : Int32) (v6 : Int32) (S : Hp) (ls : Array Slot) (H : Heap) (locs : List Loc), lv_has ls 8 [(0, .ref v0), (1, .int v1), (3, .int v3), (4, .int v4), (5, .int v5), (6, .int v6)] → GG D κ A S H → va_S A s.heap H locs → C38 (v0, v1, v3, v4, v5, v6, S) → W p l e ({ frames := 5, cells := 0, slots := 0, locals := 240 } : Room) s m ([.ref a0, .int x1, .int x2, .int x3] : List Value).toArray below meth c H locs 0 0 (MQ below (va_Qi Q (BG D κ A) A) ([.ref a0, .int x1, .int x2, .int x3] : List Value).toArray s 0 0 A) (F0 m 38 ls [])) (v0 : Nat) (v1 : Int32) (v3 : Int32) (v4 : Int32) (v5 : Int32) (v6 : Int32) (S : Hp) (ls : Array Slot) (H : Heap) (locs : List Loc), lv_has ls 8 [(0, .ref v0), (1, .int v1), (3, .int v3), (4, .int v4), (5, .int v5), (6, .int v6)] → GG D κ A S H → va_S A s.heap H locs → J_X5_customers_141 C38 Q v0 v1 v3 v4 v5 v6 S → W p l e ({ frames := 5, cells := 0, slots := 0, locals := 240 } : Room) s m ([.ref a0, .int x1, .int x2, .int x3] : List Value).toArray below meth c H locs 0 0 (MQ below (va_Qi Q (BG D κ A) A) ([.ref a0, .int x1, .int x2, .int x3] : List Value).toArray s 0 0 A) (F0 m 141 ls []) := by
    intro C38 hC38 v0 v1 v3 v4 v5 v6 S ls H locs hl hG hS h
    unfold J_X5_customers_141 at h
    obtain ⟨y1, ey1⟩ : ∃ z, z = v6 + (1 : Int32) := ⟨_, rfl⟩
    replace h := h y1 ey1
    refine lv_iinc (v := y1) (lv' := [(6, .int y1), (0, .ref v0), (1, .int v1), (3, .int v3), (4, .int v4), (5, .int v5)]) hx hb dX5_customers_141 hl (k := 5) rfl (by rw [ey1]; rfl) (by decide) rfl (fun ls hl => ?_)
    refine lv_goto (tgt := 38) hx hb dX5_customers_144 rfl ?_
    exact hC38 v0 v1 v3 v4 v5 y1 S ls _ _ (lv_sub hl [1, 2, 3, 4, 5, 0] rfl) hG hS h
  have j_135 : ∀ (C38 : Nat × Int32 × Int32 × Int32 × Int32 × Int32 × Hp → Prop) (hC38 : ∀ (v0 : Nat) (v1 : Int32) (v3 : Int32) (v4 : Int32) (v5 : Int32) (v6 : Int32) (S : Hp) (ls : Array Slot) (H : Heap) (locs : List Loc), lv_has ls 8 [(0, .ref v0), (1, .int v1), (3, .int v3), (4, .int v4), (5, .int v5), (6, .int v6)] → GG D κ A S H → va_S A s.heap H locs → C38 (v0, v1, v3, v4, v5, v6, S) → W p l e ({ frames := 5, cells := 0, slots := 0, locals := 240 } : Room) s m ([.ref a0, .int x1, .int x2, .int x3] : List Value).toArray below meth c H locs 0 0 (MQ below (va_Qi Q (BG D κ A) A) ([.ref a0, .int x1, .int x2, .int x3] : List Value).toArray s 0 0 A) (F0 m 38 ls [])) (C73 : Nat × Int32 × Int32 × Int32 × Int32 × Int32 × Int32 × Hp → Prop) (hC73 : ∀ (v0 : Nat) (v1 : Int32) (v3 : Int32) (v4 : Int32) (v5 : Int32) (v6 : Int32) (v7 : Int32) (S : Hp) (ls : Array Slot) (H : Heap) (locs : List Loc), lv_has ls 8 [(0, .ref v0), (1, .int v1), (3, .int v3), (4, .int v4), (5, .int v5), (6, .int v6), (7, .int v7)] → GG D κ A S H → va_S A s.heap H locs → C73 (v0, v1, v3, v4, v5, v6, v7, S) → W p l e ({ frames := 5, cells := 0, slots := 0, locals := 240 } : Room) s m ([.ref a0, .int x1, .int x2, .int x3] : List Value).toArray below meth c H locs 0 0 (MQ below (va_Qi Q (BG D κ A) A) ([.ref a0, .int x1, .int x2, .int x3] : List Value).toArray s 0 0 A) (F0 m 73 ls [])) (v0 : Nat) (v1 : Int32) (v3 : Int32) (v4 : Int32) (v5 : Int32) (v6 : Int32) (v7 : Int32) (S : Hp) (ls : Array Slot) (H : Heap) (locs : List Loc), lv_has ls 8 [(0, .ref v0), (1, .int v1), (3, .int v3), (4, .int v4), (5, .int v5), (6, .int v6), (7, .int v7)] → GG D κ A S H → va_S A s.heap H locs → J_X5_customers_135 C38 C73 Q v0 v1 v3 v4 v5 v6 v7 S → W p l e ({ frames := 5, cells := 0, slots := 0, locals := 240 } : Room) s m ([.ref a0, .int x1, .int x2, .int x3] : List Value).toArray below meth c H locs 0 0 (MQ below (va_Qi Q (BG D κ A) A) ([.ref a0, .int x1, .int x2, .int x3] : List Value).toArray s 0 0 A) (F0 m 135 ls []) := by
    intro C38 hC38 C73 hC73 v0 v1 v3 v4 v5 v6 v7 S ls H locs hl hG hS h
    unfold J_X5_customers_135 at h
    obtain ⟨y1, ey1⟩ : ∃ z, z = v7 + (1 : Int32) := ⟨_, rfl⟩
    replace h := h y1 ey1
    refine lv_iinc (v := y1) (lv' := [(7, .int y1), (0, .ref v0), (1, .int v1), (3, .int v3), (4, .int v4), (5, .int v5), (6, .int v6)]) hx hb dX5_customers_135 hl (k := 6) rfl (by rw [ey1]; rfl) (by decide) rfl (fun ls hl => ?_)
    refine lv_goto (tgt := 73) hx hb dX5_customers_138 rfl ?_
    exact hC73 v0 v1 v3 v4 v5 v6 y1 S ls _ _ (lv_sub hl [1, 2, 3, 4, 5, 6, 0] rfl) hG hS h
  have k_73 : ∀ (C38 : Nat × Int32 × Int32 × Int32 × Int32 × Int32 × Hp → Prop) (hC38 : ∀ (v0 : Nat) (v1 : Int32) (v3 : Int32) (v4 : Int32) (v5 : Int32) (v6 : Int32) (S : Hp) (ls : Array Slot) (H : Heap) (locs : List Loc), lv_has ls 8 [(0, .ref v0), (1, .int v1), (3, .int v3), (4, .int v4), (5, .int v5), (6, .int v6)] → GG D κ A S H → va_S A s.heap H locs → C38 (v0, v1, v3, v4, v5, v6, S) → W p l e ({ frames := 5, cells := 0, slots := 0, locals := 240 } : Room) s m ([.ref a0, .int x1, .int x2, .int x3] : List Value).toArray below meth c H locs 0 0 (MQ below (va_Qi Q (BG D κ A) A) ([.ref a0, .int x1, .int x2, .int x3] : List Value).toArray s 0 0 A) (F0 m 38 ls [])) (n : Nat), ∀ (v0 : Nat) (v1 : Int32) (v3 : Int32) (v4 : Int32) (v5 : Int32) (v6 : Int32) (v7 : Int32) (S : Hp) (ls : Array Slot) (H : Heap) (locs : List Loc), lv_has ls 8 [(0, .ref v0), (1, .int v1), (3, .int v3), (4, .int v4), (5, .int v5), (6, .int v6), (7, .int v7)] → GG D κ A S H → va_S A s.heap H locs → it (L_X5_customers_73 C38 Q) n (v0, v1, v3, v4, v5, v6, v7, S) → W p l e ({ frames := 5, cells := 0, slots := 0, locals := 240 } : Room) s m ([.ref a0, .int x1, .int x2, .int x3] : List Value).toArray below meth c H locs 0 0 (MQ below (va_Qi Q (BG D κ A) A) ([.ref a0, .int x1, .int x2, .int x3] : List Value).toArray s 0 0 A) (F0 m 73 ls []) := by
    intro C38 hC38 n
    induction n with
    | zero => intro v0 v1 v3 v4 v5 v6 v7 S ls H locs hl hG hS h; exact False.elim h
    | succ n hC73 =>
      intro v0 v1 v3 v4 v5 v6 v7 S ls H locs hl hG hS h
      replace h : L_X5_customers_73 C38 Q (it (L_X5_customers_73 C38 Q) n) (v0, v1, v3, v4, v5, v6, v7, S) := h
      simp only [L_X5_customers_73] at h
      refine lv_iload hx hb dX5_customers_73 (lv_at hl 6 rfl) ?_
      refine lv_iload hx hb dX5_customers_75 (lv_at hl 3 rfl) ?_
      refine lv_icmp_ge (tgt := 141) hx hb dX5_customers_77 rfl (fun hc => ?_) (fun hc => ?_)
      · replace h := h.1 hc
        exact j_141 _ hC38 v0 v1 v3 v4 v5 v6 S ls _ _ (lv_sub hl [0, 1, 2, 3, 4, 5] rfl) hG hS h
      · replace h := h.2 hc
        refine lv_aload_n hx hb dX5_customers_80 rfl (lv_at hl 0 rfl) ?_
        have hk := h.1
        replace h := h.2
        obtain ⟨r1, hr1, h⟩ := h
        refine gg_get (v := .ref r1) (ci := 5) (C := RX5) (T := TX5) (N := 13) hx hb hts (fun _ h => List.mem_cons_of_mem _ (List.mem_append_left _ (List.mem_append_left _ (List.mem_append_right _ (h))))) hown hK hG (kc_6 hk) rfl 1 (by decide) (hts (.fieldLink RX5 19 "FourStones" "lyings" "LFourStones$Lyings;") (List.mem_of_getElem? (i := 1) rfl)) (fun _ h9 => h9) (congrArg (fun z => some (va_rf z)) hr1) dX5_customers_81 ?_
        refine lv_iload hx hb dX5_customers_84 (lv_at hl 5 rfl) ?_
        have hk := h.1
        replace h := h.2
        refine gc_i (va_runV (As := [.int v6]) (rest := []) ⟨hx, hb, hml, hown, hts⟩ (c_X0_notOff l D κ A S r1 v6 _ h) (cwV 1 hts gX5_customers_X0_notOff rfl rfl rfl (by decide +kernel) ⟨Nat.le_of_ble_eq_true rfl, Nat.le_of_ble_eq_true rfl⟩) (pg_V (q := (RX0, TX0, 5)) hK hX hG (pg_A hA hS) (kc_1 hk) rfl) rfl rfl hl.1 rfl (lv_room (Nat.le_of_ble_eq_true rfl)) dX5_customers_86 ⟨Nat.le_of_ble_eq_true rfl, Nat.le_of_ble_eq_true rfl⟩) hS (fun z4 S3 H locs2 h hG hS => ?_)
        refine lv_aload_n hx hb dX5_customers_89 rfl (lv_at hl 0 rfl) ?_
        have hk := h.1
        replace h := h.2
        obtain ⟨r5, hr5, h⟩ := h
        refine gg_get (v := .ref r5) (ci := 5) (C := RX5) (T := TX5) (N := 13) hx hb hts (fun _ h => List.mem_cons_of_mem _ (List.mem_append_left _ (List.mem_append_left _ (List.mem_append_right _ (h))))) hown hK hG (kc_6 hk) rfl 1 (by decide) (hts (.fieldLink RX5 19 "FourStones" "lyings" "LFourStones$Lyings;") (List.mem_of_getElem? (i := 1) rfl)) (fun _ h9 => h9) (congrArg (fun z => some (va_rf z)) hr5) dX5_customers_90 ?_
        refine lv_aload_n hx hb dX5_customers_93 rfl (lv_at hl 0 rfl) ?_
        have hk := h.1
        replace h := h.2
        obtain ⟨r6, hr6, h⟩ := h
        refine gg_get (v := .ref r6) (ci := 5) (C := RX5) (T := TX5) (N := 13) hx hb hts (fun _ h => List.mem_cons_of_mem _ (List.mem_append_left _ (List.mem_append_left _ (List.mem_append_right _ (h))))) hown hK hG (kc_6 hk) rfl 12 (by decide) (hts (.fieldLink RX5 65 "FourStones" "otherLyings" "[I") (List.mem_of_getElem? (i := 4) rfl)) (fun _ h9 => h9) (congrArg (fun z => some (va_rf z)) hr6) dX5_customers_94 ?_
        refine lv_iload hx hb dX5_customers_97 (lv_at hl 6 rfl) ?_
        have hk := h.1
        replace h := h.2
        have hi := h.1
        replace h := h.2
        refine gg_iald hx hb hK hG hk hi dX5_customers_99 ?_
        have hk := h.1
        replace h := h.2
        refine gc_i (va_runV (As := [.int (gA S3 r6 (v7).toNatClampNeg)]) (rest := [.int z4]) ⟨hx, hb, hml, hown, hts⟩ (c_X0_notOff l D κ A S3 r5 (gA S3 r6 (v7).toNatClampNeg) _ h) (cwV 1 hts gX5_customers_X0_notOff rfl rfl rfl (by decide +kernel) ⟨Nat.le_of_ble_eq_true rfl, Nat.le_of_ble_eq_true rfl⟩) (pg_V (q := (RX0, TX0, 5)) hK hX hG (pg_A hA hS) (kc_1 hk) rfl) rfl rfl hl.1 rfl (lv_room (Nat.le_of_ble_eq_true rfl)) dX5_customers_100 ⟨Nat.le_of_ble_eq_true rfl, Nat.le_of_ble_eq_true rfl⟩) hS (fun z9 S8 H locs7 h hG hS => ?_)
        refine lv_iand hx hb dX5_customers_103 ?_
        refine lv_if_eq (tgt := 110) hx hb dX5_customers_104 rfl (fun hc => ?_) (fun hc => ?_)
        · replace h := h.1 hc
          refine lv_iload_n hx hb dX5_customers_110 rfl (lv_at hl 2 rfl) ?_
          refine lv_if_le (tgt := 132) hx hb dX5_customers_111 rfl (fun hc => ?_) (fun hc => ?_)
          · replace h := h.1 hc
            obtain ⟨y10, ey10⟩ : ∃ z, z = v5 + (1 : Int32) := ⟨_, rfl⟩
            replace h := h y10 ey10
            refine lv_iinc (v := y10) (lv' := [(5, .int y10), (0, .ref v0), (1, .int v1), (3, .int v3), (4, .int v4), (6, .int v6), (7, .int v7)]) hx hb dX5_customers_132 hl (k := 4) rfl (by rw [ey10]; rfl) (by decide) rfl (fun ls hl => ?_)
            exact j_135 _ hC38 _ hC73 v0 v1 v3 v4 y10 v6 v7 S8 ls _ _ (lv_sub hl [1, 2, 3, 4, 0, 5, 6] rfl) hG hS h
          · replace h := h.2 hc
            refine lv_iload_n hx hb dX5_customers_114 rfl (lv_at hl 2 rfl) ?_
            refine lv_iconst (v := (1 : Int32)) hx hb dX5_customers_115 (by decide) ?_
            refine lv_icmp_ne (tgt := 124) hx hb dX5_customers_116 rfl (fun hc => ?_) (fun hc => ?_)
            · replace h := h.1 hc
              refine lv_aload_n hx hb dX5_customers_124 rfl (lv_at hl 0 rfl) ?_
              have hk := h.1
              replace h := h.2
              obtain ⟨r11, hr11, h⟩ := h
              refine gg_get (v := .ref r11) (ci := 5) (C := RX5) (T := TX5) (N := 13) hx hb hts (fun _ h => List.mem_cons_of_mem _ (List.mem_append_left _ (List.mem_append_left _ (List.mem_append_right _ (h))))) hown hK hG (kc_6 hk) rfl 12 (by decide) (hts (.fieldLink RX5 65 "FourStones" "otherLyings" "[I") (List.mem_of_getElem? (i := 4) rfl)) (fun _ h9 => h9) (congrArg (fun z => some (va_rf z)) hr11) dX5_customers_125 ?_
              refine lv_iload hx hb dX5_customers_128 (lv_at hl 6 rfl) ?_
              have hk := h.1
              replace h := h.2
              have hi := h.1
              replace h := h.2
              refine gg_iald hx hb hK hG hk hi dX5_customers_130 ?_
              exact W.iret hx hb hr (gr_i h hG hK hX hS) hS.2.2 dX5_customers_131
            · replace h := h.2 hc
              refine lv_iload hx hb dX5_customers_119 (lv_at hl 5 rfl) ?_
              refine lv_goto (tgt := 131) hx hb dX5_customers_121 rfl ?_
              exact W.iret hx hb hr (gr_i h hG hK hX hS) hS.2.2 dX5_customers_131
        · replace h := h.2 hc
          refine lv_goto (tgt := 135) hx hb dX5_customers_107 rfl ?_
          exact j_135 _ hC38 _ hC73 v0 v1 v3 v4 v5 v6 v7 S8 ls _ _ (lv_sub hl [0, 1, 2, 3, 4, 5, 6] rfl) hG hS h
  have k_38 : ∀  (n : Nat), ∀ (v0 : Nat) (v1 : Int32) (v3 : Int32) (v4 : Int32) (v5 : Int32) (v6 : Int32) (S : Hp) (ls : Array Slot) (H : Heap) (locs : List Loc), lv_has ls 8 [(0, .ref v0), (1, .int v1), (3, .int v3), (4, .int v4), (5, .int v5), (6, .int v6)] → GG D κ A S H → va_S A s.heap H locs → it (L_X5_customers_38  Q) n (v0, v1, v3, v4, v5, v6, S) → W p l e ({ frames := 5, cells := 0, slots := 0, locals := 240 } : Room) s m ([.ref a0, .int x1, .int x2, .int x3] : List Value).toArray below meth c H locs 0 0 (MQ below (va_Qi Q (BG D κ A) A) ([.ref a0, .int x1, .int x2, .int x3] : List Value).toArray s 0 0 A) (F0 m 38 ls []) := by
    intro  n
    induction n with
    | zero => intro v0 v1 v3 v4 v5 v6 S ls H locs hl hG hS h; exact False.elim h
    | succ n hC38 =>
      intro v0 v1 v3 v4 v5 v6 S ls H locs hl hG hS h
      replace h : L_X5_customers_38  Q (it (L_X5_customers_38  Q) n) (v0, v1, v3, v4, v5, v6, S) := h
      simp only [L_X5_customers_38] at h
      refine lv_iload hx hb dX5_customers_38 (lv_at hl 5 rfl) ?_
      refine lv_aload_n hx hb dX5_customers_40 rfl (lv_at hl 0 rfl) ?_
      have hk := h.1
      replace h := h.2
      obtain ⟨r1, hr1, h⟩ := h
      refine gg_get (v := .ref r1) (ci := 5) (C := RX5) (T := TX5) (N := 13) hx hb hts (fun _ h => List.mem_cons_of_mem _ (List.mem_append_left _ (List.mem_append_left _ (List.mem_append_right _ (h))))) hown hK hG (kc_6 hk) rfl 1 (by decide) (hts (.fieldLink RX5 19 "FourStones" "lyings" "LFourStones$Lyings;") (List.mem_of_getElem? (i := 1) rfl)) (fun _ h9 => h9) (congrArg (fun z => some (va_rf z)) hr1) dX5_customers_41 ?_
      have hk := h.1
      replace h := h.2
      refine gg_get (ci := 0) (C := RX0) (T := TX0) (N := 5) hx hb hts (fun _ h => List.mem_cons_of_mem _ (List.mem_append_left _ (List.mem_append_right _ (h)))) hown hK hG (kc_1 hk) rfl 4 (by decide) (hts (.fieldLink RX5 129 "FourStones$Lyings" "count" "I") (List.mem_of_getElem? (i := 2) rfl)) (fun _ h9 => h9) rfl dX5_customers_44 ?_
      refine lv_icmp_ge (tgt := 147) hx hb dX5_customers_47 rfl (fun hc => ?_) (fun hc => ?_)
      · replace h := h.1 hc
        refine lv_iload_n hx hb dX5_customers_147 rfl (lv_at hl 2 rfl) ?_
        refine lv_if_ne (tgt := 156) hx hb dX5_customers_148 rfl (fun hc => ?_) (fun hc => ?_)
        · replace h := h.1 hc
          refine lv_bipush (v := (-4 : Int32)) hx hb dX5_customers_156 (by decide) ?_
          exact W.iret hx hb hr (gr_i h hG hK hX hS) hS.2.2 dX5_customers_158
        · replace h := h.2 hc
          refine lv_iload hx hb dX5_customers_151 (lv_at hl 4 rfl) ?_
          refine lv_goto (tgt := 158) hx hb dX5_customers_153 rfl ?_
          exact W.iret hx hb hr (gr_i h hG hK hX hS) hS.2.2 dX5_customers_158
      · replace h := h.2 hc
        refine lv_aload_n hx hb dX5_customers_50 rfl (lv_at hl 0 rfl) ?_
        have hk := h.1
        replace h := h.2
        obtain ⟨r2, hr2, h⟩ := h
        refine gg_get (v := .ref r2) (ci := 5) (C := RX5) (T := TX5) (N := 13) hx hb hts (fun _ h => List.mem_cons_of_mem _ (List.mem_append_left _ (List.mem_append_left _ (List.mem_append_right _ (h))))) hown hK hG (kc_6 hk) rfl 8 (by decide) (hts (.fieldLink RX5 47 "FourStones" "plainScale" "LFourStones$Scale;") (List.mem_of_getElem? (i := 3) rfl)) (fun _ h9 => h9) (congrArg (fun z => some (va_rf z)) hr2) dX5_customers_51 ?_
        refine lv_aload_n hx hb dX5_customers_54 rfl (lv_at hl 0 rfl) ?_
        have hk := h.1
        replace h := h.2
        obtain ⟨r3, hr3, h⟩ := h
        refine gg_get (v := .ref r3) (ci := 5) (C := RX5) (T := TX5) (N := 13) hx hb hts (fun _ h => List.mem_cons_of_mem _ (List.mem_append_left _ (List.mem_append_left _ (List.mem_append_right _ (h))))) hown hK hG (kc_6 hk) rfl 1 (by decide) (hts (.fieldLink RX5 19 "FourStones" "lyings" "LFourStones$Lyings;") (List.mem_of_getElem? (i := 1) rfl)) (fun _ h9 => h9) (congrArg (fun z => some (va_rf z)) hr3) dX5_customers_55 ?_
        refine lv_iload hx hb dX5_customers_58 (lv_at hl 5 rfl) ?_
        refine lv_iload_n hx hb dX5_customers_60 rfl (lv_at hl 1 rfl) ?_
        have hk := h.1
        replace h := h.2
        refine gc_i (va_runV (As := [.ref r3, .int v6, .int v1]) (rest := []) ⟨hx, hb, hml, hown, hts⟩ (c_X2_hits l D κ A S r2 r3 v6 v1 _ h) (cwV 3 hts gX5_customers_X2_hits rfl rfl rfl (by decide +kernel) ⟨Nat.le_of_ble_eq_true rfl, Nat.le_of_ble_eq_true rfl⟩) (pg_V (q := (RX2, TX2, 2)) hK hX hG (pg_A hA hS) (kc_3 hk) rfl) rfl rfl hl.1 rfl (lv_room (Nat.le_of_ble_eq_true rfl)) dX5_customers_61 ⟨Nat.le_of_ble_eq_true rfl, Nat.le_of_ble_eq_true rfl⟩) hS (fun z6 S5 H locs4 h hG hS => ?_)
        refine lv_if_ne (tgt := 70) hx hb dX5_customers_64 rfl (fun hc => ?_) (fun hc => ?_)
        · replace h := h.1 hc
          refine lv_iconst (v := (0 : Int32)) hx hb dX5_customers_70 (by decide) ?_
          refine lv_istore (lv' := [(7, .int (0 : Int32)), (0, .ref v0), (1, .int v1), (3, .int v3), (4, .int v4), (5, .int v5), (6, .int v6)]) hx hb dX5_customers_71 hl (by decide) rfl (fun ls hl => ?_)
          obtain ⟨nn, h⟩ := h
          exact k_73 _ hC38 nn v0 v1 v3 v4 v5 v6 (0 : Int32) S5 ls _ _ (lv_sub hl [1, 2, 3, 4, 5, 6, 0] rfl) hG hS h
        · replace h := h.2 hc
          refine lv_goto (tgt := 141) hx hb dX5_customers_67 rfl ?_
          exact j_141 _ hC38 v0 v1 v3 v4 v5 v6 S5 ls _ _ (lv_sub hl [0, 1, 2, 3, 4, 5] rfl) hG hS h
  refine lv_iload_n hx hb dX5_customers_0 rfl (lv_at hl 1 rfl) ?_
  refine gc_i (va_runS (As := [.int x1]) (rest := []) ⟨hx, hb, hml, hown, hts⟩ (c_X5_canBeHad l D κ A S x1 _ h) (va_cwS 1 hts gX5_customers_X5_canBeHad rfl rfl rfl (by decide +kernel) ⟨Nat.le_of_ble_eq_true rfl, Nat.le_of_ble_eq_true rfl⟩) (pg_S hK hX hG (pg_A hA hS)) rfl rfl hl.1 rfl (lv_room (Nat.le_of_ble_eq_true rfl)) dX5_customers_1 ⟨Nat.le_of_ble_eq_true rfl, Nat.le_of_ble_eq_true rfl⟩) hS (fun z3 S2 H locs1 h hG hS => ?_)
  refine lv_if_eq (tgt := 23) hx hb dX5_customers_4 rfl (fun hc => ?_) (fun hc => ?_)
  · replace h := h.1 hc
    refine lv_iconst (v := (-1 : Int32)) hx hb dX5_customers_23 (by decide) ?_
    exact W.iret hx hb hr (gr_i h hG hK hX hS) hS.2.2 dX5_customers_24
  · replace h := h.2 hc
    refine lv_iload_n hx hb dX5_customers_7 rfl (lv_at hl 2 rfl) ?_
    refine gc_i (va_runS (As := [.int x2]) (rest := []) ⟨hx, hb, hml, hown, hts⟩ (c_X5_canBeHad l D κ A S2 x2 _ h) (va_cwS 1 hts gX5_customers_X5_canBeHad rfl rfl rfl (by decide +kernel) ⟨Nat.le_of_ble_eq_true rfl, Nat.le_of_ble_eq_true rfl⟩) (pg_S hK hX hG (pg_A hA hS)) rfl rfl hl.1 rfl (lv_room (Nat.le_of_ble_eq_true rfl)) dX5_customers_8 ⟨Nat.le_of_ble_eq_true rfl, Nat.le_of_ble_eq_true rfl⟩) hS (fun z6 S5 H locs4 h hG hS => ?_)
    refine lv_if_eq (tgt := 23) hx hb dX5_customers_11 rfl (fun hc => ?_) (fun hc => ?_)
    · replace h := h.1 hc
      refine lv_iconst (v := (-1 : Int32)) hx hb dX5_customers_23 (by decide) ?_
      exact W.iret hx hb hr (gr_i h hG hK hX hS) hS.2.2 dX5_customers_24
    · replace h := h.2 hc
      refine lv_iload_n hx hb dX5_customers_14 rfl (lv_at hl 3 rfl) ?_
      refine lv_if_lt (tgt := 23) hx hb dX5_customers_15 rfl (fun hc => ?_) (fun hc => ?_)
      · replace h := h.1 hc
        refine lv_iconst (v := (-1 : Int32)) hx hb dX5_customers_23 (by decide) ?_
        exact W.iret hx hb hr (gr_i h hG hK hX hS) hS.2.2 dX5_customers_24
      · replace h := h.2 hc
        refine lv_iload_n hx hb dX5_customers_18 rfl (lv_at hl 3 rfl) ?_
        refine lv_iconst (v := (2 : Int32)) hx hb dX5_customers_19 (by decide) ?_
        refine lv_icmp_le (tgt := 25) hx hb dX5_customers_20 rfl (fun hc => ?_) (fun hc => ?_)
        · replace h := h.1 hc
          refine lv_aload_n hx hb dX5_customers_25 rfl (lv_at hl 0 rfl) ?_
          refine lv_iload_n hx hb dX5_customers_26 rfl (lv_at hl 2 rfl) ?_
          have hk := h.1
          replace h := h.2
          refine gc_i (va_runV (As := [.int x2]) (rest := []) ⟨hx, hb, hml, hown, hts⟩ (c_X5_collectOtherLyings l D κ A S5 a0 x2 _ h) (cwV 1 hts gX5_customers_X5_collectOtherLyings rfl rfl rfl (by decide +kernel) ⟨Nat.le_of_ble_eq_true rfl, Nat.le_of_ble_eq_true rfl⟩) (pg_V (q := (RX5, TX5, 13)) hK hX hG (pg_A hA hS) (kc_6 hk) rfl) rfl rfl hl.1 rfl (lv_room (Nat.le_of_ble_eq_true rfl)) dX5_customers_27 ⟨Nat.le_of_ble_eq_true rfl, Nat.le_of_ble_eq_true rfl⟩) hS (fun z9 S8 H locs7 h hG hS => ?_)
          refine lv_istore (lv' := [(4, .int z9), (0, .ref a0), (1, .int x1), (2, .int x2), (3, .int x3)]) hx hb dX5_customers_30 hl (by decide) rfl (fun ls hl => ?_)
          refine lv_iconst (v := (0 : Int32)) hx hb dX5_customers_32 (by decide) ?_
          refine lv_istore (lv' := [(5, .int (0 : Int32)), (4, .int z9), (0, .ref a0), (1, .int x1), (2, .int x2), (3, .int x3)]) hx hb dX5_customers_33 hl (by decide) rfl (fun ls hl => ?_)
          refine lv_iconst (v := (0 : Int32)) hx hb dX5_customers_35 (by decide) ?_
          refine lv_istore (lv' := [(6, .int (0 : Int32)), (5, .int (0 : Int32)), (4, .int z9), (0, .ref a0), (1, .int x1), (2, .int x2), (3, .int x3)]) hx hb dX5_customers_36 hl (by decide) rfl (fun ls hl => ?_)
          obtain ⟨nn, h⟩ := h
          exact k_38  nn a0 x1 x3 z9 (0 : Int32) (0 : Int32) S8 ls _ _ (lv_sub hl [3, 4, 6, 2, 1, 0] rfl) hG hS h
        · replace h := h.2 hc
          refine lv_iconst (v := (-1 : Int32)) hx hb dX5_customers_23 (by decide) ?_
          exact W.iret hx hb hr (gr_i h hG hK hX hS) hS.2.2 dX5_customers_24
set_option maxHeartbeats 4000000 in
set_option maxRecDepth 100000 in
theorem c_X5_areWeighings (l : Launch) (D : va_G) (κ : Nat → ClassId) (A : Nat → Prop) (S : Hp) (a0 : Nat) (a1 : Nat) (Q : Int32 → Hp → Prop) (h : wp_X5_areWeighings a0 a1 S Q) : Met l yX5_areWeighings wsX5_areWeighings ({ frames := 2, cells := 0, slots := 0, locals := 96 } : Room) (PG D κ A S [.ref a0, .ref a1]) (va_Qi Q (BG D κ A) A) 0 0 A := by
  refine Met.ofW (cc := cX5_areWeighings) (maxL := 4) (ret := (some .boolean)) (by decide) rfl ?_
  intro p e s m args below meth c s₁ B hml hv
  obtain ⟨hargs, hA, hG, hK, hX⟩ := hv
  have hx := B.exec
  have hb := B.bytes
  have hr := B.returns
  have hts := atoms_spec (ws := wsX5_areWeighings) B.pre
  have hown : s.vm.findClass RX5 = some m.cls := findClass_of_methodNamed B.named
  have hlocks := B.notSynchronized
  subst hargs
  clear B
  have hS : va_S A s.heap s.heap [] := va_S.rf
  have hl := lv_entry ([.ref a0, .ref a1]) (n := 4) (Nat.le_of_ble_eq_true rfl)
  rw [lg_entry_eq]
  generalize (lg_sl ([.ref a0, .ref a1]) ++ List.replicate (4 - (lg_sl ([.ref a0, .ref a1])).length) Slot.unset).toArray = ls at hl ⊢
  have hl : lv_has ls 4 [(0, .ref a0), (1, .ref a1)] := hl
  have hG : GG D κ A S s.heap := hG
  have k_16 : ∀  (n : Nat), ∀ (v0 : Nat) (v1 : Nat) (v2 : Int32) (v3 : Int32) (S : Hp) (ls : Array Slot) (H : Heap) (locs : List Loc), lv_has ls 4 [(0, .ref v0), (1, .ref v1), (2, .int v2), (3, .int v3)] → GG D κ A S H → va_S A s.heap H locs → it (L_X5_areWeighings_16  Q) n (v0, v1, v2, v3, S) → W p l e ({ frames := 2, cells := 0, slots := 0, locals := 96 } : Room) s m ([.ref a0, .ref a1] : List Value).toArray below meth c H locs 0 0 (MQ below (va_Qi Q (BG D κ A) A) ([.ref a0, .ref a1] : List Value).toArray s 0 0 A) (F0 m 16 ls []) := by
    intro  n
    induction n with
    | zero => intro v0 v1 v2 v3 S ls H locs hl hG hS h; exact False.elim h
    | succ n hC16 =>
      intro v0 v1 v2 v3 S ls H locs hl hG hS h
      replace h : L_X5_areWeighings_16  Q (it (L_X5_areWeighings_16  Q) n) (v0, v1, v2, v3, S) := h
      simp only [L_X5_areWeighings_16] at h
      refine lv_iload_n hx hb dX5_areWeighings_16 rfl (lv_at hl 3 rfl) ?_
      refine lv_iconst (v := (1 : Int32)) hx hb dX5_areWeighings_17 (by decide) ?_
      refine lv_iadd hx hb dX5_areWeighings_18 ?_
      refine lv_iload_n hx hb dX5_areWeighings_19 rfl (lv_at hl 2 rfl) ?_
      refine lv_icmp_ge (tgt := 47) hx hb dX5_areWeighings_20 rfl (fun hc => ?_) (fun hc => ?_)
      · replace h := h.1 hc
        refine lv_iconst (v := (1 : Int32)) hx hb dX5_areWeighings_47 (by decide) ?_
        exact W.zret (ty := .boolean) hx hb hr (by decide) (gr_i h hG hK hX hS) hS.2.2 dX5_areWeighings_48
      · replace h := h.2 hc
        refine lv_aload_n hx hb dX5_areWeighings_23 rfl (lv_at hl 0 rfl) ?_
        have hk := h.1
        replace h := h.2
        obtain ⟨r1, hr1, h⟩ := h
        refine gg_get (v := .ref r1) (ci := 5) (C := RX5) (T := TX5) (N := 13) hx hb hts (fun _ h => List.mem_cons_of_mem _ (List.mem_append_left _ (List.mem_append_right _ (h)))) hown hK hG (kc_6 hk) rfl 1 (by decide) (hts (.fieldLink RX5 19 "FourStones" "lyings" "LFourStones$Lyings;") (List.mem_of_getElem? (i := 2) rfl)) (fun _ h9 => h9) (congrArg (fun z => some (va_rf z)) hr1) dX5_areWeighings_24 ?_
        refine lv_aload_n hx hb dX5_areWeighings_27 rfl (lv_at hl 1 rfl) ?_
        have hk := h.1
        replace h := h.2
        obtain ⟨r2, hr2, h⟩ := h
        refine gg_get (v := .ref r2) (ci := 1) (C := RX1) (T := TX1) (N := 2) hx hb hts (fun _ h => List.mem_cons_of_mem _ (List.mem_append_left _ (List.mem_append_left _ (List.mem_append_right _ (h))))) hown hK hG (kc_2 hk) rfl 1 (by decide) (hts (.fieldLink RX5 209 "FourStones$Row" "cells" "[I") (List.mem_of_getElem? (i := 1) rfl)) (fun _ h9 => h9) (congrArg (fun z => some (va_rf z)) hr2) dX5_areWeighings_28 ?_
        refine lv_iload_n hx hb dX5_areWeighings_31 rfl (lv_at hl 3 rfl) ?_
        have hk := h.1
        replace h := h.2
        have hi := h.1
        replace h := h.2
        refine gg_iald hx hb hK hG hk hi dX5_areWeighings_32 ?_
        have hk := h.1
        replace h := h.2
        refine gc_i (va_runV (As := [.int (gA S r2 (v3).toNatClampNeg)]) (rest := []) ⟨hx, hb, hml, hown, hts⟩ (c_X0_isLying l D κ A S r1 (gA S r2 (v3).toNatClampNeg) _ h) (cwV 1 hts gX5_areWeighings_X0_isLying rfl rfl rfl (by decide +kernel) ⟨Nat.le_of_ble_eq_true rfl, Nat.le_of_ble_eq_true rfl⟩) (pg_V (q := (RX0, TX0, 5)) hK hX hG (pg_A hA hS) (kc_1 hk) rfl) rfl rfl hl.1 rfl (lv_room (Nat.le_of_ble_eq_true rfl)) dX5_areWeighings_33 ⟨Nat.le_of_ble_eq_true rfl, Nat.le_of_ble_eq_true rfl⟩) hS (fun z5 S4 H locs3 h hG hS => ?_)
        refine lv_if_ne (tgt := 41) hx hb dX5_areWeighings_36 rfl (fun hc => ?_) (fun hc => ?_)
        · replace h := h.1 hc
          obtain ⟨y6, ey6⟩ : ∃ z, z = v3 + (2 : Int32) := ⟨_, rfl⟩
          replace h := h y6 ey6
          refine lv_iinc (v := y6) (lv' := [(3, .int y6), (0, .ref v0), (1, .ref v1), (2, .int v2)]) hx hb dX5_areWeighings_41 hl (k := 3) rfl (by rw [ey6]; rfl) (by decide) rfl (fun ls hl => ?_)
          refine lv_goto (tgt := 16) hx hb dX5_areWeighings_44 rfl ?_
          exact hC16 v0 v1 v2 y6 S4 ls _ _ (lv_sub hl [1, 2, 3, 0] rfl) hG hS h
        · replace h := h.2 hc
          refine lv_iconst (v := (0 : Int32)) hx hb dX5_areWeighings_39 (by decide) ?_
          exact W.zret (ty := .boolean) hx hb hr (by decide) (gr_i h hG hK hX hS) hS.2.2 dX5_areWeighings_40
  refine lv_aload_n hx hb dX5_areWeighings_0 rfl (lv_at hl 1 rfl) ?_
  have hk := h.1
  replace h := h.2
  obtain ⟨r1, hr1, h⟩ := h
  refine gg_get (v := .ref r1) (ci := 1) (C := RX1) (T := TX1) (N := 2) hx hb hts (fun _ h => List.mem_cons_of_mem _ (List.mem_append_left _ (List.mem_append_left _ (List.mem_append_right _ (h))))) hown hK hG (kc_2 hk) rfl 1 (by decide) (hts (.fieldLink RX5 209 "FourStones$Row" "cells" "[I") (List.mem_of_getElem? (i := 1) rfl)) (fun _ h9 => h9) (congrArg (fun z => some (va_rf z)) hr1) dX5_areWeighings_1 ?_
  have hk := h.1
  replace h := h.2
  refine gg_alen8 hx hb hK hG hk dX5_areWeighings_4 ?_
  refine lv_topi (fun y2 ey2 => ?_)
  replace h := h y2 ey2
  refine lv_istore_n (lv' := [(2, .int y2), (0, .ref a0), (1, .ref a1)]) hx hb dX5_areWeighings_5 rfl hl (by decide) rfl (fun ls hl => ?_)
  refine lv_iload_n hx hb dX5_areWeighings_6 rfl (lv_at hl 0 rfl) ?_
  refine lv_iconst (v := (2 : Int32)) hx hb dX5_areWeighings_7 (by decide) ?_
  refine lv_irem hx hb dX5_areWeighings_8 (by decide) ?_
  refine lv_if_eq (tgt := 14) hx hb dX5_areWeighings_9 rfl (fun hc => ?_) (fun hc => ?_)
  · replace h := h.1 hc
    refine lv_iconst (v := (0 : Int32)) hx hb dX5_areWeighings_14 (by decide) ?_
    refine lv_istore_n (lv' := [(3, .int (0 : Int32)), (2, .int y2), (0, .ref a0), (1, .ref a1)]) hx hb dX5_areWeighings_15 rfl hl (by decide) rfl (fun ls hl => ?_)
    obtain ⟨nn, h⟩ := h
    exact k_16  nn a0 a1 y2 (0 : Int32) S ls _ _ (lv_sub hl [2, 3, 1, 0] rfl) hG hS h
  · replace h := h.2 hc
    refine lv_iconst (v := (0 : Int32)) hx hb dX5_areWeighings_12 (by decide) ?_
    exact W.zret (ty := .boolean) hx hb hr (by decide) (gr_i h hG hK hX hS) hS.2.2 dX5_areWeighings_13
set_option maxHeartbeats 4000000 in
set_option maxRecDepth 100000 in
theorem c_X5_isWeightBy (l : Launch) (D : va_G) (κ : Nat → ClassId) (A : Nat → Prop) (S : Hp) (a0 : Nat) (a1 : Nat) (x2 : Int32) (x3 : Int32) (Q : Int32 → Hp → Prop) (h : wp_X5_isWeightBy a0 a1 x2 x3 S Q) : Met l yX5_isWeightBy wsX5_isWeightBy ({ frames := 3, cells := 0, slots := 0, locals := 144 } : Room) (PG D κ A S [.ref a0, .ref a1, .int x2, .int x3]) (va_Qi Q (BG D κ A) A) 0 0 A := by
  refine Met.ofW (cc := cX5_isWeightBy) (maxL := 9) (ret := (some .boolean)) (by decide) rfl ?_
  intro p e s m args below meth c s₁ B hml hv
  obtain ⟨hargs, hA, hG, hK, hX⟩ := hv
  have hx := B.exec
  have hb := B.bytes
  have hr := B.returns
  have hts := atoms_spec (ws := wsX5_isWeightBy) B.pre
  have hown : s.vm.findClass RX5 = some m.cls := findClass_of_methodNamed B.named
  have hlocks := B.notSynchronized
  subst hargs
  clear B
  have hS : va_S A s.heap s.heap [] := va_S.rf
  have hl := lv_entry ([.ref a0, .ref a1, .int x2, .int x3]) (n := 9) (Nat.le_of_ble_eq_true rfl)
  rw [lg_entry_eq]
  generalize (lg_sl ([.ref a0, .ref a1, .int x2, .int x3]) ++ List.replicate (9 - (lg_sl ([.ref a0, .ref a1, .int x2, .int x3])).length) Slot.unset).toArray = ls at hl ⊢
  have hl : lv_has ls 9 [(0, .ref a0), (1, .ref a1), (2, .int x2), (3, .int x3)] := hl
  have hG : GG D κ A S s.heap := hG
  have k_23 : ∀  (n : Nat), ∀ (v0 : Nat) (v1 : Nat) (v2 : Int32) (v4 : Int32) (v5 : Int32) (v6 : Int32) (S : Hp) (ls : Array Slot) (H : Heap) (locs : List Loc), lv_has ls 9 [(0, .ref v0), (1, .ref v1), (2, .int v2), (4, .int v4), (5, .int v5), (6, .int v6)] → GG D κ A S H → va_S A s.heap H locs → it (L_X5_isWeightBy_23  Q) n (v0, v1, v2, v4, v5, v6, S) → W p l e ({ frames := 3, cells := 0, slots := 0, locals := 144 } : Room) s m ([.ref a0, .ref a1, .int x2, .int x3] : List Value).toArray below meth c H locs 0 0 (MQ below (va_Qi Q (BG D κ A) A) ([.ref a0, .ref a1, .int x2, .int x3] : List Value).toArray s 0 0 A) (F0 m 23 ls []) := by
    intro  n
    induction n with
    | zero => intro v0 v1 v2 v4 v5 v6 S ls H locs hl hG hS h; exact False.elim h
    | succ n hC23 =>
      intro v0 v1 v2 v4 v5 v6 S ls H locs hl hG hS h
      replace h : L_X5_isWeightBy_23  Q (it (L_X5_isWeightBy_23  Q) n) (v0, v1, v2, v4, v5, v6, S) := h
      simp only [L_X5_isWeightBy_23] at h
      refine lv_iload hx hb dX5_isWeightBy_23 (lv_at hl 5 rfl) ?_
      refine lv_iconst (v := (1 : Int32)) hx hb dX5_isWeightBy_25 (by decide) ?_
      refine lv_iadd hx hb dX5_isWeightBy_26 ?_
      refine lv_iload hx hb dX5_isWeightBy_27 (lv_at hl 4 rfl) ?_
      refine lv_icmp_ge (tgt := 92) hx hb dX5_isWeightBy_29 rfl (fun hc => ?_) (fun hc => ?_)
      · replace h := h.1 hc
        refine lv_iconst (v := (1 : Int32)) hx hb dX5_isWeightBy_92 (by decide) ?_
        exact W.zret (ty := .boolean) hx hb hr (by decide) (gr_i h hG hK hX hS) hS.2.2 dX5_isWeightBy_93
      · replace h := h.2 hc
        refine lv_aload_n hx hb dX5_isWeightBy_32 rfl (lv_at hl 1 rfl) ?_
        have hk := h.1
        replace h := h.2
        obtain ⟨r1, hr1, h⟩ := h
        refine gg_get (v := .ref r1) (ci := 1) (C := RX1) (T := TX1) (N := 2) hx hb hts (fun _ h => List.mem_cons_of_mem _ (List.mem_append_left _ (List.mem_append_left _ (List.mem_append_right _ (h))))) hown hK hG (kc_2 hk) rfl 1 (by decide) (hts (.fieldLink RX5 209 "FourStones$Row" "cells" "[I") (List.mem_of_getElem? (i := 3) rfl)) (fun _ h9 => h9) (congrArg (fun z => some (va_rf z)) hr1) dX5_isWeightBy_33 ?_
        refine lv_iload hx hb dX5_isWeightBy_36 (lv_at hl 5 rfl) ?_
        have hk := h.1
        replace h := h.2
        have hi := h.1
        replace h := h.2
        refine gg_iald hx hb hK hG hk hi dX5_isWeightBy_38 ?_
        refine lv_topi (fun y2 ey2 => ?_)
        replace h := h y2 ey2
        refine lv_istore (lv' := [(7, .int y2), (0, .ref v0), (1, .ref v1), (2, .int v2), (4, .int v4), (5, .int v5), (6, .int v6)]) hx hb dX5_isWeightBy_39 hl (by decide) rfl (fun ls hl => ?_)
        refine lv_aload_n hx hb dX5_isWeightBy_41 rfl (lv_at hl 1 rfl) ?_
        have hk := h.1
        replace h := h.2
        obtain ⟨r3, hr3, h⟩ := h
        refine gg_get (v := .ref r3) (ci := 5) (C := RX5) (T := TX5) (N := 13) hx hb hts (fun _ h => List.mem_cons_of_mem _ (List.mem_append_left _ (List.mem_append_left _ (List.mem_append_left _ (List.mem_append_left _ (List.mem_append_right _ (h))))))) hown hK hG (kc_6 hk) rfl 1 (by decide) (hts (.fieldLink RX5 19 "FourStones" "lyings" "LFourStones$Lyings;") (List.mem_of_getElem? (i := 4) rfl)) (fun _ h9 => h9) (congrArg (fun z => some (va_rf z)) hr3) dX5_isWeightBy_42 ?_
        refine lv_iload hx hb dX5_isWeightBy_45 (lv_at hl 0 rfl) ?_
        refine lv_iload_n hx hb dX5_isWeightBy_47 rfl (lv_at hl 3 rfl) ?_
        have hk := h.1
        replace h := h.2
        refine gc_i (va_runV (As := [.int y2, .int v2]) (rest := []) ⟨hx, hb, hml, hown, hts⟩ (c_X0_sideOf l D κ A S r3 y2 v2 _ h) (cwV 2 hts gX5_isWeightBy_X0_sideOf rfl rfl rfl (by decide +kernel) ⟨Nat.le_of_ble_eq_true rfl, Nat.le_of_ble_eq_true rfl⟩) (pg_V (q := (RX0, TX0, 5)) hK hX hG (pg_A hA hS) (kc_1 hk) rfl) rfl rfl hl.1 rfl (lv_room (Nat.le_of_ble_eq_true rfl)) dX5_isWeightBy_48 ⟨Nat.le_of_ble_eq_true rfl, Nat.le_of_ble_eq_true rfl⟩) hS (fun z6 S5 H locs4 h hG hS => ?_)
        refine lv_istore (lv' := [(8, .int z6), (7, .int y2), (0, .ref v0), (1, .ref v1), (2, .int v2), (4, .int v4), (5, .int v5), (6, .int v6)]) hx hb dX5_isWeightBy_51 hl (by decide) rfl (fun ls hl => ?_)
        refine lv_aload_n hx hb dX5_isWeightBy_53 rfl (lv_at hl 2 rfl) ?_
        have hk := h.1
        replace h := h.2
        obtain ⟨r7, hr7, h⟩ := h
        refine gg_get (v := .ref r7) (ci := 5) (C := RX5) (T := TX5) (N := 13) hx hb hts (fun _ h => List.mem_cons_of_mem _ (List.mem_append_left _ (List.mem_append_left _ (List.mem_append_left _ (List.mem_append_left _ (List.mem_append_right _ (h))))))) hown hK hG (kc_6 hk) rfl 8 (by decide) (hts (.fieldLink RX5 47 "FourStones" "plainScale" "LFourStones$Scale;") (List.mem_of_getElem? (i := 5) rfl)) (fun _ h9 => h9) (congrArg (fun z => some (va_rf z)) hr7) dX5_isWeightBy_54 ?_
        refine lv_aload_n hx hb dX5_isWeightBy_57 rfl (lv_at hl 2 rfl) ?_
        have hk := h.1
        replace h := h.2
        obtain ⟨r8, hr8, h⟩ := h
        refine gg_get (v := .ref r8) (ci := 5) (C := RX5) (T := TX5) (N := 13) hx hb hts (fun _ h => List.mem_cons_of_mem _ (List.mem_append_left _ (List.mem_append_left _ (List.mem_append_left _ (List.mem_append_left _ (List.mem_append_right _ (h))))))) hown hK hG (kc_6 hk) rfl 1 (by decide) (hts (.fieldLink RX5 19 "FourStones" "lyings" "LFourStones$Lyings;") (List.mem_of_getElem? (i := 4) rfl)) (fun _ h9 => h9) (congrArg (fun z => some (va_rf z)) hr8) dX5_isWeightBy_58 ?_
        refine lv_iload hx hb dX5_isWeightBy_61 (lv_at hl 1 rfl) ?_
        have hk := h.1
        replace h := h.2
        refine gc_i (va_runV (As := [.ref r8, .int y2]) (rest := []) ⟨hx, hb, hml, hown, hts⟩ (c_X2_weightOf l D κ A S5 r7 r8 y2 _ h) (cwV 2 hts gX5_isWeightBy_X2_weightOf rfl rfl rfl (by decide +kernel) ⟨Nat.le_of_ble_eq_true rfl, Nat.le_of_ble_eq_true rfl⟩) (pg_V (q := (RX2, TX2, 2)) hK hX hG (pg_A hA hS) (kc_3 hk) rfl) rfl rfl hl.1 rfl (lv_room (Nat.le_of_ble_eq_true rfl)) dX5_isWeightBy_63 ⟨Nat.le_of_ble_eq_true rfl, Nat.le_of_ble_eq_true rfl⟩) hS (fun z11 S10 H locs9 h hG hS => ?_)
        refine lv_iload hx hb dX5_isWeightBy_66 (lv_at hl 0 rfl) ?_
        refine lv_iload hx hb dX5_isWeightBy_68 (lv_at hl 5 rfl) ?_
        refine lv_imul hx hb dX5_isWeightBy_70 ?_
        refine lv_iadd hx hb dX5_isWeightBy_71 ?_
        refine lv_aload_n hx hb dX5_isWeightBy_72 rfl (lv_at hl 3 rfl) ?_
        have hk := h.1
        replace h := h.2
        obtain ⟨r12, hr12, h⟩ := h
        refine gg_get (v := .ref r12) (ci := 1) (C := RX1) (T := TX1) (N := 2) hx hb hts (fun _ h => List.mem_cons_of_mem _ (List.mem_append_left _ (List.mem_append_left _ (List.mem_append_right _ (h))))) hown hK hG (kc_2 hk) rfl 1 (by decide) (hts (.fieldLink RX5 209 "FourStones$Row" "cells" "[I") (List.mem_of_getElem? (i := 3) rfl)) (fun _ h9 => h9) (congrArg (fun z => some (va_rf z)) hr12) dX5_isWeightBy_73 ?_
        refine lv_iload hx hb dX5_isWeightBy_76 (lv_at hl 7 rfl) ?_
        refine lv_iconst (v := (1 : Int32)) hx hb dX5_isWeightBy_78 (by decide) ?_
        refine lv_iadd hx hb dX5_isWeightBy_79 ?_
        have hk := h.1
        replace h := h.2
        have hi := h.1
        replace h := h.2
        refine gg_iald hx hb hK hG hk hi dX5_isWeightBy_80 ?_
        refine lv_icmp_eq (tgt := 86) hx hb dX5_isWeightBy_81 rfl (fun hc => ?_) (fun hc => ?_)
        · replace h := h.1 hc
          obtain ⟨y13, ey13⟩ : ∃ z, z = v6 + (2 : Int32) := ⟨_, rfl⟩
          replace h := h y13 ey13
          refine lv_iinc (v := y13) (lv' := [(6, .int y13), (8, .int z6), (7, .int y2), (0, .ref v0), (1, .ref v1), (2, .int v2), (4, .int v4), (5, .int v5)]) hx hb dX5_isWeightBy_86 hl (k := 7) rfl (by rw [ey13]; rfl) (by decide) rfl (fun ls hl => ?_)
          refine lv_goto (tgt := 23) hx hb dX5_isWeightBy_89 rfl ?_
          exact hC23 v0 v1 v2 v4 v5 y13 S10 ls _ _ (lv_sub hl [3, 4, 5, 6, 7, 0] rfl) hG hS h
        · replace h := h.2 hc
          refine lv_iconst (v := (0 : Int32)) hx hb dX5_isWeightBy_84 (by decide) ?_
          exact W.zret (ty := .boolean) hx hb hr (by decide) (gr_i h hG hK hX hS) hS.2.2 dX5_isWeightBy_85
  refine lv_iload_n hx hb dX5_isWeightBy_0 rfl (lv_at hl 3 rfl) ?_
  refine lv_aload_n hx hb dX5_isWeightBy_1 rfl (lv_at hl 0 rfl) ?_
  have hk := h.1
  replace h := h.2
  obtain ⟨r1, hr1, h⟩ := h
  refine gg_get (v := .ref r1) (ci := 5) (C := RX5) (T := TX5) (N := 13) hx hb hts (fun _ h => List.mem_cons_of_mem _ (List.mem_append_left _ (List.mem_append_left _ (List.mem_append_left _ (List.mem_append_left _ (List.mem_append_right _ (h))))))) hown hK hG (kc_6 hk) rfl 0 (by decide) (hts (.fieldLink RX5 10 "FourStones" "stones" "LFourStones$Stones;") (List.mem_of_getElem? (i := 1) rfl)) (fun _ h9 => h9) (congrArg (fun z => some (va_rf z)) hr1) dX5_isWeightBy_2 ?_
  have hk := h.1
  replace h := h.2
  obtain ⟨r2, hr2, h⟩ := h
  refine gg_get (v := .ref r2) (ci := 4) (C := RX4) (T := TX4) (N := 3) hx hb hts (fun _ h => List.mem_cons_of_mem _ (List.mem_append_left _ (List.mem_append_left _ (List.mem_append_left _ (List.mem_append_right _ (h)))))) hown hK hG (kc_5 hk) rfl 0 (by decide) (hts (.fieldLink RX5 91 "FourStones$Stones" "weights" "[I") (List.mem_of_getElem? (i := 2) rfl)) (fun _ h9 => h9) (congrArg (fun z => some (va_rf z)) hr2) dX5_isWeightBy_5 ?_
  refine lv_iload_n hx hb dX5_isWeightBy_8 rfl (lv_at hl 2 rfl) ?_
  have hk := h.1
  replace h := h.2
  have hi := h.1
  replace h := h.2
  refine gg_iald hx hb hK hG hk hi dX5_isWeightBy_9 ?_
  refine lv_isub hx hb dX5_isWeightBy_10 ?_
  refine lv_topi (fun y3 ey3 => ?_)
  replace h := h y3 ey3
  refine lv_istore (lv' := [(4, .int y3), (0, .ref a0), (1, .ref a1), (2, .int x2), (3, .int x3)]) hx hb dX5_isWeightBy_11 hl (by decide) rfl (fun ls hl => ?_)
  refine lv_aload_n hx hb dX5_isWeightBy_13 rfl (lv_at hl 2 rfl) ?_
  have hk := h.1
  replace h := h.2
  obtain ⟨r4, hr4, h⟩ := h
  refine gg_get (v := .ref r4) (ci := 1) (C := RX1) (T := TX1) (N := 2) hx hb hts (fun _ h => List.mem_cons_of_mem _ (List.mem_append_left _ (List.mem_append_left _ (List.mem_append_right _ (h))))) hown hK hG (kc_2 hk) rfl 1 (by decide) (hts (.fieldLink RX5 209 "FourStones$Row" "cells" "[I") (List.mem_of_getElem? (i := 3) rfl)) (fun _ h9 => h9) (congrArg (fun z => some (va_rf z)) hr4) dX5_isWeightBy_14 ?_
  have hk := h.1
  replace h := h.2
  refine gg_alen8 hx hb hK hG hk dX5_isWeightBy_17 ?_
  refine lv_topi (fun y5 ey5 => ?_)
  replace h := h y5 ey5
  refine lv_istore (lv' := [(5, .int y5), (4, .int y3), (0, .ref a0), (1, .ref a1), (2, .int x2), (3, .int x3)]) hx hb dX5_isWeightBy_18 hl (by decide) rfl (fun ls hl => ?_)
  refine lv_iconst (v := (0 : Int32)) hx hb dX5_isWeightBy_20 (by decide) ?_
  refine lv_istore (lv' := [(6, .int (0 : Int32)), (5, .int y5), (4, .int y3), (0, .ref a0), (1, .ref a1), (2, .int x2), (3, .int x3)]) hx hb dX5_isWeightBy_21 hl (by decide) rfl (fun ls hl => ?_)
  obtain ⟨nn, h⟩ := h
  exact k_23  nn a0 a1 x2 y3 y5 (0 : Int32) S ls _ _ (lv_sub hl [3, 4, 5, 2, 1, 0] rfl) hG hS h
set_option maxHeartbeats 4000000 in
set_option maxRecDepth 100000 in
theorem c_X5_unknown (l : Launch) (D : va_G) (κ : Nat → ClassId) (A : Nat → Prop) (S : Hp) (a0 : Nat) (x1 : Int32) (x2 : Int32) (x3 : Int32) (Q : Int32 → Hp → Prop) (h : wp_X5_unknown a0 x1 x2 x3 S Q) : Met l yX5_unknown wsX5_unknown ({ frames := 4, cells := 0, slots := 0, locals := 192 } : Room) (PG D κ A S [.ref a0, .int x1, .int x2, .int x3]) (va_Qi Q (BG D κ A) A) 0 0 A := by
  refine Met.ofW (cc := cX5_unknown) (maxL := 7) (ret := (some .int)) (by decide) rfl ?_
  intro p e s m args below meth c s₁ B hml hv
  obtain ⟨hargs, hA, hG, hK, hX⟩ := hv
  have hx := B.exec
  have hb := B.bytes
  have hr := B.returns
  have hts := atoms_spec (ws := wsX5_unknown) B.pre
  have hown : s.vm.findClass RX5 = some m.cls := findClass_of_methodNamed B.named
  have hlocks := B.notSynchronized
  subst hargs
  clear B
  have hS : va_S A s.heap s.heap [] := va_S.rf
  have hl := lv_entry ([.ref a0, .int x1, .int x2, .int x3]) (n := 7) (Nat.le_of_ble_eq_true rfl)
  rw [lg_entry_eq]
  generalize (lg_sl ([.ref a0, .int x1, .int x2, .int x3]) ++ List.replicate (7 - (lg_sl ([.ref a0, .int x1, .int x2, .int x3])).length) Slot.unset).toArray = ls at hl ⊢
  have hl : lv_has ls 7 [(0, .ref a0), (1, .int x1), (2, .int x2), (3, .int x3)] := hl
  have hG : GG D κ A S s.heap := hG
  have j_96 : ∀ (C66 : Nat × Int32 × Int32 × Nat × Int32 × Int32 × Hp → Prop) (hC66 : ∀ (v0 : Nat) (v1 : Int32) (v3 : Int32) (v4 : Nat) (v5 : Int32) (v6 : Int32) (S : Hp) (ls : Array Slot) (H : Heap) (locs : List Loc), lv_has ls 7 [(0, .ref v0), (1, .int v1), (3, .int v3), (4, .ref v4), (5, .int v5), (6, .int v6)] → GG D κ A S H → va_S A s.heap H locs → C66 (v0, v1, v3, v4, v5, v6, S) → W p l e ({ frames := 4, cells := 0, slots := 0, locals := 192 } : Room) s m ([.ref a0, .int x1, .int x2, .int x3] : List Value).toArray below meth c H locs 0 0 (MQ below (va_Qi Q (BG D κ A) A) ([.ref a0, .int x1, .int x2, .int x3] : List Value).toArray s 0 0 A) (F0 m 66 ls [])) (v0 : Nat) (v1 : Int32) (v3 : Int32) (v4 : Nat) (v5 : Int32) (v6 : Int32) (S : Hp) (ls : Array Slot) (H : Heap) (locs : List Loc), lv_has ls 7 [(0, .ref v0), (1, .int v1), (3, .int v3), (4, .ref v4), (5, .int v5), (6, .int v6)] → GG D κ A S H → va_S A s.heap H locs → J_X5_unknown_96 C66 Q v0 v1 v3 v4 v5 v6 S → W p l e ({ frames := 4, cells := 0, slots := 0, locals := 192 } : Room) s m ([.ref a0, .int x1, .int x2, .int x3] : List Value).toArray below meth c H locs 0 0 (MQ below (va_Qi Q (BG D κ A) A) ([.ref a0, .int x1, .int x2, .int x3] : List Value).toArray s 0 0 A) (F0 m 96 ls []) := by
    intro C66 hC66 v0 v1 v3 v4 v5 v6 S ls H locs hl hG hS h
    unfold J_X5_unknown_96 at h
    obtain ⟨y1, ey1⟩ : ∃ z, z = v6 + (1 : Int32) := ⟨_, rfl⟩
    replace h := h y1 ey1
    refine lv_iinc (v := y1) (lv' := [(6, .int y1), (0, .ref v0), (1, .int v1), (3, .int v3), (4, .ref v4), (5, .int v5)]) hx hb dX5_unknown_96 hl (k := 5) rfl (by rw [ey1]; rfl) (by decide) rfl (fun ls hl => ?_)
    refine lv_goto (tgt := 66) hx hb dX5_unknown_99 rfl ?_
    exact hC66 v0 v1 v3 v4 v5 y1 S ls _ _ (lv_sub hl [1, 2, 3, 4, 5, 0] rfl) hG hS h
  have k_66 : ∀  (n : Nat), ∀ (v0 : Nat) (v1 : Int32) (v3 : Int32) (v4 : Nat) (v5 : Int32) (v6 : Int32) (S : Hp) (ls : Array Slot) (H : Heap) (locs : List Loc), lv_has ls 7 [(0, .ref v0), (1, .int v1), (3, .int v3), (4, .ref v4), (5, .int v5), (6, .int v6)] → GG D κ A S H → va_S A s.heap H locs → it (L_X5_unknown_66  Q) n (v0, v1, v3, v4, v5, v6, S) → W p l e ({ frames := 4, cells := 0, slots := 0, locals := 192 } : Room) s m ([.ref a0, .int x1, .int x2, .int x3] : List Value).toArray below meth c H locs 0 0 (MQ below (va_Qi Q (BG D κ A) A) ([.ref a0, .int x1, .int x2, .int x3] : List Value).toArray s 0 0 A) (F0 m 66 ls []) := by
    intro  n
    induction n with
    | zero => intro v0 v1 v3 v4 v5 v6 S ls H locs hl hG hS h; exact False.elim h
    | succ n hC66 =>
      intro v0 v1 v3 v4 v5 v6 S ls H locs hl hG hS h
      replace h : L_X5_unknown_66  Q (it (L_X5_unknown_66  Q) n) (v0, v1, v3, v4, v5, v6, S) := h
      simp only [L_X5_unknown_66] at h
      refine lv_iload hx hb dX5_unknown_66 (lv_at hl 5 rfl) ?_
      refine lv_bipush (v := (99 : Int32)) hx hb dX5_unknown_68 (by decide) ?_
      refine lv_icmp_gt (tgt := 102) hx hb dX5_unknown_70 rfl (fun hc => ?_) (fun hc => ?_)
      · replace h := h.1 hc
        refine lv_iload_n hx hb dX5_unknown_102 rfl (lv_at hl 2 rfl) ?_
        refine lv_if_ne (tgt := 111) hx hb dX5_unknown_103 rfl (fun hc => ?_) (fun hc => ?_)
        · replace h := h.1 hc
          refine lv_bipush (v := (-4 : Int32)) hx hb dX5_unknown_111 (by decide) ?_
          exact W.iret hx hb hr (gr_i h hG hK hX hS) hS.2.2 dX5_unknown_113
        · replace h := h.2 hc
          refine lv_iload hx hb dX5_unknown_106 (lv_at hl 4 rfl) ?_
          refine lv_goto (tgt := 113) hx hb dX5_unknown_108 rfl ?_
          exact W.iret hx hb hr (gr_i h hG hK hX hS) hS.2.2 dX5_unknown_113
      · replace h := h.2 hc
        refine lv_aload_n hx hb dX5_unknown_73 rfl (lv_at hl 0 rfl) ?_
        refine lv_aload hx hb dX5_unknown_74 (lv_at hl 3 rfl) ?_
        refine lv_iload_n hx hb dX5_unknown_76 rfl (lv_at hl 1 rfl) ?_
        refine lv_iload hx hb dX5_unknown_77 (lv_at hl 5 rfl) ?_
        have hk := h.1
        replace h := h.2
        refine gc_i (va_runV (As := [.ref v4, .int v1, .int v6]) (rest := []) ⟨hx, hb, hml, hown, hts⟩ (c_X5_isWeightBy l D κ A S v0 v4 v1 v6 _ h) (cwV 3 hts gX5_unknown_X5_isWeightBy rfl rfl rfl (by decide +kernel) ⟨Nat.le_of_ble_eq_true rfl, Nat.le_of_ble_eq_true rfl⟩) (pg_V (q := (RX5, TX5, 13)) hK hX hG (pg_A hA hS) (kc_6 hk) rfl) rfl rfl hl.1 rfl (lv_room (Nat.le_of_ble_eq_true rfl)) dX5_unknown_79 ⟨Nat.le_of_ble_eq_true rfl, Nat.le_of_ble_eq_true rfl⟩) hS (fun z3 S2 H locs1 h hG hS => ?_)
        refine lv_if_eq (tgt := 96) hx hb dX5_unknown_82 rfl (fun hc => ?_) (fun hc => ?_)
        · replace h := h.1 hc
          exact j_96 _ hC66 v0 v1 v3 v4 v5 v6 S2 ls _ _ (lv_sub hl [0, 1, 2, 3, 4, 5] rfl) hG hS h
        · replace h := h.2 hc
          refine lv_iload_n hx hb dX5_unknown_85 rfl (lv_at hl 2 rfl) ?_
          refine lv_iconst (v := (1 : Int32)) hx hb dX5_unknown_86 (by decide) ?_
          refine lv_icmp_ne (tgt := 93) hx hb dX5_unknown_87 rfl (fun hc => ?_) (fun hc => ?_)
          · replace h := h.1 hc
            obtain ⟨y4, ey4⟩ : ∃ z, z = v5 + (1 : Int32) := ⟨_, rfl⟩
            replace h := h y4 ey4
            refine lv_iinc (v := y4) (lv' := [(5, .int y4), (0, .ref v0), (1, .int v1), (3, .int v3), (4, .ref v4), (6, .int v6)]) hx hb dX5_unknown_93 hl (k := 4) rfl (by rw [ey4]; rfl) (by decide) rfl (fun ls hl => ?_)
            exact j_96 _ hC66 v0 v1 v3 v4 y4 v6 S2 ls _ _ (lv_sub hl [1, 2, 3, 4, 0, 5] rfl) hG hS h
          · replace h := h.2 hc
            refine lv_iload hx hb dX5_unknown_90 (lv_at hl 5 rfl) ?_
            exact W.iret hx hb hr (gr_i h hG hK hX hS) hS.2.2 dX5_unknown_92
  refine lv_aload_n hx hb dX5_unknown_0 rfl (lv_at hl 0 rfl) ?_
  have hk := h.1
  replace h := h.2
  obtain ⟨r1, hr1, h⟩ := h
  refine gg_get (v := .ref r1) (ci := 5) (C := RX5) (T := TX5) (N := 13) hx hb hts (fun _ h => List.mem_cons_of_mem _ (List.mem_append_left _ (List.mem_append_left _ (List.mem_append_left _ (List.mem_append_left _ (List.mem_append_right _ (h))))))) hown hK hG (kc_6 hk) rfl 0 (by decide) (hts (.fieldLink RX5 10 "FourStones" "stones" "LFourStones$Stones;") (List.mem_of_getElem? (i := 1) rfl)) (fun _ h9 => h9) (congrArg (fun z => some (va_rf z)) hr1) dX5_unknown_1 ?_
  refine lv_iload_n hx hb dX5_unknown_4 rfl (lv_at hl 1 rfl) ?_
  have hk := h.1
  replace h := h.2
  refine gc_i (va_runV (As := [.int x1]) (rest := []) ⟨hx, hb, hml, hown, hts⟩ (c_X4_isStone l D κ A S r1 x1 _ h) (cwV 1 hts gX5_unknown_X4_isStone rfl rfl rfl (by decide +kernel) ⟨Nat.le_of_ble_eq_true rfl, Nat.le_of_ble_eq_true rfl⟩) (pg_V (q := (RX4, TX4, 3)) hK hX hG (pg_A hA hS) (kc_5 hk) rfl) rfl rfl hl.1 rfl (lv_room (Nat.le_of_ble_eq_true rfl)) dX5_unknown_5 ⟨Nat.le_of_ble_eq_true rfl, Nat.le_of_ble_eq_true rfl⟩) hS (fun z4 S3 H locs2 h hG hS => ?_)
  refine lv_if_eq (tgt := 27) hx hb dX5_unknown_8 rfl (fun hc => ?_) (fun hc => ?_)
  · replace h := h.1 hc
    refine lv_iconst (v := (-1 : Int32)) hx hb dX5_unknown_27 (by decide) ?_
    exact W.iret hx hb hr (gr_i h hG hK hX hS) hS.2.2 dX5_unknown_28
  · replace h := h.2 hc
    refine lv_iload_n hx hb dX5_unknown_11 rfl (lv_at hl 2 rfl) ?_
    refine gc_i (va_runS (As := [.int x2]) (rest := []) ⟨hx, hb, hml, hown, hts⟩ (c_X5_isShelf l D κ A S3 x2 _ h) (va_cwS 1 hts gX5_unknown_X5_isShelf rfl rfl rfl (by decide +kernel) ⟨Nat.le_of_ble_eq_true rfl, Nat.le_of_ble_eq_true rfl⟩) (pg_S hK hX hG (pg_A hA hS)) rfl rfl hl.1 rfl (lv_room (Nat.le_of_ble_eq_true rfl)) dX5_unknown_12 ⟨Nat.le_of_ble_eq_true rfl, Nat.le_of_ble_eq_true rfl⟩) hS (fun z7 S6 H locs5 h hG hS => ?_)
    refine lv_if_eq (tgt := 27) hx hb dX5_unknown_15 rfl (fun hc => ?_) (fun hc => ?_)
    · replace h := h.1 hc
      refine lv_iconst (v := (-1 : Int32)) hx hb dX5_unknown_27 (by decide) ?_
      exact W.iret hx hb hr (gr_i h hG hK hX hS) hS.2.2 dX5_unknown_28
    · replace h := h.2 hc
      refine lv_iload_n hx hb dX5_unknown_18 rfl (lv_at hl 3 rfl) ?_
      refine lv_if_lt (tgt := 27) hx hb dX5_unknown_19 rfl (fun hc => ?_) (fun hc => ?_)
      · replace h := h.1 hc
        refine lv_iconst (v := (-1 : Int32)) hx hb dX5_unknown_27 (by decide) ?_
        exact W.iret hx hb hr (gr_i h hG hK hX hS) hS.2.2 dX5_unknown_28
      · replace h := h.2 hc
        refine lv_iload_n hx hb dX5_unknown_22 rfl (lv_at hl 3 rfl) ?_
        refine lv_iconst (v := (1 : Int32)) hx hb dX5_unknown_23 (by decide) ?_
        refine lv_icmp_le (tgt := 29) hx hb dX5_unknown_24 rfl (fun hc => ?_) (fun hc => ?_)
        · replace h := h.1 hc
          refine lv_aload_n hx hb dX5_unknown_29 rfl (lv_at hl 0 rfl) ?_
          refine lv_iload_n hx hb dX5_unknown_30 rfl (lv_at hl 2 rfl) ?_
          refine lv_iconst (v := (2 : Int32)) hx hb dX5_unknown_31 (by decide) ?_
          have hk := h.1
          replace h := h.2
          refine gc_q (va_runV (As := [.int x2, .int (2 : Int32)]) (rest := []) ⟨hx, hb, hml, hown, hts⟩ (c_X5_rowOfSort l D κ A S6 a0 x2 (2 : Int32) _ h) (cwV 2 hts gX5_unknown_X5_rowOfSort rfl rfl rfl (by decide +kernel) ⟨Nat.le_of_ble_eq_true rfl, Nat.le_of_ble_eq_true rfl⟩) (pg_V (q := (RX5, TX5, 13)) hK hX hG (pg_A hA hS) (kc_6 hk) rfl) rfl rfl hl.1 rfl (lv_room (Nat.le_of_ble_eq_true rfl)) dX5_unknown_32 ⟨Nat.le_of_ble_eq_true rfl, Nat.le_of_ble_eq_true rfl⟩) hS (fun z10 S9 H locs8 h hG hS hc => ?_) (fun z10 S9 H locs8 h hG hS r11 hc => ?_)
          · replace h := h.1 hc
            refine lv_astoreN (lv' := [(4, .null), (0, .ref a0), (1, .int x1), (2, .int x2), (3, .int x3)]) hx hb dX5_unknown_35 hl (by decide) rfl (fun ls hl => ?_)
            refine lv_aloadN hx hb dX5_unknown_37 (lv_at hl 0 rfl) ?_
            refine lv_ifnonnullN hx hb dX5_unknown_39 ?_
            refine lv_aload_n hx hb dX5_unknown_42 rfl (lv_at hl 1 rfl) ?_
            refine lv_iload_n hx hb dX5_unknown_43 rfl (lv_at hl 3 rfl) ?_
            have hk := h.1
            replace h := h.2
            refine gc_i (va_runV (As := [.int x2]) (rest := []) ⟨hx, hb, hml, hown, hts⟩ (c_X5_notHeld l D κ A S9 a0 x2 _ h) (cwV 1 hts gX5_unknown_X5_notHeld rfl rfl rfl (by decide +kernel) ⟨Nat.le_of_ble_eq_true rfl, Nat.le_of_ble_eq_true rfl⟩) (pg_V (q := (RX5, TX5, 13)) hK hX hG (pg_A hA hS) (kc_6 hk) rfl) rfl rfl hl.1 rfl (lv_room (Nat.le_of_ble_eq_true rfl)) dX5_unknown_44 ⟨Nat.le_of_ble_eq_true rfl, Nat.le_of_ble_eq_true rfl⟩) hS (fun z14 S13 H locs12 h hG hS => ?_)
            exact W.iret hx hb hr (gr_i h hG hK hX hS) hS.2.2 dX5_unknown_47
          · replace h := h.2 r11 hc
            refine lv_astore (lv' := [(4, .ref r11), (0, .ref a0), (1, .int x1), (2, .int x2), (3, .int x3)]) hx hb dX5_unknown_35 hl (by decide) rfl (fun ls hl => ?_)
            refine lv_aload hx hb dX5_unknown_37 (lv_at hl 0 rfl) ?_
            refine lv_ifnonnull (tgt := 48) hx hb dX5_unknown_39 rfl ?_
            refine lv_aload_n hx hb dX5_unknown_48 rfl (lv_at hl 1 rfl) ?_
            refine lv_aload hx hb dX5_unknown_49 (lv_at hl 0 rfl) ?_
            have hk := h.1
            replace h := h.2
            refine gc_i (va_runV (As := [.ref r11]) (rest := []) ⟨hx, hb, hml, hown, hts⟩ (c_X5_areWeighings l D κ A S9 a0 r11 _ h) (cwV 1 hts gX5_unknown_X5_areWeighings rfl rfl rfl (by decide +kernel) ⟨Nat.le_of_ble_eq_true rfl, Nat.le_of_ble_eq_true rfl⟩) (pg_V (q := (RX5, TX5, 13)) hK hX hG (pg_A hA hS) (kc_6 hk) rfl) rfl rfl hl.1 rfl (lv_room (Nat.le_of_ble_eq_true rfl)) dX5_unknown_51 ⟨Nat.le_of_ble_eq_true rfl, Nat.le_of_ble_eq_true rfl⟩) hS (fun z17 S16 H locs15 h hG hS => ?_)
            refine lv_if_ne (tgt := 60) hx hb dX5_unknown_54 rfl (fun hc => ?_) (fun hc => ?_)
            · replace h := h.1 hc
              refine lv_iconst (v := (0 : Int32)) hx hb dX5_unknown_60 (by decide) ?_
              refine lv_istore (lv' := [(5, .int (0 : Int32)), (4, .ref r11), (0, .ref a0), (1, .int x1), (2, .int x2), (3, .int x3)]) hx hb dX5_unknown_61 hl (by decide) rfl (fun ls hl => ?_)
              refine lv_iconst (v := (1 : Int32)) hx hb dX5_unknown_63 (by decide) ?_
              refine lv_istore (lv' := [(6, .int (1 : Int32)), (5, .int (0 : Int32)), (4, .ref r11), (0, .ref a0), (1, .int x1), (2, .int x2), (3, .int x3)]) hx hb dX5_unknown_64 hl (by decide) rfl (fun ls hl => ?_)
              obtain ⟨nn, h⟩ := h
              exact k_66  nn a0 x1 x3 r11 (0 : Int32) (1 : Int32) S16 ls _ _ (lv_sub hl [3, 4, 6, 2, 1, 0] rfl) hG hS h
            · replace h := h.2 hc
              refine lv_bipush (v := (-13 : Int32)) hx hb dX5_unknown_57 (by decide) ?_
              exact W.iret hx hb hr (gr_i h hG hK hX hS) hS.2.2 dX5_unknown_59
        · replace h := h.2 hc
          refine lv_iconst (v := (-1 : Int32)) hx hb dX5_unknown_27 (by decide) ?_
          exact W.iret hx hb hr (gr_i h hG hK hX hS) hS.2.2 dX5_unknown_28
set_option maxHeartbeats 4000000 in
set_option maxRecDepth 100000 in
theorem c_X5_seeded (l : Launch) (D : va_G) (κ : Nat → ClassId) (A : Nat → Prop) (S : Hp) (a0 : Nat) (x1 : Int32) (x2 : Int32) (x3 : Int32) (Q : Int32 → Hp → Prop) (h : wp_X5_seeded a0 x1 x2 x3 S Q) : Met l yX5_seeded wsX5_seeded ({ frames := 5, cells := 0, slots := 0, locals := 240 } : Room) (PG D κ A S [.ref a0, .int x1, .int x2, .int x3]) (va_Qi Q (BG D κ A) A) 0 0 A := by
  refine Met.ofW (cc := cX5_seeded) (maxL := 7) (ret := (some .int)) (by decide) rfl ?_
  intro p e s m args below meth c s₁ B hml hv
  obtain ⟨hargs, hA, hG, hK, hX⟩ := hv
  have hx := B.exec
  have hb := B.bytes
  have hr := B.returns
  have hts := atoms_spec (ws := wsX5_seeded) B.pre
  have hown : s.vm.findClass RX5 = some m.cls := findClass_of_methodNamed B.named
  have hlocks := B.notSynchronized
  subst hargs
  clear B
  have hS : va_S A s.heap s.heap [] := va_S.rf
  have hl := lv_entry ([.ref a0, .int x1, .int x2, .int x3]) (n := 7) (Nat.le_of_ble_eq_true rfl)
  rw [lg_entry_eq]
  generalize (lg_sl ([.ref a0, .int x1, .int x2, .int x3]) ++ List.replicate (7 - (lg_sl ([.ref a0, .int x1, .int x2, .int x3])).length) Slot.unset).toArray = ls at hl ⊢
  have hl : lv_has ls 7 [(0, .ref a0), (1, .int x1), (2, .int x2), (3, .int x3)] := hl
  have hG : GG D κ A S s.heap := hG
  have k_53 : ∀  (n : Nat), ∀ (v0 : Nat) (v2 : Int32) (v4 : Nat) (v5 : Int32) (v6 : Int32) (S : Hp) (ls : Array Slot) (H : Heap) (locs : List Loc), lv_has ls 7 [(0, .ref v0), (2, .int v2), (4, .ref v4), (5, .int v5), (6, .int v6)] → GG D κ A S H → va_S A s.heap H locs → it (L_X5_seeded_53  Q) n (v0, v2, v4, v5, v6, S) → W p l e ({ frames := 5, cells := 0, slots := 0, locals := 240 } : Room) s m ([.ref a0, .int x1, .int x2, .int x3] : List Value).toArray below meth c H locs 0 0 (MQ below (va_Qi Q (BG D κ A) A) ([.ref a0, .int x1, .int x2, .int x3] : List Value).toArray s 0 0 A) (F0 m 53 ls []) := by
    intro  n
    induction n with
    | zero => intro v0 v2 v4 v5 v6 S ls H locs hl hG hS h; exact False.elim h
    | succ n hC53 =>
      intro v0 v2 v4 v5 v6 S ls H locs hl hG hS h
      replace h : L_X5_seeded_53  Q (it (L_X5_seeded_53  Q) n) (v0, v2, v4, v5, v6, S) := h
      simp only [L_X5_seeded_53] at h
      refine lv_iload hx hb dX5_seeded_53 (lv_at hl 4 rfl) ?_
      refine lv_iload_n hx hb dX5_seeded_55 rfl (lv_at hl 1 rfl) ?_
      refine lv_icmp_ge (tgt := 98) hx hb dX5_seeded_56 rfl (fun hc => ?_) (fun hc => ?_)
      · replace h := h.1 hc
        refine lv_aload_n hx hb dX5_seeded_98 rfl (lv_at hl 0 rfl) ?_
        have hk := h.1
        replace h := h.2
        obtain ⟨r1, hr1, h⟩ := h
        refine gg_get (v := .ref r1) (ci := 5) (C := RX5) (T := TX5) (N := 13) hx hb hts (fun _ h => List.mem_cons_of_mem _ (List.mem_append_left _ (List.mem_append_left _ (List.mem_append_left _ (List.mem_append_right _ (h)))))) hown hK hG (kc_6 hk) rfl 5 (by decide) (hts (.fieldLink RX5 29 "FourStones" "mindLyings" "LFourStones$Lyings;") (List.mem_of_getElem? (i := 7) rfl)) (fun _ h9 => h9) (congrArg (fun z => some (va_rf z)) hr1) dX5_seeded_99 ?_
        refine lv_aload_n hx hb dX5_seeded_102 rfl (lv_at hl 0 rfl) ?_
        have hk := h.1
        replace h := h.2
        obtain ⟨r2, hr2, h⟩ := h
        refine gg_get (v := .ref r2) (ci := 5) (C := RX5) (T := TX5) (N := 13) hx hb hts (fun _ h => List.mem_cons_of_mem _ (List.mem_append_left _ (List.mem_append_left _ (List.mem_append_left _ (List.mem_append_right _ (h)))))) hown hK hG (kc_6 hk) rfl 4 (by decide) (hts (.fieldLink RX5 26 "FourStones" "mindStones" "LFourStones$Stones;") (List.mem_of_getElem? (i := 2) rfl)) (fun _ h9 => h9) (congrArg (fun z => some (va_rf z)) hr2) dX5_seeded_103 ?_
        have hk := h.1
        replace h := h.2
        refine gc_v (va_runV (As := [.ref r2]) (rest := []) ⟨hx, hb, hml, hown, hts⟩ (c_X0_layOut l D κ A S r1 r2 _ h) (cwV 1 hts gX5_seeded_X0_layOut rfl rfl rfl (by decide +kernel) ⟨Nat.le_of_ble_eq_true rfl, Nat.le_of_ble_eq_true rfl⟩) (pg_V (q := (RX0, TX0, 5)) hK hX hG (pg_A hA hS) (kc_1 hk) rfl) rfl rfl hl.1 rfl (lv_room (Nat.le_of_ble_eq_true rfl)) dX5_seeded_106 ⟨Nat.le_of_ble_eq_true rfl, Nat.le_of_ble_eq_true rfl⟩) hS (fun S4 H locs3 h hG hS => ?_)
        refine lv_aload_n hx hb dX5_seeded_109 rfl (lv_at hl 0 rfl) ?_
        refine lv_aload hx hb dX5_seeded_110 (lv_at hl 2 rfl) ?_
        refine lv_aload_n hx hb dX5_seeded_112 rfl (lv_at hl 0 rfl) ?_
        have hk := h.1
        replace h := h.2
        obtain ⟨r5, hr5, h⟩ := h
        refine gg_get (v := .ref r5) (ci := 5) (C := RX5) (T := TX5) (N := 13) hx hb hts (fun _ h => List.mem_cons_of_mem _ (List.mem_append_left _ (List.mem_append_left _ (List.mem_append_left _ (List.mem_append_right _ (h)))))) hown hK hG (kc_6 hk) rfl 5 (by decide) (hts (.fieldLink RX5 29 "FourStones" "mindLyings" "LFourStones$Lyings;") (List.mem_of_getElem? (i := 7) rfl)) (fun _ h9 => h9) (congrArg (fun z => some (va_rf z)) hr5) dX5_seeded_113 ?_
        have hk := h.1
        replace h := h.2
        refine gc_i (va_runV (As := [.ref v4, .ref r5]) (rest := []) ⟨hx, hb, hml, hown, hts⟩ (c_X5_firstNotHad l D κ A S4 v0 v4 r5 _ h) (cwV 2 hts gX5_seeded_X5_firstNotHad rfl rfl rfl (by decide +kernel) ⟨Nat.le_of_ble_eq_true rfl, Nat.le_of_ble_eq_true rfl⟩) (pg_V (q := (RX5, TX5, 13)) hK hX hG (pg_A hA hS) (kc_6 hk) rfl) rfl rfl hl.1 rfl (lv_room (Nat.le_of_ble_eq_true rfl)) dX5_seeded_116 ⟨Nat.le_of_ble_eq_true rfl, Nat.le_of_ble_eq_true rfl⟩) hS (fun z8 S7 H locs6 h hG hS => ?_)
        refine lv_iconst (v := (1 : Int32)) hx hb dX5_seeded_119 (by decide) ?_
        refine lv_isub hx hb dX5_seeded_120 ?_
        exact W.iret hx hb hr (gr_i h hG hK hX hS) hS.2.2 dX5_seeded_121
      · replace h := h.2 hc
        refine lv_iload hx hb dX5_seeded_59 (lv_at hl 3 rfl) ?_
        refine lv_ldc (v := (1103515245 : Int32)) hx hb hown (hts (.constant RX5 202 (1103515245)) (List.mem_of_getElem? (i := 4) rfl)) dX5_seeded_61 ?_
        refine lv_imul hx hb dX5_seeded_63 ?_
        refine lv_sipush (v := (12345 : Int32)) hx hb dX5_seeded_64 (by decide) ?_
        refine lv_iadd hx hb dX5_seeded_67 ?_
        refine lv_topi (fun y9 ey9 => ?_)
        replace h := h y9 ey9
        refine lv_istore (lv' := [(5, .int y9), (0, .ref v0), (2, .int v2), (4, .ref v4), (6, .int v6)]) hx hb dX5_seeded_68 hl (by decide) rfl (fun ls hl => ?_)
        refine lv_aload_n hx hb dX5_seeded_70 rfl (lv_at hl 1 rfl) ?_
        have hk := h.1
        replace h := h.2
        obtain ⟨r10, hr10, h⟩ := h
        refine gg_get (v := .ref r10) (ci := 5) (C := RX5) (T := TX5) (N := 13) hx hb hts (fun _ h => List.mem_cons_of_mem _ (List.mem_append_left _ (List.mem_append_left _ (List.mem_append_left _ (List.mem_append_right _ (h)))))) hown hK hG (kc_6 hk) rfl 4 (by decide) (hts (.fieldLink RX5 26 "FourStones" "mindStones" "LFourStones$Stones;") (List.mem_of_getElem? (i := 2) rfl)) (fun _ h9 => h9) (congrArg (fun z => some (va_rf z)) hr10) dX5_seeded_71 ?_
        refine lv_iconst (v := (1 : Int32)) hx hb dX5_seeded_74 (by decide) ?_
        refine lv_iload hx hb dX5_seeded_75 (lv_at hl 0 rfl) ?_
        refine lv_ldc (v := (2147483647 : Int32)) hx hb hown (hts (.constant RX5 203 (2147483647)) (List.mem_of_getElem? (i := 5) rfl)) dX5_seeded_77 ?_
        refine lv_iand hx hb dX5_seeded_79 ?_
        refine lv_ldc (v := (65536 : Int32)) hx hb hown (hts (.constant RX5 204 (65536)) (List.mem_of_getElem? (i := 6) rfl)) dX5_seeded_80 ?_
        refine lv_idiv hx hb dX5_seeded_82 (by decide) ?_
        refine lv_bipush (v := (40 : Int32)) hx hb dX5_seeded_83 (by decide) ?_
        refine lv_irem hx hb dX5_seeded_85 (by decide) ?_
        refine lv_iadd hx hb dX5_seeded_86 ?_
        refine lv_iconst (v := (0 : Int32)) hx hb dX5_seeded_87 (by decide) ?_
        have hk := h.1
        replace h := h.2
        refine gc_i (va_runV (As := [.int ((1 : Int32) + (((y9 &&& (2147483647 : Int32)) / (65536 : Int32)) - ((y9 &&& (2147483647 : Int32)) / (65536 : Int32)) / (40 : Int32) * (40 : Int32))), .int (0 : Int32)]) (rest := []) ⟨hx, hb, hml, hown, hts⟩ (c_X4_add l D κ A S r10 ((1 : Int32) + (((y9 &&& (2147483647 : Int32)) / (65536 : Int32)) - ((y9 &&& (2147483647 : Int32)) / (65536 : Int32)) / (40 : Int32) * (40 : Int32))) (0 : Int32) _ h) (cwV 2 hts gX5_seeded_X4_add rfl rfl rfl (by decide +kernel) ⟨Nat.le_of_ble_eq_true rfl, Nat.le_of_ble_eq_true rfl⟩) (pg_V (q := (RX4, TX4, 3)) hK hX hG (pg_A hA hS) (kc_5 hk) rfl) rfl rfl hl.1 rfl (lv_room (Nat.le_of_ble_eq_true rfl)) dX5_seeded_88 ⟨Nat.le_of_ble_eq_true rfl, Nat.le_of_ble_eq_true rfl⟩) hS (fun z13 S12 H locs11 h hG hS => ?_)
        refine lv_pop hx hb dX5_seeded_91 rfl ?_
        obtain ⟨y14, ey14⟩ : ∃ z, z = v6 + (1 : Int32) := ⟨_, rfl⟩
        replace h := h y14 ey14
        refine lv_iinc (v := y14) (lv' := [(6, .int y14), (5, .int y9), (0, .ref v0), (2, .int v2), (4, .ref v4)]) hx hb dX5_seeded_92 hl (k := 4) rfl (by rw [ey14]; rfl) (by decide) rfl (fun ls hl => ?_)
        refine lv_goto (tgt := 53) hx hb dX5_seeded_95 rfl ?_
        exact hC53 v0 v2 v4 y9 y14 S12 ls _ _ (lv_sub hl [2, 3, 4, 1, 0] rfl) hG hS h
  refine lv_iload_n hx hb dX5_seeded_0 rfl (lv_at hl 1 rfl) ?_
  refine gc_i (va_runS (As := [.int x1]) (rest := []) ⟨hx, hb, hml, hown, hts⟩ (c_X5_isShelf l D κ A S x1 _ h) (va_cwS 1 hts gX5_seeded_X5_isShelf rfl rfl rfl (by decide +kernel) ⟨Nat.le_of_ble_eq_true rfl, Nat.le_of_ble_eq_true rfl⟩) (pg_S hK hX hG (pg_A hA hS)) rfl rfl hl.1 rfl (lv_room (Nat.le_of_ble_eq_true rfl)) dX5_seeded_1 ⟨Nat.le_of_ble_eq_true rfl, Nat.le_of_ble_eq_true rfl⟩) hS (fun z3 S2 H locs1 h hG hS => ?_)
  refine lv_if_eq (tgt := 18) hx hb dX5_seeded_4 rfl (fun hc => ?_) (fun hc => ?_)
  · replace h := h.1 hc
    refine lv_iconst (v := (-1 : Int32)) hx hb dX5_seeded_18 (by decide) ?_
    exact W.iret hx hb hr (gr_i h hG hK hX hS) hS.2.2 dX5_seeded_19
  · replace h := h.2 hc
    refine lv_iload_n hx hb dX5_seeded_7 rfl (lv_at hl 2 rfl) ?_
    refine lv_iconst (v := (1 : Int32)) hx hb dX5_seeded_8 (by decide) ?_
    refine lv_icmp_lt (tgt := 18) hx hb dX5_seeded_9 rfl (fun hc => ?_) (fun hc => ?_)
    · replace h := h.1 hc
      refine lv_iconst (v := (-1 : Int32)) hx hb dX5_seeded_18 (by decide) ?_
      exact W.iret hx hb hr (gr_i h hG hK hX hS) hS.2.2 dX5_seeded_19
    · replace h := h.2 hc
      refine lv_iload_n hx hb dX5_seeded_12 rfl (lv_at hl 2 rfl) ?_
      refine lv_bipush (v := (6 : Int32)) hx hb dX5_seeded_13 (by decide) ?_
      refine lv_icmp_le (tgt := 20) hx hb dX5_seeded_15 rfl (fun hc => ?_) (fun hc => ?_)
      · replace h := h.1 hc
        refine lv_aload_n hx hb dX5_seeded_20 rfl (lv_at hl 0 rfl) ?_
        have hk := h.1
        replace h := h.2
        obtain ⟨r4, hr4, h⟩ := h
        refine gg_get (v := .ref r4) (ci := 5) (C := RX5) (T := TX5) (N := 13) hx hb hts (fun _ h => List.mem_cons_of_mem _ (List.mem_append_left _ (List.mem_append_left _ (List.mem_append_left _ (List.mem_append_right _ (h)))))) hown hK hG (kc_6 hk) rfl 6 (by decide) (hts (.fieldLink RX5 34 "FourStones" "scales" "[LFourStones$Scale;") (List.mem_of_getElem? (i := 1) rfl)) (fun _ h9 => h9) (congrArg (fun z => some (va_rf z)) hr4) dX5_seeded_21 ?_
        refine lv_iload_n hx hb dX5_seeded_24 rfl (lv_at hl 1 rfl) ?_
        have hk := h.1
        replace h := h.2
        have hi := h.1
        replace h := h.2
        refine gg_aldq hx hb hK hG hk hi dX5_seeded_25 (fun hc => ?_) (fun r5 hc => ?_)
        · replace h := h.1 hc
          refine lv_astoreN (lv' := [(4, .null), (0, .ref a0), (1, .int x1), (2, .int x2), (3, .int x3)]) hx hb dX5_seeded_26 hl (by decide) rfl (fun ls hl => ?_)
          refine lv_aloadN hx hb dX5_seeded_28 (lv_at hl 0 rfl) ?_
          refine lv_ifnonnullN hx hb dX5_seeded_30 ?_
          refine lv_aload_n hx hb dX5_seeded_33 rfl (lv_at hl 1 rfl) ?_
          refine lv_iload_n hx hb dX5_seeded_34 rfl (lv_at hl 2 rfl) ?_
          have hk := h.1
          replace h := h.2
          refine gc_i (va_runV (As := [.int x1]) (rest := []) ⟨hx, hb, hml, hown, hts⟩ (c_X5_notHeld l D κ A S2 a0 x1 _ h) (cwV 1 hts gX5_seeded_X5_notHeld rfl rfl rfl (by decide +kernel) ⟨Nat.le_of_ble_eq_true rfl, Nat.le_of_ble_eq_true rfl⟩) (pg_V (q := (RX5, TX5, 13)) hK hX hG (pg_A hA hS) (kc_6 hk) rfl) rfl rfl hl.1 rfl (lv_room (Nat.le_of_ble_eq_true rfl)) dX5_seeded_35 ⟨Nat.le_of_ble_eq_true rfl, Nat.le_of_ble_eq_true rfl⟩) hS (fun z8 S7 H locs6 h hG hS => ?_)
          exact W.iret hx hb hr (gr_i h hG hK hX hS) hS.2.2 dX5_seeded_38
        · replace h := h.2 r5 hc
          refine lv_astore (lv' := [(4, .ref r5), (0, .ref a0), (1, .int x1), (2, .int x2), (3, .int x3)]) hx hb dX5_seeded_26 hl (by decide) rfl (fun ls hl => ?_)
          refine lv_aload hx hb dX5_seeded_28 (lv_at hl 0 rfl) ?_
          refine lv_ifnonnull (tgt := 39) hx hb dX5_seeded_30 rfl ?_
          refine lv_aload_n hx hb dX5_seeded_39 rfl (lv_at hl 1 rfl) ?_
          have hk := h.1
          replace h := h.2
          obtain ⟨r9, hr9, h⟩ := h
          refine gg_get (v := .ref r9) (ci := 5) (C := RX5) (T := TX5) (N := 13) hx hb hts (fun _ h => List.mem_cons_of_mem _ (List.mem_append_left _ (List.mem_append_left _ (List.mem_append_left _ (List.mem_append_right _ (h)))))) hown hK hG (kc_6 hk) rfl 4 (by decide) (hts (.fieldLink RX5 26 "FourStones" "mindStones" "LFourStones$Stones;") (List.mem_of_getElem? (i := 2) rfl)) (fun _ h9 => h9) (congrArg (fun z => some (va_rf z)) hr9) dX5_seeded_40 ?_
          refine lv_iconst (v := (0 : Int32)) hx hb dX5_seeded_43 (by decide) ?_
          have hk := h.1
          replace h := h.2
          obtain ⟨S10, eS10⟩ : ∃ z, z = sI S2 42 r9 (0 : Int32) := ⟨_, rfl⟩
          replace h := h S10 eS10
          refine gg_put (ci := 4) (C := RX4) (T := TX4) (N := 3) hx hb hts (fun _ h => List.mem_cons_of_mem _ (List.mem_append_left _ (List.mem_append_left _ (List.mem_append_right _ (h))))) tyX4 tyX4_ok nmX4 hown hK hG hS (kc_5 hk) rfl 2 (by decide) (hts (.fieldLink RX5 175 "FourStones$Stones" "count" "I") (List.mem_of_getElem? (i := 3) rfl)) (fun _ h9 => h9) rfl (tyX4_ok 2 (by decide)) rfl rfl (Nat.le_of_ble_eq_true rfl) dX5_seeded_44 (S' := S10) (fun b hb9 => by rw [eS10]; exact cO_sI hb9) (by rw [eS10]; exact cs_42 hk) (fun H locs11 hG hS => ?_)
          refine lv_iload_n hx hb dX5_seeded_47 rfl (lv_at hl 4 rfl) ?_
          refine lv_istore (lv' := [(5, .int x3), (4, .ref r5), (0, .ref a0), (1, .int x1), (2, .int x2), (3, .int x3)]) hx hb dX5_seeded_48 hl (by decide) rfl (fun ls hl => ?_)
          refine lv_iconst (v := (0 : Int32)) hx hb dX5_seeded_50 (by decide) ?_
          refine lv_istore (lv' := [(6, .int (0 : Int32)), (5, .int x3), (4, .ref r5), (0, .ref a0), (1, .int x1), (2, .int x2), (3, .int x3)]) hx hb dX5_seeded_51 hl (by decide) rfl (fun ls hl => ?_)
          obtain ⟨nn, h⟩ := h
          exact k_53  nn a0 x2 r5 x3 (0 : Int32) S10 ls _ _ (lv_sub hl [3, 5, 2, 1, 0] rfl) hG hS h
      · replace h := h.2 hc
        refine lv_iconst (v := (-1 : Int32)) hx hb dX5_seeded_18 (by decide) ?_
        exact W.iret hx hb hr (gr_i h hG hK hX hS) hS.2.2 dX5_seeded_19
set_option maxHeartbeats 4000000 in
set_option maxRecDepth 100000 in
theorem c_X5_judge (l : Launch) (D : va_G) (κ : Nat → ClassId) (A : Nat → Prop) (S : Hp) (a0 : Nat) (x1 : Int32) (x2 : Int32) (Q : Int32 → Hp → Prop) (h : wp_X5_judge a0 x1 x2 S Q) : Met l yX5_judge wsX5_judge ({ frames := 4, cells := 0, slots := 0, locals := 192 } : Room) (PG D κ A S [.ref a0, .int x1, .int x2]) (va_Qi Q (BG D κ A) A) 0 0 A := by
  refine Met.ofW (cc := cX5_judge) (maxL := 8) (ret := (some .int)) (by decide) rfl ?_
  intro p e s m args below meth c s₁ B hml hv
  obtain ⟨hargs, hA, hG, hK, hX⟩ := hv
  have hx := B.exec
  have hb := B.bytes
  have hr := B.returns
  have hts := atoms_spec (ws := wsX5_judge) B.pre
  have hown : s.vm.findClass RX5 = some m.cls := findClass_of_methodNamed B.named
  have hlocks := B.notSynchronized
  subst hargs
  clear B
  have hS : va_S A s.heap s.heap [] := va_S.rf
  have hl := lv_entry ([.ref a0, .int x1, .int x2]) (n := 8) (Nat.le_of_ble_eq_true rfl)
  rw [lg_entry_eq]
  generalize (lg_sl ([.ref a0, .int x1, .int x2]) ++ List.replicate (8 - (lg_sl ([.ref a0, .int x1, .int x2])).length) Slot.unset).toArray = ls at hl ⊢
  have hl : lv_has ls 8 [(0, .ref a0), (1, .int x1), (2, .int x2)] := hl
  have hG : GG D κ A S s.heap := hG
  have k_63 : ∀  (n : Nat), ∀ (v0 : Nat) (v3 : Nat) (v4 : Nat) (v5 : Int32) (v6 : Int32) (S : Hp) (ls : Array Slot) (H : Heap) (locs : List Loc), lv_has ls 8 [(0, .ref v0), (3, .ref v3), (4, .ref v4), (5, .int v5), (6, .int v6)] → GG D κ A S H → va_S A s.heap H locs → it (L_X5_judge_63  Q) n (v0, v3, v4, v5, v6, S) → W p l e ({ frames := 4, cells := 0, slots := 0, locals := 192 } : Room) s m ([.ref a0, .int x1, .int x2] : List Value).toArray below meth c H locs 0 0 (MQ below (va_Qi Q (BG D κ A) A) ([.ref a0, .int x1, .int x2] : List Value).toArray s 0 0 A) (F0 m 63 ls []) := by
    intro  n
    induction n with
    | zero => intro v0 v3 v4 v5 v6 S ls H locs hl hG hS h; exact False.elim h
    | succ n hC63 =>
      intro v0 v3 v4 v5 v6 S ls H locs hl hG hS h
      replace h : L_X5_judge_63  Q (it (L_X5_judge_63  Q) n) (v0, v3, v4, v5, v6, S) := h
      simp only [L_X5_judge_63] at h
      refine lv_iload hx hb dX5_judge_63 (lv_at hl 4 rfl) ?_
      refine lv_iconst (v := (1 : Int32)) hx hb dX5_judge_65 (by decide) ?_
      refine lv_iadd hx hb dX5_judge_66 ?_
      refine lv_iload hx hb dX5_judge_67 (lv_at hl 3 rfl) ?_
      refine lv_icmp_ge (tgt := 126) hx hb dX5_judge_69 rfl (fun hc => ?_) (fun hc => ?_)
      · replace h := h.1 hc
        refine lv_iload hx hb dX5_judge_126 (lv_at hl 3 rfl) ?_
        refine lv_iconst (v := (2 : Int32)) hx hb dX5_judge_128 (by decide) ?_
        refine lv_irem hx hb dX5_judge_129 (by decide) ?_
        refine lv_iconst (v := (1 : Int32)) hx hb dX5_judge_130 (by decide) ?_
        refine lv_icmp_ne (tgt := 139) hx hb dX5_judge_131 rfl (fun hc => ?_) (fun hc => ?_)
        · replace h := h.1 hc
          refine lv_bipush (v := (-4 : Int32)) hx hb dX5_judge_139 (by decide) ?_
          exact W.iret hx hb hr (gr_i h hG hK hX hS) hS.2.2 dX5_judge_141
        · replace h := h.2 hc
          refine lv_iload hx hb dX5_judge_134 (lv_at hl 3 rfl) ?_
          refine lv_goto (tgt := 141) hx hb dX5_judge_136 rfl ?_
          exact W.iret hx hb hr (gr_i h hG hK hX hS) hS.2.2 dX5_judge_141
      · replace h := h.2 hc
        refine lv_aload hx hb dX5_judge_72 (lv_at hl 2 rfl) ?_
        have hk := h.1
        replace h := h.2
        obtain ⟨r1, hr1, h⟩ := h
        refine gg_get (v := .ref r1) (ci := 1) (C := RX1) (T := TX1) (N := 2) hx hb hts (fun _ h => List.mem_cons_of_mem _ (List.mem_append_left _ (List.mem_append_left _ (List.mem_append_right _ (h))))) hown hK hG (kc_2 hk) rfl 1 (by decide) (hts (.fieldLink RX5 209 "FourStones$Row" "cells" "[I") (List.mem_of_getElem? (i := 3) rfl)) (fun _ h9 => h9) (congrArg (fun z => some (va_rf z)) hr1) dX5_judge_74 ?_
        refine lv_iload hx hb dX5_judge_77 (lv_at hl 4 rfl) ?_
        have hk := h.1
        replace h := h.2
        have hi := h.1
        replace h := h.2
        refine gg_iald hx hb hK hG hk hi dX5_judge_79 ?_
        refine lv_topi (fun y2 ey2 => ?_)
        replace h := h y2 ey2
        refine lv_istore (lv' := [(7, .int y2), (0, .ref v0), (3, .ref v3), (4, .ref v4), (5, .int v5), (6, .int v6)]) hx hb dX5_judge_80 hl (by decide) rfl (fun ls hl => ?_)
        refine lv_aload_n hx hb dX5_judge_82 rfl (lv_at hl 1 rfl) ?_
        have hk := h.1
        replace h := h.2
        obtain ⟨r3, hr3, h⟩ := h
        refine gg_get (v := .ref r3) (ci := 5) (C := RX5) (T := TX5) (N := 13) hx hb hts (fun _ h => List.mem_cons_of_mem _ (List.mem_append_left _ (List.mem_append_left _ (List.mem_append_left _ (List.mem_append_right _ (h)))))) hown hK hG (kc_6 hk) rfl 1 (by decide) (hts (.fieldLink RX5 19 "FourStones" "lyings" "LFourStones$Lyings;") (List.mem_of_getElem? (i := 4) rfl)) (fun _ h9 => h9) (congrArg (fun z => some (va_rf z)) hr3) dX5_judge_83 ?_
        refine lv_iload hx hb dX5_judge_86 (lv_at hl 0 rfl) ?_
        have hk := h.1
        replace h := h.2
        refine gc_i (va_runV (As := [.int y2]) (rest := []) ⟨hx, hb, hml, hown, hts⟩ (c_X0_isLying l D κ A S r3 y2 _ h) (cwV 1 hts gX5_judge_X0_isLying rfl rfl rfl (by decide +kernel) ⟨Nat.le_of_ble_eq_true rfl, Nat.le_of_ble_eq_true rfl⟩) (pg_V (q := (RX0, TX0, 5)) hK hX hG (pg_A hA hS) (kc_1 hk) rfl) rfl rfl hl.1 rfl (lv_room (Nat.le_of_ble_eq_true rfl)) dX5_judge_88 ⟨Nat.le_of_ble_eq_true rfl, Nat.le_of_ble_eq_true rfl⟩) hS (fun z6 S5 H locs4 h hG hS => ?_)
        refine lv_if_eq (tgt := 117) hx hb dX5_judge_91 rfl (fun hc => ?_) (fun hc => ?_)
        · replace h := h.1 hc
          refine lv_iload hx hb dX5_judge_117 (lv_at hl 5 rfl) ?_
          exact W.iret hx hb hr (gr_i h hG hK hX hS) hS.2.2 dX5_judge_119
        · replace h := h.2 hc
          refine lv_aload_n hx hb dX5_judge_94 rfl (lv_at hl 2 rfl) ?_
          refine lv_aload_n hx hb dX5_judge_95 rfl (lv_at hl 1 rfl) ?_
          have hk := h.1
          replace h := h.2
          obtain ⟨r7, hr7, h⟩ := h
          refine gg_get (v := .ref r7) (ci := 5) (C := RX5) (T := TX5) (N := 13) hx hb hts (fun _ h => List.mem_cons_of_mem _ (List.mem_append_left _ (List.mem_append_left _ (List.mem_append_left _ (List.mem_append_right _ (h)))))) hown hK hG (kc_6 hk) rfl 1 (by decide) (hts (.fieldLink RX5 19 "FourStones" "lyings" "LFourStones$Lyings;") (List.mem_of_getElem? (i := 4) rfl)) (fun _ h9 => h9) (congrArg (fun z => some (va_rf z)) hr7) dX5_judge_96 ?_
          refine lv_iload hx hb dX5_judge_99 (lv_at hl 0 rfl) ?_
          refine lv_aload hx hb dX5_judge_101 (lv_at hl 3 rfl) ?_
          have hk := h.1
          replace h := h.2
          obtain ⟨r8, hr8, h⟩ := h
          refine gg_get (v := .ref r8) (ci := 1) (C := RX1) (T := TX1) (N := 2) hx hb hts (fun _ h => List.mem_cons_of_mem _ (List.mem_append_left _ (List.mem_append_left _ (List.mem_append_right _ (h))))) hown hK hG (kc_2 hk) rfl 1 (by decide) (hts (.fieldLink RX5 209 "FourStones$Row" "cells" "[I") (List.mem_of_getElem? (i := 3) rfl)) (fun _ h9 => h9) (congrArg (fun z => some (va_rf z)) hr8) dX5_judge_103 ?_
          refine lv_iload hx hb dX5_judge_106 (lv_at hl 5 rfl) ?_
          refine lv_iconst (v := (1 : Int32)) hx hb dX5_judge_108 (by decide) ?_
          refine lv_iadd hx hb dX5_judge_109 ?_
          have hk := h.1
          replace h := h.2
          have hi := h.1
          replace h := h.2
          refine gg_iald hx hb hK hG hk hi dX5_judge_110 ?_
          have hk := h.1
          replace h := h.2
          refine gc_i (va_runV (As := [.ref r7, .int y2, .int (gA S5 r8 ((v6 + (1 : Int32))).toNatClampNeg)]) (rest := []) ⟨hx, hb, hml, hown, hts⟩ (c_X2_hits l D κ A S5 v3 r7 y2 (gA S5 r8 ((v6 + (1 : Int32))).toNatClampNeg) _ h) (cwV 3 hts gX5_judge_X2_hits rfl rfl rfl (by decide +kernel) ⟨Nat.le_of_ble_eq_true rfl, Nat.le_of_ble_eq_true rfl⟩) (pg_V (q := (RX2, TX2, 2)) hK hX hG (pg_A hA hS) (kc_3 hk) rfl) rfl rfl hl.1 rfl (lv_room (Nat.le_of_ble_eq_true rfl)) dX5_judge_111 ⟨Nat.le_of_ble_eq_true rfl, Nat.le_of_ble_eq_true rfl⟩) hS (fun z11 S10 H locs9 h hG hS => ?_)
          refine lv_if_ne (tgt := 120) hx hb dX5_judge_114 rfl (fun hc => ?_) (fun hc => ?_)
          · replace h := h.1 hc
            obtain ⟨y12, ey12⟩ : ∃ z, z = v6 + (2 : Int32) := ⟨_, rfl⟩
            replace h := h y12 ey12
            refine lv_iinc (v := y12) (lv' := [(6, .int y12), (7, .int y2), (0, .ref v0), (3, .ref v3), (4, .ref v4), (5, .int v5)]) hx hb dX5_judge_120 hl (k := 5) rfl (by rw [ey12]; rfl) (by decide) rfl (fun ls hl => ?_)
            refine lv_goto (tgt := 63) hx hb dX5_judge_123 rfl ?_
            exact hC63 v0 v3 v4 v5 y12 S10 ls _ _ (lv_sub hl [2, 3, 4, 5, 0] rfl) hG hS h
          · replace h := h.2 hc
            refine lv_iload hx hb dX5_judge_117 (lv_at hl 5 rfl) ?_
            exact W.iret hx hb hr (gr_i h hG hK hX hS) hS.2.2 dX5_judge_119
  refine lv_iload_n hx hb dX5_judge_0 rfl (lv_at hl 1 rfl) ?_
  refine gc_i (va_runS (As := [.int x1]) (rest := []) ⟨hx, hb, hml, hown, hts⟩ (c_X5_isShelf l D κ A S x1 _ h) (va_cwS 1 hts gX5_judge_X5_isShelf rfl rfl rfl (by decide +kernel) ⟨Nat.le_of_ble_eq_true rfl, Nat.le_of_ble_eq_true rfl⟩) (pg_S hK hX hG (pg_A hA hS)) rfl rfl hl.1 rfl (lv_room (Nat.le_of_ble_eq_true rfl)) dX5_judge_1 ⟨Nat.le_of_ble_eq_true rfl, Nat.le_of_ble_eq_true rfl⟩) hS (fun z3 S2 H locs1 h hG hS => ?_)
  refine lv_if_eq (tgt := 14) hx hb dX5_judge_4 rfl (fun hc => ?_) (fun hc => ?_)
  · replace h := h.1 hc
    refine lv_iconst (v := (-1 : Int32)) hx hb dX5_judge_14 (by decide) ?_
    exact W.iret hx hb hr (gr_i h hG hK hX hS) hS.2.2 dX5_judge_15
  · replace h := h.2 hc
    refine lv_iload_n hx hb dX5_judge_7 rfl (lv_at hl 2 rfl) ?_
    refine gc_i (va_runS (As := [.int x2]) (rest := []) ⟨hx, hb, hml, hown, hts⟩ (c_X5_isShelf l D κ A S2 x2 _ h) (va_cwS 1 hts gX5_judge_X5_isShelf rfl rfl rfl (by decide +kernel) ⟨Nat.le_of_ble_eq_true rfl, Nat.le_of_ble_eq_true rfl⟩) (pg_S hK hX hG (pg_A hA hS)) rfl rfl hl.1 rfl (lv_room (Nat.le_of_ble_eq_true rfl)) dX5_judge_8 ⟨Nat.le_of_ble_eq_true rfl, Nat.le_of_ble_eq_true rfl⟩) hS (fun z6 S5 H locs4 h hG hS => ?_)
    refine lv_if_ne (tgt := 16) hx hb dX5_judge_11 rfl (fun hc => ?_) (fun hc => ?_)
    · replace h := h.1 hc
      refine lv_aload_n hx hb dX5_judge_16 rfl (lv_at hl 0 rfl) ?_
      have hk := h.1
      replace h := h.2
      obtain ⟨r7, hr7, h⟩ := h
      refine gg_get (v := .ref r7) (ci := 5) (C := RX5) (T := TX5) (N := 13) hx hb hts (fun _ h => List.mem_cons_of_mem _ (List.mem_append_left _ (List.mem_append_left _ (List.mem_append_left _ (List.mem_append_right _ (h)))))) hown hK hG (kc_6 hk) rfl 6 (by decide) (hts (.fieldLink RX5 34 "FourStones" "scales" "[LFourStones$Scale;") (List.mem_of_getElem? (i := 1) rfl)) (fun _ h9 => h9) (congrArg (fun z => some (va_rf z)) hr7) dX5_judge_17 ?_
      refine lv_iload_n hx hb dX5_judge_20 rfl (lv_at hl 1 rfl) ?_
      have hk := h.1
      replace h := h.2
      have hi := h.1
      replace h := h.2
      refine gg_aldq hx hb hK hG hk hi dX5_judge_21 (fun hc => ?_) (fun r8 hc => ?_)
      · replace h := h.1 hc
        refine lv_astore_nN (lv' := [(3, .null), (0, .ref a0), (1, .int x1), (2, .int x2)]) hx hb dX5_judge_22 rfl hl (by decide) rfl (fun ls hl => ?_)
        refine lv_aload_nN hx hb dX5_judge_23 rfl (lv_at hl 0 rfl) ?_
        refine lv_ifnonnullN hx hb dX5_judge_24 ?_
        refine lv_aload_n hx hb dX5_judge_27 rfl (lv_at hl 1 rfl) ?_
        refine lv_iload_n hx hb dX5_judge_28 rfl (lv_at hl 2 rfl) ?_
        have hk := h.1
        replace h := h.2
        refine gc_i (va_runV (As := [.int x1]) (rest := []) ⟨hx, hb, hml, hown, hts⟩ (c_X5_notHeld l D κ A S5 a0 x1 _ h) (cwV 1 hts gX5_judge_X5_notHeld rfl rfl rfl (by decide +kernel) ⟨Nat.le_of_ble_eq_true rfl, Nat.le_of_ble_eq_true rfl⟩) (pg_V (q := (RX5, TX5, 13)) hK hX hG (pg_A hA hS) (kc_6 hk) rfl) rfl rfl hl.1 rfl (lv_room (Nat.le_of_ble_eq_true rfl)) dX5_judge_29 ⟨Nat.le_of_ble_eq_true rfl, Nat.le_of_ble_eq_true rfl⟩) hS (fun z11 S10 H locs9 h hG hS => ?_)
        exact W.iret hx hb hr (gr_i h hG hK hX hS) hS.2.2 dX5_judge_32
      · replace h := h.2 r8 hc
        refine lv_astore_n (lv' := [(3, .ref r8), (0, .ref a0), (1, .int x1), (2, .int x2)]) hx hb dX5_judge_22 rfl hl (by decide) rfl (fun ls hl => ?_)
        refine lv_aload_n hx hb dX5_judge_23 rfl (lv_at hl 0 rfl) ?_
        refine lv_ifnonnull (tgt := 33) hx hb dX5_judge_24 rfl ?_
        refine lv_aload_n hx hb dX5_judge_33 rfl (lv_at hl 1 rfl) ?_
        have hk := h.1
        replace h := h.2
        obtain ⟨r12, hr12, h⟩ := h
        refine gg_get (v := .ref r12) (ci := 5) (C := RX5) (T := TX5) (N := 13) hx hb hts (fun _ h => List.mem_cons_of_mem _ (List.mem_append_left _ (List.mem_append_left _ (List.mem_append_left _ (List.mem_append_right _ (h)))))) hown hK hG (kc_6 hk) rfl 7 (by decide) (hts (.fieldLink RX5 40 "FourStones" "rows" "[LFourStones$Row;") (List.mem_of_getElem? (i := 2) rfl)) (fun _ h9 => h9) (congrArg (fun z => some (va_rf z)) hr12) dX5_judge_34 ?_
        refine lv_iload_n hx hb dX5_judge_37 rfl (lv_at hl 3 rfl) ?_
        have hk := h.1
        replace h := h.2
        have hi := h.1
        replace h := h.2
        refine gg_aldq hx hb hK hG hk hi dX5_judge_38 (fun hc => ?_) (fun r13 hc => ?_)
        · replace h := h.1 hc
          refine lv_astoreN (lv' := [(4, .null), (3, .ref r8), (0, .ref a0), (1, .int x1), (2, .int x2)]) hx hb dX5_judge_39 hl (by decide) rfl (fun ls hl => ?_)
          refine lv_aloadN hx hb dX5_judge_41 (lv_at hl 0 rfl) ?_
          refine lv_ifnonnullN hx hb dX5_judge_43 ?_
          refine lv_aload_n hx hb dX5_judge_46 rfl (lv_at hl 2 rfl) ?_
          refine lv_iload_n hx hb dX5_judge_47 rfl (lv_at hl 4 rfl) ?_
          have hk := h.1
          replace h := h.2
          refine gc_i (va_runV (As := [.int x2]) (rest := []) ⟨hx, hb, hml, hown, hts⟩ (c_X5_notHeld l D κ A S5 a0 x2 _ h) (cwV 1 hts gX5_judge_X5_notHeld rfl rfl rfl (by decide +kernel) ⟨Nat.le_of_ble_eq_true rfl, Nat.le_of_ble_eq_true rfl⟩) (pg_V (q := (RX5, TX5, 13)) hK hX hG (pg_A hA hS) (kc_6 hk) rfl) rfl rfl hl.1 rfl (lv_room (Nat.le_of_ble_eq_true rfl)) dX5_judge_48 ⟨Nat.le_of_ble_eq_true rfl, Nat.le_of_ble_eq_true rfl⟩) hS (fun z16 S15 H locs14 h hG hS => ?_)
          exact W.iret hx hb hr (gr_i h hG hK hX hS) hS.2.2 dX5_judge_51
        · replace h := h.2 r13 hc
          refine lv_astore (lv' := [(4, .ref r13), (3, .ref r8), (0, .ref a0), (1, .int x1), (2, .int x2)]) hx hb dX5_judge_39 hl (by decide) rfl (fun ls hl => ?_)
          refine lv_aload hx hb dX5_judge_41 (lv_at hl 0 rfl) ?_
          refine lv_ifnonnull (tgt := 52) hx hb dX5_judge_43 rfl ?_
          refine lv_aload hx hb dX5_judge_52 (lv_at hl 0 rfl) ?_
          have hk := h.1
          replace h := h.2
          obtain ⟨r17, hr17, h⟩ := h
          refine gg_get (v := .ref r17) (ci := 1) (C := RX1) (T := TX1) (N := 2) hx hb hts (fun _ h => List.mem_cons_of_mem _ (List.mem_append_left _ (List.mem_append_left _ (List.mem_append_right _ (h))))) hown hK hG (kc_2 hk) rfl 1 (by decide) (hts (.fieldLink RX5 209 "FourStones$Row" "cells" "[I") (List.mem_of_getElem? (i := 3) rfl)) (fun _ h9 => h9) (congrArg (fun z => some (va_rf z)) hr17) dX5_judge_54 ?_
          have hk := h.1
          replace h := h.2
          refine gg_alen8 hx hb hK hG hk dX5_judge_57 ?_
          refine lv_topi (fun y18 ey18 => ?_)
          replace h := h y18 ey18
          refine lv_istore (lv' := [(5, .int y18), (4, .ref r13), (3, .ref r8), (0, .ref a0), (1, .int x1), (2, .int x2)]) hx hb dX5_judge_58 hl (by decide) rfl (fun ls hl => ?_)
          refine lv_iconst (v := (0 : Int32)) hx hb dX5_judge_60 (by decide) ?_
          refine lv_istore (lv' := [(6, .int (0 : Int32)), (5, .int y18), (4, .ref r13), (3, .ref r8), (0, .ref a0), (1, .int x1), (2, .int x2)]) hx hb dX5_judge_61 hl (by decide) rfl (fun ls hl => ?_)
          obtain ⟨nn, h⟩ := h
          exact k_63  nn a0 r8 r13 y18 (0 : Int32) S5 ls _ _ (lv_sub hl [4, 3, 2, 1, 0] rfl) hG hS h
    · replace h := h.2 hc
      refine lv_iconst (v := (-1 : Int32)) hx hb dX5_judge_14 (by decide) ?_
      exact W.iret hx hb hr (gr_i h hG hK hX hS) hS.2.2 dX5_judge_15
set_option maxHeartbeats 4000000 in
set_option maxRecDepth 100000 in
theorem c_X5_image (l : Launch) (D : va_G) (κ : Nat → ClassId) (A : Nat → Prop) (S : Hp) (a0 : Nat) (Q : Int32 → Hp → Prop) (h : wp_X5_image a0 S Q) : Met l yX5_image wsX5_image ({ frames := 3, cells := 0, slots := 0, locals := 144 } : Room) (PG D κ A S [.ref a0]) (va_Qi Q (BG D κ A) A) 0 0 A := by
  refine Met.ofW (cc := cX5_image) (maxL := 1) (ret := (some .int)) (by decide) rfl ?_
  intro p e s m args below meth c s₁ B hml hv
  obtain ⟨hargs, hA, hG, hK, hX⟩ := hv
  have hx := B.exec
  have hb := B.bytes
  have hr := B.returns
  have hts := atoms_spec (ws := wsX5_image) B.pre
  have hown : s.vm.findClass RX5 = some m.cls := findClass_of_methodNamed B.named
  have hlocks := B.notSynchronized
  subst hargs
  clear B
  have hS : va_S A s.heap s.heap [] := va_S.rf
  have hl := lv_entry ([.ref a0]) (n := 1) (Nat.le_of_ble_eq_true rfl)
  rw [lg_entry_eq]
  generalize (lg_sl ([.ref a0]) ++ List.replicate (1 - (lg_sl ([.ref a0])).length) Slot.unset).toArray = ls at hl ⊢
  have hl : lv_has ls 1 [(0, .ref a0)] := hl
  have hG : GG D κ A S s.heap := hG
  refine lv_aload_n hx hb dX5_image_0 rfl (lv_at hl 0 rfl) ?_
  have hk := h.1
  replace h := h.2
  obtain ⟨r1, hr1, h⟩ := h
  refine gg_get (v := .ref r1) (ci := 5) (C := RX5) (T := TX5) (N := 13) hx hb hts (fun _ h => List.mem_cons_of_mem _ (List.mem_append_left _ (List.mem_append_right _ (h)))) hown hK hG (kc_6 hk) rfl 2 (by decide) (hts (.fieldLink RX5 23 "FourStones" "imaged" "LFourStones$Stones;") (List.mem_of_getElem? (i := 1) rfl)) (fun _ h9 => h9) (congrArg (fun z => some (va_rf z)) hr1) dX5_image_1 ?_
  refine lv_aload_n hx hb dX5_image_4 rfl (lv_at hl 0 rfl) ?_
  have hk := h.1
  replace h := h.2
  obtain ⟨r2, hr2, h⟩ := h
  refine gg_get (v := .ref r2) (ci := 5) (C := RX5) (T := TX5) (N := 13) hx hb hts (fun _ h => List.mem_cons_of_mem _ (List.mem_append_left _ (List.mem_append_right _ (h)))) hown hK hG (kc_6 hk) rfl 0 (by decide) (hts (.fieldLink RX5 10 "FourStones" "stones" "LFourStones$Stones;") (List.mem_of_getElem? (i := 2) rfl)) (fun _ h9 => h9) (congrArg (fun z => some (va_rf z)) hr2) dX5_image_5 ?_
  have hk := h.1
  replace h := h.2
  refine gc_v (va_runV (As := [.ref r2]) (rest := []) ⟨hx, hb, hml, hown, hts⟩ (c_X4_takeFrom l D κ A S r1 r2 _ h) (cwV 1 hts gX5_image_X4_takeFrom rfl rfl rfl (by decide +kernel) ⟨Nat.le_of_ble_eq_true rfl, Nat.le_of_ble_eq_true rfl⟩) (pg_V (q := (RX4, TX4, 3)) hK hX hG (pg_A hA hS) (kc_5 hk) rfl) rfl rfl hl.1 rfl (lv_room (Nat.le_of_ble_eq_true rfl)) dX5_image_8 ⟨Nat.le_of_ble_eq_true rfl, Nat.le_of_ble_eq_true rfl⟩) hS (fun S4 H locs3 h hG hS => ?_)
  refine lv_aload_n hx hb dX5_image_11 rfl (lv_at hl 0 rfl) ?_
  refine lv_iconst (v := (1 : Int32)) hx hb dX5_image_12 (by decide) ?_
  have hk := h.1
  replace h := h.2
  obtain ⟨S5, eS5⟩ : ∃ z, z = sI S4 53 a0 (1 : Int32) := ⟨_, rfl⟩
  replace h := h S5 eS5
  refine gg_put (ci := 5) (C := RX5) (T := TX5) (N := 13) hx hb hts (fun _ h => List.mem_cons_of_mem _ (List.mem_append_left _ (List.mem_append_right _ (h)))) tyX5 tyX5_ok nmX5 hown hK hG hS (kc_6 hk) rfl 3 (by decide) (hts (.fieldLink RX5 215 "FourStones" "hasImage" "Z") (List.mem_of_getElem? (i := 3) rfl)) (fun _ h9 => h9) rfl (tyX5_ok 3 (by decide)) (by decide) (by decide) (Nat.le_of_ble_eq_true rfl) dX5_image_13 (S' := S5) (fun b hb9 => by rw [eS5]; exact cO_sI hb9) (by rw [eS5]; exact cs_53 hk) (fun H locs6 hG hS => ?_)
  refine lv_aload_n hx hb dX5_image_16 rfl (lv_at hl 0 rfl) ?_
  have hk := h.1
  replace h := h.2
  obtain ⟨r7, hr7, h⟩ := h
  refine gg_get (v := .ref r7) (ci := 5) (C := RX5) (T := TX5) (N := 13) hx hb hts (fun _ h => List.mem_cons_of_mem _ (List.mem_append_left _ (List.mem_append_right _ (h)))) hown hK hG (kc_6 hk) rfl 0 (by decide) (hts (.fieldLink RX5 10 "FourStones" "stones" "LFourStones$Stones;") (List.mem_of_getElem? (i := 2) rfl)) (fun _ h9 => h9) (congrArg (fun z => some (va_rf z)) hr7) dX5_image_17 ?_
  have hk := h.1
  replace h := h.2
  refine gg_get (ci := 4) (C := RX4) (T := TX4) (N := 3) hx hb hts (fun _ h => List.mem_cons_of_mem _ (List.mem_append_right _ (h))) hown hK hG (kc_5 hk) rfl 2 (by decide) (hts (.fieldLink RX5 175 "FourStones$Stones" "count" "I") (List.mem_of_getElem? (i := 4) rfl)) (fun _ h9 => h9) rfl dX5_image_20 ?_
  exact W.iret hx hb hr (gr_i h hG hK hX hS) hS.2.2 dX5_image_23
set_option maxHeartbeats 4000000 in
set_option maxRecDepth 100000 in
theorem c_X5_restore (l : Launch) (D : va_G) (κ : Nat → ClassId) (A : Nat → Prop) (S : Hp) (a0 : Nat) (Q : Int32 → Hp → Prop) (h : wp_X5_restore a0 S Q) : Met l yX5_restore wsX5_restore ({ frames := 3, cells := 0, slots := 0, locals := 144 } : Room) (PG D κ A S [.ref a0]) (va_Qi Q (BG D κ A) A) 0 0 A := by
  refine Met.ofW (cc := cX5_restore) (maxL := 1) (ret := (some .int)) (by decide) rfl ?_
  intro p e s m args below meth c s₁ B hml hv
  obtain ⟨hargs, hA, hG, hK, hX⟩ := hv
  have hx := B.exec
  have hb := B.bytes
  have hr := B.returns
  have hts := atoms_spec (ws := wsX5_restore) B.pre
  have hown : s.vm.findClass RX5 = some m.cls := findClass_of_methodNamed B.named
  have hlocks := B.notSynchronized
  subst hargs
  clear B
  have hS : va_S A s.heap s.heap [] := va_S.rf
  have hl := lv_entry ([.ref a0]) (n := 1) (Nat.le_of_ble_eq_true rfl)
  rw [lg_entry_eq]
  generalize (lg_sl ([.ref a0]) ++ List.replicate (1 - (lg_sl ([.ref a0])).length) Slot.unset).toArray = ls at hl ⊢
  have hl : lv_has ls 1 [(0, .ref a0)] := hl
  have hG : GG D κ A S s.heap := hG
  refine lv_aload_n hx hb dX5_restore_0 rfl (lv_at hl 0 rfl) ?_
  have hk := h.1
  replace h := h.2
  refine gg_get (ci := 5) (C := RX5) (T := TX5) (N := 13) hx hb hts (fun _ h => List.mem_cons_of_mem _ (List.mem_append_left _ (List.mem_append_left _ (List.mem_append_right _ (h))))) hown hK hG (kc_6 hk) rfl 3 (by decide) (hts (.fieldLink RX5 215 "FourStones" "hasImage" "Z") (List.mem_of_getElem? (i := 1) rfl)) (fun _ h9 => h9) rfl dX5_restore_1 ?_
  refine lv_if_ne (tgt := 10) hx hb dX5_restore_4 rfl (fun hc => ?_) (fun hc => ?_)
  · replace h := h.1 hc
    refine lv_aload_n hx hb dX5_restore_10 rfl (lv_at hl 0 rfl) ?_
    have hk := h.1
    replace h := h.2
    obtain ⟨r1, hr1, h⟩ := h
    refine gg_get (v := .ref r1) (ci := 5) (C := RX5) (T := TX5) (N := 13) hx hb hts (fun _ h => List.mem_cons_of_mem _ (List.mem_append_left _ (List.mem_append_left _ (List.mem_append_right _ (h))))) hown hK hG (kc_6 hk) rfl 0 (by decide) (hts (.fieldLink RX5 10 "FourStones" "stones" "LFourStones$Stones;") (List.mem_of_getElem? (i := 2) rfl)) (fun _ h9 => h9) (congrArg (fun z => some (va_rf z)) hr1) dX5_restore_11 ?_
    refine lv_aload_n hx hb dX5_restore_14 rfl (lv_at hl 0 rfl) ?_
    have hk := h.1
    replace h := h.2
    obtain ⟨r2, hr2, h⟩ := h
    refine gg_get (v := .ref r2) (ci := 5) (C := RX5) (T := TX5) (N := 13) hx hb hts (fun _ h => List.mem_cons_of_mem _ (List.mem_append_left _ (List.mem_append_left _ (List.mem_append_right _ (h))))) hown hK hG (kc_6 hk) rfl 2 (by decide) (hts (.fieldLink RX5 23 "FourStones" "imaged" "LFourStones$Stones;") (List.mem_of_getElem? (i := 3) rfl)) (fun _ h9 => h9) (congrArg (fun z => some (va_rf z)) hr2) dX5_restore_15 ?_
    have hk := h.1
    replace h := h.2
    refine gc_v (va_runV (As := [.ref r2]) (rest := []) ⟨hx, hb, hml, hown, hts⟩ (c_X4_takeFrom l D κ A S r1 r2 _ h) (cwV 1 hts gX5_restore_X4_takeFrom rfl rfl rfl (by decide +kernel) ⟨Nat.le_of_ble_eq_true rfl, Nat.le_of_ble_eq_true rfl⟩) (pg_V (q := (RX4, TX4, 3)) hK hX hG (pg_A hA hS) (kc_5 hk) rfl) rfl rfl hl.1 rfl (lv_room (Nat.le_of_ble_eq_true rfl)) dX5_restore_18 ⟨Nat.le_of_ble_eq_true rfl, Nat.le_of_ble_eq_true rfl⟩) hS (fun S4 H locs3 h hG hS => ?_)
    refine lv_aload_n hx hb dX5_restore_21 rfl (lv_at hl 0 rfl) ?_
    have hk := h.1
    replace h := h.2
    obtain ⟨r5, hr5, h⟩ := h
    refine gg_get (v := .ref r5) (ci := 5) (C := RX5) (T := TX5) (N := 13) hx hb hts (fun _ h => List.mem_cons_of_mem _ (List.mem_append_left _ (List.mem_append_left _ (List.mem_append_right _ (h))))) hown hK hG (kc_6 hk) rfl 1 (by decide) (hts (.fieldLink RX5 19 "FourStones" "lyings" "LFourStones$Lyings;") (List.mem_of_getElem? (i := 4) rfl)) (fun _ h9 => h9) (congrArg (fun z => some (va_rf z)) hr5) dX5_restore_22 ?_
    refine lv_aload_n hx hb dX5_restore_25 rfl (lv_at hl 0 rfl) ?_
    have hk := h.1
    replace h := h.2
    obtain ⟨r6, hr6, h⟩ := h
    refine gg_get (v := .ref r6) (ci := 5) (C := RX5) (T := TX5) (N := 13) hx hb hts (fun _ h => List.mem_cons_of_mem _ (List.mem_append_left _ (List.mem_append_left _ (List.mem_append_right _ (h))))) hown hK hG (kc_6 hk) rfl 0 (by decide) (hts (.fieldLink RX5 10 "FourStones" "stones" "LFourStones$Stones;") (List.mem_of_getElem? (i := 2) rfl)) (fun _ h9 => h9) (congrArg (fun z => some (va_rf z)) hr6) dX5_restore_26 ?_
    have hk := h.1
    replace h := h.2
    refine gc_v (va_runV (As := [.ref r6]) (rest := []) ⟨hx, hb, hml, hown, hts⟩ (c_X0_layOut l D κ A S4 r5 r6 _ h) (cwV 1 hts gX5_restore_X0_layOut rfl rfl rfl (by decide +kernel) ⟨Nat.le_of_ble_eq_true rfl, Nat.le_of_ble_eq_true rfl⟩) (pg_V (q := (RX0, TX0, 5)) hK hX hG (pg_A hA hS) (kc_1 hk) rfl) rfl rfl hl.1 rfl (lv_room (Nat.le_of_ble_eq_true rfl)) dX5_restore_29 ⟨Nat.le_of_ble_eq_true rfl, Nat.le_of_ble_eq_true rfl⟩) hS (fun S8 H locs7 h hG hS => ?_)
    refine lv_aload_n hx hb dX5_restore_32 rfl (lv_at hl 0 rfl) ?_
    have hk := h.1
    replace h := h.2
    obtain ⟨r9, hr9, h⟩ := h
    refine gg_get (v := .ref r9) (ci := 5) (C := RX5) (T := TX5) (N := 13) hx hb hts (fun _ h => List.mem_cons_of_mem _ (List.mem_append_left _ (List.mem_append_left _ (List.mem_append_right _ (h))))) hown hK hG (kc_6 hk) rfl 0 (by decide) (hts (.fieldLink RX5 10 "FourStones" "stones" "LFourStones$Stones;") (List.mem_of_getElem? (i := 2) rfl)) (fun _ h9 => h9) (congrArg (fun z => some (va_rf z)) hr9) dX5_restore_33 ?_
    have hk := h.1
    replace h := h.2
    refine gg_get (ci := 4) (C := RX4) (T := TX4) (N := 3) hx hb hts (fun _ h => List.mem_cons_of_mem _ (List.mem_append_left _ (List.mem_append_right _ (h)))) hown hK hG (kc_5 hk) rfl 2 (by decide) (hts (.fieldLink RX5 175 "FourStones$Stones" "count" "I") (List.mem_of_getElem? (i := 5) rfl)) (fun _ h9 => h9) rfl dX5_restore_36 ?_
    exact W.iret hx hb hr (gr_i h hG hK hX hS) hS.2.2 dX5_restore_39
  · replace h := h.2 hc
    refine lv_bipush (v := (-3 : Int32)) hx hb dX5_restore_7 (by decide) ?_
    exact W.iret hx hb hr (gr_i h hG hK hX hS) hS.2.2 dX5_restore_9
set_option maxHeartbeats 4000000 in
set_option maxRecDepth 100000 in
theorem c_X5_count (l : Launch) (D : va_G) (κ : Nat → ClassId) (A : Nat → Prop) (S : Hp) (a0 : Nat) (x1 : Int32) (Q : Int32 → Hp → Prop) (h : wp_X5_count a0 x1 S Q) : Met l yX5_count wsX5_count ({ frames := 3, cells := 0, slots := 0, locals := 144 } : Room) (PG D κ A S [.ref a0, .int x1]) (va_Qi Q (BG D κ A) A) 0 0 A := by
  refine Met.ofW (cc := cX5_count) (maxL := 2) (ret := (some .int)) (by decide) rfl ?_
  intro p e s m args below meth c s₁ B hml hv
  obtain ⟨hargs, hA, hG, hK, hX⟩ := hv
  have hx := B.exec
  have hb := B.bytes
  have hr := B.returns
  have hts := atoms_spec (ws := wsX5_count) B.pre
  have hown : s.vm.findClass RX5 = some m.cls := findClass_of_methodNamed B.named
  have hlocks := B.notSynchronized
  subst hargs
  clear B
  have hS : va_S A s.heap s.heap [] := va_S.rf
  have hl := lv_entry ([.ref a0, .int x1]) (n := 2) (Nat.le_of_ble_eq_true rfl)
  rw [lg_entry_eq]
  generalize (lg_sl ([.ref a0, .int x1]) ++ List.replicate (2 - (lg_sl ([.ref a0, .int x1])).length) Slot.unset).toArray = ls at hl ⊢
  have hl : lv_has ls 2 [(0, .ref a0), (1, .int x1)] := hl
  have hG : GG D κ A S s.heap := hG
  refine lv_iload_n hx hb dX5_count_0 rfl (lv_at hl 1 rfl) ?_
  by_cases hd : (x1).toInt < 0 ∨ 3 < (x1).toInt
  · replace h := h.2.2.2.2 hd
    refine lv_tableOut (tgt := 78) hx hb dX5_count_1 hd rfl ?_
    refine lv_iconst (v := (-1 : Int32)) hx hb dX5_count_78 (by decide) ?_
    exact W.iret hx hb hr (gr_i h hG hK hX hS) hS.2.2 dX5_count_79
  · have hd2 : (x1).toInt = 0 ∨ (x1).toInt = 1 ∨ (x1).toInt = 2 ∨ (x1).toInt = 3 := by omega
    rcases hd2 with hc | hc | hc | hc
    · replace h := h.1 hc
      refine lv_tableIn (off := 31) (tgt := 32) hx hb dX5_count_1 (by rw [hc]; decide) (by rw [hc]; decide) (by rw [hc]; rfl) rfl ?_
      refine lv_aload_n hx hb dX5_count_32 rfl (lv_at hl 0 rfl) ?_
      have hk := h.1
      replace h := h.2
      obtain ⟨r1, hr1, h⟩ := h
      refine gg_get (v := .ref r1) (ci := 5) (C := RX5) (T := TX5) (N := 13) hx hb hts (fun _ h => List.mem_cons_of_mem _ (List.mem_append_left _ (List.mem_append_left _ (List.mem_append_right _ (h))))) hown hK hG (kc_6 hk) rfl 0 (by decide) (hts (.fieldLink RX5 10 "FourStones" "stones" "LFourStones$Stones;") (List.mem_of_getElem? (i := 1) rfl)) (fun _ h9 => h9) (congrArg (fun z => some (va_rf z)) hr1) dX5_count_33 ?_
      have hk := h.1
      replace h := h.2
      refine gg_get (ci := 4) (C := RX4) (T := TX4) (N := 3) hx hb hts (fun _ h => List.mem_cons_of_mem _ (List.mem_append_left _ (List.mem_append_right _ (h)))) hown hK hG (kc_5 hk) rfl 2 (by decide) (hts (.fieldLink RX5 175 "FourStones$Stones" "count" "I") (List.mem_of_getElem? (i := 2) rfl)) (fun _ h9 => h9) rfl dX5_count_36 ?_
      exact W.iret hx hb hr (gr_i h hG hK hX hS) hS.2.2 dX5_count_39
    · replace h := h.2.1 hc
      refine lv_tableIn (off := 39) (tgt := 40) hx hb dX5_count_1 (by rw [hc]; decide) (by rw [hc]; decide) (by rw [hc]; rfl) rfl ?_
      refine lv_aload_n hx hb dX5_count_40 rfl (lv_at hl 0 rfl) ?_
      have hk := h.1
      replace h := h.2
      obtain ⟨r2, hr2, h⟩ := h
      refine gg_get (v := .ref r2) (ci := 5) (C := RX5) (T := TX5) (N := 13) hx hb hts (fun _ h => List.mem_cons_of_mem _ (List.mem_append_left _ (List.mem_append_left _ (List.mem_append_right _ (h))))) hown hK hG (kc_6 hk) rfl 0 (by decide) (hts (.fieldLink RX5 10 "FourStones" "stones" "LFourStones$Stones;") (List.mem_of_getElem? (i := 1) rfl)) (fun _ h9 => h9) (congrArg (fun z => some (va_rf z)) hr2) dX5_count_41 ?_
      refine lv_aload_n hx hb dX5_count_44 rfl (lv_at hl 0 rfl) ?_
      have hk := h.1
      replace h := h.2
      obtain ⟨r3, hr3, h⟩ := h
      refine gg_get (v := .ref r3) (ci := 5) (C := RX5) (T := TX5) (N := 13) hx hb hts (fun _ h => List.mem_cons_of_mem _ (List.mem_append_left _ (List.mem_append_left _ (List.mem_append_right _ (h))))) hown hK hG (kc_6 hk) rfl 0 (by decide) (hts (.fieldLink RX5 10 "FourStones" "stones" "LFourStones$Stones;") (List.mem_of_getElem? (i := 1) rfl)) (fun _ h9 => h9) (congrArg (fun z => some (va_rf z)) hr3) dX5_count_45 ?_
      have hk := h.1
      replace h := h.2
      refine gc_i (va_runV (As := []) (rest := [.ref r2]) ⟨hx, hb, hml, hown, hts⟩ (c_X4_all l D κ A S r3 _ h) (cwV 0 hts gX5_count_X4_all rfl rfl rfl (by decide +kernel) ⟨Nat.le_of_ble_eq_true rfl, Nat.le_of_ble_eq_true rfl⟩) (pg_V (q := (RX4, TX4, 3)) hK hX hG (pg_A hA hS) (kc_5 hk) rfl) rfl rfl hl.1 rfl (lv_room (Nat.le_of_ble_eq_true rfl)) dX5_count_48 ⟨Nat.le_of_ble_eq_true rfl, Nat.le_of_ble_eq_true rfl⟩) hS (fun z6 S5 H locs4 h hG hS => ?_)
      have hk := h.1
      replace h := h.2
      refine gc_i (va_runV (As := [.int z6]) (rest := []) ⟨hx, hb, hml, hown, hts⟩ (c_X4_weightsOf l D κ A S5 r2 z6 _ h) (cwV 1 hts gX5_count_X4_weightsOf rfl rfl rfl (by decide +kernel) ⟨Nat.le_of_ble_eq_true rfl, Nat.le_of_ble_eq_true rfl⟩) (pg_V (q := (RX4, TX4, 3)) hK hX hG (pg_A hA hS) (kc_5 hk) rfl) rfl rfl hl.1 rfl (lv_room (Nat.le_of_ble_eq_true rfl)) dX5_count_51 ⟨Nat.le_of_ble_eq_true rfl, Nat.le_of_ble_eq_true rfl⟩) hS (fun z9 S8 H locs7 h hG hS => ?_)
      exact W.iret hx hb hr (gr_i h hG hK hX hS) hS.2.2 dX5_count_54
    · replace h := h.2.2.1 hc
      refine lv_tableIn (off := 54) (tgt := 55) hx hb dX5_count_1 (by rw [hc]; decide) (by rw [hc]; decide) (by rw [hc]; rfl) rfl ?_
      refine lv_aload_n hx hb dX5_count_55 rfl (lv_at hl 0 rfl) ?_
      have hk := h.1
      replace h := h.2
      obtain ⟨r10, hr10, h⟩ := h
      refine gg_get (v := .ref r10) (ci := 5) (C := RX5) (T := TX5) (N := 13) hx hb hts (fun _ h => List.mem_cons_of_mem _ (List.mem_append_left _ (List.mem_append_left _ (List.mem_append_right _ (h))))) hown hK hG (kc_6 hk) rfl 0 (by decide) (hts (.fieldLink RX5 10 "FourStones" "stones" "LFourStones$Stones;") (List.mem_of_getElem? (i := 1) rfl)) (fun _ h9 => h9) (congrArg (fun z => some (va_rf z)) hr10) dX5_count_56 ?_
      refine lv_aload_n hx hb dX5_count_59 rfl (lv_at hl 0 rfl) ?_
      have hk := h.1
      replace h := h.2
      obtain ⟨r11, hr11, h⟩ := h
      refine gg_get (v := .ref r11) (ci := 5) (C := RX5) (T := TX5) (N := 13) hx hb hts (fun _ h => List.mem_cons_of_mem _ (List.mem_append_left _ (List.mem_append_left _ (List.mem_append_right _ (h))))) hown hK hG (kc_6 hk) rfl 0 (by decide) (hts (.fieldLink RX5 10 "FourStones" "stones" "LFourStones$Stones;") (List.mem_of_getElem? (i := 1) rfl)) (fun _ h9 => h9) (congrArg (fun z => some (va_rf z)) hr11) dX5_count_60 ?_
      have hk := h.1
      replace h := h.2
      refine gc_i (va_runV (As := []) (rest := [.ref r10]) ⟨hx, hb, hml, hown, hts⟩ (c_X4_all l D κ A S r11 _ h) (cwV 0 hts gX5_count_X4_all rfl rfl rfl (by decide +kernel) ⟨Nat.le_of_ble_eq_true rfl, Nat.le_of_ble_eq_true rfl⟩) (pg_V (q := (RX4, TX4, 3)) hK hX hG (pg_A hA hS) (kc_5 hk) rfl) rfl rfl hl.1 rfl (lv_room (Nat.le_of_ble_eq_true rfl)) dX5_count_63 ⟨Nat.le_of_ble_eq_true rfl, Nat.le_of_ble_eq_true rfl⟩) hS (fun z14 S13 H locs12 h hG hS => ?_)
      have hk := h.1
      replace h := h.2
      refine gc_i (va_runV (As := [.int z14]) (rest := []) ⟨hx, hb, hml, hown, hts⟩ (c_X4_pricesOf l D κ A S13 r10 z14 _ h) (cwV 1 hts gX5_count_X4_pricesOf rfl rfl rfl (by decide +kernel) ⟨Nat.le_of_ble_eq_true rfl, Nat.le_of_ble_eq_true rfl⟩) (pg_V (q := (RX4, TX4, 3)) hK hX hG (pg_A hA hS) (kc_5 hk) rfl) rfl rfl hl.1 rfl (lv_room (Nat.le_of_ble_eq_true rfl)) dX5_count_66 ⟨Nat.le_of_ble_eq_true rfl, Nat.le_of_ble_eq_true rfl⟩) hS (fun z17 S16 H locs15 h hG hS => ?_)
      exact W.iret hx hb hr (gr_i h hG hK hX hS) hS.2.2 dX5_count_69
    · replace h := h.2.2.2.1 hc
      refine lv_tableIn (off := 69) (tgt := 70) hx hb dX5_count_1 (by rw [hc]; decide) (by rw [hc]; decide) (by rw [hc]; rfl) rfl ?_
      refine lv_aload_n hx hb dX5_count_70 rfl (lv_at hl 0 rfl) ?_
      have hk := h.1
      replace h := h.2
      obtain ⟨r18, hr18, h⟩ := h
      refine gg_get (v := .ref r18) (ci := 5) (C := RX5) (T := TX5) (N := 13) hx hb hts (fun _ h => List.mem_cons_of_mem _ (List.mem_append_left _ (List.mem_append_left _ (List.mem_append_right _ (h))))) hown hK hG (kc_6 hk) rfl 1 (by decide) (hts (.fieldLink RX5 19 "FourStones" "lyings" "LFourStones$Lyings;") (List.mem_of_getElem? (i := 3) rfl)) (fun _ h9 => h9) (congrArg (fun z => some (va_rf z)) hr18) dX5_count_71 ?_
      have hk := h.1
      replace h := h.2
      refine gg_get (ci := 0) (C := RX0) (T := TX0) (N := 5) hx hb hts (fun _ h => List.mem_cons_of_mem _ (List.mem_append_right _ (h))) hown hK hG (kc_1 hk) rfl 4 (by decide) (hts (.fieldLink RX5 129 "FourStones$Lyings" "count" "I") (List.mem_of_getElem? (i := 4) rfl)) (fun _ h9 => h9) rfl dX5_count_74 ?_
      exact W.iret hx hb hr (gr_i h hG hK hX hS) hS.2.2 dX5_count_77
set_option maxHeartbeats 4000000 in
set_option maxRecDepth 100000 in
theorem c_X5_keep (l : Launch) (D : va_G) (κ : Nat → ClassId) (A : Nat → Prop) (S : Hp) (a0 : Nat) (x1 : Int32) (x2 : Int32) (x3 : Int32) (x4 : Int32) (Q : Int32 → Hp → Prop) (h : wp_X5_keep a0 x1 x2 x3 x4 S Q) : Met l yX5_keep wsX5_keep ({ frames := 3, cells := 1, slots := 2, locals := 144 } : Room) (PG D κ A S [.ref a0, .int x1, .int x2, .int x3, .int x4]) (va_Qi Q (BG D κ A) A) 1 2 A := by
  refine Met.ofW (cc := cX5_keep) (maxL := 5) (ret := (some .int)) (by decide) rfl ?_
  intro p e s m args below meth c s₁ B hml hv
  obtain ⟨hargs, hA, hG, hK, hX⟩ := hv
  have hx := B.exec
  have hb := B.bytes
  have hr := B.returns
  have hts := atoms_spec (ws := wsX5_keep) B.pre
  have hown : s.vm.findClass RX5 = some m.cls := findClass_of_methodNamed B.named
  have hlocks := B.notSynchronized
  subst hargs
  clear B
  have hS : va_S A s.heap s.heap [] := va_S.rf
  have hl := lv_entry ([.ref a0, .int x1, .int x2, .int x3, .int x4]) (n := 5) (Nat.le_of_ble_eq_true rfl)
  rw [lg_entry_eq]
  generalize (lg_sl ([.ref a0, .int x1, .int x2, .int x3, .int x4]) ++ List.replicate (5 - (lg_sl ([.ref a0, .int x1, .int x2, .int x3, .int x4])).length) Slot.unset).toArray = ls at hl ⊢
  have hl : lv_has ls 5 [(0, .ref a0), (1, .int x1), (2, .int x2), (3, .int x3), (4, .int x4)] := hl
  have hG : GG D κ A S s.heap := hG
  have j_47 : ∀  (v0 : Nat) (v1 : Int32) (v2 : Int32) (v3 : Int32) (v4 : Int32) (S : Hp) (ls : Array Slot) (H : Heap) (locs : List Loc), lv_has ls 5 [(0, .ref v0), (1, .int v1), (2, .int v2), (3, .int v3), (4, .int v4)] → GG D κ A S H → va_S A s.heap H locs → J_X5_keep_47  Q v0 v1 v2 v3 v4 S → W p l e ({ frames := 3, cells := 1, slots := 2, locals := 144 } : Room) s m ([.ref a0, .int x1, .int x2, .int x3, .int x4] : List Value).toArray below meth c H locs 0 0 (MQ below (va_Qi Q (BG D κ A) A) ([.ref a0, .int x1, .int x2, .int x3, .int x4] : List Value).toArray s 1 2 A) (F0 m 47 ls []) := by
    intro  v0 v1 v2 v3 v4 S ls H locs hl hG hS h
    unfold J_X5_keep_47 at h
    refine lv_aload_n hx hb dX5_keep_47 rfl (lv_at hl 0 rfl) ?_
    have hk := h.1
    replace h := h.2
    obtain ⟨r1, hr1, h⟩ := h
    refine gg_get (v := .ref r1) (ci := 5) (C := RX5) (T := TX5) (N := 13) hx hb hts (fun _ h => List.mem_cons_of_mem _ (List.mem_append_left _ (List.mem_append_right _ (h)))) hown hK hG (kc_6 hk) rfl 6 (by decide) (hts (.fieldLink RX5 34 "FourStones" "scales" "[LFourStones$Scale;") (List.mem_of_getElem? (i := 1) rfl)) (fun _ h9 => h9) (congrArg (fun z => some (va_rf z)) hr1) dX5_keep_48 ?_
    refine lv_iload_n hx hb dX5_keep_51 rfl (lv_at hl 1 rfl) ?_
    refine lv_iload_n hx hb dX5_keep_52 rfl (lv_at hl 2 rfl) ?_
    refine lv_iconst (v := (1 : Int32)) hx hb dX5_keep_53 (by decide) ?_
    refine lv_icmp_ne (tgt := 70) hx hb dX5_keep_54 rfl (fun hc => ?_) (fun hc => ?_)
    · replace h := h.1 hc
      refine lv_null hx hb dX5_keep_70 ?_
      have hi := h.1
      replace h := h.2
      have hk := h.1
      replace h := h.2
      obtain ⟨S2, eS2⟩ : ∃ z, z = sQ S r1 (v1).toNatClampNeg (none) := ⟨_, rfl⟩
      replace h := h S2 eS2
      refine gg_astN hx hb hK hG hS hk hi dX5_keep_71 (fun H locs3 hG hS => ?_)
      rw [← eS2] at hG
      refine lv_aload_n hx hb dX5_keep_72 rfl (lv_at hl 0 rfl) ?_
      have hk := h.1
      replace h := h.2
      obtain ⟨r4, hr4, h⟩ := h
      refine gg_get (v := .ref r4) (ci := 5) (C := RX5) (T := TX5) (N := 13) hx hb hts (fun _ h => List.mem_cons_of_mem _ (List.mem_append_left _ (List.mem_append_right _ (h)))) hown hK hG (kc_6 hk) rfl 7 (by decide) (hts (.fieldLink RX5 40 "FourStones" "rows" "[LFourStones$Row;") (List.mem_of_getElem? (i := 5) rfl)) (fun _ h9 => h9) (congrArg (fun z => some (va_rf z)) hr4) dX5_keep_73 ?_
      refine lv_iload_n hx hb dX5_keep_76 rfl (lv_at hl 1 rfl) ?_
      refine lv_null hx hb dX5_keep_77 ?_
      have hi := h.1
      replace h := h.2
      have hk := h.1
      replace h := h.2
      obtain ⟨S5, eS5⟩ : ∃ z, z = sQ S2 r4 (v1).toNatClampNeg (none) := ⟨_, rfl⟩
      replace h := h S5 eS5
      refine gg_astN hx hb hK hG hS hk hi dX5_keep_78 (fun H locs6 hG hS => ?_)
      rw [← eS5] at hG
      refine lv_iconst (v := (0 : Int32)) hx hb dX5_keep_79 (by decide) ?_
      refine W.widen (k := 1) (n := 2) (by omega) (by omega) ?_
      exact W.iret hx hb hr (gr_i h hG hK hX hS) hS.2.2 dX5_keep_80
    · replace h := h.2 hc
      refine gg_new (ci := 2) (C := RX2) (T := TX2) (N := 2) (k := 3) hx hb hts (fun _ h => List.mem_cons_of_mem _ (List.mem_append_right _ (h))) tyX2 tyX2_ok hown (hts (.classLink RX5 32 RX2) (List.mem_of_getElem? (i := 2) rfl)) (hts (.instantiable RX2 2) (List.mem_of_getElem? (i := 3) rfl)) (hts (.initialized RX2) (List.mem_of_getElem? (i := 4) rfl)) hK hG hS hA rfl [.int 0, .int 0] (by decide +kernel) (fun q => (kc_3 (S := nO _ q 3) ((h_kd_nO _ _ _ _).trans (if_pos rfl))).trans (by simp [h_gI_nO, h_gR_nO, va_rf])) (by show _ ≤ 1; omega) (by show _ ≤ 2; omega) dX5_keep_57 (fun q7 H hq7 hG hS => ?_)
      obtain ⟨S8, eS8⟩ : ∃ z, z = nO S q7 3 := ⟨_, rfl⟩
      replace h := h q7 hq7 S8 eS8
      rw [← eS8] at hG
      refine lv_dup hx hb dX5_keep_60 rfl ?_
      refine lv_iload_n hx hb dX5_keep_61 rfl (lv_at hl 3 rfl) ?_
      refine lv_iload hx hb dX5_keep_62 (lv_at hl 4 rfl) ?_
      refine gc_v (va_runI (As := [.int v3, .int v4]) (rest := [.ref q7, .int v1, .ref r1]) ⟨hx, hb, hml, hown, hts⟩ (c_X2_init l D κ A S8 q7 v3 v4 _ h) (cwI 2 hts gX5_keep_X2_init rfl rfl rfl (hts (.initialized RX2) (List.mem_of_getElem? (i := 4) rfl)) (hts (.methodLink RX5 44 yX2_init) (List.mem_of_getElem? (i := 10) rfl)) (hts (.instanceMethod yX2_init) (List.mem_of_getElem? (i := 11) rfl)) rfl (by decide +kernel) ⟨Nat.le_of_ble_eq_true rfl, Nat.le_of_ble_eq_true rfl⟩) (pg_S hK hX hG (pg_A hA hS)) rfl rfl hl.1 rfl (lv_room (Nat.le_of_ble_eq_true rfl)) dX5_keep_64 ⟨by show _ ≤ 1; omega, by show _ ≤ 2; omega⟩) hS (fun S10 H locs9 h hG hS => ?_)
      refine lv_goto (tgt := 71) hx hb dX5_keep_67 rfl ?_
      have hi := h.1
      replace h := h.2
      have hk := h.1
      replace h := h.2
      obtain ⟨S11, eS11⟩ : ∃ z, z = sQ S10 r1 (v1).toNatClampNeg (some q7) := ⟨_, rfl⟩
      replace h := h S11 eS11
      refine gg_astq hx hb hK hG hS hk hi dX5_keep_71 (fun H locs12 hG hS => ?_)
      rw [← eS11] at hG
      refine lv_aload_n hx hb dX5_keep_72 rfl (lv_at hl 0 rfl) ?_
      have hk := h.1
      replace h := h.2
      obtain ⟨r13, hr13, h⟩ := h
      refine gg_get (v := .ref r13) (ci := 5) (C := RX5) (T := TX5) (N := 13) hx hb hts (fun _ h => List.mem_cons_of_mem _ (List.mem_append_left _ (List.mem_append_right _ (h)))) hown hK hG (kc_6 hk) rfl 7 (by decide) (hts (.fieldLink RX5 40 "FourStones" "rows" "[LFourStones$Row;") (List.mem_of_getElem? (i := 5) rfl)) (fun _ h9 => h9) (congrArg (fun z => some (va_rf z)) hr13) dX5_keep_73 ?_
      refine lv_iload_n hx hb dX5_keep_76 rfl (lv_at hl 1 rfl) ?_
      refine lv_null hx hb dX5_keep_77 ?_
      have hi := h.1
      replace h := h.2
      have hk := h.1
      replace h := h.2
      obtain ⟨S14, eS14⟩ : ∃ z, z = sQ S11 r13 (v1).toNatClampNeg (none) := ⟨_, rfl⟩
      replace h := h S14 eS14
      refine gg_astN hx hb hK hG hS hk hi dX5_keep_78 (fun H locs15 hG hS => ?_)
      rw [← eS14] at hG
      refine lv_iconst (v := (0 : Int32)) hx hb dX5_keep_79 (by decide) ?_
      exact W.iret hx hb hr (gr_i h hG hK hX hS) hS.2.2 dX5_keep_80
  refine lv_iload_n hx hb dX5_keep_0 rfl (lv_at hl 1 rfl) ?_
  refine gc_i (va_runS (As := [.int x1]) (rest := []) ⟨hx, hb, hml, hown, hts⟩ (c_X5_isShelf l D κ A S x1 _ h) (va_cwS 1 hts gX5_keep_X5_isShelf rfl rfl rfl (by decide +kernel) ⟨Nat.le_of_ble_eq_true rfl, Nat.le_of_ble_eq_true rfl⟩) (pg_S hK hX hG (pg_A hA hS)) rfl rfl hl.1 rfl (lv_room (Nat.le_of_ble_eq_true rfl)) dX5_keep_1 ⟨Nat.le_of_ble_eq_true rfl, Nat.le_of_ble_eq_true rfl⟩) hS (fun z3 S2 H locs1 h hG hS => ?_)
  refine lv_if_eq (tgt := 16) hx hb dX5_keep_4 rfl (fun hc => ?_) (fun hc => ?_)
  · replace h := h.1 hc
    refine lv_iconst (v := (-1 : Int32)) hx hb dX5_keep_16 (by decide) ?_
    refine W.widen (k := 1) (n := 2) (by omega) (by omega) ?_
    exact W.iret hx hb hr (gr_i h hG hK hX hS) hS.2.2 dX5_keep_17
  · replace h := h.2 hc
    refine lv_iload_n hx hb dX5_keep_7 rfl (lv_at hl 2 rfl) ?_
    refine lv_if_lt (tgt := 16) hx hb dX5_keep_8 rfl (fun hc => ?_) (fun hc => ?_)
    · replace h := h.1 hc
      refine lv_iconst (v := (-1 : Int32)) hx hb dX5_keep_16 (by decide) ?_
      refine W.widen (k := 1) (n := 2) (by omega) (by omega) ?_
      exact W.iret hx hb hr (gr_i h hG hK hX hS) hS.2.2 dX5_keep_17
    · replace h := h.2 hc
      refine lv_iload_n hx hb dX5_keep_11 rfl (lv_at hl 2 rfl) ?_
      refine lv_iconst (v := (1 : Int32)) hx hb dX5_keep_12 (by decide) ?_
      refine lv_icmp_le (tgt := 18) hx hb dX5_keep_13 rfl (fun hc => ?_) (fun hc => ?_)
      · replace h := h.1 hc
        refine lv_iload_n hx hb dX5_keep_18 rfl (lv_at hl 2 rfl) ?_
        refine lv_iconst (v := (1 : Int32)) hx hb dX5_keep_19 (by decide) ?_
        refine lv_icmp_ne (tgt := 47) hx hb dX5_keep_20 rfl (fun hc => ?_) (fun hc => ?_)
        · replace h := h.1 hc
          exact j_47  a0 x1 x2 x3 x4 S2 ls _ _ (lv_sub hl [0, 1, 2, 3, 4] rfl) hG hS h
        · replace h := h.2 hc
          refine lv_iload_n hx hb dX5_keep_23 rfl (lv_at hl 3 rfl) ?_
          refine lv_if_lt (tgt := 45) hx hb dX5_keep_24 rfl (fun hc => ?_) (fun hc => ?_)
          · replace h := h.1 hc
            refine lv_iconst (v := (-1 : Int32)) hx hb dX5_keep_45 (by decide) ?_
            refine W.widen (k := 1) (n := 2) (by omega) (by omega) ?_
            exact W.iret hx hb hr (gr_i h hG hK hX hS) hS.2.2 dX5_keep_46
          · replace h := h.2 hc
            refine lv_iload_n hx hb dX5_keep_27 rfl (lv_at hl 3 rfl) ?_
            refine lv_bipush (v := (7 : Int32)) hx hb dX5_keep_28 (by decide) ?_
            refine lv_icmp_gt (tgt := 45) hx hb dX5_keep_30 rfl (fun hc => ?_) (fun hc => ?_)
            · replace h := h.1 hc
              refine lv_iconst (v := (-1 : Int32)) hx hb dX5_keep_45 (by decide) ?_
              refine W.widen (k := 1) (n := 2) (by omega) (by omega) ?_
              exact W.iret hx hb hr (gr_i h hG hK hX hS) hS.2.2 dX5_keep_46
            · replace h := h.2 hc
              refine lv_iload hx hb dX5_keep_33 (lv_at hl 4 rfl) ?_
              refine lv_if_lt (tgt := 45) hx hb dX5_keep_35 rfl (fun hc => ?_) (fun hc => ?_)
              · replace h := h.1 hc
                refine lv_iconst (v := (-1 : Int32)) hx hb dX5_keep_45 (by decide) ?_
                refine W.widen (k := 1) (n := 2) (by omega) (by omega) ?_
                exact W.iret hx hb hr (gr_i h hG hK hX hS) hS.2.2 dX5_keep_46
              · replace h := h.2 hc
                refine lv_iload hx hb dX5_keep_38 (lv_at hl 4 rfl) ?_
                refine lv_bipush (v := (9 : Int32)) hx hb dX5_keep_40 (by decide) ?_
                refine lv_icmp_le (tgt := 47) hx hb dX5_keep_42 rfl (fun hc => ?_) (fun hc => ?_)
                · replace h := h.1 hc
                  exact j_47  a0 x1 x2 x3 x4 S2 ls _ _ (lv_sub hl [0, 1, 2, 3, 4] rfl) hG hS h
                · replace h := h.2 hc
                  refine lv_iconst (v := (-1 : Int32)) hx hb dX5_keep_45 (by decide) ?_
                  refine W.widen (k := 1) (n := 2) (by omega) (by omega) ?_
                  exact W.iret hx hb hr (gr_i h hG hK hX hS) hS.2.2 dX5_keep_46
      · replace h := h.2 hc
        refine lv_iconst (v := (-1 : Int32)) hx hb dX5_keep_16 (by decide) ?_
        refine W.widen (k := 1) (n := 2) (by omega) (by omega) ?_
        exact W.iret hx hb hr (gr_i h hG hK hX hS) hS.2.2 dX5_keep_17
set_option maxHeartbeats 4000000 in
set_option maxRecDepth 100000 in
theorem c_X5_row (l : Launch) (D : va_G) (κ : Nat → ClassId) (A : Nat → Prop) (S : Hp) (a0 : Nat) (x1 : Int32) (x2 : Int32) (x3 : Int32) (Q : Int32 → Hp → Prop) (h : wp_X5_row a0 x1 x2 x3 S Q) : Met l yX5_row wsX5_row ({ frames := 3, cells := 2, slots := 102, locals := 144 } : Room) (PG D κ A S [.ref a0, .int x1, .int x2, .int x3]) (va_Qi Q (BG D κ A) A) 2 102 A := by
  refine Met.ofW (cc := cX5_row) (maxL := 4) (ret := (some .int)) (by decide) rfl ?_
  intro p e s m args below meth c s₁ B hml hv
  obtain ⟨hargs, hA, hG, hK, hX⟩ := hv
  have hx := B.exec
  have hb := B.bytes
  have hr := B.returns
  have hts := atoms_spec (ws := wsX5_row) B.pre
  have hown : s.vm.findClass RX5 = some m.cls := findClass_of_methodNamed B.named
  have hlocks := B.notSynchronized
  subst hargs
  clear B
  have hS : va_S A s.heap s.heap [] := va_S.rf
  have hl := lv_entry ([.ref a0, .int x1, .int x2, .int x3]) (n := 4) (Nat.le_of_ble_eq_true rfl)
  rw [lg_entry_eq]
  generalize (lg_sl ([.ref a0, .int x1, .int x2, .int x3]) ++ List.replicate (4 - (lg_sl ([.ref a0, .int x1, .int x2, .int x3])).length) Slot.unset).toArray = ls at hl ⊢
  have hl : lv_has ls 4 [(0, .ref a0), (1, .int x1), (2, .int x2), (3, .int x3)] := hl
  have hG : GG D κ A S s.heap := hG
  refine lv_iload_n hx hb dX5_row_0 rfl (lv_at hl 1 rfl) ?_
  refine gc_i (va_runS (As := [.int x1]) (rest := []) ⟨hx, hb, hml, hown, hts⟩ (c_X5_isShelf l D κ A S x1 _ h) (va_cwS 1 hts gX5_row_X5_isShelf rfl rfl rfl (by decide +kernel) ⟨Nat.le_of_ble_eq_true rfl, Nat.le_of_ble_eq_true rfl⟩) (pg_S hK hX hG (pg_A hA hS)) rfl rfl hl.1 rfl (lv_room (Nat.le_of_ble_eq_true rfl)) dX5_row_1 ⟨Nat.le_of_ble_eq_true rfl, Nat.le_of_ble_eq_true rfl⟩) hS (fun z3 S2 H locs1 h hG hS => ?_)
  refine lv_if_eq (tgt := 22) hx hb dX5_row_4 rfl (fun hc => ?_) (fun hc => ?_)
  · replace h := h.1 hc
    refine lv_iconst (v := (-1 : Int32)) hx hb dX5_row_22 (by decide) ?_
    refine W.widen (k := 2) (n := 102) (by omega) (by omega) ?_
    exact W.iret hx hb hr (gr_i h hG hK hX hS) hS.2.2 dX5_row_23
  · replace h := h.2 hc
    refine lv_iload_n hx hb dX5_row_7 rfl (lv_at hl 2 rfl) ?_
    refine lv_if_lt (tgt := 22) hx hb dX5_row_8 rfl (fun hc => ?_) (fun hc => ?_)
    · replace h := h.1 hc
      refine lv_iconst (v := (-1 : Int32)) hx hb dX5_row_22 (by decide) ?_
      refine W.widen (k := 2) (n := 102) (by omega) (by omega) ?_
      exact W.iret hx hb hr (gr_i h hG hK hX hS) hS.2.2 dX5_row_23
    · replace h := h.2 hc
      refine lv_iload_n hx hb dX5_row_11 rfl (lv_at hl 2 rfl) ?_
      refine lv_iconst (v := (2 : Int32)) hx hb dX5_row_12 (by decide) ?_
      refine lv_icmp_gt (tgt := 22) hx hb dX5_row_13 rfl (fun hc => ?_) (fun hc => ?_)
      · replace h := h.1 hc
        refine lv_iconst (v := (-1 : Int32)) hx hb dX5_row_22 (by decide) ?_
        refine W.widen (k := 2) (n := 102) (by omega) (by omega) ?_
        exact W.iret hx hb hr (gr_i h hG hK hX hS) hS.2.2 dX5_row_23
      · replace h := h.2 hc
        refine lv_iload_n hx hb dX5_row_16 rfl (lv_at hl 3 rfl) ?_
        refine lv_bipush (v := (100 : Int32)) hx hb dX5_row_17 (by decide) ?_
        refine lv_icmp_le (tgt := 24) hx hb dX5_row_19 rfl (fun hc => ?_) (fun hc => ?_)
        · replace h := h.1 hc
          refine lv_iload_n hx hb dX5_row_24 rfl (lv_at hl 3 rfl) ?_
          refine lv_if_ge (tgt := 31) hx hb dX5_row_25 rfl (fun hc => ?_) (fun hc => ?_)
          · replace h := h.1 hc
            refine lv_aload_n hx hb dX5_row_31 rfl (lv_at hl 0 rfl) ?_
            have hk := h.1
            replace h := h.2
            obtain ⟨r4, hr4, h⟩ := h
            refine gg_get (v := .ref r4) (ci := 5) (C := RX5) (T := TX5) (N := 13) hx hb hts (fun _ h => List.mem_cons_of_mem _ (List.mem_append_left _ (List.mem_append_right _ (h)))) hown hK hG (kc_6 hk) rfl 6 (by decide) (hts (.fieldLink RX5 34 "FourStones" "scales" "[LFourStones$Scale;") (List.mem_of_getElem? (i := 1) rfl)) (fun _ h9 => h9) (congrArg (fun z => some (va_rf z)) hr4) dX5_row_32 ?_
            refine lv_iload_n hx hb dX5_row_35 rfl (lv_at hl 1 rfl) ?_
            refine lv_null hx hb dX5_row_36 ?_
            have hi := h.1
            replace h := h.2
            have hk := h.1
            replace h := h.2
            obtain ⟨S5, eS5⟩ : ∃ z, z = sQ S2 r4 (x1).toNatClampNeg (none) := ⟨_, rfl⟩
            replace h := h S5 eS5
            refine gg_astN hx hb hK hG hS hk hi dX5_row_37 (fun H locs6 hG hS => ?_)
            rw [← eS5] at hG
            refine lv_aload_n hx hb dX5_row_38 rfl (lv_at hl 0 rfl) ?_
            have hk := h.1
            replace h := h.2
            obtain ⟨r7, hr7, h⟩ := h
            refine gg_get (v := .ref r7) (ci := 5) (C := RX5) (T := TX5) (N := 13) hx hb hts (fun _ h => List.mem_cons_of_mem _ (List.mem_append_left _ (List.mem_append_right _ (h)))) hown hK hG (kc_6 hk) rfl 7 (by decide) (hts (.fieldLink RX5 40 "FourStones" "rows" "[LFourStones$Row;") (List.mem_of_getElem? (i := 2) rfl)) (fun _ h9 => h9) (congrArg (fun z => some (va_rf z)) hr7) dX5_row_39 ?_
            refine lv_iload_n hx hb dX5_row_42 rfl (lv_at hl 1 rfl) ?_
            refine gg_new (ci := 1) (C := RX1) (T := TX1) (N := 2) (k := 2) hx hb hts (fun _ h => List.mem_cons_of_mem _ (List.mem_append_right _ (h))) tyX1 tyX1_ok hown (hts (.classLink RX5 38 RX1) (List.mem_of_getElem? (i := 3) rfl)) (hts (.instantiable RX1 2) (List.mem_of_getElem? (i := 4) rfl)) (hts (.initialized RX1) (List.mem_of_getElem? (i := 5) rfl)) hK hG hS hA rfl [.int 0, .null] (by decide +kernel) (fun q => (kc_2 (S := nO _ q 2) ((h_kd_nO _ _ _ _).trans (if_pos rfl))).trans (by simp [h_gI_nO, h_gR_nO, va_rf])) (by show _ ≤ 2; omega) (by show _ ≤ 102; omega) dX5_row_43 (fun q8 H hq8 hG hS => ?_)
            obtain ⟨S9, eS9⟩ : ∃ z, z = nO S5 q8 2 := ⟨_, rfl⟩
            replace h := h q8 hq8 S9 eS9
            rw [← eS9] at hG
            refine lv_dup hx hb dX5_row_46 rfl ?_
            refine lv_iload_n hx hb dX5_row_47 rfl (lv_at hl 2 rfl) ?_
            refine lv_iload_n hx hb dX5_row_48 rfl (lv_at hl 3 rfl) ?_
            refine gc_v (va_runI (As := [.int x2, .int x3]) (rest := [.ref q8, .int x1, .ref r7]) ⟨hx, hb, hml, hown, hts⟩ (c_X1_init l D κ A S9 q8 x2 x3 _ h) (cwI 2 hts gX5_row_X1_init rfl rfl rfl (hts (.initialized RX1) (List.mem_of_getElem? (i := 5) rfl)) (hts (.methodLink RX5 226 yX1_init) (List.mem_of_getElem? (i := 10) rfl)) (hts (.instanceMethod yX1_init) (List.mem_of_getElem? (i := 11) rfl)) rfl (by decide +kernel) ⟨Nat.le_of_ble_eq_true rfl, Nat.le_of_ble_eq_true rfl⟩) (pg_S hK hX hG (pg_A hA hS)) rfl rfl hl.1 rfl (lv_room (Nat.le_of_ble_eq_true rfl)) dX5_row_49 ⟨by show _ ≤ 2; omega, by show _ ≤ 102; omega⟩) hS (fun S11 H locs10 h hG hS => ?_)
            have hi := h.1
            replace h := h.2
            have hk := h.1
            replace h := h.2
            obtain ⟨S12, eS12⟩ : ∃ z, z = sQ S11 r7 (x1).toNatClampNeg (some q8) := ⟨_, rfl⟩
            replace h := h S12 eS12
            refine gg_astq hx hb hK hG hS hk hi dX5_row_52 (fun H locs13 hG hS => ?_)
            rw [← eS12] at hG
            refine lv_iconst (v := (0 : Int32)) hx hb dX5_row_53 (by decide) ?_
            refine W.widen (k := 2) (n := 102) (by omega) (by omega) ?_
            exact W.iret hx hb hr (gr_i h hG hK hX hS) hS.2.2 dX5_row_54
          · replace h := h.2 hc
            refine lv_bipush (v := (-14 : Int32)) hx hb dX5_row_28 (by decide) ?_
            refine W.widen (k := 2) (n := 102) (by omega) (by omega) ?_
            exact W.iret hx hb hr (gr_i h hG hK hX hS) hS.2.2 dX5_row_30
        · replace h := h.2 hc
          refine lv_iconst (v := (-1 : Int32)) hx hb dX5_row_22 (by decide) ?_
          refine W.widen (k := 2) (n := 102) (by omega) (by omega) ?_
          exact W.iret hx hb hr (gr_i h hG hK hX hS) hS.2.2 dX5_row_23
set_option maxHeartbeats 4000000 in
set_option maxRecDepth 100000 in
theorem c_X5_put (l : Launch) (D : va_G) (κ : Nat → ClassId) (A : Nat → Prop) (S : Hp) (a0 : Nat) (x1 : Int32) (x2 : Int32) (x3 : Int32) (Q : Int32 → Hp → Prop) (h : wp_X5_put a0 x1 x2 x3 S Q) : Met l yX5_put wsX5_put ({ frames := 3, cells := 0, slots := 0, locals := 144 } : Room) (PG D κ A S [.ref a0, .int x1, .int x2, .int x3]) (va_Qi Q (BG D κ A) A) 0 0 A := by
  refine Met.ofW (cc := cX5_put) (maxL := 5) (ret := (some .int)) (by decide) rfl ?_
  intro p e s m args below meth c s₁ B hml hv
  obtain ⟨hargs, hA, hG, hK, hX⟩ := hv
  have hx := B.exec
  have hb := B.bytes
  have hr := B.returns
  have hts := atoms_spec (ws := wsX5_put) B.pre
  have hown : s.vm.findClass RX5 = some m.cls := findClass_of_methodNamed B.named
  have hlocks := B.notSynchronized
  subst hargs
  clear B
  have hS : va_S A s.heap s.heap [] := va_S.rf
  have hl := lv_entry ([.ref a0, .int x1, .int x2, .int x3]) (n := 5) (Nat.le_of_ble_eq_true rfl)
  rw [lg_entry_eq]
  generalize (lg_sl ([.ref a0, .int x1, .int x2, .int x3]) ++ List.replicate (5 - (lg_sl ([.ref a0, .int x1, .int x2, .int x3])).length) Slot.unset).toArray = ls at hl ⊢
  have hl : lv_has ls 5 [(0, .ref a0), (1, .int x1), (2, .int x2), (3, .int x3)] := hl
  have hG : GG D κ A S s.heap := hG
  refine lv_iload_n hx hb dX5_put_0 rfl (lv_at hl 1 rfl) ?_
  refine gc_i (va_runS (As := [.int x1]) (rest := []) ⟨hx, hb, hml, hown, hts⟩ (c_X5_isShelf l D κ A S x1 _ h) (va_cwS 1 hts gX5_put_X5_isShelf rfl rfl rfl (by decide +kernel) ⟨Nat.le_of_ble_eq_true rfl, Nat.le_of_ble_eq_true rfl⟩) (pg_S hK hX hG (pg_A hA hS)) rfl rfl hl.1 rfl (lv_room (Nat.le_of_ble_eq_true rfl)) dX5_put_1 ⟨Nat.le_of_ble_eq_true rfl, Nat.le_of_ble_eq_true rfl⟩) hS (fun z3 S2 H locs1 h hG hS => ?_)
  refine lv_if_ne (tgt := 9) hx hb dX5_put_4 rfl (fun hc => ?_) (fun hc => ?_)
  · replace h := h.1 hc
    refine lv_aload_n hx hb dX5_put_9 rfl (lv_at hl 0 rfl) ?_
    have hk := h.1
    replace h := h.2
    obtain ⟨r4, hr4, h⟩ := h
    refine gg_get (v := .ref r4) (ci := 5) (C := RX5) (T := TX5) (N := 13) hx hb hts (fun _ h => List.mem_cons_of_mem _ (List.mem_append_left _ (List.mem_append_right _ (h)))) hown hK hG (kc_6 hk) rfl 7 (by decide) (hts (.fieldLink RX5 40 "FourStones" "rows" "[LFourStones$Row;") (List.mem_of_getElem? (i := 1) rfl)) (fun _ h9 => h9) (congrArg (fun z => some (va_rf z)) hr4) dX5_put_10 ?_
    refine lv_iload_n hx hb dX5_put_13 rfl (lv_at hl 1 rfl) ?_
    have hk := h.1
    replace h := h.2
    have hi := h.1
    replace h := h.2
    refine gg_aldq hx hb hK hG hk hi dX5_put_14 (fun hc => ?_) (fun r5 hc => ?_)
    · replace h := h.1 hc
      refine lv_astoreN (lv' := [(4, .null), (0, .ref a0), (1, .int x1), (2, .int x2), (3, .int x3)]) hx hb dX5_put_15 hl (by decide) rfl (fun ls hl => ?_)
      refine lv_aloadN hx hb dX5_put_17 (lv_at hl 0 rfl) ?_
      refine lv_ifnonnullN hx hb dX5_put_19 ?_
      refine lv_aload_n hx hb dX5_put_22 rfl (lv_at hl 1 rfl) ?_
      refine lv_iload_n hx hb dX5_put_23 rfl (lv_at hl 2 rfl) ?_
      have hk := h.1
      replace h := h.2
      refine gc_i (va_runV (As := [.int x1]) (rest := []) ⟨hx, hb, hml, hown, hts⟩ (c_X5_notHeld l D κ A S2 a0 x1 _ h) (cwV 1 hts gX5_put_X5_notHeld rfl rfl rfl (by decide +kernel) ⟨Nat.le_of_ble_eq_true rfl, Nat.le_of_ble_eq_true rfl⟩) (pg_V (q := (RX5, TX5, 13)) hK hX hG (pg_A hA hS) (kc_6 hk) rfl) rfl rfl hl.1 rfl (lv_room (Nat.le_of_ble_eq_true rfl)) dX5_put_24 ⟨Nat.le_of_ble_eq_true rfl, Nat.le_of_ble_eq_true rfl⟩) hS (fun z8 S7 H locs6 h hG hS => ?_)
      exact W.iret hx hb hr (gr_i h hG hK hX hS) hS.2.2 dX5_put_27
    · replace h := h.2 r5 hc
      refine lv_astore (lv' := [(4, .ref r5), (0, .ref a0), (1, .int x1), (2, .int x2), (3, .int x3)]) hx hb dX5_put_15 hl (by decide) rfl (fun ls hl => ?_)
      refine lv_aload hx hb dX5_put_17 (lv_at hl 0 rfl) ?_
      refine lv_ifnonnull (tgt := 28) hx hb dX5_put_19 rfl ?_
      refine lv_aload hx hb dX5_put_28 (lv_at hl 0 rfl) ?_
      refine lv_iload_n hx hb dX5_put_30 rfl (lv_at hl 3 rfl) ?_
      have hk := h.1
      replace h := h.2
      refine gc_i (va_runV (As := [.int x2]) (rest := []) ⟨hx, hb, hml, hown, hts⟩ (c_X1_isPlace l D κ A S2 r5 x2 _ h) (cwV 1 hts gX5_put_X1_isPlace rfl rfl rfl (by decide +kernel) ⟨Nat.le_of_ble_eq_true rfl, Nat.le_of_ble_eq_true rfl⟩) (pg_V (q := (RX1, TX1, 2)) hK hX hG (pg_A hA hS) (kc_2 hk) rfl) rfl rfl hl.1 rfl (lv_room (Nat.le_of_ble_eq_true rfl)) dX5_put_31 ⟨Nat.le_of_ble_eq_true rfl, Nat.le_of_ble_eq_true rfl⟩) hS (fun z11 S10 H locs9 h hG hS => ?_)
      refine lv_if_ne (tgt := 40) hx hb dX5_put_34 rfl (fun hc => ?_) (fun hc => ?_)
      · replace h := h.1 hc
        refine lv_aload hx hb dX5_put_40 (lv_at hl 0 rfl) ?_
        have hk := h.1
        replace h := h.2
        obtain ⟨r12, hr12, h⟩ := h
        refine gg_get (v := .ref r12) (ci := 1) (C := RX1) (T := TX1) (N := 2) hx hb hts (fun _ h => List.mem_cons_of_mem _ (List.mem_append_right _ (h))) hown hK hG (kc_2 hk) rfl 1 (by decide) (hts (.fieldLink RX5 209 "FourStones$Row" "cells" "[I") (List.mem_of_getElem? (i := 2) rfl)) (fun _ h9 => h9) (congrArg (fun z => some (va_rf z)) hr12) dX5_put_42 ?_
        refine lv_iload_n hx hb dX5_put_45 rfl (lv_at hl 3 rfl) ?_
        refine lv_aload hx hb dX5_put_46 (lv_at hl 0 rfl) ?_
        refine lv_iload_n hx hb dX5_put_48 rfl (lv_at hl 4 rfl) ?_
        have hk := h.1
        replace h := h.2
        refine gc_i (va_runV (As := [.int x3]) (rest := [.int x2, .ref r12]) ⟨hx, hb, hml, hown, hts⟩ (c_X1_lowestBits l D κ A S10 r5 x3 _ h) (cwV 1 hts gX5_put_X1_lowestBits rfl rfl rfl (by decide +kernel) ⟨Nat.le_of_ble_eq_true rfl, Nat.le_of_ble_eq_true rfl⟩) (pg_V (q := (RX1, TX1, 2)) hK hX hG (pg_A hA hS) (kc_2 hk) rfl) rfl rfl hl.1 rfl (lv_room (Nat.le_of_ble_eq_true rfl)) dX5_put_49 ⟨Nat.le_of_ble_eq_true rfl, Nat.le_of_ble_eq_true rfl⟩) hS (fun z15 S14 H locs13 h hG hS => ?_)
        have hk := h.1
        replace h := h.2
        have hi := h.1
        replace h := h.2
        obtain ⟨S16, eS16⟩ : ∃ z, z = sA S14 r12 (x2).toNatClampNeg z15 := ⟨_, rfl⟩
        replace h := h S16 eS16
        refine gg_iast hx hb hK hG hS hk hi dX5_put_52 (fun H locs17 hG hS => ?_)
        rw [← eS16] at hG
        refine lv_iconst (v := (0 : Int32)) hx hb dX5_put_53 (by decide) ?_
        exact W.iret hx hb hr (gr_i h hG hK hX hS) hS.2.2 dX5_put_54
      · replace h := h.2 hc
        refine lv_bipush (v := (-13 : Int32)) hx hb dX5_put_37 (by decide) ?_
        exact W.iret hx hb hr (gr_i h hG hK hX hS) hS.2.2 dX5_put_39
  · replace h := h.2 hc
    refine lv_iconst (v := (-1 : Int32)) hx hb dX5_put_7 (by decide) ?_
    exact W.iret hx hb hr (gr_i h hG hK hX hS) hS.2.2 dX5_put_8
set_option maxHeartbeats 4000000 in
set_option maxRecDepth 100000 in
theorem c_X5_copy (l : Launch) (D : va_G) (κ : Nat → ClassId) (A : Nat → Prop) (S : Hp) (a0 : Nat) (x1 : Int32) (x2 : Int32) (x3 : Int32) (x4 : Int32) (x5 : Int32) (Q : Int32 → Hp → Prop) (h : wp_X5_copy a0 x1 x2 x3 x4 x5 S Q) : Met l yX5_copy wsX5_copy ({ frames := 2, cells := 0, slots := 0, locals := 96 } : Room) (PG D κ A S [.ref a0, .int x1, .int x2, .int x3, .int x4, .int x5]) (va_Qi Q (BG D κ A) A) 0 0 A := by
  refine Met.ofW (cc := cX5_copy) (maxL := 8) (ret := (some .int)) (by decide) rfl ?_
  intro p e s m args below meth c s₁ B hml hv
  obtain ⟨hargs, hA, hG, hK, hX⟩ := hv
  have hx := B.exec
  have hb := B.bytes
  have hr := B.returns
  have hts := atoms_spec (ws := wsX5_copy) B.pre
  have hown : s.vm.findClass RX5 = some m.cls := findClass_of_methodNamed B.named
  have hlocks := B.notSynchronized
  subst hargs
  clear B
  have hS : va_S A s.heap s.heap [] := va_S.rf
  have hl := lv_entry ([.ref a0, .int x1, .int x2, .int x3, .int x4, .int x5]) (n := 8) (Nat.le_of_ble_eq_true rfl)
  rw [lg_entry_eq]
  generalize (lg_sl ([.ref a0, .int x1, .int x2, .int x3, .int x4, .int x5]) ++ List.replicate (8 - (lg_sl ([.ref a0, .int x1, .int x2, .int x3, .int x4, .int x5])).length) Slot.unset).toArray = ls at hl ⊢
  have hl : lv_has ls 8 [(0, .ref a0), (1, .int x1), (2, .int x2), (3, .int x3), (4, .int x4), (5, .int x5)] := hl
  have hG : GG D κ A S s.heap := hG
  refine lv_iload_n hx hb dX5_copy_0 rfl (lv_at hl 1 rfl) ?_
  refine gc_i (va_runS (As := [.int x1]) (rest := []) ⟨hx, hb, hml, hown, hts⟩ (c_X5_isShelf l D κ A S x1 _ h) (va_cwS 1 hts gX5_copy_X5_isShelf rfl rfl rfl (by decide +kernel) ⟨Nat.le_of_ble_eq_true rfl, Nat.le_of_ble_eq_true rfl⟩) (pg_S hK hX hG (pg_A hA hS)) rfl rfl hl.1 rfl (lv_room (Nat.le_of_ble_eq_true rfl)) dX5_copy_1 ⟨Nat.le_of_ble_eq_true rfl, Nat.le_of_ble_eq_true rfl⟩) hS (fun z3 S2 H locs1 h hG hS => ?_)
  refine lv_if_eq (tgt := 14) hx hb dX5_copy_4 rfl (fun hc => ?_) (fun hc => ?_)
  · replace h := h.1 hc
    refine lv_iconst (v := (-1 : Int32)) hx hb dX5_copy_14 (by decide) ?_
    exact W.iret hx hb hr (gr_i h hG hK hX hS) hS.2.2 dX5_copy_15
  · replace h := h.2 hc
    refine lv_iload_n hx hb dX5_copy_7 rfl (lv_at hl 3 rfl) ?_
    refine gc_i (va_runS (As := [.int x3]) (rest := []) ⟨hx, hb, hml, hown, hts⟩ (c_X5_isShelf l D κ A S2 x3 _ h) (va_cwS 1 hts gX5_copy_X5_isShelf rfl rfl rfl (by decide +kernel) ⟨Nat.le_of_ble_eq_true rfl, Nat.le_of_ble_eq_true rfl⟩) (pg_S hK hX hG (pg_A hA hS)) rfl rfl hl.1 rfl (lv_room (Nat.le_of_ble_eq_true rfl)) dX5_copy_8 ⟨Nat.le_of_ble_eq_true rfl, Nat.le_of_ble_eq_true rfl⟩) hS (fun z6 S5 H locs4 h hG hS => ?_)
    refine lv_if_ne (tgt := 16) hx hb dX5_copy_11 rfl (fun hc => ?_) (fun hc => ?_)
    · replace h := h.1 hc
      refine lv_aload_n hx hb dX5_copy_16 rfl (lv_at hl 0 rfl) ?_
      refine lv_iload_n hx hb dX5_copy_17 rfl (lv_at hl 1 rfl) ?_
      have hk := h.1
      replace h := h.2
      refine gc_i (va_runV (As := [.int x1]) (rest := []) ⟨hx, hb, hml, hown, hts⟩ (c_X5_holdsNothing l D κ A S5 a0 x1 _ h) (cwV 1 hts gX5_copy_X5_holdsNothing rfl rfl rfl (by decide +kernel) ⟨Nat.le_of_ble_eq_true rfl, Nat.le_of_ble_eq_true rfl⟩) (pg_V (q := (RX5, TX5, 13)) hK hX hG (pg_A hA hS) (kc_6 hk) rfl) rfl rfl hl.1 rfl (lv_room (Nat.le_of_ble_eq_true rfl)) dX5_copy_18 ⟨Nat.le_of_ble_eq_true rfl, Nat.le_of_ble_eq_true rfl⟩) hS (fun z9 S8 H locs7 h hG hS => ?_)
      refine lv_if_ne (tgt := 32) hx hb dX5_copy_21 rfl (fun hc => ?_) (fun hc => ?_)
      · replace h := h.1 hc
        refine lv_bipush (v := (-11 : Int32)) hx hb dX5_copy_32 (by decide) ?_
        exact W.iret hx hb hr (gr_i h hG hK hX hS) hS.2.2 dX5_copy_34
      · replace h := h.2 hc
        refine lv_aload_n hx hb dX5_copy_24 rfl (lv_at hl 0 rfl) ?_
        refine lv_iload_n hx hb dX5_copy_25 rfl (lv_at hl 3 rfl) ?_
        have hk := h.1
        replace h := h.2
        refine gc_i (va_runV (As := [.int x3]) (rest := []) ⟨hx, hb, hml, hown, hts⟩ (c_X5_holdsNothing l D κ A S8 a0 x3 _ h) (cwV 1 hts gX5_copy_X5_holdsNothing rfl rfl rfl (by decide +kernel) ⟨Nat.le_of_ble_eq_true rfl, Nat.le_of_ble_eq_true rfl⟩) (pg_V (q := (RX5, TX5, 13)) hK hX hG (pg_A hA hS) (kc_6 hk) rfl) rfl rfl hl.1 rfl (lv_room (Nat.le_of_ble_eq_true rfl)) dX5_copy_26 ⟨Nat.le_of_ble_eq_true rfl, Nat.le_of_ble_eq_true rfl⟩) hS (fun z12 S11 H locs10 h hG hS => ?_)
        refine lv_if_eq (tgt := 35) hx hb dX5_copy_29 rfl (fun hc => ?_) (fun hc => ?_)
        · replace h := h.1 hc
          refine lv_aload_n hx hb dX5_copy_35 rfl (lv_at hl 0 rfl) ?_
          have hk := h.1
          replace h := h.2
          obtain ⟨r13, hr13, h⟩ := h
          refine gg_get (v := .ref r13) (ci := 5) (C := RX5) (T := TX5) (N := 13) hx hb hts (fun _ h => List.mem_cons_of_mem _ (List.mem_append_left _ (List.mem_append_right _ (h)))) hown hK hG (kc_6 hk) rfl 7 (by decide) (hts (.fieldLink RX5 40 "FourStones" "rows" "[LFourStones$Row;") (List.mem_of_getElem? (i := 1) rfl)) (fun _ h9 => h9) (congrArg (fun z => some (va_rf z)) hr13) dX5_copy_36 ?_
          refine lv_iload_n hx hb dX5_copy_39 rfl (lv_at hl 1 rfl) ?_
          have hk := h.1
          replace h := h.2
          have hi := h.1
          replace h := h.2
          refine gg_aldq hx hb hK hG hk hi dX5_copy_40 (fun hc => ?_) (fun r14 hc => ?_)
          · replace h := h.1 hc
            refine lv_astoreN (lv' := [(6, .null), (0, .ref a0), (1, .int x1), (2, .int x2), (3, .int x3), (4, .int x4), (5, .int x5)]) hx hb dX5_copy_41 hl (by decide) rfl (fun ls hl => ?_)
            refine lv_aload_n hx hb dX5_copy_43 rfl (lv_at hl 1 rfl) ?_
            have hk := h.1
            replace h := h.2
            obtain ⟨r15, hr15, h⟩ := h
            refine gg_get (v := .ref r15) (ci := 5) (C := RX5) (T := TX5) (N := 13) hx hb hts (fun _ h => List.mem_cons_of_mem _ (List.mem_append_left _ (List.mem_append_right _ (h)))) hown hK hG (kc_6 hk) rfl 7 (by decide) (hts (.fieldLink RX5 40 "FourStones" "rows" "[LFourStones$Row;") (List.mem_of_getElem? (i := 1) rfl)) (fun _ h9 => h9) (congrArg (fun z => some (va_rf z)) hr15) dX5_copy_44 ?_
            refine lv_iload_n hx hb dX5_copy_47 rfl (lv_at hl 4 rfl) ?_
            have hk := h.1
            replace h := h.2
            have hi := h.1
            replace h := h.2
            refine gg_aldq hx hb hK hG hk hi dX5_copy_48 (fun hc => ?_) (fun r16 hc => ?_)
            · replace h := h.1 hc
              refine lv_astoreN (lv' := [(7, .null), (6, .null), (0, .ref a0), (1, .int x1), (2, .int x2), (3, .int x3), (4, .int x4), (5, .int x5)]) hx hb dX5_copy_49 hl (by decide) rfl (fun ls hl => ?_)
              refine lv_aloadN hx hb dX5_copy_51 (lv_at hl 1 rfl) ?_
              refine lv_ifnullN (tgt := 74) hx hb dX5_copy_53 rfl ?_
              refine lv_bipush (v := (-12 : Int32)) hx hb dX5_copy_74 (by decide) ?_
              exact W.iret hx hb hr (gr_i h hG hK hX hS) hS.2.2 dX5_copy_76
            · replace h := h.2 r16 hc
              refine lv_astore (lv' := [(7, .ref r16), (6, .null), (0, .ref a0), (1, .int x1), (2, .int x2), (3, .int x3), (4, .int x4), (5, .int x5)]) hx hb dX5_copy_49 hl (by decide) rfl (fun ls hl => ?_)
              refine lv_aloadN hx hb dX5_copy_51 (lv_at hl 1 rfl) ?_
              refine lv_ifnullN (tgt := 74) hx hb dX5_copy_53 rfl ?_
              refine lv_bipush (v := (-12 : Int32)) hx hb dX5_copy_74 (by decide) ?_
              exact W.iret hx hb hr (gr_i h hG hK hX hS) hS.2.2 dX5_copy_76
          · replace h := h.2 r14 hc
            refine lv_astore (lv' := [(6, .ref r14), (0, .ref a0), (1, .int x1), (2, .int x2), (3, .int x3), (4, .int x4), (5, .int x5)]) hx hb dX5_copy_41 hl (by decide) rfl (fun ls hl => ?_)
            refine lv_aload_n hx hb dX5_copy_43 rfl (lv_at hl 1 rfl) ?_
            have hk := h.1
            replace h := h.2
            obtain ⟨r17, hr17, h⟩ := h
            refine gg_get (v := .ref r17) (ci := 5) (C := RX5) (T := TX5) (N := 13) hx hb hts (fun _ h => List.mem_cons_of_mem _ (List.mem_append_left _ (List.mem_append_right _ (h)))) hown hK hG (kc_6 hk) rfl 7 (by decide) (hts (.fieldLink RX5 40 "FourStones" "rows" "[LFourStones$Row;") (List.mem_of_getElem? (i := 1) rfl)) (fun _ h9 => h9) (congrArg (fun z => some (va_rf z)) hr17) dX5_copy_44 ?_
            refine lv_iload_n hx hb dX5_copy_47 rfl (lv_at hl 4 rfl) ?_
            have hk := h.1
            replace h := h.2
            have hi := h.1
            replace h := h.2
            refine gg_aldq hx hb hK hG hk hi dX5_copy_48 (fun hc => ?_) (fun r18 hc => ?_)
            · replace h := h.1 hc
              refine lv_astoreN (lv' := [(7, .null), (6, .ref r14), (0, .ref a0), (1, .int x1), (2, .int x2), (3, .int x3), (4, .int x4), (5, .int x5)]) hx hb dX5_copy_49 hl (by decide) rfl (fun ls hl => ?_)
              refine lv_aload hx hb dX5_copy_51 (lv_at hl 1 rfl) ?_
              refine lv_ifnull hx hb dX5_copy_53 ?_
              refine lv_aloadN hx hb dX5_copy_56 (lv_at hl 0 rfl) ?_
              refine lv_ifnullN (tgt := 74) hx hb dX5_copy_58 rfl ?_
              refine lv_bipush (v := (-12 : Int32)) hx hb dX5_copy_74 (by decide) ?_
              exact W.iret hx hb hr (gr_i h hG hK hX hS) hS.2.2 dX5_copy_76
            · replace h := h.2 r18 hc
              refine lv_astore (lv' := [(7, .ref r18), (6, .ref r14), (0, .ref a0), (1, .int x1), (2, .int x2), (3, .int x3), (4, .int x4), (5, .int x5)]) hx hb dX5_copy_49 hl (by decide) rfl (fun ls hl => ?_)
              refine lv_aload hx hb dX5_copy_51 (lv_at hl 1 rfl) ?_
              refine lv_ifnull hx hb dX5_copy_53 ?_
              refine lv_aload hx hb dX5_copy_56 (lv_at hl 0 rfl) ?_
              refine lv_ifnull hx hb dX5_copy_58 ?_
              refine lv_aload hx hb dX5_copy_61 (lv_at hl 1 rfl) ?_
              have hk := h.1
              replace h := h.2
              refine gg_get (ci := 1) (C := RX1) (T := TX1) (N := 2) hx hb hts (fun _ h => List.mem_cons_of_mem _ (List.mem_append_right _ (h))) hown hK hG (kc_2 hk) rfl 0 (by decide) (hts (.fieldLink RX5 248 "FourStones$Row" "sort" "I") (List.mem_of_getElem? (i := 2) rfl)) (fun _ h9 => h9) rfl dX5_copy_63 ?_
              refine lv_aload hx hb dX5_copy_66 (lv_at hl 0 rfl) ?_
              have hk := h.1
              replace h := h.2
              refine gg_get (ci := 1) (C := RX1) (T := TX1) (N := 2) hx hb hts (fun _ h => List.mem_cons_of_mem _ (List.mem_append_right _ (h))) hown hK hG (kc_2 hk) rfl 0 (by decide) (hts (.fieldLink RX5 248 "FourStones$Row" "sort" "I") (List.mem_of_getElem? (i := 2) rfl)) (fun _ h9 => h9) rfl dX5_copy_68 ?_
              refine lv_icmp_eq (tgt := 77) hx hb dX5_copy_71 rfl (fun hc => ?_) (fun hc => ?_)
              · replace h := h.1 hc
                refine lv_aload hx hb dX5_copy_77 (lv_at hl 1 rfl) ?_
                refine lv_iload_n hx hb dX5_copy_79 rfl (lv_at hl 4 rfl) ?_
                refine lv_iload hx hb dX5_copy_80 (lv_at hl 7 rfl) ?_
                have hk := h.1
                replace h := h.2
                refine gc_i (va_runV (As := [.int x2, .int x5]) (rest := []) ⟨hx, hb, hml, hown, hts⟩ (c_X1_isStretch l D κ A S11 r14 x2 x5 _ h) (cwV 2 hts gX5_copy_X1_isStretch rfl rfl rfl (by decide +kernel) ⟨Nat.le_of_ble_eq_true rfl, Nat.le_of_ble_eq_true rfl⟩) (pg_V (q := (RX1, TX1, 2)) hK hX hG (pg_A hA hS) (kc_2 hk) rfl) rfl rfl hl.1 rfl (lv_room (Nat.le_of_ble_eq_true rfl)) dX5_copy_82 ⟨Nat.le_of_ble_eq_true rfl, Nat.le_of_ble_eq_true rfl⟩) hS (fun z21 S20 H locs19 h hG hS => ?_)
                refine lv_if_eq (tgt := 100) hx hb dX5_copy_85 rfl (fun hc => ?_) (fun hc => ?_)
                · replace h := h.1 hc
                  refine lv_bipush (v := (-13 : Int32)) hx hb dX5_copy_100 (by decide) ?_
                  exact W.iret hx hb hr (gr_i h hG hK hX hS) hS.2.2 dX5_copy_102
                · replace h := h.2 hc
                  refine lv_aload hx hb dX5_copy_88 (lv_at hl 0 rfl) ?_
                  refine lv_iload hx hb dX5_copy_90 (lv_at hl 6 rfl) ?_
                  refine lv_iload hx hb dX5_copy_92 (lv_at hl 7 rfl) ?_
                  have hk := h.1
                  replace h := h.2
                  refine gc_i (va_runV (As := [.int x4, .int x5]) (rest := []) ⟨hx, hb, hml, hown, hts⟩ (c_X1_isStretch l D κ A S20 r18 x4 x5 _ h) (cwV 2 hts gX5_copy_X1_isStretch rfl rfl rfl (by decide +kernel) ⟨Nat.le_of_ble_eq_true rfl, Nat.le_of_ble_eq_true rfl⟩) (pg_V (q := (RX1, TX1, 2)) hK hX hG (pg_A hA hS) (kc_2 hk) rfl) rfl rfl hl.1 rfl (lv_room (Nat.le_of_ble_eq_true rfl)) dX5_copy_94 ⟨Nat.le_of_ble_eq_true rfl, Nat.le_of_ble_eq_true rfl⟩) hS (fun z24 S23 H locs22 h hG hS => ?_)
                  refine lv_if_ne (tgt := 103) hx hb dX5_copy_97 rfl (fun hc => ?_) (fun hc => ?_)
                  · replace h := h.1 hc
                    refine lv_aload hx hb dX5_copy_103 (lv_at hl 1 rfl) ?_
                    have hk := h.1
                    replace h := h.2
                    obtain ⟨r25, hr25, h⟩ := h
                    refine gg_get (v := .ref r25) (ci := 1) (C := RX1) (T := TX1) (N := 2) hx hb hts (fun _ h => List.mem_cons_of_mem _ (List.mem_append_right _ (h))) hown hK hG (kc_2 hk) rfl 1 (by decide) (hts (.fieldLink RX5 209 "FourStones$Row" "cells" "[I") (List.mem_of_getElem? (i := 3) rfl)) (fun _ h9 => h9) (congrArg (fun z => some (va_rf z)) hr25) dX5_copy_105 ?_
                    refine lv_iload_n hx hb dX5_copy_108 rfl (lv_at hl 4 rfl) ?_
                    refine lv_aload hx hb dX5_copy_109 (lv_at hl 0 rfl) ?_
                    have hk := h.1
                    replace h := h.2
                    obtain ⟨r26, hr26, h⟩ := h
                    refine gg_get (v := .ref r26) (ci := 1) (C := RX1) (T := TX1) (N := 2) hx hb hts (fun _ h => List.mem_cons_of_mem _ (List.mem_append_right _ (h))) hown hK hG (kc_2 hk) rfl 1 (by decide) (hts (.fieldLink RX5 209 "FourStones$Row" "cells" "[I") (List.mem_of_getElem? (i := 3) rfl)) (fun _ h9 => h9) (congrArg (fun z => some (va_rf z)) hr26) dX5_copy_111 ?_
                    refine lv_iload hx hb dX5_copy_114 (lv_at hl 6 rfl) ?_
                    refine lv_iload hx hb dX5_copy_116 (lv_at hl 7 rfl) ?_
                    have hk := h.1
                    replace h := h.2
                    have hn := h.1
                    replace h := h.2
                    have hi := h.1
                    replace h := h.2
                    obtain ⟨S28, eS28⟩ : ∃ z, z = sF S23 r26 (va_cpy (gA S23 r25) (gA S23 r26) (x2).toNatClampNeg (x4).toNatClampNeg (x5).toNatClampNeg) := ⟨_, rfl⟩
                    replace h := h S28 eS28
                    refine gg_copyi hx hb (hml.trans hl.1.symm) hown (hts (.methodLink RX5 254 arraycopyName) (List.mem_of_getElem? (i := 4) rfl)) (hts (.native arraycopyName) (List.mem_of_getElem? (i := 5) rfl)) (hts (.static arraycopyName) (List.mem_of_getElem? (i := 6) rfl)) (hts (.initialized "java/lang/System") (List.mem_of_getElem? (i := 7) rfl)) hK hG hS hk.1 hk.2 hn.1 hn.2.1 hn.2.2 hi.1 hi.2 (Nat.le_of_ble_eq_true rfl) (Nat.le_of_ble_eq_true rfl) dX5_copy_118 (fun H locs27 hG hS => ?_)
                    rw [← eS28] at hG
                    refine lv_iload hx hb dX5_copy_121 (lv_at hl 7 rfl) ?_
                    exact W.iret hx hb hr (gr_i h hG hK hX hS) hS.2.2 dX5_copy_123
                  · replace h := h.2 hc
                    refine lv_bipush (v := (-13 : Int32)) hx hb dX5_copy_100 (by decide) ?_
                    exact W.iret hx hb hr (gr_i h hG hK hX hS) hS.2.2 dX5_copy_102
              · replace h := h.2 hc
                refine lv_bipush (v := (-12 : Int32)) hx hb dX5_copy_74 (by decide) ?_
                exact W.iret hx hb hr (gr_i h hG hK hX hS) hS.2.2 dX5_copy_76
        · replace h := h.2 hc
          refine lv_bipush (v := (-11 : Int32)) hx hb dX5_copy_32 (by decide) ?_
          exact W.iret hx hb hr (gr_i h hG hK hX hS) hS.2.2 dX5_copy_34
    · replace h := h.2 hc
      refine lv_iconst (v := (-1 : Int32)) hx hb dX5_copy_14 (by decide) ?_
      exact W.iret hx hb hr (gr_i h hG hK hX hS) hS.2.2 dX5_copy_15
set_option maxHeartbeats 4000000 in
set_option maxRecDepth 100000 in
theorem c_X5_cost (l : Launch) (D : va_G) (κ : Nat → ClassId) (A : Nat → Prop) (S : Hp) (a0 : Nat) (x1 : Int32) (Q : Int32 → Hp → Prop) (h : wp_X5_cost a0 x1 S Q) : Met l yX5_cost wsX5_cost ({ frames := 3, cells := 0, slots := 0, locals := 144 } : Room) (PG D κ A S [.ref a0, .int x1]) (va_Qi Q (BG D κ A) A) 0 0 A := by
  refine Met.ofW (cc := cX5_cost) (maxL := 3) (ret := (some .int)) (by decide) rfl ?_
  intro p e s m args below meth c s₁ B hml hv
  obtain ⟨hargs, hA, hG, hK, hX⟩ := hv
  have hx := B.exec
  have hb := B.bytes
  have hr := B.returns
  have hts := atoms_spec (ws := wsX5_cost) B.pre
  have hown : s.vm.findClass RX5 = some m.cls := findClass_of_methodNamed B.named
  have hlocks := B.notSynchronized
  subst hargs
  clear B
  have hS : va_S A s.heap s.heap [] := va_S.rf
  have hl := lv_entry ([.ref a0, .int x1]) (n := 3) (Nat.le_of_ble_eq_true rfl)
  rw [lg_entry_eq]
  generalize (lg_sl ([.ref a0, .int x1]) ++ List.replicate (3 - (lg_sl ([.ref a0, .int x1])).length) Slot.unset).toArray = ls at hl ⊢
  have hl : lv_has ls 3 [(0, .ref a0), (1, .int x1)] := hl
  have hG : GG D κ A S s.heap := hG
  refine lv_iload_n hx hb dX5_cost_0 rfl (lv_at hl 1 rfl) ?_
  refine gc_i (va_runS (As := [.int x1]) (rest := []) ⟨hx, hb, hml, hown, hts⟩ (c_X5_isShelf l D κ A S x1 _ h) (va_cwS 1 hts gX5_cost_X5_isShelf rfl rfl rfl (by decide +kernel) ⟨Nat.le_of_ble_eq_true rfl, Nat.le_of_ble_eq_true rfl⟩) (pg_S hK hX hG (pg_A hA hS)) rfl rfl hl.1 rfl (lv_room (Nat.le_of_ble_eq_true rfl)) dX5_cost_1 ⟨Nat.le_of_ble_eq_true rfl, Nat.le_of_ble_eq_true rfl⟩) hS (fun z3 S2 H locs1 h hG hS => ?_)
  refine lv_if_ne (tgt := 9) hx hb dX5_cost_4 rfl (fun hc => ?_) (fun hc => ?_)
  · replace h := h.1 hc
    refine lv_aload_n hx hb dX5_cost_9 rfl (lv_at hl 0 rfl) ?_
    have hk := h.1
    replace h := h.2
    obtain ⟨r4, hr4, h⟩ := h
    refine gg_get (v := .ref r4) (ci := 5) (C := RX5) (T := TX5) (N := 13) hx hb hts (fun _ h => List.mem_cons_of_mem _ (List.mem_append_left _ (List.mem_append_right _ (h)))) hown hK hG (kc_6 hk) rfl 6 (by decide) (hts (.fieldLink RX5 34 "FourStones" "scales" "[LFourStones$Scale;") (List.mem_of_getElem? (i := 1) rfl)) (fun _ h9 => h9) (congrArg (fun z => some (va_rf z)) hr4) dX5_cost_10 ?_
    refine lv_iload_n hx hb dX5_cost_13 rfl (lv_at hl 1 rfl) ?_
    have hk := h.1
    replace h := h.2
    have hi := h.1
    replace h := h.2
    refine gg_aldq hx hb hK hG hk hi dX5_cost_14 (fun hc => ?_) (fun r5 hc => ?_)
    · replace h := h.1 hc
      refine lv_astore_nN (lv' := [(2, .null), (0, .ref a0), (1, .int x1)]) hx hb dX5_cost_15 rfl hl (by decide) rfl (fun ls hl => ?_)
      refine lv_aload_nN hx hb dX5_cost_16 rfl (lv_at hl 0 rfl) ?_
      refine lv_ifnonnullN hx hb dX5_cost_17 ?_
      refine lv_aload_n hx hb dX5_cost_20 rfl (lv_at hl 1 rfl) ?_
      refine lv_iload_n hx hb dX5_cost_21 rfl (lv_at hl 2 rfl) ?_
      have hk := h.1
      replace h := h.2
      refine gc_i (va_runV (As := [.int x1]) (rest := []) ⟨hx, hb, hml, hown, hts⟩ (c_X5_notHeld l D κ A S2 a0 x1 _ h) (cwV 1 hts gX5_cost_X5_notHeld rfl rfl rfl (by decide +kernel) ⟨Nat.le_of_ble_eq_true rfl, Nat.le_of_ble_eq_true rfl⟩) (pg_V (q := (RX5, TX5, 13)) hK hX hG (pg_A hA hS) (kc_6 hk) rfl) rfl rfl hl.1 rfl (lv_room (Nat.le_of_ble_eq_true rfl)) dX5_cost_22 ⟨Nat.le_of_ble_eq_true rfl, Nat.le_of_ble_eq_true rfl⟩) hS (fun z8 S7 H locs6 h hG hS => ?_)
      refine lv_goto (tgt := 32) hx hb dX5_cost_25 rfl ?_
      exact W.iret hx hb hr (gr_i h hG hK hX hS) hS.2.2 dX5_cost_32
    · replace h := h.2 r5 hc
      refine lv_astore_n (lv' := [(2, .ref r5), (0, .ref a0), (1, .int x1)]) hx hb dX5_cost_15 rfl hl (by decide) rfl (fun ls hl => ?_)
      refine lv_aload_n hx hb dX5_cost_16 rfl (lv_at hl 0 rfl) ?_
      refine lv_ifnonnull (tgt := 28) hx hb dX5_cost_17 rfl ?_
      refine lv_aload_n hx hb dX5_cost_28 rfl (lv_at hl 0 rfl) ?_
      have hk := h.1
      replace h := h.2
      refine gc_i (va_runV (As := []) (rest := []) ⟨hx, hb, hml, hown, hts⟩ (c_X2_price l D κ A S2 r5 _ h) (cwV 0 hts gX5_cost_X2_price rfl rfl rfl (by decide +kernel) ⟨Nat.le_of_ble_eq_true rfl, Nat.le_of_ble_eq_true rfl⟩) (pg_V (q := (RX2, TX2, 2)) hK hX hG (pg_A hA hS) (kc_3 hk) rfl) rfl rfl hl.1 rfl (lv_room (Nat.le_of_ble_eq_true rfl)) dX5_cost_29 ⟨Nat.le_of_ble_eq_true rfl, Nat.le_of_ble_eq_true rfl⟩) hS (fun z11 S10 H locs9 h hG hS => ?_)
      exact W.iret hx hb hr (gr_i h hG hK hX hS) hS.2.2 dX5_cost_32
  · replace h := h.2 hc
    refine lv_iconst (v := (-1 : Int32)) hx hb dX5_cost_7 (by decide) ?_
    exact W.iret hx hb hr (gr_i h hG hK hX hS) hS.2.2 dX5_cost_8
