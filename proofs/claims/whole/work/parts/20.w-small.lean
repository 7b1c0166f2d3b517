set_option maxHeartbeats 4000000 in
set_option maxRecDepth 100000 in
theorem c_X0_init (l : Launch) (D : va_G) (κ : Nat → ClassId) (A : Nat → Prop) (S : Hp) (a0 : Nat) (Q : Hp → Prop) (h : wp_X0_init a0 S Q) : Met l yX0_init wsX0_init ({ frames := 2, cells := 4, slots := 2916, locals := 96 } : Room) (PG D κ A S [.ref a0]) (va_Qv Q (BG D κ A) A) 4 2916 A := by
  refine Met.ofW (cc := cX0_init) (maxL := 1) (ret := none) (by decide) rfl ?_
  intro p e s m args below meth c s₁ B hml hv
  obtain ⟨hargs, hA, hG, hK, hX⟩ := hv
  have hx := B.exec
  have hb := B.bytes
  have hr := B.returns
  have hts := atoms_spec (ws := wsX0_init) B.pre
  have hown : s.vm.findClass RX0 = some m.cls := findClass_of_methodNamed B.named
  have hlocks := B.notSynchronized
  have hin : meth.name = "<init>" := (name_of_methodNamed B.named B.method).1
  subst hargs
  clear B
  have hS : va_S A s.heap s.heap [] := va_S.rf
  have hl := lv_entry ([.ref a0]) (n := 1) (Nat.le_of_ble_eq_true rfl)
  rw [lg_entry_eq]
  generalize (lg_sl ([.ref a0]) ++ List.replicate (1 - (lg_sl ([.ref a0])).length) Slot.unset).toArray = ls at hl ⊢
  have hl : lv_has ls 1 [(0, .ref a0)] := hl
  have hG : GG D κ A S s.heap := hG
  refine lv_aload_n hx hb dX0_init_0 rfl (lv_at hl 0 rfl) ?_
  refine W.objInit hx hb hown (hts (.methodLink RX0 3 objectInit) (List.mem_of_getElem? (i := 1) rfl)) (hts (.instanceMethod objectInit) (List.mem_of_getElem? (i := 2) rfl)) (hts _ (List.mem_of_getElem? (i := 3) rfl)) rfl (by rw [hml]; exact hl.1) rfl dX0_init_1 (Nat.le_of_ble_eq_true rfl) (Nat.le_of_ble_eq_true rfl) ?_
  refine W.eq (g2 := F0 m 4 ls []) rfl ?_
  refine lv_aload_n hx hb dX0_init_4 rfl (lv_at hl 0 rfl) ?_
  refine lv_sipush (v := (729 : Int32)) hx hb dX0_init_5 (by decide) ?_
  refine gg_newi (N' := 729) hx hb (hts (.arrayClass .int) (List.mem_of_getElem? (i := 4) rfl)) hK hG hS hA (by decide) (by decide) (Nat.le_of_ble_eq_true rfl) (by show _ ≤ 4; omega) (by show _ ≤ 2916; omega) dX0_init_8 (fun q2 H hq2 hG hS => ?_)
  obtain ⟨S3, eS3⟩ : ∃ z, z = nA S q2 8 729 := ⟨_, rfl⟩
  replace h := h q2 hq2 S3 eS3
  rw [← eS3] at hG
  have hk := h.1
  replace h := h.2
  obtain ⟨S4, eS4⟩ : ∃ z, z = sR S3 0 a0 (some q2) := ⟨_, rfl⟩
  replace h := h S4 eS4
  refine gg_putF (ci := 0) (C := RX0) (T := TX0) (N := 5) hx hb hts (fun _ h => List.mem_cons_of_mem _ (List.mem_append_right _ (h))) tyX0 tyX0_ok nmX0 hown hK hG hS (kc_1 hk) rfl 0 (by decide) (hts (.fieldLink RX0 9 "FourStones$Lyings" "right" "[I") (List.mem_of_getElem? (i := 5) rfl)) (fun _ h9 => h9) rfl hin rfl (tyX0_ok 0 (by decide)) rfl rfl (Nat.le_of_ble_eq_true rfl) dX0_init_10 (S' := S4) (fun b hb9 => by rw [eS4]; exact cO_sR hb9) (by rw [eS4]; exact cs_0 hk) (fun H locs5 hG hS => ?_)
  refine lv_aload_n hx hb dX0_init_13 rfl (lv_at hl 0 rfl) ?_
  refine lv_sipush (v := (729 : Int32)) hx hb dX0_init_14 (by decide) ?_
  refine gg_newi (N' := 729) hx hb (hts (.arrayClass .int) (List.mem_of_getElem? (i := 4) rfl)) hK hG hS hA (by decide) (by decide) (Nat.le_of_ble_eq_true rfl) (by show _ ≤ 4; omega) (by show _ ≤ 2916; omega) dX0_init_17 (fun q6 H hq6 hG hS => ?_)
  obtain ⟨S7, eS7⟩ : ∃ z, z = nA S4 q6 8 729 := ⟨_, rfl⟩
  replace h := h q6 hq6 S7 eS7
  rw [← eS7] at hG
  have hk := h.1
  replace h := h.2
  obtain ⟨S8, eS8⟩ : ∃ z, z = sR S7 1 a0 (some q6) := ⟨_, rfl⟩
  replace h := h S8 eS8
  refine gg_putF (ci := 0) (C := RX0) (T := TX0) (N := 5) hx hb hts (fun _ h => List.mem_cons_of_mem _ (List.mem_append_right _ (h))) tyX0 tyX0_ok nmX0 hown hK hG hS (kc_1 hk) rfl 1 (by decide) (hts (.fieldLink RX0 15 "FourStones$Lyings" "left" "[I") (List.mem_of_getElem? (i := 6) rfl)) (fun _ h9 => h9) rfl hin rfl (tyX0_ok 1 (by decide)) rfl rfl (Nat.le_of_ble_eq_true rfl) dX0_init_19 (S' := S8) (fun b hb9 => by rw [eS8]; exact cO_sR hb9) (by rw [eS8]; exact cs_1 hk) (fun H locs9 hG hS => ?_)
  refine lv_aload_n hx hb dX0_init_22 rfl (lv_at hl 0 rfl) ?_
  refine lv_sipush (v := (729 : Int32)) hx hb dX0_init_23 (by decide) ?_
  refine gg_newi (N' := 729) hx hb (hts (.arrayClass .int) (List.mem_of_getElem? (i := 4) rfl)) hK hG hS hA (by decide) (by decide) (Nat.le_of_ble_eq_true rfl) (by show _ ≤ 4; omega) (by show _ ≤ 2916; omega) dX0_init_26 (fun q10 H hq10 hG hS => ?_)
  obtain ⟨S11, eS11⟩ : ∃ z, z = nA S8 q10 8 729 := ⟨_, rfl⟩
  replace h := h q10 hq10 S11 eS11
  rw [← eS11] at hG
  have hk := h.1
  replace h := h.2
  obtain ⟨S12, eS12⟩ : ∃ z, z = sR S11 2 a0 (some q10) := ⟨_, rfl⟩
  replace h := h S12 eS12
  refine gg_putF (ci := 0) (C := RX0) (T := TX0) (N := 5) hx hb hts (fun _ h => List.mem_cons_of_mem _ (List.mem_append_right _ (h))) tyX0 tyX0_ok nmX0 hown hK hG hS (kc_1 hk) rfl 2 (by decide) (hts (.fieldLink RX0 18 "FourStones$Lyings" "rightStones" "[I") (List.mem_of_getElem? (i := 7) rfl)) (fun _ h9 => h9) rfl hin rfl (tyX0_ok 2 (by decide)) rfl rfl (Nat.le_of_ble_eq_true rfl) dX0_init_28 (S' := S12) (fun b hb9 => by rw [eS12]; exact cO_sR hb9) (by rw [eS12]; exact cs_2 hk) (fun H locs13 hG hS => ?_)
  refine lv_aload_n hx hb dX0_init_31 rfl (lv_at hl 0 rfl) ?_
  refine lv_sipush (v := (729 : Int32)) hx hb dX0_init_32 (by decide) ?_
  refine gg_newi (N' := 729) hx hb (hts (.arrayClass .int) (List.mem_of_getElem? (i := 4) rfl)) hK hG hS hA (by decide) (by decide) (Nat.le_of_ble_eq_true rfl) (by show _ ≤ 4; omega) (by show _ ≤ 2916; omega) dX0_init_35 (fun q14 H hq14 hG hS => ?_)
  obtain ⟨S15, eS15⟩ : ∃ z, z = nA S12 q14 8 729 := ⟨_, rfl⟩
  replace h := h q14 hq14 S15 eS15
  rw [← eS15] at hG
  have hk := h.1
  replace h := h.2
  obtain ⟨S16, eS16⟩ : ∃ z, z = sR S15 3 a0 (some q14) := ⟨_, rfl⟩
  replace h := h S16 eS16
  refine gg_putF (ci := 0) (C := RX0) (T := TX0) (N := 5) hx hb hts (fun _ h => List.mem_cons_of_mem _ (List.mem_append_right _ (h))) tyX0 tyX0_ok nmX0 hown hK hG hS (kc_1 hk) rfl 3 (by decide) (hts (.fieldLink RX0 21 "FourStones$Lyings" "leftStones" "[I") (List.mem_of_getElem? (i := 8) rfl)) (fun _ h9 => h9) rfl hin rfl (tyX0_ok 3 (by decide)) rfl rfl (Nat.le_of_ble_eq_true rfl) dX0_init_37 (S' := S16) (fun b hb9 => by rw [eS16]; exact cO_sR hb9) (by rw [eS16]; exact cs_3 hk) (fun H locs17 hG hS => ?_)
  refine lv_aload_n hx hb dX0_init_40 rfl (lv_at hl 0 rfl) ?_
  refine lv_iconst (v := (1 : Int32)) hx hb dX0_init_41 (by decide) ?_
  have hk := h.1
  replace h := h.2
  obtain ⟨S18, eS18⟩ : ∃ z, z = sI S16 4 a0 (1 : Int32) := ⟨_, rfl⟩
  replace h := h S18 eS18
  refine gg_put (ci := 0) (C := RX0) (T := TX0) (N := 5) hx hb hts (fun _ h => List.mem_cons_of_mem _ (List.mem_append_right _ (h))) tyX0 tyX0_ok nmX0 hown hK hG hS (kc_1 hk) rfl 4 (by decide) (hts (.fieldLink RX0 24 "FourStones$Lyings" "count" "I") (List.mem_of_getElem? (i := 9) rfl)) (fun _ h9 => h9) rfl (tyX0_ok 4 (by decide)) rfl rfl (Nat.le_of_ble_eq_true rfl) dX0_init_42 (S' := S18) (fun b hb9 => by rw [eS18]; exact cO_sI hb9) (by rw [eS18]; exact cs_4 hk) (fun H locs19 hG hS => ?_)
  refine W.widen (k := 4) (n := 2916) (by omega) (by omega) ?_
  exact W.vret hx hb hr (gr_v h hG hK hX hS) hS.2.2 dX0_init_45
set_option maxHeartbeats 4000000 in
set_option maxRecDepth 100000 in
theorem c_X0_layRight (l : Launch) (D : va_G) (κ : Nat → ClassId) (A : Nat → Prop) (S : Hp) (a0 : Nat) (x1 : Int32) (x2 : Int32) (x3 : Int32) (x4 : Int32) (Q : Hp → Prop) (h : wp_X0_layRight a0 x1 x2 x3 x4 S Q) : Met l yX0_layRight wsX0_layRight ({ frames := 1, cells := 0, slots := 0, locals := 48 } : Room) (PG D κ A S [.ref a0, .int x1, .int x2, .int x3, .int x4]) (va_Qv Q (BG D κ A) A) 0 0 A := by
  refine Met.ofW (cc := cX0_layRight) (maxL := 5) (ret := none) (by decide) rfl ?_
  intro p e s m args below meth c s₁ B hml hv
  obtain ⟨hargs, hA, hG, hK, hX⟩ := hv
  have hx := B.exec
  have hb := B.bytes
  have hr := B.returns
  have hts := atoms_spec (ws := wsX0_layRight) B.pre
  have hown : s.vm.findClass RX0 = some m.cls := findClass_of_methodNamed B.named
  have hlocks := B.notSynchronized
  subst hargs
  clear B
  have hS : va_S A s.heap s.heap [] := va_S.rf
  have hl := lv_entry ([.ref a0, .int x1, .int x2, .int x3, .int x4]) (n := 5) (Nat.le_of_ble_eq_true rfl)
  rw [lg_entry_eq]
  generalize (lg_sl ([.ref a0, .int x1, .int x2, .int x3, .int x4]) ++ List.replicate (5 - (lg_sl ([.ref a0, .int x1, .int x2, .int x3, .int x4])).length) Slot.unset).toArray = ls at hl ⊢
  have hl : lv_has ls 5 [(0, .ref a0), (1, .int x1), (2, .int x2), (3, .int x3), (4, .int x4)] := hl
  have hG : GG D κ A S s.heap := hG
  refine lv_aload_n hx hb dX0_layRight_0 rfl (lv_at hl 0 rfl) ?_
  have hk := h.1
  replace h := h.2
  obtain ⟨r1, hr1, h⟩ := h
  refine gg_get (v := .ref r1) (ci := 0) (C := RX0) (T := TX0) (N := 5) hx hb hts (fun _ h => List.mem_cons_of_mem _ (List.mem_append_right _ (h))) hown hK hG (kc_1 hk) rfl 0 (by decide) (hts (.fieldLink RX0 9 "FourStones$Lyings" "right" "[I") (List.mem_of_getElem? (i := 1) rfl)) (fun _ h9 => h9) (congrArg (fun z => some (va_rf z)) hr1) dX0_layRight_1 ?_
  refine lv_iload_n hx hb dX0_layRight_4 rfl (lv_at hl 1 rfl) ?_
  refine lv_aload_n hx hb dX0_layRight_5 rfl (lv_at hl 0 rfl) ?_
  have hk := h.1
  replace h := h.2
  obtain ⟨r2, hr2, h⟩ := h
  refine gg_get (v := .ref r2) (ci := 0) (C := RX0) (T := TX0) (N := 5) hx hb hts (fun _ h => List.mem_cons_of_mem _ (List.mem_append_right _ (h))) hown hK hG (kc_1 hk) rfl 0 (by decide) (hts (.fieldLink RX0 9 "FourStones$Lyings" "right" "[I") (List.mem_of_getElem? (i := 1) rfl)) (fun _ h9 => h9) (congrArg (fun z => some (va_rf z)) hr2) dX0_layRight_6 ?_
  refine lv_iload_n hx hb dX0_layRight_9 rfl (lv_at hl 2 rfl) ?_
  have hk := h.1
  replace h := h.2
  have hi := h.1
  replace h := h.2
  refine gg_iald hx hb hK hG hk hi dX0_layRight_10 ?_
  refine lv_iload hx hb dX0_layRight_11 (lv_at hl 4 rfl) ?_
  refine lv_iadd hx hb dX0_layRight_13 ?_
  have hk := h.1
  replace h := h.2
  have hi := h.1
  replace h := h.2
  obtain ⟨S3, eS3⟩ : ∃ z, z = sA S r1 (x1).toNatClampNeg ((gA S r2 (x2).toNatClampNeg) + x4) := ⟨_, rfl⟩
  replace h := h S3 eS3
  refine gg_iast hx hb hK hG hS hk hi dX0_layRight_14 (fun H locs4 hG hS => ?_)
  rw [← eS3] at hG
  refine lv_aload_n hx hb dX0_layRight_15 rfl (lv_at hl 0 rfl) ?_
  have hk := h.1
  replace h := h.2
  obtain ⟨r5, hr5, h⟩ := h
  refine gg_get (v := .ref r5) (ci := 0) (C := RX0) (T := TX0) (N := 5) hx hb hts (fun _ h => List.mem_cons_of_mem _ (List.mem_append_right _ (h))) hown hK hG (kc_1 hk) rfl 1 (by decide) (hts (.fieldLink RX0 15 "FourStones$Lyings" "left" "[I") (List.mem_of_getElem? (i := 2) rfl)) (fun _ h9 => h9) (congrArg (fun z => some (va_rf z)) hr5) dX0_layRight_16 ?_
  refine lv_iload_n hx hb dX0_layRight_19 rfl (lv_at hl 1 rfl) ?_
  refine lv_aload_n hx hb dX0_layRight_20 rfl (lv_at hl 0 rfl) ?_
  have hk := h.1
  replace h := h.2
  obtain ⟨r6, hr6, h⟩ := h
  refine gg_get (v := .ref r6) (ci := 0) (C := RX0) (T := TX0) (N := 5) hx hb hts (fun _ h => List.mem_cons_of_mem _ (List.mem_append_right _ (h))) hown hK hG (kc_1 hk) rfl 1 (by decide) (hts (.fieldLink RX0 15 "FourStones$Lyings" "left" "[I") (List.mem_of_getElem? (i := 2) rfl)) (fun _ h9 => h9) (congrArg (fun z => some (va_rf z)) hr6) dX0_layRight_21 ?_
  refine lv_iload_n hx hb dX0_layRight_24 rfl (lv_at hl 2 rfl) ?_
  have hk := h.1
  replace h := h.2
  have hi := h.1
  replace h := h.2
  refine gg_iald hx hb hK hG hk hi dX0_layRight_25 ?_
  have hk := h.1
  replace h := h.2
  have hi := h.1
  replace h := h.2
  obtain ⟨S7, eS7⟩ : ∃ z, z = sA S3 r5 (x1).toNatClampNeg (gA S3 r6 (x2).toNatClampNeg) := ⟨_, rfl⟩
  replace h := h S7 eS7
  refine gg_iast hx hb hK hG hS hk hi dX0_layRight_26 (fun H locs8 hG hS => ?_)
  rw [← eS7] at hG
  refine lv_aload_n hx hb dX0_layRight_27 rfl (lv_at hl 0 rfl) ?_
  have hk := h.1
  replace h := h.2
  obtain ⟨r9, hr9, h⟩ := h
  refine gg_get (v := .ref r9) (ci := 0) (C := RX0) (T := TX0) (N := 5) hx hb hts (fun _ h => List.mem_cons_of_mem _ (List.mem_append_right _ (h))) hown hK hG (kc_1 hk) rfl 2 (by decide) (hts (.fieldLink RX0 18 "FourStones$Lyings" "rightStones" "[I") (List.mem_of_getElem? (i := 3) rfl)) (fun _ h9 => h9) (congrArg (fun z => some (va_rf z)) hr9) dX0_layRight_28 ?_
  refine lv_iload_n hx hb dX0_layRight_31 rfl (lv_at hl 1 rfl) ?_
  refine lv_aload_n hx hb dX0_layRight_32 rfl (lv_at hl 0 rfl) ?_
  have hk := h.1
  replace h := h.2
  obtain ⟨r10, hr10, h⟩ := h
  refine gg_get (v := .ref r10) (ci := 0) (C := RX0) (T := TX0) (N := 5) hx hb hts (fun _ h => List.mem_cons_of_mem _ (List.mem_append_right _ (h))) hown hK hG (kc_1 hk) rfl 2 (by decide) (hts (.fieldLink RX0 18 "FourStones$Lyings" "rightStones" "[I") (List.mem_of_getElem? (i := 3) rfl)) (fun _ h9 => h9) (congrArg (fun z => some (va_rf z)) hr10) dX0_layRight_33 ?_
  refine lv_iload_n hx hb dX0_layRight_36 rfl (lv_at hl 2 rfl) ?_
  have hk := h.1
  replace h := h.2
  have hi := h.1
  replace h := h.2
  refine gg_iald hx hb hK hG hk hi dX0_layRight_37 ?_
  refine lv_iconst (v := (1 : Int32)) hx hb dX0_layRight_38 (by decide) ?_
  refine lv_iload_n hx hb dX0_layRight_39 rfl (lv_at hl 3 rfl) ?_
  refine lv_ishl hx hb dX0_layRight_40 ?_
  refine lv_ior hx hb dX0_layRight_41 ?_
  have hk := h.1
  replace h := h.2
  have hi := h.1
  replace h := h.2
  obtain ⟨S11, eS11⟩ : ∃ z, z = sA S7 r9 (x1).toNatClampNeg ((gA S7 r10 (x2).toNatClampNeg) ||| ((1 : Int32) <<< (x3 &&& 31))) := ⟨_, rfl⟩
  replace h := h S11 eS11
  refine gg_iast hx hb hK hG hS hk hi dX0_layRight_42 (fun H locs12 hG hS => ?_)
  rw [← eS11] at hG
  refine lv_aload_n hx hb dX0_layRight_43 rfl (lv_at hl 0 rfl) ?_
  have hk := h.1
  replace h := h.2
  obtain ⟨r13, hr13, h⟩ := h
  refine gg_get (v := .ref r13) (ci := 0) (C := RX0) (T := TX0) (N := 5) hx hb hts (fun _ h => List.mem_cons_of_mem _ (List.mem_append_right _ (h))) hown hK hG (kc_1 hk) rfl 3 (by decide) (hts (.fieldLink RX0 21 "FourStones$Lyings" "leftStones" "[I") (List.mem_of_getElem? (i := 4) rfl)) (fun _ h9 => h9) (congrArg (fun z => some (va_rf z)) hr13) dX0_layRight_44 ?_
  refine lv_iload_n hx hb dX0_layRight_47 rfl (lv_at hl 1 rfl) ?_
  refine lv_aload_n hx hb dX0_layRight_48 rfl (lv_at hl 0 rfl) ?_
  have hk := h.1
  replace h := h.2
  obtain ⟨r14, hr14, h⟩ := h
  refine gg_get (v := .ref r14) (ci := 0) (C := RX0) (T := TX0) (N := 5) hx hb hts (fun _ h => List.mem_cons_of_mem _ (List.mem_append_right _ (h))) hown hK hG (kc_1 hk) rfl 3 (by decide) (hts (.fieldLink RX0 21 "FourStones$Lyings" "leftStones" "[I") (List.mem_of_getElem? (i := 4) rfl)) (fun _ h9 => h9) (congrArg (fun z => some (va_rf z)) hr14) dX0_layRight_49 ?_
  refine lv_iload_n hx hb dX0_layRight_52 rfl (lv_at hl 2 rfl) ?_
  have hk := h.1
  replace h := h.2
  have hi := h.1
  replace h := h.2
  refine gg_iald hx hb hK hG hk hi dX0_layRight_53 ?_
  have hk := h.1
  replace h := h.2
  have hi := h.1
  replace h := h.2
  obtain ⟨S15, eS15⟩ : ∃ z, z = sA S11 r13 (x1).toNatClampNeg (gA S11 r14 (x2).toNatClampNeg) := ⟨_, rfl⟩
  replace h := h S15 eS15
  refine gg_iast hx hb hK hG hS hk hi dX0_layRight_54 (fun H locs16 hG hS => ?_)
  rw [← eS15] at hG
  exact W.vret hx hb hr (gr_v h hG hK hX hS) hS.2.2 dX0_layRight_55
set_option maxHeartbeats 4000000 in
set_option maxRecDepth 100000 in
theorem c_X0_layLeft (l : Launch) (D : va_G) (κ : Nat → ClassId) (A : Nat → Prop) (S : Hp) (a0 : Nat) (x1 : Int32) (x2 : Int32) (x3 : Int32) (x4 : Int32) (Q : Hp → Prop) (h : wp_X0_layLeft a0 x1 x2 x3 x4 S Q) : Met l yX0_layLeft wsX0_layLeft ({ frames := 1, cells := 0, slots := 0, locals := 48 } : Room) (PG D κ A S [.ref a0, .int x1, .int x2, .int x3, .int x4]) (va_Qv Q (BG D κ A) A) 0 0 A := by
  refine Met.ofW (cc := cX0_layLeft) (maxL := 5) (ret := none) (by decide) rfl ?_
  intro p e s m args below meth c s₁ B hml hv
  obtain ⟨hargs, hA, hG, hK, hX⟩ := hv
  have hx := B.exec
  have hb := B.bytes
  have hr := B.returns
  have hts := atoms_spec (ws := wsX0_layLeft) B.pre
  have hown : s.vm.findClass RX0 = some m.cls := findClass_of_methodNamed B.named
  have hlocks := B.notSynchronized
  subst hargs
  clear B
  have hS : va_S A s.heap s.heap [] := va_S.rf
  have hl := lv_entry ([.ref a0, .int x1, .int x2, .int x3, .int x4]) (n := 5) (Nat.le_of_ble_eq_true rfl)
  rw [lg_entry_eq]
  generalize (lg_sl ([.ref a0, .int x1, .int x2, .int x3, .int x4]) ++ List.replicate (5 - (lg_sl ([.ref a0, .int x1, .int x2, .int x3, .int x4])).length) Slot.unset).toArray = ls at hl ⊢
  have hl : lv_has ls 5 [(0, .ref a0), (1, .int x1), (2, .int x2), (3, .int x3), (4, .int x4)] := hl
  have hG : GG D κ A S s.heap := hG
  refine lv_aload_n hx hb dX0_layLeft_0 rfl (lv_at hl 0 rfl) ?_
  have hk := h.1
  replace h := h.2
  obtain ⟨r1, hr1, h⟩ := h
  refine gg_get (v := .ref r1) (ci := 0) (C := RX0) (T := TX0) (N := 5) hx hb hts (fun _ h => List.mem_cons_of_mem _ (List.mem_append_right _ (h))) hown hK hG (kc_1 hk) rfl 0 (by decide) (hts (.fieldLink RX0 9 "FourStones$Lyings" "right" "[I") (List.mem_of_getElem? (i := 1) rfl)) (fun _ h9 => h9) (congrArg (fun z => some (va_rf z)) hr1) dX0_layLeft_1 ?_
  refine lv_iload_n hx hb dX0_layLeft_4 rfl (lv_at hl 1 rfl) ?_
  refine lv_aload_n hx hb dX0_layLeft_5 rfl (lv_at hl 0 rfl) ?_
  have hk := h.1
  replace h := h.2
  obtain ⟨r2, hr2, h⟩ := h
  refine gg_get (v := .ref r2) (ci := 0) (C := RX0) (T := TX0) (N := 5) hx hb hts (fun _ h => List.mem_cons_of_mem _ (List.mem_append_right _ (h))) hown hK hG (kc_1 hk) rfl 0 (by decide) (hts (.fieldLink RX0 9 "FourStones$Lyings" "right" "[I") (List.mem_of_getElem? (i := 1) rfl)) (fun _ h9 => h9) (congrArg (fun z => some (va_rf z)) hr2) dX0_layLeft_6 ?_
  refine lv_iload_n hx hb dX0_layLeft_9 rfl (lv_at hl 2 rfl) ?_
  have hk := h.1
  replace h := h.2
  have hi := h.1
  replace h := h.2
  refine gg_iald hx hb hK hG hk hi dX0_layLeft_10 ?_
  have hk := h.1
  replace h := h.2
  have hi := h.1
  replace h := h.2
  obtain ⟨S3, eS3⟩ : ∃ z, z = sA S r1 (x1).toNatClampNeg (gA S r2 (x2).toNatClampNeg) := ⟨_, rfl⟩
  replace h := h S3 eS3
  refine gg_iast hx hb hK hG hS hk hi dX0_layLeft_11 (fun H locs4 hG hS => ?_)
  rw [← eS3] at hG
  refine lv_aload_n hx hb dX0_layLeft_12 rfl (lv_at hl 0 rfl) ?_
  have hk := h.1
  replace h := h.2
  obtain ⟨r5, hr5, h⟩ := h
  refine gg_get (v := .ref r5) (ci := 0) (C := RX0) (T := TX0) (N := 5) hx hb hts (fun _ h => List.mem_cons_of_mem _ (List.mem_append_right _ (h))) hown hK hG (kc_1 hk) rfl 1 (by decide) (hts (.fieldLink RX0 15 "FourStones$Lyings" "left" "[I") (List.mem_of_getElem? (i := 2) rfl)) (fun _ h9 => h9) (congrArg (fun z => some (va_rf z)) hr5) dX0_layLeft_13 ?_
  refine lv_iload_n hx hb dX0_layLeft_16 rfl (lv_at hl 1 rfl) ?_
  refine lv_aload_n hx hb dX0_layLeft_17 rfl (lv_at hl 0 rfl) ?_
  have hk := h.1
  replace h := h.2
  obtain ⟨r6, hr6, h⟩ := h
  refine gg_get (v := .ref r6) (ci := 0) (C := RX0) (T := TX0) (N := 5) hx hb hts (fun _ h => List.mem_cons_of_mem _ (List.mem_append_right _ (h))) hown hK hG (kc_1 hk) rfl 1 (by decide) (hts (.fieldLink RX0 15 "FourStones$Lyings" "left" "[I") (List.mem_of_getElem? (i := 2) rfl)) (fun _ h9 => h9) (congrArg (fun z => some (va_rf z)) hr6) dX0_layLeft_18 ?_
  refine lv_iload_n hx hb dX0_layLeft_21 rfl (lv_at hl 2 rfl) ?_
  have hk := h.1
  replace h := h.2
  have hi := h.1
  replace h := h.2
  refine gg_iald hx hb hK hG hk hi dX0_layLeft_22 ?_
  refine lv_iload hx hb dX0_layLeft_23 (lv_at hl 4 rfl) ?_
  refine lv_iadd hx hb dX0_layLeft_25 ?_
  have hk := h.1
  replace h := h.2
  have hi := h.1
  replace h := h.2
  obtain ⟨S7, eS7⟩ : ∃ z, z = sA S3 r5 (x1).toNatClampNeg ((gA S3 r6 (x2).toNatClampNeg) + x4) := ⟨_, rfl⟩
  replace h := h S7 eS7
  refine gg_iast hx hb hK hG hS hk hi dX0_layLeft_26 (fun H locs8 hG hS => ?_)
  rw [← eS7] at hG
  refine lv_aload_n hx hb dX0_layLeft_27 rfl (lv_at hl 0 rfl) ?_
  have hk := h.1
  replace h := h.2
  obtain ⟨r9, hr9, h⟩ := h
  refine gg_get (v := .ref r9) (ci := 0) (C := RX0) (T := TX0) (N := 5) hx hb hts (fun _ h => List.mem_cons_of_mem _ (List.mem_append_right _ (h))) hown hK hG (kc_1 hk) rfl 2 (by decide) (hts (.fieldLink RX0 18 "FourStones$Lyings" "rightStones" "[I") (List.mem_of_getElem? (i := 3) rfl)) (fun _ h9 => h9) (congrArg (fun z => some (va_rf z)) hr9) dX0_layLeft_28 ?_
  refine lv_iload_n hx hb dX0_layLeft_31 rfl (lv_at hl 1 rfl) ?_
  refine lv_aload_n hx hb dX0_layLeft_32 rfl (lv_at hl 0 rfl) ?_
  have hk := h.1
  replace h := h.2
  obtain ⟨r10, hr10, h⟩ := h
  refine gg_get (v := .ref r10) (ci := 0) (C := RX0) (T := TX0) (N := 5) hx hb hts (fun _ h => List.mem_cons_of_mem _ (List.mem_append_right _ (h))) hown hK hG (kc_1 hk) rfl 2 (by decide) (hts (.fieldLink RX0 18 "FourStones$Lyings" "rightStones" "[I") (List.mem_of_getElem? (i := 3) rfl)) (fun _ h9 => h9) (congrArg (fun z => some (va_rf z)) hr10) dX0_layLeft_33 ?_
  refine lv_iload_n hx hb dX0_layLeft_36 rfl (lv_at hl 2 rfl) ?_
  have hk := h.1
  replace h := h.2
  have hi := h.1
  replace h := h.2
  refine gg_iald hx hb hK hG hk hi dX0_layLeft_37 ?_
  have hk := h.1
  replace h := h.2
  have hi := h.1
  replace h := h.2
  obtain ⟨S11, eS11⟩ : ∃ z, z = sA S7 r9 (x1).toNatClampNeg (gA S7 r10 (x2).toNatClampNeg) := ⟨_, rfl⟩
  replace h := h S11 eS11
  refine gg_iast hx hb hK hG hS hk hi dX0_layLeft_38 (fun H locs12 hG hS => ?_)
  rw [← eS11] at hG
  refine lv_aload_n hx hb dX0_layLeft_39 rfl (lv_at hl 0 rfl) ?_
  have hk := h.1
  replace h := h.2
  obtain ⟨r13, hr13, h⟩ := h
  refine gg_get (v := .ref r13) (ci := 0) (C := RX0) (T := TX0) (N := 5) hx hb hts (fun _ h => List.mem_cons_of_mem _ (List.mem_append_right _ (h))) hown hK hG (kc_1 hk) rfl 3 (by decide) (hts (.fieldLink RX0 21 "FourStones$Lyings" "leftStones" "[I") (List.mem_of_getElem? (i := 4) rfl)) (fun _ h9 => h9) (congrArg (fun z => some (va_rf z)) hr13) dX0_layLeft_40 ?_
  refine lv_iload_n hx hb dX0_layLeft_43 rfl (lv_at hl 1 rfl) ?_
  refine lv_aload_n hx hb dX0_layLeft_44 rfl (lv_at hl 0 rfl) ?_
  have hk := h.1
  replace h := h.2
  obtain ⟨r14, hr14, h⟩ := h
  refine gg_get (v := .ref r14) (ci := 0) (C := RX0) (T := TX0) (N := 5) hx hb hts (fun _ h => List.mem_cons_of_mem _ (List.mem_append_right _ (h))) hown hK hG (kc_1 hk) rfl 3 (by decide) (hts (.fieldLink RX0 21 "FourStones$Lyings" "leftStones" "[I") (List.mem_of_getElem? (i := 4) rfl)) (fun _ h9 => h9) (congrArg (fun z => some (va_rf z)) hr14) dX0_layLeft_45 ?_
  refine lv_iload_n hx hb dX0_layLeft_48 rfl (lv_at hl 2 rfl) ?_
  have hk := h.1
  replace h := h.2
  have hi := h.1
  replace h := h.2
  refine gg_iald hx hb hK hG hk hi dX0_layLeft_49 ?_
  refine lv_iconst (v := (1 : Int32)) hx hb dX0_layLeft_50 (by decide) ?_
  refine lv_iload_n hx hb dX0_layLeft_51 rfl (lv_at hl 3 rfl) ?_
  refine lv_ishl hx hb dX0_layLeft_52 ?_
  refine lv_ior hx hb dX0_layLeft_53 ?_
  have hk := h.1
  replace h := h.2
  have hi := h.1
  replace h := h.2
  obtain ⟨S15, eS15⟩ : ∃ z, z = sA S11 r13 (x1).toNatClampNeg ((gA S11 r14 (x2).toNatClampNeg) ||| ((1 : Int32) <<< (x3 &&& 31))) := ⟨_, rfl⟩
  replace h := h S15 eS15
  refine gg_iast hx hb hK hG hS hk hi dX0_layLeft_54 (fun H locs16 hG hS => ?_)
  rw [← eS15] at hG
  exact W.vret hx hb hr (gr_v h hG hK hX hS) hS.2.2 dX0_layLeft_55
set_option maxHeartbeats 4000000 in
set_option maxRecDepth 100000 in
theorem c_X0_layOut (l : Launch) (D : va_G) (κ : Nat → ClassId) (A : Nat → Prop) (S : Hp) (a0 : Nat) (a1 : Nat) (Q : Hp → Prop) (h : wp_X0_layOut a0 a1 S Q) : Met l yX0_layOut wsX0_layOut ({ frames := 2, cells := 0, slots := 0, locals := 96 } : Room) (PG D κ A S [.ref a0, .ref a1]) (va_Qv Q (BG D κ A) A) 0 0 A := by
  refine Met.ofW (cc := cX0_layOut) (maxL := 4) (ret := none) (by decide) rfl ?_
  intro p e s m args below meth c s₁ B hml hv
  obtain ⟨hargs, hA, hG, hK, hX⟩ := hv
  have hx := B.exec
  have hb := B.bytes
  have hr := B.returns
  have hts := atoms_spec (ws := wsX0_layOut) B.pre
  have hown : s.vm.findClass RX0 = some m.cls := findClass_of_methodNamed B.named
  have hlocks := B.notSynchronized
  subst hargs
  clear B
  have hS : va_S A s.heap s.heap [] := va_S.rf
  have hl := lv_entry ([.ref a0, .ref a1]) (n := 4) (Nat.le_of_ble_eq_true rfl)
  rw [lg_entry_eq]
  generalize (lg_sl ([.ref a0, .ref a1]) ++ List.replicate (4 - (lg_sl ([.ref a0, .ref a1])).length) Slot.unset).toArray = ls at hl ⊢
  have hl : lv_has ls 4 [(0, .ref a0), (1, .ref a1)] := hl
  have hG : GG D κ A S s.heap := hG
  have k_17 : ∀ (C7 : Nat × Nat × Int32 × Hp → Prop) (hC7 : ∀ (v0 : Nat) (v1 : Nat) (v2 : Int32) (S : Hp) (ls : Array Slot) (H : Heap) (locs : List Loc), lv_has ls 4 [(0, .ref v0), (1, .ref v1), (2, .int v2)] → GG D κ A S H → va_S A s.heap H locs → C7 (v0, v1, v2, S) → W p l e ({ frames := 2, cells := 0, slots := 0, locals := 96 } : Room) s m ([.ref a0, .ref a1] : List Value).toArray below meth c H locs 0 0 (MQ below (va_Qv Q (BG D κ A) A) ([.ref a0, .ref a1] : List Value).toArray s 0 0 A) (F0 m 7 ls [])) (n : Nat), ∀ (v0 : Nat) (v1 : Nat) (v2 : Int32) (v3 : Int32) (S : Hp) (ls : Array Slot) (H : Heap) (locs : List Loc), lv_has ls 4 [(0, .ref v0), (1, .ref v1), (2, .int v2), (3, .int v3)] → GG D κ A S H → va_S A s.heap H locs → it (L_X0_layOut_17 C7 Q) n (v0, v1, v2, v3, S) → W p l e ({ frames := 2, cells := 0, slots := 0, locals := 96 } : Room) s m ([.ref a0, .ref a1] : List Value).toArray below meth c H locs 0 0 (MQ below (va_Qv Q (BG D κ A) A) ([.ref a0, .ref a1] : List Value).toArray s 0 0 A) (F0 m 17 ls []) := by
    intro C7 hC7 n
    induction n with
    | zero => intro v0 v1 v2 v3 S ls H locs hl hG hS h; exact False.elim h
    | succ n hC17 =>
      intro v0 v1 v2 v3 S ls H locs hl hG hS h
      replace h : L_X0_layOut_17 C7 Q (it (L_X0_layOut_17 C7 Q) n) (v0, v1, v2, v3, S) := h
      simp only [L_X0_layOut_17] at h
      refine lv_iload_n hx hb dX0_layOut_17 rfl (lv_at hl 3 rfl) ?_
      refine lv_aload_n hx hb dX0_layOut_18 rfl (lv_at hl 0 rfl) ?_
      have hk := h.1
      replace h := h.2
      refine gg_get (ci := 0) (C := RX0) (T := TX0) (N := 5) hx hb hts (fun _ h => List.mem_cons_of_mem _ (List.mem_append_left _ (List.mem_append_right _ (h)))) hown hK hG (kc_1 hk) rfl 4 (by decide) (hts (.fieldLink RX0 24 "FourStones$Lyings" "count" "I") (List.mem_of_getElem? (i := 1) rfl)) (fun _ h9 => h9) rfl dX0_layOut_19 ?_
      refine lv_icmp_ge (tgt := 69) hx hb dX0_layOut_22 rfl (fun hc => ?_) (fun hc => ?_)
      · replace h := h.1 hc
        refine lv_aload_n hx hb dX0_layOut_69 rfl (lv_at hl 0 rfl) ?_
        refine lv_dup hx hb dX0_layOut_70 rfl ?_
        have hk := h.1
        replace h := h.2
        refine gg_get (ci := 0) (C := RX0) (T := TX0) (N := 5) hx hb hts (fun _ h => List.mem_cons_of_mem _ (List.mem_append_left _ (List.mem_append_right _ (h)))) hown hK hG (kc_1 hk) rfl 4 (by decide) (hts (.fieldLink RX0 24 "FourStones$Lyings" "count" "I") (List.mem_of_getElem? (i := 1) rfl)) (fun _ h9 => h9) rfl dX0_layOut_71 ?_
        refine lv_iconst (v := (3 : Int32)) hx hb dX0_layOut_74 (by decide) ?_
        refine lv_imul hx hb dX0_layOut_75 ?_
        have hk := h.1
        replace h := h.2
        obtain ⟨S1, eS1⟩ : ∃ z, z = sI S 4 v0 ((gI S 4 v0) * (3 : Int32)) := ⟨_, rfl⟩
        replace h := h S1 eS1
        refine gg_put (ci := 0) (C := RX0) (T := TX0) (N := 5) hx hb hts (fun _ h => List.mem_cons_of_mem _ (List.mem_append_left _ (List.mem_append_right _ (h)))) tyX0 tyX0_ok nmX0 hown hK hG hS (kc_1 hk) rfl 4 (by decide) (hts (.fieldLink RX0 24 "FourStones$Lyings" "count" "I") (List.mem_of_getElem? (i := 1) rfl)) (fun _ h9 => h9) rfl (tyX0_ok 4 (by decide)) rfl rfl (Nat.le_of_ble_eq_true rfl) dX0_layOut_76 (S' := S1) (fun b hb9 => by rw [eS1]; exact cO_sI hb9) (by rw [eS1]; exact cs_4 hk) (fun H locs2 hG hS => ?_)
        obtain ⟨y3, ey3⟩ : ∃ z, z = v2 + (1 : Int32) := ⟨_, rfl⟩
        replace h := h y3 ey3
        refine lv_iinc (v := y3) (lv' := [(2, .int y3), (0, .ref v0), (1, .ref v1), (3, .int v3)]) hx hb dX0_layOut_79 hl (k := 2) rfl (by rw [ey3]; rfl) (by decide) rfl (fun ls hl => ?_)
        refine lv_goto (tgt := 7) hx hb dX0_layOut_82 rfl ?_
        exact hC7 v0 v1 y3 S1 ls _ _ (lv_sub hl [1, 2, 0] rfl) hG hS h
      · replace h := h.2 hc
        refine lv_aload_n hx hb dX0_layOut_25 rfl (lv_at hl 0 rfl) ?_
        refine lv_aload_n hx hb dX0_layOut_26 rfl (lv_at hl 0 rfl) ?_
        have hk := h.1
        replace h := h.2
        refine gg_get (ci := 0) (C := RX0) (T := TX0) (N := 5) hx hb hts (fun _ h => List.mem_cons_of_mem _ (List.mem_append_left _ (List.mem_append_right _ (h)))) hown hK hG (kc_1 hk) rfl 4 (by decide) (hts (.fieldLink RX0 24 "FourStones$Lyings" "count" "I") (List.mem_of_getElem? (i := 1) rfl)) (fun _ h9 => h9) rfl dX0_layOut_27 ?_
        refine lv_iload_n hx hb dX0_layOut_30 rfl (lv_at hl 3 rfl) ?_
        refine lv_iadd hx hb dX0_layOut_31 ?_
        refine lv_iload_n hx hb dX0_layOut_32 rfl (lv_at hl 3 rfl) ?_
        refine lv_iload_n hx hb dX0_layOut_33 rfl (lv_at hl 2 rfl) ?_
        refine lv_aload_n hx hb dX0_layOut_34 rfl (lv_at hl 1 rfl) ?_
        have hk := h.1
        replace h := h.2
        obtain ⟨r4, hr4, h⟩ := h
        refine gg_get (v := .ref r4) (ci := 4) (C := RX4) (T := TX4) (N := 3) hx hb hts (fun _ h => List.mem_cons_of_mem _ (List.mem_append_right _ (h))) hown hK hG (kc_5 hk) rfl 0 (by decide) (hts (.fieldLink RX0 31 "FourStones$Stones" "weights" "[I") (List.mem_of_getElem? (i := 3) rfl)) (fun _ h9 => h9) (congrArg (fun z => some (va_rf z)) hr4) dX0_layOut_35 ?_
        refine lv_iload_n hx hb dX0_layOut_38 rfl (lv_at hl 2 rfl) ?_
        have hk := h.1
        replace h := h.2
        have hi := h.1
        replace h := h.2
        refine gg_iald hx hb hK hG hk hi dX0_layOut_39 ?_
        have hk := h.1
        replace h := h.2
        refine gc_v (va_runV (As := [.int ((gI S 4 v0) + v3), .int v3, .int v2, .int (gA S r4 (v2).toNatClampNeg)]) (rest := []) ⟨hx, hb, hml, hown, hts⟩ (c_X0_layRight l D κ A S v0 ((gI S 4 v0) + v3) v3 v2 (gA S r4 (v2).toNatClampNeg) _ h) (cwV 4 hts gX0_layOut_X0_layRight rfl rfl rfl (by decide +kernel) ⟨Nat.le_of_ble_eq_true rfl, Nat.le_of_ble_eq_true rfl⟩) (pg_V (q := (RX0, TX0, 5)) hK hX hG (pg_A hA hS) (kc_1 hk) rfl) rfl rfl hl.1 rfl (lv_room (Nat.le_of_ble_eq_true rfl)) dX0_layOut_40 ⟨Nat.le_of_ble_eq_true rfl, Nat.le_of_ble_eq_true rfl⟩) hS (fun S6 H locs5 h hG hS => ?_)
        refine lv_aload_n hx hb dX0_layOut_43 rfl (lv_at hl 0 rfl) ?_
        refine lv_iconst (v := (2 : Int32)) hx hb dX0_layOut_44 (by decide) ?_
        refine lv_aload_n hx hb dX0_layOut_45 rfl (lv_at hl 0 rfl) ?_
        have hk := h.1
        replace h := h.2
        refine gg_get (ci := 0) (C := RX0) (T := TX0) (N := 5) hx hb hts (fun _ h => List.mem_cons_of_mem _ (List.mem_append_left _ (List.mem_append_right _ (h)))) hown hK hG (kc_1 hk) rfl 4 (by decide) (hts (.fieldLink RX0 24 "FourStones$Lyings" "count" "I") (List.mem_of_getElem? (i := 1) rfl)) (fun _ h9 => h9) rfl dX0_layOut_46 ?_
        refine lv_imul hx hb dX0_layOut_49 ?_
        refine lv_iload_n hx hb dX0_layOut_50 rfl (lv_at hl 3 rfl) ?_
        refine lv_iadd hx hb dX0_layOut_51 ?_
        refine lv_iload_n hx hb dX0_layOut_52 rfl (lv_at hl 3 rfl) ?_
        refine lv_iload_n hx hb dX0_layOut_53 rfl (lv_at hl 2 rfl) ?_
        refine lv_aload_n hx hb dX0_layOut_54 rfl (lv_at hl 1 rfl) ?_
        have hk := h.1
        replace h := h.2
        obtain ⟨r7, hr7, h⟩ := h
        refine gg_get (v := .ref r7) (ci := 4) (C := RX4) (T := TX4) (N := 3) hx hb hts (fun _ h => List.mem_cons_of_mem _ (List.mem_append_right _ (h))) hown hK hG (kc_5 hk) rfl 0 (by decide) (hts (.fieldLink RX0 31 "FourStones$Stones" "weights" "[I") (List.mem_of_getElem? (i := 3) rfl)) (fun _ h9 => h9) (congrArg (fun z => some (va_rf z)) hr7) dX0_layOut_55 ?_
        refine lv_iload_n hx hb dX0_layOut_58 rfl (lv_at hl 2 rfl) ?_
        have hk := h.1
        replace h := h.2
        have hi := h.1
        replace h := h.2
        refine gg_iald hx hb hK hG hk hi dX0_layOut_59 ?_
        have hk := h.1
        replace h := h.2
        refine gc_v (va_runV (As := [.int (((2 : Int32) * (gI S6 4 v0)) + v3), .int v3, .int v2, .int (gA S6 r7 (v2).toNatClampNeg)]) (rest := []) ⟨hx, hb, hml, hown, hts⟩ (c_X0_layLeft l D κ A S6 v0 (((2 : Int32) * (gI S6 4 v0)) + v3) v3 v2 (gA S6 r7 (v2).toNatClampNeg) _ h) (cwV 4 hts gX0_layOut_X0_layLeft rfl rfl rfl (by decide +kernel) ⟨Nat.le_of_ble_eq_true rfl, Nat.le_of_ble_eq_true rfl⟩) (pg_V (q := (RX0, TX0, 5)) hK hX hG (pg_A hA hS) (kc_1 hk) rfl) rfl rfl hl.1 rfl (lv_room (Nat.le_of_ble_eq_true rfl)) dX0_layOut_60 ⟨Nat.le_of_ble_eq_true rfl, Nat.le_of_ble_eq_true rfl⟩) hS (fun S9 H locs8 h hG hS => ?_)
        obtain ⟨y10, ey10⟩ : ∃ z, z = v3 + (1 : Int32) := ⟨_, rfl⟩
        replace h := h y10 ey10
        refine lv_iinc (v := y10) (lv' := [(3, .int y10), (0, .ref v0), (1, .ref v1), (2, .int v2)]) hx hb dX0_layOut_63 hl (k := 3) rfl (by rw [ey10]; rfl) (by decide) rfl (fun ls hl => ?_)
        refine lv_goto (tgt := 17) hx hb dX0_layOut_66 rfl ?_
        exact hC17 v0 v1 v2 y10 S9 ls _ _ (lv_sub hl [1, 2, 3, 0] rfl) hG hS h
  have k_7 : ∀  (n : Nat), ∀ (v0 : Nat) (v1 : Nat) (v2 : Int32) (S : Hp) (ls : Array Slot) (H : Heap) (locs : List Loc), lv_has ls 4 [(0, .ref v0), (1, .ref v1), (2, .int v2)] → GG D κ A S H → va_S A s.heap H locs → it (L_X0_layOut_7  Q) n (v0, v1, v2, S) → W p l e ({ frames := 2, cells := 0, slots := 0, locals := 96 } : Room) s m ([.ref a0, .ref a1] : List Value).toArray below meth c H locs 0 0 (MQ below (va_Qv Q (BG D κ A) A) ([.ref a0, .ref a1] : List Value).toArray s 0 0 A) (F0 m 7 ls []) := by
    intro  n
    induction n with
    | zero => intro v0 v1 v2 S ls H locs hl hG hS h; exact False.elim h
    | succ n hC7 =>
      intro v0 v1 v2 S ls H locs hl hG hS h
      replace h : L_X0_layOut_7  Q (it (L_X0_layOut_7  Q) n) (v0, v1, v2, S) := h
      simp only [L_X0_layOut_7] at h
      refine lv_iload_n hx hb dX0_layOut_7 rfl (lv_at hl 2 rfl) ?_
      refine lv_aload_n hx hb dX0_layOut_8 rfl (lv_at hl 1 rfl) ?_
      have hk := h.1
      replace h := h.2
      refine gg_get (ci := 4) (C := RX4) (T := TX4) (N := 3) hx hb hts (fun _ h => List.mem_cons_of_mem _ (List.mem_append_right _ (h))) hown hK hG (kc_5 hk) rfl 2 (by decide) (hts (.fieldLink RX0 28 "FourStones$Stones" "count" "I") (List.mem_of_getElem? (i := 2) rfl)) (fun _ h9 => h9) rfl dX0_layOut_9 ?_
      refine lv_icmp_ge (tgt := 85) hx hb dX0_layOut_12 rfl (fun hc => ?_) (fun hc => ?_)
      · replace h := h.1 hc
        exact W.vret hx hb hr (gr_v h hG hK hX hS) hS.2.2 dX0_layOut_85
      · replace h := h.2 hc
        refine lv_iconst (v := (0 : Int32)) hx hb dX0_layOut_15 (by decide) ?_
        refine lv_istore_n (lv' := [(3, .int (0 : Int32)), (0, .ref v0), (1, .ref v1), (2, .int v2)]) hx hb dX0_layOut_16 rfl hl (by decide) rfl (fun ls hl => ?_)
        obtain ⟨nn, h⟩ := h
        exact k_17 _ hC7 nn v0 v1 v2 (0 : Int32) S ls _ _ (lv_sub hl [1, 2, 3, 0] rfl) hG hS h
  refine lv_aload_n hx hb dX0_layOut_0 rfl (lv_at hl 0 rfl) ?_
  refine lv_iconst (v := (1 : Int32)) hx hb dX0_layOut_1 (by decide) ?_
  have hk := h.1
  replace h := h.2
  obtain ⟨S1, eS1⟩ : ∃ z, z = sI S 4 a0 (1 : Int32) := ⟨_, rfl⟩
  replace h := h S1 eS1
  refine gg_put (ci := 0) (C := RX0) (T := TX0) (N := 5) hx hb hts (fun _ h => List.mem_cons_of_mem _ (List.mem_append_left _ (List.mem_append_right _ (h)))) tyX0 tyX0_ok nmX0 hown hK hG hS (kc_1 hk) rfl 4 (by decide) (hts (.fieldLink RX0 24 "FourStones$Lyings" "count" "I") (List.mem_of_getElem? (i := 1) rfl)) (fun _ h9 => h9) rfl (tyX0_ok 4 (by decide)) rfl rfl (Nat.le_of_ble_eq_true rfl) dX0_layOut_2 (S' := S1) (fun b hb9 => by rw [eS1]; exact cO_sI hb9) (by rw [eS1]; exact cs_4 hk) (fun H locs2 hG hS => ?_)
  refine lv_iconst (v := (0 : Int32)) hx hb dX0_layOut_5 (by decide) ?_
  refine lv_istore_n (lv' := [(2, .int (0 : Int32)), (0, .ref a0), (1, .ref a1)]) hx hb dX0_layOut_6 rfl hl (by decide) rfl (fun ls hl => ?_)
  obtain ⟨nn, h⟩ := h
  exact k_7  nn a0 a1 (0 : Int32) S1 ls _ _ (lv_sub hl [1, 2, 0] rfl) hG hS h
set_option maxHeartbeats 4000000 in
set_option maxRecDepth 100000 in
theorem c_X0_isLying (l : Launch) (D : va_G) (κ : Nat → ClassId) (A : Nat → Prop) (S : Hp) (a0 : Nat) (x1 : Int32) (Q : Int32 → Hp → Prop) (h : wp_X0_isLying a0 x1 S Q) : Met l yX0_isLying wsX0_isLying ({ frames := 1, cells := 0, slots := 0, locals := 48 } : Room) (PG D κ A S [.ref a0, .int x1]) (va_Qi Q (BG D κ A) A) 0 0 A := by
  refine Met.ofW (cc := cX0_isLying) (maxL := 2) (ret := (some .boolean)) (by decide) rfl ?_
  intro p e s m args below meth c s₁ B hml hv
  obtain ⟨hargs, hA, hG, hK, hX⟩ := hv
  have hx := B.exec
  have hb := B.bytes
  have hr := B.returns
  have hts := atoms_spec (ws := wsX0_isLying) B.pre
  have hown : s.vm.findClass RX0 = some m.cls := findClass_of_methodNamed B.named
  have hlocks := B.notSynchronized
  subst hargs
  clear B
  have hS : va_S A s.heap s.heap [] := va_S.rf
  have hl := lv_entry ([.ref a0, .int x1]) (n := 2) (Nat.le_of_ble_eq_true rfl)
  rw [lg_entry_eq]
  generalize (lg_sl ([.ref a0, .int x1]) ++ List.replicate (2 - (lg_sl ([.ref a0, .int x1])).length) Slot.unset).toArray = ls at hl ⊢
  have hl : lv_has ls 2 [(0, .ref a0), (1, .int x1)] := hl
  have hG : GG D κ A S s.heap := hG
  refine lv_iload_n hx hb dX0_isLying_0 rfl (lv_at hl 1 rfl) ?_
  refine lv_if_lt (tgt := 16) hx hb dX0_isLying_1 rfl (fun hc => ?_) (fun hc => ?_)
  · replace h := h.1 hc
    refine lv_iconst (v := (0 : Int32)) hx hb dX0_isLying_16 (by decide) ?_
    exact W.zret (ty := .boolean) hx hb hr (by decide) (gr_i h hG hK hX hS) hS.2.2 dX0_isLying_17
  · replace h := h.2 hc
    refine lv_iload_n hx hb dX0_isLying_4 rfl (lv_at hl 1 rfl) ?_
    refine lv_aload_n hx hb dX0_isLying_5 rfl (lv_at hl 0 rfl) ?_
    have hk := h.1
    replace h := h.2
    refine gg_get (ci := 0) (C := RX0) (T := TX0) (N := 5) hx hb hts (fun _ h => List.mem_cons_of_mem _ (List.mem_append_right _ (h))) hown hK hG (kc_1 hk) rfl 4 (by decide) (hts (.fieldLink RX0 24 "FourStones$Lyings" "count" "I") (List.mem_of_getElem? (i := 1) rfl)) (fun _ h9 => h9) rfl dX0_isLying_6 ?_
    refine lv_icmp_ge (tgt := 16) hx hb dX0_isLying_9 rfl (fun hc => ?_) (fun hc => ?_)
    · replace h := h.1 hc
      refine lv_iconst (v := (0 : Int32)) hx hb dX0_isLying_16 (by decide) ?_
      exact W.zret (ty := .boolean) hx hb hr (by decide) (gr_i h hG hK hX hS) hS.2.2 dX0_isLying_17
    · replace h := h.2 hc
      refine lv_iconst (v := (1 : Int32)) hx hb dX0_isLying_12 (by decide) ?_
      refine lv_goto (tgt := 17) hx hb dX0_isLying_13 rfl ?_
      exact W.zret (ty := .boolean) hx hb hr (by decide) (gr_i h hG hK hX hS) hS.2.2 dX0_isLying_17
set_option maxHeartbeats 4000000 in
set_option maxRecDepth 100000 in
theorem c_X0_notOff (l : Launch) (D : va_G) (κ : Nat → ClassId) (A : Nat → Prop) (S : Hp) (a0 : Nat) (x1 : Int32) (Q : Int32 → Hp → Prop) (h : wp_X0_notOff a0 x1 S Q) : Met l yX0_notOff wsX0_notOff ({ frames := 1, cells := 0, slots := 0, locals := 48 } : Room) (PG D κ A S [.ref a0, .int x1]) (va_Qi Q (BG D κ A) A) 0 0 A := by
  refine Met.ofW (cc := cX0_notOff) (maxL := 2) (ret := (some .int)) (by decide) rfl ?_
  intro p e s m args below meth c s₁ B hml hv
  obtain ⟨hargs, hA, hG, hK, hX⟩ := hv
  have hx := B.exec
  have hb := B.bytes
  have hr := B.returns
  have hts := atoms_spec (ws := wsX0_notOff) B.pre
  have hown : s.vm.findClass RX0 = some m.cls := findClass_of_methodNamed B.named
  have hlocks := B.notSynchronized
  subst hargs
  clear B
  have hS : va_S A s.heap s.heap [] := va_S.rf
  have hl := lv_entry ([.ref a0, .int x1]) (n := 2) (Nat.le_of_ble_eq_true rfl)
  rw [lg_entry_eq]
  generalize (lg_sl ([.ref a0, .int x1]) ++ List.replicate (2 - (lg_sl ([.ref a0, .int x1])).length) Slot.unset).toArray = ls at hl ⊢
  have hl : lv_has ls 2 [(0, .ref a0), (1, .int x1)] := hl
  have hG : GG D κ A S s.heap := hG
  refine lv_aload_n hx hb dX0_notOff_0 rfl (lv_at hl 0 rfl) ?_
  have hk := h.1
  replace h := h.2
  obtain ⟨r1, hr1, h⟩ := h
  refine gg_get (v := .ref r1) (ci := 0) (C := RX0) (T := TX0) (N := 5) hx hb hts (fun _ h => List.mem_cons_of_mem _ (List.mem_append_right _ (h))) hown hK hG (kc_1 hk) rfl 2 (by decide) (hts (.fieldLink RX0 18 "FourStones$Lyings" "rightStones" "[I") (List.mem_of_getElem? (i := 1) rfl)) (fun _ h9 => h9) (congrArg (fun z => some (va_rf z)) hr1) dX0_notOff_1 ?_
  refine lv_iload_n hx hb dX0_notOff_4 rfl (lv_at hl 1 rfl) ?_
  have hk := h.1
  replace h := h.2
  have hi := h.1
  replace h := h.2
  refine gg_iald hx hb hK hG hk hi dX0_notOff_5 ?_
  refine lv_aload_n hx hb dX0_notOff_6 rfl (lv_at hl 0 rfl) ?_
  have hk := h.1
  replace h := h.2
  obtain ⟨r2, hr2, h⟩ := h
  refine gg_get (v := .ref r2) (ci := 0) (C := RX0) (T := TX0) (N := 5) hx hb hts (fun _ h => List.mem_cons_of_mem _ (List.mem_append_right _ (h))) hown hK hG (kc_1 hk) rfl 3 (by decide) (hts (.fieldLink RX0 21 "FourStones$Lyings" "leftStones" "[I") (List.mem_of_getElem? (i := 2) rfl)) (fun _ h9 => h9) (congrArg (fun z => some (va_rf z)) hr2) dX0_notOff_7 ?_
  refine lv_iload_n hx hb dX0_notOff_10 rfl (lv_at hl 1 rfl) ?_
  have hk := h.1
  replace h := h.2
  have hi := h.1
  replace h := h.2
  refine gg_iald hx hb hK hG hk hi dX0_notOff_11 ?_
  refine lv_ior hx hb dX0_notOff_12 ?_
  exact W.iret hx hb hr (gr_i h hG hK hX hS) hS.2.2 dX0_notOff_13
set_option maxHeartbeats 4000000 in
set_option maxRecDepth 100000 in
theorem c_J6_bitCount_0f7a4 (l : Launch) (D : va_G) (κ : Nat → ClassId) (A : Nat → Prop) (S : Hp) (x0 : Int32) (Q : Int32 → Hp → Prop) (h : wp_J6_bitCount_0f7a4 x0 S Q) : Met l yJ6_bitCount_0f7a4 wsJ6_bitCount_0f7a4 ({ frames := 1, cells := 0, slots := 0, locals := 48 } : Room) (PG D κ A S [.int x0]) (va_Qi Q (BG D κ A) A) 0 0 A := by
  refine gg_ofWF (cc := cJ6_bitCount_0f7a4) (maxL := 1) (ret := (some .int)) (by decide +kernel) rfl ?_
  intro p e s m args below meth c s₁ B hml hv
  obtain ⟨hargs, hA, hG, hK, hX⟩ := hv
  have hx := B.exec
  have hb := B.bytes
  have hr := B.returns
  have hts := atoms_spec (ws := wsJ6_bitCount_0f7a4) B.pre
  have hown : s.vm.findClass RJ6 = some m.cls := findClass_of_methodNamed B.named
  have hlocks := B.notSynchronized
  subst hargs
  clear B
  have hS : va_S A s.heap s.heap [] := va_S.rf
  have hl := lv_entry ([.int x0]) (n := 1) (Nat.le_of_ble_eq_true rfl)
  rw [lg_entry_eq]
  generalize (lg_sl ([.int x0]) ++ List.replicate (1 - (lg_sl ([.int x0])).length) Slot.unset).toArray = ls at hl ⊢
  have hl : lv_has ls 1 [(0, .int x0)] := hl
  have hG : GG D κ A S s.heap := hG
  refine lv_iload_n hx hb dJ6_bitCount_0f7a4_0 rfl (lv_at hl 0 rfl) ?_
  refine lv_iload_n hx hb dJ6_bitCount_0f7a4_1 rfl (lv_at hl 0 rfl) ?_
  refine lv_iconst (v := (1 : Int32)) hx hb dJ6_bitCount_0f7a4_2 (by decide) ?_
  refine lv_iushr (v := ((x0).toUInt32 >>> (((1 : Int32)).toUInt32 &&& Int32.toUInt32 31)).toInt32) hx hb dJ6_bitCount_0f7a4_3 rfl ?_
  refine lv_ldcw (v := (1431655765 : Int32)) hx hb hown (hts (.constant RJ6 265 (1431655765)) (List.mem_of_getElem? (i := 1) rfl)) dJ6_bitCount_0f7a4_4 ?_
  refine lv_iand hx hb dJ6_bitCount_0f7a4_7 ?_
  refine lv_isub hx hb dJ6_bitCount_0f7a4_8 ?_
  refine lv_topi (fun y1 ey1 => ?_)
  replace h := h y1 ey1
  refine lv_istore_n (lv' := [(0, .int y1)]) hx hb dJ6_bitCount_0f7a4_9 rfl hl (by decide) rfl (fun ls hl => ?_)
  refine lv_iload_n hx hb dJ6_bitCount_0f7a4_10 rfl (lv_at hl 0 rfl) ?_
  refine lv_ldcw (v := (858993459 : Int32)) hx hb hown (hts (.constant RJ6 266 (858993459)) (List.mem_of_getElem? (i := 2) rfl)) dJ6_bitCount_0f7a4_11 ?_
  refine lv_iand hx hb dJ6_bitCount_0f7a4_14 ?_
  refine lv_iload_n hx hb dJ6_bitCount_0f7a4_15 rfl (lv_at hl 0 rfl) ?_
  refine lv_iconst (v := (2 : Int32)) hx hb dJ6_bitCount_0f7a4_16 (by decide) ?_
  refine lv_iushr (v := ((y1).toUInt32 >>> (((2 : Int32)).toUInt32 &&& Int32.toUInt32 31)).toInt32) hx hb dJ6_bitCount_0f7a4_17 rfl ?_
  refine lv_ldcw (v := (858993459 : Int32)) hx hb hown (hts (.constant RJ6 266 (858993459)) (List.mem_of_getElem? (i := 2) rfl)) dJ6_bitCount_0f7a4_18 ?_
  refine lv_iand hx hb dJ6_bitCount_0f7a4_21 ?_
  refine lv_iadd hx hb dJ6_bitCount_0f7a4_22 ?_
  refine lv_topi (fun y2 ey2 => ?_)
  replace h := h y2 ey2
  refine lv_istore_n (lv' := [(0, .int y2)]) hx hb dJ6_bitCount_0f7a4_23 rfl hl (by decide) rfl (fun ls hl => ?_)
  refine lv_iload_n hx hb dJ6_bitCount_0f7a4_24 rfl (lv_at hl 0 rfl) ?_
  refine lv_iload_n hx hb dJ6_bitCount_0f7a4_25 rfl (lv_at hl 0 rfl) ?_
  refine lv_iconst (v := (4 : Int32)) hx hb dJ6_bitCount_0f7a4_26 (by decide) ?_
  refine lv_iushr (v := ((y2).toUInt32 >>> (((4 : Int32)).toUInt32 &&& Int32.toUInt32 31)).toInt32) hx hb dJ6_bitCount_0f7a4_27 rfl ?_
  refine lv_iadd hx hb dJ6_bitCount_0f7a4_28 ?_
  refine lv_ldcw (v := (252645135 : Int32)) hx hb hown (hts (.constant RJ6 267 (252645135)) (List.mem_of_getElem? (i := 3) rfl)) dJ6_bitCount_0f7a4_29 ?_
  refine lv_iand hx hb dJ6_bitCount_0f7a4_32 ?_
  refine lv_topi (fun y3 ey3 => ?_)
  replace h := h y3 ey3
  refine lv_istore_n (lv' := [(0, .int y3)]) hx hb dJ6_bitCount_0f7a4_33 rfl hl (by decide) rfl (fun ls hl => ?_)
  refine lv_iload_n hx hb dJ6_bitCount_0f7a4_34 rfl (lv_at hl 0 rfl) ?_
  refine lv_iload_n hx hb dJ6_bitCount_0f7a4_35 rfl (lv_at hl 0 rfl) ?_
  refine lv_bipush (v := (8 : Int32)) hx hb dJ6_bitCount_0f7a4_36 (by decide) ?_
  refine lv_iushr (v := ((y3).toUInt32 >>> (((8 : Int32)).toUInt32 &&& Int32.toUInt32 31)).toInt32) hx hb dJ6_bitCount_0f7a4_38 rfl ?_
  refine lv_iadd hx hb dJ6_bitCount_0f7a4_39 ?_
  refine lv_topi (fun y4 ey4 => ?_)
  replace h := h y4 ey4
  refine lv_istore_n (lv' := [(0, .int y4)]) hx hb dJ6_bitCount_0f7a4_40 rfl hl (by decide) rfl (fun ls hl => ?_)
  refine lv_iload_n hx hb dJ6_bitCount_0f7a4_41 rfl (lv_at hl 0 rfl) ?_
  refine lv_iload_n hx hb dJ6_bitCount_0f7a4_42 rfl (lv_at hl 0 rfl) ?_
  refine lv_bipush (v := (16 : Int32)) hx hb dJ6_bitCount_0f7a4_43 (by decide) ?_
  refine lv_iushr (v := ((y4).toUInt32 >>> (((16 : Int32)).toUInt32 &&& Int32.toUInt32 31)).toInt32) hx hb dJ6_bitCount_0f7a4_45 rfl ?_
  refine lv_iadd hx hb dJ6_bitCount_0f7a4_46 ?_
  refine lv_topi (fun y5 ey5 => ?_)
  replace h := h y5 ey5
  refine lv_istore_n (lv' := [(0, .int y5)]) hx hb dJ6_bitCount_0f7a4_47 rfl hl (by decide) rfl (fun ls hl => ?_)
  refine lv_iload_n hx hb dJ6_bitCount_0f7a4_48 rfl (lv_at hl 0 rfl) ?_
  refine lv_bipush (v := (63 : Int32)) hx hb dJ6_bitCount_0f7a4_49 (by decide) ?_
  refine lv_iand hx hb dJ6_bitCount_0f7a4_51 ?_
  exact W.iret hx hb hr (gr_i h hG hK hX hS) hS.2.2 dJ6_bitCount_0f7a4_52
set_option maxHeartbeats 4000000 in
set_option maxRecDepth 100000 in
theorem c_X0_liftsOf (l : Launch) (D : va_G) (κ : Nat → ClassId) (A : Nat → Prop) (S : Hp) (a0 : Nat) (x1 : Int32) (Q : Int32 → Hp → Prop) (h : wp_X0_liftsOf a0 x1 S Q) : Met l yX0_liftsOf wsX0_liftsOf ({ frames := 2, cells := 0, slots := 0, locals := 96 } : Room) (PG D κ A S [.ref a0, .int x1]) (va_Qi Q (BG D κ A) A) 0 0 A := by
  refine Met.ofW (cc := cX0_liftsOf) (maxL := 2) (ret := (some .int)) (by decide) rfl ?_
  intro p e s m args below meth c s₁ B hml hv
  obtain ⟨hargs, hA, hG, hK, hX⟩ := hv
  have hx := B.exec
  have hb := B.bytes
  have hr := B.returns
  have hts := atoms_spec (ws := wsX0_liftsOf) B.pre
  have hown : s.vm.findClass RX0 = some m.cls := findClass_of_methodNamed B.named
  have hlocks := B.notSynchronized
  subst hargs
  clear B
  have hS : va_S A s.heap s.heap [] := va_S.rf
  have hl := lv_entry ([.ref a0, .int x1]) (n := 2) (Nat.le_of_ble_eq_true rfl)
  rw [lg_entry_eq]
  generalize (lg_sl ([.ref a0, .int x1]) ++ List.replicate (2 - (lg_sl ([.ref a0, .int x1])).length) Slot.unset).toArray = ls at hl ⊢
  have hl : lv_has ls 2 [(0, .ref a0), (1, .int x1)] := hl
  have hG : GG D κ A S s.heap := hG
  refine lv_aload_n hx hb dX0_liftsOf_0 rfl (lv_at hl 0 rfl) ?_
  refine lv_iload_n hx hb dX0_liftsOf_1 rfl (lv_at hl 1 rfl) ?_
  have hk := h.1
  replace h := h.2
  refine gc_i (va_runV (As := [.int x1]) (rest := []) ⟨hx, hb, hml, hown, hts⟩ (c_X0_notOff l D κ A S a0 x1 _ h) (cwV 1 hts gX0_liftsOf_X0_notOff rfl rfl rfl (by decide +kernel) ⟨Nat.le_of_ble_eq_true rfl, Nat.le_of_ble_eq_true rfl⟩) (pg_V (q := (RX0, TX0, 5)) hK hX hG (pg_A hA hS) (kc_1 hk) rfl) rfl rfl hl.1 rfl (lv_room (Nat.le_of_ble_eq_true rfl)) dX0_liftsOf_2 ⟨Nat.le_of_ble_eq_true rfl, Nat.le_of_ble_eq_true rfl⟩) hS (fun z3 S2 H locs1 h hG hS => ?_)
  refine gc_i (va_runS (As := [.int z3]) (rest := []) ⟨hx, hb, hml, hown, hts⟩ (c_J6_bitCount_0f7a4 l D κ A S2 z3 _ h) (va_cwS 1 hts gX0_liftsOf_J6_bitCount_0f7a4 rfl rfl rfl (by decide +kernel) ⟨Nat.le_of_ble_eq_true rfl, Nat.le_of_ble_eq_true rfl⟩) (pg_S hK hX hG (pg_A hA hS)) rfl rfl hl.1 rfl (lv_room (Nat.le_of_ble_eq_true rfl)) dX0_liftsOf_5 ⟨Nat.le_of_ble_eq_true rfl, Nat.le_of_ble_eq_true rfl⟩) hS (fun z6 S5 H locs4 h hG hS => ?_)
  exact W.iret hx hb hr (gr_i h hG hK hX hS) hS.2.2 dX0_liftsOf_8
set_option maxHeartbeats 4000000 in
set_option maxRecDepth 100000 in
theorem c_X0_sideOf (l : Launch) (D : va_G) (κ : Nat → ClassId) (A : Nat → Prop) (S : Hp) (a0 : Nat) (x1 : Int32) (x2 : Int32) (Q : Int32 → Hp → Prop) (h : wp_X0_sideOf a0 x1 x2 S Q) : Met l yX0_sideOf wsX0_sideOf ({ frames := 1, cells := 0, slots := 0, locals := 48 } : Room) (PG D κ A S [.ref a0, .int x1, .int x2]) (va_Qi Q (BG D κ A) A) 0 0 A := by
  refine Met.ofW (cc := cX0_sideOf) (maxL := 3) (ret := (some .int)) (by decide) rfl ?_
  intro p e s m args below meth c s₁ B hml hv
  obtain ⟨hargs, hA, hG, hK, hX⟩ := hv
  have hx := B.exec
  have hb := B.bytes
  have hr := B.returns
  have hts := atoms_spec (ws := wsX0_sideOf) B.pre
  have hown : s.vm.findClass RX0 = some m.cls := findClass_of_methodNamed B.named
  have hlocks := B.notSynchronized
  subst hargs
  clear B
  have hS : va_S A s.heap s.heap [] := va_S.rf
  have hl := lv_entry ([.ref a0, .int x1, .int x2]) (n := 3) (Nat.le_of_ble_eq_true rfl)
  rw [lg_entry_eq]
  generalize (lg_sl ([.ref a0, .int x1, .int x2]) ++ List.replicate (3 - (lg_sl ([.ref a0, .int x1, .int x2])).length) Slot.unset).toArray = ls at hl ⊢
  have hl : lv_has ls 3 [(0, .ref a0), (1, .int x1), (2, .int x2)] := hl
  have hG : GG D κ A S s.heap := hG
  refine lv_aload_n hx hb dX0_sideOf_0 rfl (lv_at hl 0 rfl) ?_
  have hk := h.1
  replace h := h.2
  obtain ⟨r1, hr1, h⟩ := h
  refine gg_get (v := .ref r1) (ci := 0) (C := RX0) (T := TX0) (N := 5) hx hb hts (fun _ h => List.mem_cons_of_mem _ (List.mem_append_right _ (h))) hown hK hG (kc_1 hk) rfl 2 (by decide) (hts (.fieldLink RX0 18 "FourStones$Lyings" "rightStones" "[I") (List.mem_of_getElem? (i := 1) rfl)) (fun _ h9 => h9) (congrArg (fun z => some (va_rf z)) hr1) dX0_sideOf_1 ?_
  refine lv_iload_n hx hb dX0_sideOf_4 rfl (lv_at hl 1 rfl) ?_
  have hk := h.1
  replace h := h.2
  have hi := h.1
  replace h := h.2
  refine gg_iald hx hb hK hG hk hi dX0_sideOf_5 ?_
  refine lv_iload_n hx hb dX0_sideOf_6 rfl (lv_at hl 2 rfl) ?_
  refine lv_ishr hx hb dX0_sideOf_7 ?_
  refine lv_iconst (v := (1 : Int32)) hx hb dX0_sideOf_8 (by decide) ?_
  refine lv_iand hx hb dX0_sideOf_9 ?_
  refine lv_aload_n hx hb dX0_sideOf_10 rfl (lv_at hl 0 rfl) ?_
  have hk := h.1
  replace h := h.2
  obtain ⟨r2, hr2, h⟩ := h
  refine gg_get (v := .ref r2) (ci := 0) (C := RX0) (T := TX0) (N := 5) hx hb hts (fun _ h => List.mem_cons_of_mem _ (List.mem_append_right _ (h))) hown hK hG (kc_1 hk) rfl 3 (by decide) (hts (.fieldLink RX0 21 "FourStones$Lyings" "leftStones" "[I") (List.mem_of_getElem? (i := 2) rfl)) (fun _ h9 => h9) (congrArg (fun z => some (va_rf z)) hr2) dX0_sideOf_11 ?_
  refine lv_iload_n hx hb dX0_sideOf_14 rfl (lv_at hl 1 rfl) ?_
  have hk := h.1
  replace h := h.2
  have hi := h.1
  replace h := h.2
  refine gg_iald hx hb hK hG hk hi dX0_sideOf_15 ?_
  refine lv_iload_n hx hb dX0_sideOf_16 rfl (lv_at hl 2 rfl) ?_
  refine lv_ishr hx hb dX0_sideOf_17 ?_
  refine lv_iconst (v := (1 : Int32)) hx hb dX0_sideOf_18 (by decide) ?_
  refine lv_iand hx hb dX0_sideOf_19 ?_
  refine lv_isub hx hb dX0_sideOf_20 ?_
  exact W.iret hx hb hr (gr_i h hG hK hX hS) hS.2.2 dX0_sideOf_21
set_option maxHeartbeats 4000000 in
set_option maxRecDepth 100000 in
theorem c_X1_init (l : Launch) (D : va_G) (κ : Nat → ClassId) (A : Nat → Prop) (S : Hp) (a0 : Nat) (x1 : Int32) (x2 : Int32) (Q : Hp → Prop) (h : wp_X1_init a0 x1 x2 S Q) : Met l yX1_init wsX1_init ({ frames := 2, cells := 1, slots := 100, locals := 96 } : Room) (PG D κ A S [.ref a0, .int x1, .int x2]) (va_Qv Q (BG D κ A) A) 1 100 A := by
  refine Met.ofW (cc := cX1_init) (maxL := 3) (ret := none) (by decide) rfl ?_
  intro p e s m args below meth c s₁ B hml hv
  obtain ⟨hargs, hA, hG, hK, hX⟩ := hv
  have hx := B.exec
  have hb := B.bytes
  have hr := B.returns
  have hts := atoms_spec (ws := wsX1_init) B.pre
  have hown : s.vm.findClass RX1 = some m.cls := findClass_of_methodNamed B.named
  have hlocks := B.notSynchronized
  have hin : meth.name = "<init>" := (name_of_methodNamed B.named B.method).1
  subst hargs
  clear B
  have hS : va_S A s.heap s.heap [] := va_S.rf
  have hl := lv_entry ([.ref a0, .int x1, .int x2]) (n := 3) (Nat.le_of_ble_eq_true rfl)
  rw [lg_entry_eq]
  generalize (lg_sl ([.ref a0, .int x1, .int x2]) ++ List.replicate (3 - (lg_sl ([.ref a0, .int x1, .int x2])).length) Slot.unset).toArray = ls at hl ⊢
  have hl : lv_has ls 3 [(0, .ref a0), (1, .int x1), (2, .int x2)] := hl
  have hG : GG D κ A S s.heap := hG
  refine lv_aload_n hx hb dX1_init_0 rfl (lv_at hl 0 rfl) ?_
  refine W.objInit hx hb hown (hts (.methodLink RX1 3 objectInit) (List.mem_of_getElem? (i := 1) rfl)) (hts (.instanceMethod objectInit) (List.mem_of_getElem? (i := 2) rfl)) (hts _ (List.mem_of_getElem? (i := 3) rfl)) rfl (by rw [hml]; exact hl.1) rfl dX1_init_1 (Nat.le_of_ble_eq_true rfl) (Nat.le_of_ble_eq_true rfl) ?_
  refine W.eq (g2 := F0 m 4 ls []) rfl ?_
  refine lv_aload_n hx hb dX1_init_4 rfl (lv_at hl 0 rfl) ?_
  refine lv_iload_n hx hb dX1_init_5 rfl (lv_at hl 1 rfl) ?_
  have hk := h.1
  replace h := h.2
  obtain ⟨S2, eS2⟩ : ∃ z, z = sI S 10 a0 x1 := ⟨_, rfl⟩
  replace h := h S2 eS2
  refine gg_putF (ci := 1) (C := RX1) (T := TX1) (N := 2) hx hb hts (fun _ h => List.mem_cons_of_mem _ (List.mem_append_right _ (h))) tyX1 tyX1_ok nmX1 hown hK hG hS (kc_2 hk) rfl 0 (by decide) (hts (.fieldLink RX1 9 "FourStones$Row" "sort" "I") (List.mem_of_getElem? (i := 4) rfl)) (fun _ h9 => h9) rfl hin rfl (tyX1_ok 0 (by decide)) rfl rfl (Nat.le_of_ble_eq_true rfl) dX1_init_6 (S' := S2) (fun b hb9 => by rw [eS2]; exact cO_sI hb9) (by rw [eS2]; exact cs_10 hk) (fun H locs3 hG hS => ?_)
  refine lv_aload_n hx hb dX1_init_9 rfl (lv_at hl 0 rfl) ?_
  refine lv_iload_n hx hb dX1_init_10 rfl (lv_at hl 2 rfl) ?_
  have hcap := h.1
  replace h := h.2
  refine gg_newi (N' := (x2).toNatClampNeg) hx hb (hts (.arrayClass .int) (List.mem_of_getElem? (i := 5) rfl)) hK hG hS hA hcap.1 rfl (by omega) (by show _ ≤ 1; omega) (by show _ ≤ 100; omega) dX1_init_11 (fun q4 H hq4 hG hS => ?_)
  obtain ⟨S5, eS5⟩ : ∃ z, z = nA S2 q4 8 (x2).toNatClampNeg := ⟨_, rfl⟩
  replace h := h q4 hq4 S5 eS5
  rw [← eS5] at hG
  have hk := h.1
  replace h := h.2
  obtain ⟨S6, eS6⟩ : ∃ z, z = sR S5 11 a0 (some q4) := ⟨_, rfl⟩
  replace h := h S6 eS6
  refine gg_putF (ci := 1) (C := RX1) (T := TX1) (N := 2) hx hb hts (fun _ h => List.mem_cons_of_mem _ (List.mem_append_right _ (h))) tyX1 tyX1_ok nmX1 hown hK hG hS (kc_2 hk) rfl 1 (by decide) (hts (.fieldLink RX1 15 "FourStones$Row" "cells" "[I") (List.mem_of_getElem? (i := 6) rfl)) (fun _ h9 => h9) rfl hin rfl (tyX1_ok 1 (by decide)) rfl rfl (Nat.le_of_ble_eq_true rfl) dX1_init_13 (S' := S6) (fun b hb9 => by rw [eS6]; exact cO_sR hb9) (by rw [eS6]; exact cs_11 hk) (fun H locs7 hG hS => ?_)
  refine W.widen (k := 1) (n := 100) (by omega) (by omega) ?_
  exact W.vret hx hb hr (gr_v h hG hK hX hS) hS.2.2 dX1_init_16
set_option maxHeartbeats 4000000 in
set_option maxRecDepth 100000 in
theorem c_X1_isPlace (l : Launch) (D : va_G) (κ : Nat → ClassId) (A : Nat → Prop) (S : Hp) (a0 : Nat) (x1 : Int32) (Q : Int32 → Hp → Prop) (h : wp_X1_isPlace a0 x1 S Q) : Met l yX1_isPlace wsX1_isPlace ({ frames := 1, cells := 0, slots := 0, locals := 48 } : Room) (PG D κ A S [.ref a0, .int x1]) (va_Qi Q (BG D κ A) A) 0 0 A := by
  refine Met.ofW (cc := cX1_isPlace) (maxL := 2) (ret := (some .boolean)) (by decide) rfl ?_
  intro p e s m args below meth c s₁ B hml hv
  obtain ⟨hargs, hA, hG, hK, hX⟩ := hv
  have hx := B.exec
  have hb := B.bytes
  have hr := B.returns
  have hts := atoms_spec (ws := wsX1_isPlace) B.pre
  have hown : s.vm.findClass RX1 = some m.cls := findClass_of_methodNamed B.named
  have hlocks := B.notSynchronized
  subst hargs
  clear B
  have hS : va_S A s.heap s.heap [] := va_S.rf
  have hl := lv_entry ([.ref a0, .int x1]) (n := 2) (Nat.le_of_ble_eq_true rfl)
  rw [lg_entry_eq]
  generalize (lg_sl ([.ref a0, .int x1]) ++ List.replicate (2 - (lg_sl ([.ref a0, .int x1])).length) Slot.unset).toArray = ls at hl ⊢
  have hl : lv_has ls 2 [(0, .ref a0), (1, .int x1)] := hl
  have hG : GG D κ A S s.heap := hG
  refine lv_iload_n hx hb dX1_isPlace_0 rfl (lv_at hl 1 rfl) ?_
  refine lv_if_lt (tgt := 17) hx hb dX1_isPlace_1 rfl (fun hc => ?_) (fun hc => ?_)
  · replace h := h.1 hc
    refine lv_iconst (v := (0 : Int32)) hx hb dX1_isPlace_17 (by decide) ?_
    exact W.zret (ty := .boolean) hx hb hr (by decide) (gr_i h hG hK hX hS) hS.2.2 dX1_isPlace_18
  · replace h := h.2 hc
    refine lv_iload_n hx hb dX1_isPlace_4 rfl (lv_at hl 1 rfl) ?_
    refine lv_aload_n hx hb dX1_isPlace_5 rfl (lv_at hl 0 rfl) ?_
    have hk := h.1
    replace h := h.2
    obtain ⟨r1, hr1, h⟩ := h
    refine gg_get (v := .ref r1) (ci := 1) (C := RX1) (T := TX1) (N := 2) hx hb hts (fun _ h => List.mem_cons_of_mem _ (List.mem_append_right _ (h))) hown hK hG (kc_2 hk) rfl 1 (by decide) (hts (.fieldLink RX1 15 "FourStones$Row" "cells" "[I") (List.mem_of_getElem? (i := 1) rfl)) (fun _ h9 => h9) (congrArg (fun z => some (va_rf z)) hr1) dX1_isPlace_6 ?_
    have hk := h.1
    replace h := h.2
    refine gg_alen8 hx hb hK hG hk dX1_isPlace_9 ?_
    refine lv_icmp_ge (tgt := 17) hx hb dX1_isPlace_10 rfl (fun hc => ?_) (fun hc => ?_)
    · replace h := h.1 hc
      refine lv_iconst (v := (0 : Int32)) hx hb dX1_isPlace_17 (by decide) ?_
      exact W.zret (ty := .boolean) hx hb hr (by decide) (gr_i h hG hK hX hS) hS.2.2 dX1_isPlace_18
    · replace h := h.2 hc
      refine lv_iconst (v := (1 : Int32)) hx hb dX1_isPlace_13 (by decide) ?_
      refine lv_goto (tgt := 18) hx hb dX1_isPlace_14 rfl ?_
      exact W.zret (ty := .boolean) hx hb hr (by decide) (gr_i h hG hK hX hS) hS.2.2 dX1_isPlace_18
set_option maxHeartbeats 4000000 in
set_option maxRecDepth 100000 in
theorem c_X1_isStretch (l : Launch) (D : va_G) (κ : Nat → ClassId) (A : Nat → Prop) (S : Hp) (a0 : Nat) (x1 : Int32) (x2 : Int32) (Q : Int32 → Hp → Prop) (h : wp_X1_isStretch a0 x1 x2 S Q) : Met l yX1_isStretch wsX1_isStretch ({ frames := 1, cells := 0, slots := 0, locals := 48 } : Room) (PG D κ A S [.ref a0, .int x1, .int x2]) (va_Qi Q (BG D κ A) A) 0 0 A := by
  refine Met.ofW (cc := cX1_isStretch) (maxL := 3) (ret := (some .boolean)) (by decide) rfl ?_
  intro p e s m args below meth c s₁ B hml hv
  obtain ⟨hargs, hA, hG, hK, hX⟩ := hv
  have hx := B.exec
  have hb := B.bytes
  have hr := B.returns
  have hts := atoms_spec (ws := wsX1_isStretch) B.pre
  have hown : s.vm.findClass RX1 = some m.cls := findClass_of_methodNamed B.named
  have hlocks := B.notSynchronized
  subst hargs
  clear B
  have hS : va_S A s.heap s.heap [] := va_S.rf
  have hl := lv_entry ([.ref a0, .int x1, .int x2]) (n := 3) (Nat.le_of_ble_eq_true rfl)
  rw [lg_entry_eq]
  generalize (lg_sl ([.ref a0, .int x1, .int x2]) ++ List.replicate (3 - (lg_sl ([.ref a0, .int x1, .int x2])).length) Slot.unset).toArray = ls at hl ⊢
  have hl : lv_has ls 3 [(0, .ref a0), (1, .int x1), (2, .int x2)] := hl
  have hG : GG D κ A S s.heap := hG
  refine lv_iload_n hx hb dX1_isStretch_0 rfl (lv_at hl 1 rfl) ?_
  refine lv_if_lt (tgt := 32) hx hb dX1_isStretch_1 rfl (fun hc => ?_) (fun hc => ?_)
  · replace h := h.1 hc
    refine lv_iconst (v := (0 : Int32)) hx hb dX1_isStretch_32 (by decide) ?_
    exact W.zret (ty := .boolean) hx hb hr (by decide) (gr_i h hG hK hX hS) hS.2.2 dX1_isStretch_33
  · replace h := h.2 hc
    refine lv_iload_n hx hb dX1_isStretch_4 rfl (lv_at hl 1 rfl) ?_
    refine lv_aload_n hx hb dX1_isStretch_5 rfl (lv_at hl 0 rfl) ?_
    have hk := h.1
    replace h := h.2
    obtain ⟨r1, hr1, h⟩ := h
    refine gg_get (v := .ref r1) (ci := 1) (C := RX1) (T := TX1) (N := 2) hx hb hts (fun _ h => List.mem_cons_of_mem _ (List.mem_append_right _ (h))) hown hK hG (kc_2 hk) rfl 1 (by decide) (hts (.fieldLink RX1 15 "FourStones$Row" "cells" "[I") (List.mem_of_getElem? (i := 1) rfl)) (fun _ h9 => h9) (congrArg (fun z => some (va_rf z)) hr1) dX1_isStretch_6 ?_
    have hk := h.1
    replace h := h.2
    refine gg_alen8 hx hb hK hG hk dX1_isStretch_9 ?_
    refine lv_icmp_gt (tgt := 32) hx hb dX1_isStretch_10 rfl (fun hc => ?_) (fun hc => ?_)
    · replace h := h.1 hc
      refine lv_iconst (v := (0 : Int32)) hx hb dX1_isStretch_32 (by decide) ?_
      exact W.zret (ty := .boolean) hx hb hr (by decide) (gr_i h hG hK hX hS) hS.2.2 dX1_isStretch_33
    · replace h := h.2 hc
      refine lv_iload_n hx hb dX1_isStretch_13 rfl (lv_at hl 2 rfl) ?_
      refine lv_if_lt (tgt := 32) hx hb dX1_isStretch_14 rfl (fun hc => ?_) (fun hc => ?_)
      · replace h := h.1 hc
        refine lv_iconst (v := (0 : Int32)) hx hb dX1_isStretch_32 (by decide) ?_
        exact W.zret (ty := .boolean) hx hb hr (by decide) (gr_i h hG hK hX hS) hS.2.2 dX1_isStretch_33
      · replace h := h.2 hc
        refine lv_iload_n hx hb dX1_isStretch_17 rfl (lv_at hl 2 rfl) ?_
        refine lv_aload_n hx hb dX1_isStretch_18 rfl (lv_at hl 0 rfl) ?_
        have hk := h.1
        replace h := h.2
        obtain ⟨r2, hr2, h⟩ := h
        refine gg_get (v := .ref r2) (ci := 1) (C := RX1) (T := TX1) (N := 2) hx hb hts (fun _ h => List.mem_cons_of_mem _ (List.mem_append_right _ (h))) hown hK hG (kc_2 hk) rfl 1 (by decide) (hts (.fieldLink RX1 15 "FourStones$Row" "cells" "[I") (List.mem_of_getElem? (i := 1) rfl)) (fun _ h9 => h9) (congrArg (fun z => some (va_rf z)) hr2) dX1_isStretch_19 ?_
        have hk := h.1
        replace h := h.2
        refine gg_alen8 hx hb hK hG hk dX1_isStretch_22 ?_
        refine lv_iload_n hx hb dX1_isStretch_23 rfl (lv_at hl 1 rfl) ?_
        refine lv_isub hx hb dX1_isStretch_24 ?_
        refine lv_icmp_gt (tgt := 32) hx hb dX1_isStretch_25 rfl (fun hc => ?_) (fun hc => ?_)
        · replace h := h.1 hc
          refine lv_iconst (v := (0 : Int32)) hx hb dX1_isStretch_32 (by decide) ?_
          exact W.zret (ty := .boolean) hx hb hr (by decide) (gr_i h hG hK hX hS) hS.2.2 dX1_isStretch_33
        · replace h := h.2 hc
          refine lv_iconst (v := (1 : Int32)) hx hb dX1_isStretch_28 (by decide) ?_
          refine lv_goto (tgt := 33) hx hb dX1_isStretch_29 rfl ?_
          exact W.zret (ty := .boolean) hx hb hr (by decide) (gr_i h hG hK hX hS) hS.2.2 dX1_isStretch_33
set_option maxHeartbeats 4000000 in
set_option maxRecDepth 100000 in
theorem c_X1_lowestBits (l : Launch) (D : va_G) (κ : Nat → ClassId) (A : Nat → Prop) (S : Hp) (a0 : Nat) (x1 : Int32) (Q : Int32 → Hp → Prop) (h : wp_X1_lowestBits a0 x1 S Q) : Met l yX1_lowestBits wsX1_lowestBits ({ frames := 1, cells := 0, slots := 0, locals := 48 } : Room) (PG D κ A S [.ref a0, .int x1]) (va_Qi Q (BG D κ A) A) 0 0 A := by
  refine Met.ofW (cc := cX1_lowestBits) (maxL := 2) (ret := (some .int)) (by decide) rfl ?_
  intro p e s m args below meth c s₁ B hml hv
  obtain ⟨hargs, hA, hG, hK, hX⟩ := hv
  have hx := B.exec
  have hb := B.bytes
  have hr := B.returns
  have hts := atoms_spec (ws := wsX1_lowestBits) B.pre
  have hown : s.vm.findClass RX1 = some m.cls := findClass_of_methodNamed B.named
  have hlocks := B.notSynchronized
  subst hargs
  clear B
  have hS : va_S A s.heap s.heap [] := va_S.rf
  have hl := lv_entry ([.ref a0, .int x1]) (n := 2) (Nat.le_of_ble_eq_true rfl)
  rw [lg_entry_eq]
  generalize (lg_sl ([.ref a0, .int x1]) ++ List.replicate (2 - (lg_sl ([.ref a0, .int x1])).length) Slot.unset).toArray = ls at hl ⊢
  have hl : lv_has ls 2 [(0, .ref a0), (1, .int x1)] := hl
  have hG : GG D κ A S s.heap := hG
  refine lv_aload_n hx hb dX1_lowestBits_0 rfl (lv_at hl 0 rfl) ?_
  have hk := h.1
  replace h := h.2
  refine gg_get (ci := 1) (C := RX1) (T := TX1) (N := 2) hx hb hts (fun _ h => List.mem_cons_of_mem _ (List.mem_append_right _ (h))) hown hK hG (kc_2 hk) rfl 0 (by decide) (hts (.fieldLink RX1 9 "FourStones$Row" "sort" "I") (List.mem_of_getElem? (i := 1) rfl)) (fun _ h9 => h9) rfl dX1_lowestBits_1 ?_
  by_cases hc0 : ((gI S 10 a0)).toInt = 0
  · replace h := h.1 hc0
    refine lv_lookup (off := 28) (tgt := 32) hx hb dX1_lowestBits_4 (by decide) (by rw [hc0]; rfl) rfl ?_
    refine lv_iload_n hx hb dX1_lowestBits_32 rfl (lv_at hl 1 rfl) ?_
    refine lv_i2b (v := (x1).toInt8.toInt32) hx hb dX1_lowestBits_33 rfl ?_
    exact W.iret hx hb hr (gr_i h hG hK hX hS) hS.2.2 dX1_lowestBits_34
  ·
    by_cases hc1 : ((gI S 10 a0)).toInt = 1
    · replace h := h.2.1 hc1
      refine lv_lookup (off := 31) (tgt := 35) hx hb dX1_lowestBits_4 (by decide) (by rw [hc1]; rfl) rfl ?_
      refine lv_iload_n hx hb dX1_lowestBits_35 rfl (lv_at hl 1 rfl) ?_
      refine lv_i2s (v := (x1).toInt16.toInt32) hx hb dX1_lowestBits_36 rfl ?_
      exact W.iret hx hb hr (gr_i h hG hK hX hS) hS.2.2 dX1_lowestBits_37
    ·
      replace h := h.2.2 ⟨hc0, hc1⟩
      refine lv_lookup (off := 34) (tgt := 38) hx hb dX1_lowestBits_4 (by decide) (by simp [Op.lookupswitch.offset, hc0, Ne.symm hc0, hc1, Ne.symm hc1]) rfl ?_
      refine lv_iload_n hx hb dX1_lowestBits_38 rfl (lv_at hl 1 rfl) ?_
      exact W.iret hx hb hr (gr_i h hG hK hX hS) hS.2.2 dX1_lowestBits_39
set_option maxHeartbeats 4000000 in
set_option maxRecDepth 100000 in
theorem c_X1_placesOf (l : Launch) (D : va_G) (κ : Nat → ClassId) (A : Nat → Prop) (S : Hp) (a0 : Nat) (x1 : Int32) (Q : Int32 → Hp → Prop) (h : wp_X1_placesOf a0 x1 S Q) : Met l yX1_placesOf wsX1_placesOf ({ frames := 1, cells := 0, slots := 0, locals := 48 } : Room) (PG D κ A S [.ref a0, .int x1]) (va_Qi Q (BG D κ A) A) 0 0 A := by
  refine Met.ofW (cc := cX1_placesOf) (maxL := 4) (ret := (some .int)) (by decide) rfl ?_
  intro p e s m args below meth c s₁ B hml hv
  obtain ⟨hargs, hA, hG, hK, hX⟩ := hv
  have hx := B.exec
  have hb := B.bytes
  have hr := B.returns
  have hts := atoms_spec (ws := wsX1_placesOf) B.pre
  have hown : s.vm.findClass RX1 = some m.cls := findClass_of_methodNamed B.named
  have hlocks := B.notSynchronized
  subst hargs
  clear B
  have hS : va_S A s.heap s.heap [] := va_S.rf
  have hl := lv_entry ([.ref a0, .int x1]) (n := 4) (Nat.le_of_ble_eq_true rfl)
  rw [lg_entry_eq]
  generalize (lg_sl ([.ref a0, .int x1]) ++ List.replicate (4 - (lg_sl ([.ref a0, .int x1])).length) Slot.unset).toArray = ls at hl ⊢
  have hl : lv_has ls 4 [(0, .ref a0), (1, .int x1)] := hl
  have hG : GG D κ A S s.heap := hG
  have j_29 : ∀ (C4 : Nat × Int32 × Int32 × Int32 × Hp → Prop) (hC4 : ∀ (v0 : Nat) (v1 : Int32) (v2 : Int32) (v3 : Int32) (S : Hp) (ls : Array Slot) (H : Heap) (locs : List Loc), lv_has ls 4 [(0, .ref v0), (1, .int v1), (2, .int v2), (3, .int v3)] → GG D κ A S H → va_S A s.heap H locs → C4 (v0, v1, v2, v3, S) → W p l e ({ frames := 1, cells := 0, slots := 0, locals := 48 } : Room) s m ([.ref a0, .int x1] : List Value).toArray below meth c H locs 0 0 (MQ below (va_Qi Q (BG D κ A) A) ([.ref a0, .int x1] : List Value).toArray s 0 0 A) (F0 m 4 ls [])) (v0 : Nat) (v1 : Int32) (v2 : Int32) (v3 : Int32) (S : Hp) (ls : Array Slot) (H : Heap) (locs : List Loc), lv_has ls 4 [(0, .ref v0), (1, .int v1), (2, .int v2), (3, .int v3)] → GG D κ A S H → va_S A s.heap H locs → J_X1_placesOf_29 C4 Q v0 v1 v2 v3 S → W p l e ({ frames := 1, cells := 0, slots := 0, locals := 48 } : Room) s m ([.ref a0, .int x1] : List Value).toArray below meth c H locs 0 0 (MQ below (va_Qi Q (BG D κ A) A) ([.ref a0, .int x1] : List Value).toArray s 0 0 A) (F0 m 29 ls []) := by
    intro C4 hC4 v0 v1 v2 v3 S ls H locs hl hG hS h
    unfold J_X1_placesOf_29 at h
    obtain ⟨y1, ey1⟩ : ∃ z, z = v3 + (1 : Int32) := ⟨_, rfl⟩
    replace h := h y1 ey1
    refine lv_iinc (v := y1) (lv' := [(3, .int y1), (0, .ref v0), (1, .int v1), (2, .int v2)]) hx hb dX1_placesOf_29 hl (k := 3) rfl (by rw [ey1]; rfl) (by decide) rfl (fun ls hl => ?_)
    refine lv_goto (tgt := 4) hx hb dX1_placesOf_32 rfl ?_
    exact hC4 v0 v1 v2 y1 S ls _ _ (lv_sub hl [1, 2, 3, 0] rfl) hG hS h
  have k_4 : ∀  (n : Nat), ∀ (v0 : Nat) (v1 : Int32) (v2 : Int32) (v3 : Int32) (S : Hp) (ls : Array Slot) (H : Heap) (locs : List Loc), lv_has ls 4 [(0, .ref v0), (1, .int v1), (2, .int v2), (3, .int v3)] → GG D κ A S H → va_S A s.heap H locs → it (L_X1_placesOf_4  Q) n (v0, v1, v2, v3, S) → W p l e ({ frames := 1, cells := 0, slots := 0, locals := 48 } : Room) s m ([.ref a0, .int x1] : List Value).toArray below meth c H locs 0 0 (MQ below (va_Qi Q (BG D κ A) A) ([.ref a0, .int x1] : List Value).toArray s 0 0 A) (F0 m 4 ls []) := by
    intro  n
    induction n with
    | zero => intro v0 v1 v2 v3 S ls H locs hl hG hS h; exact False.elim h
    | succ n hC4 =>
      intro v0 v1 v2 v3 S ls H locs hl hG hS h
      replace h : L_X1_placesOf_4  Q (it (L_X1_placesOf_4  Q) n) (v0, v1, v2, v3, S) := h
      simp only [L_X1_placesOf_4] at h
      refine lv_iload_n hx hb dX1_placesOf_4 rfl (lv_at hl 3 rfl) ?_
      refine lv_aload_n hx hb dX1_placesOf_5 rfl (lv_at hl 0 rfl) ?_
      have hk := h.1
      replace h := h.2
      obtain ⟨r1, hr1, h⟩ := h
      refine gg_get (v := .ref r1) (ci := 1) (C := RX1) (T := TX1) (N := 2) hx hb hts (fun _ h => List.mem_cons_of_mem _ (List.mem_append_right _ (h))) hown hK hG (kc_2 hk) rfl 1 (by decide) (hts (.fieldLink RX1 15 "FourStones$Row" "cells" "[I") (List.mem_of_getElem? (i := 1) rfl)) (fun _ h9 => h9) (congrArg (fun z => some (va_rf z)) hr1) dX1_placesOf_6 ?_
      have hk := h.1
      replace h := h.2
      refine gg_alen8 hx hb hK hG hk dX1_placesOf_9 ?_
      refine lv_icmp_ge (tgt := 35) hx hb dX1_placesOf_10 rfl (fun hc => ?_) (fun hc => ?_)
      · replace h := h.1 hc
        refine lv_iload_n hx hb dX1_placesOf_35 rfl (lv_at hl 2 rfl) ?_
        exact W.iret hx hb hr (gr_i h hG hK hX hS) hS.2.2 dX1_placesOf_36
      · replace h := h.2 hc
        refine lv_aload_n hx hb dX1_placesOf_13 rfl (lv_at hl 0 rfl) ?_
        have hk := h.1
        replace h := h.2
        obtain ⟨r2, hr2, h⟩ := h
        refine gg_get (v := .ref r2) (ci := 1) (C := RX1) (T := TX1) (N := 2) hx hb hts (fun _ h => List.mem_cons_of_mem _ (List.mem_append_right _ (h))) hown hK hG (kc_2 hk) rfl 1 (by decide) (hts (.fieldLink RX1 15 "FourStones$Row" "cells" "[I") (List.mem_of_getElem? (i := 1) rfl)) (fun _ h9 => h9) (congrArg (fun z => some (va_rf z)) hr2) dX1_placesOf_14 ?_
        refine lv_iload_n hx hb dX1_placesOf_17 rfl (lv_at hl 3 rfl) ?_
        have hk := h.1
        replace h := h.2
        have hi := h.1
        replace h := h.2
        refine gg_iald hx hb hK hG hk hi dX1_placesOf_18 ?_
        refine lv_iload_n hx hb dX1_placesOf_19 rfl (lv_at hl 1 rfl) ?_
        refine lv_icmp_ne (tgt := 29) hx hb dX1_placesOf_20 rfl (fun hc => ?_) (fun hc => ?_)
        · replace h := h.1 hc
          exact j_29 _ hC4 v0 v1 v2 v3 S ls _ _ (lv_sub hl [0, 1, 2, 3] rfl) hG hS h
        · replace h := h.2 hc
          refine lv_iload_n hx hb dX1_placesOf_23 rfl (lv_at hl 2 rfl) ?_
          refine lv_iconst (v := (1 : Int32)) hx hb dX1_placesOf_24 (by decide) ?_
          refine lv_iload_n hx hb dX1_placesOf_25 rfl (lv_at hl 3 rfl) ?_
          refine lv_ishl hx hb dX1_placesOf_26 ?_
          refine lv_ior hx hb dX1_placesOf_27 ?_
          refine lv_topi (fun y3 ey3 => ?_)
          replace h := h y3 ey3
          refine lv_istore_n (lv' := [(2, .int y3), (0, .ref v0), (1, .int v1), (3, .int v3)]) hx hb dX1_placesOf_28 rfl hl (by decide) rfl (fun ls hl => ?_)
          exact j_29 _ hC4 v0 v1 y3 v3 S ls _ _ (lv_sub hl [1, 2, 0, 3] rfl) hG hS h
  refine lv_iconst (v := (0 : Int32)) hx hb dX1_placesOf_0 (by decide) ?_
  refine lv_istore_n (lv' := [(2, .int (0 : Int32)), (0, .ref a0), (1, .int x1)]) hx hb dX1_placesOf_1 rfl hl (by decide) rfl (fun ls hl => ?_)
  refine lv_iconst (v := (0 : Int32)) hx hb dX1_placesOf_2 (by decide) ?_
  refine lv_istore_n (lv' := [(3, .int (0 : Int32)), (2, .int (0 : Int32)), (0, .ref a0), (1, .int x1)]) hx hb dX1_placesOf_3 rfl hl (by decide) rfl (fun ls hl => ?_)
  obtain ⟨nn, h⟩ := h
  exact k_4  nn a0 x1 (0 : Int32) (0 : Int32) S ls _ _ (lv_sub hl [2, 3, 1, 0] rfl) hG hS h
set_option maxHeartbeats 4000000 in
set_option maxRecDepth 100000 in
theorem c_X2_init (l : Launch) (D : va_G) (κ : Nat → ClassId) (A : Nat → Prop) (S : Hp) (a0 : Nat) (x1 : Int32) (x2 : Int32) (Q : Hp → Prop) (h : wp_X2_init a0 x1 x2 S Q) : Met l yX2_init wsX2_init ({ frames := 2, cells := 0, slots := 0, locals := 96 } : Room) (PG D κ A S [.ref a0, .int x1, .int x2]) (va_Qv Q (BG D κ A) A) 0 0 A := by
  refine Met.ofW (cc := cX2_init) (maxL := 3) (ret := none) (by decide) rfl ?_
  intro p e s m args below meth c s₁ B hml hv
  obtain ⟨hargs, hA, hG, hK, hX⟩ := hv
  have hx := B.exec
  have hb := B.bytes
  have hr := B.returns
  have hts := atoms_spec (ws := wsX2_init) B.pre
  have hown : s.vm.findClass RX2 = some m.cls := findClass_of_methodNamed B.named
  have hlocks := B.notSynchronized
  have hin : meth.name = "<init>" := (name_of_methodNamed B.named B.method).1
  subst hargs
  clear B
  have hS : va_S A s.heap s.heap [] := va_S.rf
  have hl := lv_entry ([.ref a0, .int x1, .int x2]) (n := 3) (Nat.le_of_ble_eq_true rfl)
  rw [lg_entry_eq]
  generalize (lg_sl ([.ref a0, .int x1, .int x2]) ++ List.replicate (3 - (lg_sl ([.ref a0, .int x1, .int x2])).length) Slot.unset).toArray = ls at hl ⊢
  have hl : lv_has ls 3 [(0, .ref a0), (1, .int x1), (2, .int x2)] := hl
  have hG : GG D κ A S s.heap := hG
  refine lv_aload_n hx hb dX2_init_0 rfl (lv_at hl 0 rfl) ?_
  refine W.objInit hx hb hown (hts (.methodLink RX2 3 objectInit) (List.mem_of_getElem? (i := 1) rfl)) (hts (.instanceMethod objectInit) (List.mem_of_getElem? (i := 2) rfl)) (hts _ (List.mem_of_getElem? (i := 3) rfl)) rfl (by rw [hml]; exact hl.1) rfl dX2_init_1 (Nat.le_of_ble_eq_true rfl) (Nat.le_of_ble_eq_true rfl) ?_
  refine W.eq (g2 := F0 m 4 ls []) rfl ?_
  refine lv_aload_n hx hb dX2_init_4 rfl (lv_at hl 0 rfl) ?_
  refine lv_iload_n hx hb dX2_init_5 rfl (lv_at hl 1 rfl) ?_
  have hk := h.1
  replace h := h.2
  obtain ⟨S2, eS2⟩ : ∃ z, z = sI S 20 a0 x1 := ⟨_, rfl⟩
  replace h := h S2 eS2
  refine gg_putF (ci := 2) (C := RX2) (T := TX2) (N := 2) hx hb hts (fun _ h => List.mem_cons_of_mem _ (List.mem_append_right _ (h))) tyX2 tyX2_ok nmX2 hown hK hG hS (kc_3 hk) rfl 0 (by decide) (hts (.fieldLink RX2 9 "FourStones$Scale" "kind" "I") (List.mem_of_getElem? (i := 4) rfl)) (fun _ h9 => h9) rfl hin rfl (tyX2_ok 0 (by decide)) rfl rfl (Nat.le_of_ble_eq_true rfl) dX2_init_6 (S' := S2) (fun b hb9 => by rw [eS2]; exact cO_sI hb9) (by rw [eS2]; exact cs_20 hk) (fun H locs3 hG hS => ?_)
  refine lv_aload_n hx hb dX2_init_9 rfl (lv_at hl 0 rfl) ?_
  refine lv_iload_n hx hb dX2_init_10 rfl (lv_at hl 2 rfl) ?_
  have hk := h.1
  replace h := h.2
  obtain ⟨S4, eS4⟩ : ∃ z, z = sI S2 21 a0 x2 := ⟨_, rfl⟩
  replace h := h S4 eS4
  refine gg_putF (ci := 2) (C := RX2) (T := TX2) (N := 2) hx hb hts (fun _ h => List.mem_cons_of_mem _ (List.mem_append_right _ (h))) tyX2 tyX2_ok nmX2 hown hK hG hS (kc_3 hk) rfl 1 (by decide) (hts (.fieldLink RX2 15 "FourStones$Scale" "figure" "I") (List.mem_of_getElem? (i := 5) rfl)) (fun _ h9 => h9) rfl hin rfl (tyX2_ok 1 (by decide)) rfl rfl (Nat.le_of_ble_eq_true rfl) dX2_init_11 (S' := S4) (fun b hb9 => by rw [eS4]; exact cO_sI hb9) (by rw [eS4]; exact cs_21 hk) (fun H locs5 hG hS => ?_)
  exact W.vret hx hb hr (gr_v h hG hK hX hS) hS.2.2 dX2_init_14
set_option maxHeartbeats 4000000 in
set_option maxRecDepth 100000 in
theorem c_X2_allows (l : Launch) (D : va_G) (κ : Nat → ClassId) (A : Nat → Prop) (S : Hp) (a0 : Nat) (a1 : Nat) (x2 : Int32) (Q : Int32 → Hp → Prop) (h : wp_X2_allows a0 a1 x2 S Q) : Met l yX2_allows wsX2_allows ({ frames := 2, cells := 0, slots := 0, locals := 96 } : Room) (PG D κ A S [.ref a0, .ref a1, .int x2]) (va_Qi Q (BG D κ A) A) 0 0 A := by
  refine Met.ofW (cc := cX2_allows) (maxL := 3) (ret := (some .boolean)) (by decide) rfl ?_
  intro p e s m args below meth c s₁ B hml hv
  obtain ⟨hargs, hA, hG, hK, hX⟩ := hv
  have hx := B.exec
  have hb := B.bytes
  have hr := B.returns
  have hts := atoms_spec (ws := wsX2_allows) B.pre
  have hown : s.vm.findClass RX2 = some m.cls := findClass_of_methodNamed B.named
  have hlocks := B.notSynchronized
  subst hargs
  clear B
  have hS : va_S A s.heap s.heap [] := va_S.rf
  have hl := lv_entry ([.ref a0, .ref a1, .int x2]) (n := 3) (Nat.le_of_ble_eq_true rfl)
  rw [lg_entry_eq]
  generalize (lg_sl ([.ref a0, .ref a1, .int x2]) ++ List.replicate (3 - (lg_sl ([.ref a0, .ref a1, .int x2])).length) Slot.unset).toArray = ls at hl ⊢
  have hl : lv_has ls 3 [(0, .ref a0), (1, .ref a1), (2, .int x2)] := hl
  have hG : GG D κ A S s.heap := hG
  have j_40 : ∀  (v1 : Nat) (v2 : Int32) (S : Hp) (ls : Array Slot) (H : Heap) (locs : List Loc), lv_has ls 3 [(1, .ref v1), (2, .int v2)] → GG D κ A S H → va_S A s.heap H locs → J_X2_allows_40  Q v1 v2 S → W p l e ({ frames := 2, cells := 0, slots := 0, locals := 96 } : Room) s m ([.ref a0, .ref a1, .int x2] : List Value).toArray below meth c H locs 0 0 (MQ below (va_Qi Q (BG D κ A) A) ([.ref a0, .ref a1, .int x2] : List Value).toArray s 0 0 A) (F0 m 40 ls []) := by
    intro  v1 v2 S ls H locs hl hG hS h
    unfold J_X2_allows_40 at h
    refine lv_aload_n hx hb dX2_allows_40 rfl (lv_at hl 0 rfl) ?_
    have hk := h.1
    replace h := h.2
    obtain ⟨r1, hr1, h⟩ := h
    refine gg_get (v := .ref r1) (ci := 0) (C := RX0) (T := TX0) (N := 5) hx hb hts (fun _ h => List.mem_cons_of_mem _ (List.mem_append_right _ (h))) hown hK hG (kc_1 hk) rfl 3 (by decide) (hts (.fieldLink RX2 26 "FourStones$Lyings" "leftStones" "[I") (List.mem_of_getElem? (i := 2) rfl)) (fun _ h9 => h9) (congrArg (fun z => some (va_rf z)) hr1) dX2_allows_41 ?_
    refine lv_iload_n hx hb dX2_allows_44 rfl (lv_at hl 1 rfl) ?_
    have hk := h.1
    replace h := h.2
    have hi := h.1
    replace h := h.2
    refine gg_iald hx hb hK hG hk hi dX2_allows_45 ?_
    refine lv_if_ne (tgt := 53) hx hb dX2_allows_46 rfl (fun hc => ?_) (fun hc => ?_)
    · replace h := h.1 hc
      refine lv_iconst (v := (0 : Int32)) hx hb dX2_allows_53 (by decide) ?_
      exact W.zret (ty := .boolean) hx hb hr (by decide) (gr_i h hG hK hX hS) hS.2.2 dX2_allows_54
    · replace h := h.2 hc
      refine lv_iconst (v := (1 : Int32)) hx hb dX2_allows_49 (by decide) ?_
      refine lv_goto (tgt := 54) hx hb dX2_allows_50 rfl ?_
      exact W.zret (ty := .boolean) hx hb hr (by decide) (gr_i h hG hK hX hS) hS.2.2 dX2_allows_54
  refine lv_aload_n hx hb dX2_allows_0 rfl (lv_at hl 0 rfl) ?_
  have hk := h.1
  replace h := h.2
  refine gg_get (ci := 2) (C := RX2) (T := TX2) (N := 2) hx hb hts (fun _ h => List.mem_cons_of_mem _ (List.mem_append_left _ (List.mem_append_right _ (h)))) hown hK hG (kc_3 hk) rfl 0 (by decide) (hts (.fieldLink RX2 9 "FourStones$Scale" "kind" "I") (List.mem_of_getElem? (i := 1) rfl)) (fun _ h9 => h9) rfl dX2_allows_1 ?_
  by_cases hc0 : ((gI S 20 a0)).toInt = 1
  · replace h := h.1 hc0
    refine lv_lookup (off := 36) (tgt := 40) hx hb dX2_allows_4 (by decide) (by rw [hc0]; rfl) rfl ?_
    exact j_40  a1 x2 S ls _ _ (lv_sub hl [1, 2] rfl) hG hS h
  ·
    by_cases hc1 : ((gI S 20 a0)).toInt = 4
    · replace h := h.2.1 hc1
      refine lv_lookup (off := 51) (tgt := 55) hx hb dX2_allows_4 (by decide) (by rw [hc1]; rfl) rfl ?_
      refine lv_aload_n hx hb dX2_allows_55 rfl (lv_at hl 1 rfl) ?_
      have hk := h.1
      replace h := h.2
      obtain ⟨r1, hr1, h⟩ := h
      refine gg_get (v := .ref r1) (ci := 0) (C := RX0) (T := TX0) (N := 5) hx hb hts (fun _ h => List.mem_cons_of_mem _ (List.mem_append_right _ (h))) hown hK hG (kc_1 hk) rfl 2 (by decide) (hts (.fieldLink RX2 32 "FourStones$Lyings" "rightStones" "[I") (List.mem_of_getElem? (i := 3) rfl)) (fun _ h9 => h9) (congrArg (fun z => some (va_rf z)) hr1) dX2_allows_56 ?_
      refine lv_iload_n hx hb dX2_allows_59 rfl (lv_at hl 2 rfl) ?_
      have hk := h.1
      replace h := h.2
      have hi := h.1
      replace h := h.2
      refine gg_iald hx hb hK hG hk hi dX2_allows_60 ?_
      refine gc_i (va_runS (As := [.int (gA S r1 (x2).toNatClampNeg)]) (rest := []) ⟨hx, hb, hml, hown, hts⟩ (c_J6_bitCount_0f7a4 l D κ A S (gA S r1 (x2).toNatClampNeg) _ h) (va_cwS 1 hts gX2_allows_J6_bitCount_0f7a4 rfl rfl rfl (by decide +kernel) ⟨Nat.le_of_ble_eq_true rfl, Nat.le_of_ble_eq_true rfl⟩) (pg_S hK hX hG (pg_A hA hS)) rfl rfl hl.1 rfl (lv_room (Nat.le_of_ble_eq_true rfl)) dX2_allows_61 ⟨Nat.le_of_ble_eq_true rfl, Nat.le_of_ble_eq_true rfl⟩) hS (fun z4 S3 H locs2 h hG hS => ?_)
      refine lv_iconst (v := (2 : Int32)) hx hb dX2_allows_64 (by decide) ?_
      refine lv_icmp_gt (tgt := 72) hx hb dX2_allows_65 rfl (fun hc => ?_) (fun hc => ?_)
      · replace h := h.1 hc
        refine lv_iconst (v := (0 : Int32)) hx hb dX2_allows_72 (by decide) ?_
        exact W.zret (ty := .boolean) hx hb hr (by decide) (gr_i h hG hK hX hS) hS.2.2 dX2_allows_73
      · replace h := h.2 hc
        refine lv_iconst (v := (1 : Int32)) hx hb dX2_allows_68 (by decide) ?_
        refine lv_goto (tgt := 73) hx hb dX2_allows_69 rfl ?_
        exact W.zret (ty := .boolean) hx hb hr (by decide) (gr_i h hG hK hX hS) hS.2.2 dX2_allows_73
    ·
      by_cases hc2 : ((gI S 20 a0)).toInt = 6
      · replace h := h.2.2.1 hc2
        refine lv_lookup (off := 36) (tgt := 40) hx hb dX2_allows_4 (by decide) (by rw [hc2]; rfl) rfl ?_
        exact j_40  a1 x2 S ls _ _ (lv_sub hl [1, 2] rfl) hG hS h
      ·
        replace h := h.2.2.2 ⟨hc0, hc1, hc2⟩
        refine lv_lookup (off := 70) (tgt := 74) hx hb dX2_allows_4 (by decide) (by simp [Op.lookupswitch.offset, hc0, Ne.symm hc0, hc1, Ne.symm hc1, hc2, Ne.symm hc2]) rfl ?_
        refine lv_iconst (v := (1 : Int32)) hx hb dX2_allows_74 (by decide) ?_
        exact W.zret (ty := .boolean) hx hb hr (by decide) (gr_i h hG hK hX hS) hS.2.2 dX2_allows_75
set_option maxHeartbeats 4000000 in
set_option maxRecDepth 100000 in
theorem c_X2_weightOf (l : Launch) (D : va_G) (κ : Nat → ClassId) (A : Nat → Prop) (S : Hp) (a0 : Nat) (a1 : Nat) (x2 : Int32) (Q : Int32 → Hp → Prop) (h : wp_X2_weightOf a0 a1 x2 S Q) : Met l yX2_weightOf wsX2_weightOf ({ frames := 2, cells := 0, slots := 0, locals := 96 } : Room) (PG D κ A S [.ref a0, .ref a1, .int x2]) (va_Qi Q (BG D κ A) A) 0 0 A := by
  refine Met.ofW (cc := cX2_weightOf) (maxL := 7) (ret := (some .int)) (by decide) rfl ?_
  intro p e s m args below meth c s₁ B hml hv
  obtain ⟨hargs, hA, hG, hK, hX⟩ := hv
  have hx := B.exec
  have hb := B.bytes
  have hr := B.returns
  have hts := atoms_spec (ws := wsX2_weightOf) B.pre
  have hown : s.vm.findClass RX2 = some m.cls := findClass_of_methodNamed B.named
  have hlocks := B.notSynchronized
  subst hargs
  clear B
  have hS : va_S A s.heap s.heap [] := va_S.rf
  have hl := lv_entry ([.ref a0, .ref a1, .int x2]) (n := 7) (Nat.le_of_ble_eq_true rfl)
  rw [lg_entry_eq]
  generalize (lg_sl ([.ref a0, .ref a1, .int x2]) ++ List.replicate (7 - (lg_sl ([.ref a0, .ref a1, .int x2])).length) Slot.unset).toArray = ls at hl ⊢
  have hl : lv_has ls 7 [(0, .ref a0), (1, .ref a1), (2, .int x2)] := hl
  have hG : GG D κ A S s.heap := hG
  refine lv_aload_n hx hb dX2_weightOf_0 rfl (lv_at hl 1 rfl) ?_
  have hk := h.1
  replace h := h.2
  obtain ⟨r1, hr1, h⟩ := h
  refine gg_get (v := .ref r1) (ci := 0) (C := RX0) (T := TX0) (N := 5) hx hb hts (fun _ h => List.mem_cons_of_mem _ (List.mem_append_left _ (List.mem_append_right _ (h)))) hown hK hG (kc_1 hk) rfl 0 (by decide) (hts (.fieldLink RX2 41 "FourStones$Lyings" "right" "[I") (List.mem_of_getElem? (i := 1) rfl)) (fun _ h9 => h9) (congrArg (fun z => some (va_rf z)) hr1) dX2_weightOf_1 ?_
  refine lv_iload_n hx hb dX2_weightOf_4 rfl (lv_at hl 2 rfl) ?_
  have hk := h.1
  replace h := h.2
  have hi := h.1
  replace h := h.2
  refine gg_iald hx hb hK hG hk hi dX2_weightOf_5 ?_
  refine lv_topi (fun y2 ey2 => ?_)
  replace h := h y2 ey2
  refine lv_istore_n (lv' := [(3, .int y2), (0, .ref a0), (1, .ref a1), (2, .int x2)]) hx hb dX2_weightOf_6 rfl hl (by decide) rfl (fun ls hl => ?_)
  refine lv_aload_n hx hb dX2_weightOf_7 rfl (lv_at hl 2 rfl) ?_
  have hk := h.1
  replace h := h.2
  obtain ⟨r3, hr3, h⟩ := h
  refine gg_get (v := .ref r3) (ci := 0) (C := RX0) (T := TX0) (N := 5) hx hb hts (fun _ h => List.mem_cons_of_mem _ (List.mem_append_left _ (List.mem_append_right _ (h)))) hown hK hG (kc_1 hk) rfl 1 (by decide) (hts (.fieldLink RX2 44 "FourStones$Lyings" "left" "[I") (List.mem_of_getElem? (i := 2) rfl)) (fun _ h9 => h9) (congrArg (fun z => some (va_rf z)) hr3) dX2_weightOf_8 ?_
  refine lv_iload_n hx hb dX2_weightOf_11 rfl (lv_at hl 3 rfl) ?_
  have hk := h.1
  replace h := h.2
  have hi := h.1
  replace h := h.2
  refine gg_iald hx hb hK hG hk hi dX2_weightOf_12 ?_
  refine lv_topi (fun y4 ey4 => ?_)
  replace h := h y4 ey4
  refine lv_istore (lv' := [(4, .int y4), (3, .int y2), (0, .ref a0), (1, .ref a1), (2, .int x2)]) hx hb dX2_weightOf_13 hl (by decide) rfl (fun ls hl => ?_)
  refine lv_iload_n hx hb dX2_weightOf_15 rfl (lv_at hl 1 rfl) ?_
  refine lv_iload hx hb dX2_weightOf_16 (lv_at hl 0 rfl) ?_
  refine lv_isub hx hb dX2_weightOf_18 ?_
  refine lv_topi (fun y5 ey5 => ?_)
  replace h := h y5 ey5
  refine lv_istore (lv' := [(5, .int y5), (4, .int y4), (3, .int y2), (0, .ref a0), (1, .ref a1), (2, .int x2)]) hx hb dX2_weightOf_19 hl (by decide) rfl (fun ls hl => ?_)
  refine lv_aload_n hx hb dX2_weightOf_21 rfl (lv_at hl 3 rfl) ?_
  have hk := h.1
  replace h := h.2
  refine gg_get (ci := 2) (C := RX2) (T := TX2) (N := 2) hx hb hts (fun _ h => List.mem_cons_of_mem _ (List.mem_append_right _ (h))) hown hK hG (kc_3 hk) rfl 1 (by decide) (hts (.fieldLink RX2 15 "FourStones$Scale" "figure" "I") (List.mem_of_getElem? (i := 3) rfl)) (fun _ h9 => h9) rfl dX2_weightOf_22 ?_
  refine lv_iconst (v := (1 : Int32)) hx hb dX2_weightOf_25 (by decide) ?_
  refine lv_iadd hx hb dX2_weightOf_26 ?_
  refine lv_iload_n hx hb dX2_weightOf_27 rfl (lv_at hl 2 rfl) ?_
  refine lv_imul hx hb dX2_weightOf_28 ?_
  refine lv_iload hx hb dX2_weightOf_29 (lv_at hl 1 rfl) ?_
  refine lv_isub hx hb dX2_weightOf_31 ?_
  refine lv_topi (fun y6 ey6 => ?_)
  replace h := h y6 ey6
  refine lv_istore (lv' := [(6, .int y6), (5, .int y5), (4, .int y4), (3, .int y2), (0, .ref a0), (1, .ref a1), (2, .int x2)]) hx hb dX2_weightOf_32 hl (by decide) rfl (fun ls hl => ?_)
  refine lv_aload_n hx hb dX2_weightOf_34 rfl (lv_at hl 4 rfl) ?_
  have hk := h.1
  replace h := h.2
  refine gg_get (ci := 2) (C := RX2) (T := TX2) (N := 2) hx hb hts (fun _ h => List.mem_cons_of_mem _ (List.mem_append_right _ (h))) hown hK hG (kc_3 hk) rfl 0 (by decide) (hts (.fieldLink RX2 9 "FourStones$Scale" "kind" "I") (List.mem_of_getElem? (i := 4) rfl)) (fun _ h9 => h9) rfl dX2_weightOf_35 ?_
  by_cases hd : ((gI S 20 a0)).toInt < 2 ∨ 7 < ((gI S 20 a0)).toInt
  · replace h := h.2.2.2.2.2.2 hd
    refine lv_tableOut (tgt := 126) hx hb dX2_weightOf_38 hd rfl ?_
    refine lv_iload hx hb dX2_weightOf_126 (lv_at hl 1 rfl) ?_
    exact W.iret hx hb hr (gr_i h hG hK hX hS) hS.2.2 dX2_weightOf_128
  · have hd2 : ((gI S 20 a0)).toInt = 2 ∨ ((gI S 20 a0)).toInt = 3 ∨ ((gI S 20 a0)).toInt = 4 ∨ ((gI S 20 a0)).toInt = 5 ∨ ((gI S 20 a0)).toInt = 6 ∨ ((gI S 20 a0)).toInt = 7 := by omega
    rcases hd2 with hc | hc | hc | hc | hc | hc
    · replace h := h.1 hc
      refine lv_tableIn (off := 38) (tgt := 76) hx hb dX2_weightOf_38 (by rw [hc]; decide) (by rw [hc]; decide) (by rw [hc]; rfl) rfl ?_
      refine lv_iload hx hb dX2_weightOf_76 (lv_at hl 0 rfl) ?_
      exact W.iret hx hb hr (gr_i h hG hK hX hS) hS.2.2 dX2_weightOf_78
    · replace h := h.2.1 hc
      refine lv_tableIn (off := 41) (tgt := 79) hx hb dX2_weightOf_38 (by rw [hc]; decide) (by rw [hc]; decide) (by rw [hc]; rfl) rfl ?_
      refine lv_iload hx hb dX2_weightOf_79 (lv_at hl 1 rfl) ?_
      refine lv_aload_n hx hb dX2_weightOf_81 rfl (lv_at hl 4 rfl) ?_
      have hk := h.1
      replace h := h.2
      refine gg_get (ci := 2) (C := RX2) (T := TX2) (N := 2) hx hb hts (fun _ h => List.mem_cons_of_mem _ (List.mem_append_right _ (h))) hown hK hG (kc_3 hk) rfl 1 (by decide) (hts (.fieldLink RX2 15 "FourStones$Scale" "figure" "I") (List.mem_of_getElem? (i := 3) rfl)) (fun _ h9 => h9) rfl dX2_weightOf_82 ?_
      refine lv_isub hx hb dX2_weightOf_85 ?_
      exact W.iret hx hb hr (gr_i h hG hK hX hS) hS.2.2 dX2_weightOf_86
    · replace h := h.2.2.1 hc
      refine lv_tableIn (off := 49) (tgt := 87) hx hb dX2_weightOf_38 (by rw [hc]; decide) (by rw [hc]; decide) (by rw [hc]; rfl) rfl ?_
      refine lv_iload hx hb dX2_weightOf_87 (lv_at hl 0 rfl) ?_
      refine lv_iload_n hx hb dX2_weightOf_89 rfl (lv_at hl 3 rfl) ?_
      refine lv_iadd hx hb dX2_weightOf_90 ?_
      exact W.iret hx hb hr (gr_i h hG hK hX hS) hS.2.2 dX2_weightOf_91
    · replace h := h.2.2.2.1 hc
      refine lv_tableIn (off := 54) (tgt := 92) hx hb dX2_weightOf_38 (by rw [hc]; decide) (by rw [hc]; decide) (by rw [hc]; rfl) rfl ?_
      refine lv_iload hx hb dX2_weightOf_92 (lv_at hl 1 rfl) ?_
      refine va_mabs hx hb (hml.trans hl.1.symm) hown (hts (.methodLink RX2 47 Lib.Math.abs.name) (List.mem_of_getElem? (i := 5) rfl)) (hts (.static Lib.Math.abs.name) (List.mem_of_getElem? (i := 6) rfl)) (hts (.initialized "java/lang/Math") (List.mem_of_getElem? (i := 7) rfl)) (hts (.code Lib.Math.abs.name Lib.Math.abs.code 1 (some .int)) (List.mem_of_getElem? (i := 8) rfl)) (Nat.le_of_ble_eq_true rfl) (Nat.le_of_ble_eq_true rfl) (Nat.le_of_ble_eq_true rfl) (Nat.le_of_ble_eq_true rfl) dX2_weightOf_94 ?_
      exact W.iret hx hb hr (gr_i h hG hK hX hS) hS.2.2 dX2_weightOf_97
    · replace h := h.2.2.2.2.1 hc
      refine lv_tableIn (off := 60) (tgt := 98) hx hb dX2_weightOf_38 (by rw [hc]; decide) (by rw [hc]; decide) (by rw [hc]; rfl) rfl ?_
      refine lv_iload hx hb dX2_weightOf_98 (lv_at hl 1 rfl) ?_
      refine lv_iconst (v := (2 : Int32)) hx hb dX2_weightOf_100 (by decide) ?_
      refine lv_idiv hx hb dX2_weightOf_101 (by decide) ?_
      exact W.iret hx hb hr (gr_i h hG hK hX hS) hS.2.2 dX2_weightOf_102
    · replace h := h.2.2.2.2.2.1 hc
      refine lv_tableIn (off := 65) (tgt := 103) hx hb dX2_weightOf_38 (by rw [hc]; decide) (by rw [hc]; decide) (by rw [hc]; rfl) rfl ?_
      refine lv_iload hx hb dX2_weightOf_103 (lv_at hl 1 rfl) ?_
      refine lv_aload_n hx hb dX2_weightOf_105 rfl (lv_at hl 4 rfl) ?_
      have hk := h.1
      replace h := h.2
      refine gg_get (ci := 2) (C := RX2) (T := TX2) (N := 2) hx hb hts (fun _ h => List.mem_cons_of_mem _ (List.mem_append_right _ (h))) hown hK hG (kc_3 hk) rfl 1 (by decide) (hts (.fieldLink RX2 15 "FourStones$Scale" "figure" "I") (List.mem_of_getElem? (i := 3) rfl)) (fun _ h9 => h9) rfl dX2_weightOf_106 ?_
      refine lv_isub hx hb dX2_weightOf_109 ?_
      refine lv_aload_n hx hb dX2_weightOf_110 rfl (lv_at hl 5 rfl) ?_
      have hk := h.1
      replace h := h.2
      obtain ⟨r8, hr8, h⟩ := h
      refine gg_get (v := .ref r8) (ci := 0) (C := RX0) (T := TX0) (N := 5) hx hb hts (fun _ h => List.mem_cons_of_mem _ (List.mem_append_left _ (List.mem_append_right _ (h)))) hown hK hG (kc_1 hk) rfl 3 (by decide) (hts (.fieldLink RX2 26 "FourStones$Lyings" "leftStones" "[I") (List.mem_of_getElem? (i := 9) rfl)) (fun _ h9 => h9) (congrArg (fun z => some (va_rf z)) hr8) dX2_weightOf_111 ?_
      refine lv_iload_n hx hb dX2_weightOf_114 rfl (lv_at hl 6 rfl) ?_
      have hk := h.1
      replace h := h.2
      have hi := h.1
      replace h := h.2
      refine gg_iald hx hb hK hG hk hi dX2_weightOf_115 ?_
      refine lv_if_ne (tgt := 123) hx hb dX2_weightOf_116 rfl (fun hc => ?_) (fun hc => ?_)
      · replace h := h.1 hc
        refine lv_iconst (v := (1 : Int32)) hx hb dX2_weightOf_123 (by decide) ?_
        refine lv_iadd hx hb dX2_weightOf_124 ?_
        exact W.iret hx hb hr (gr_i h hG hK hX hS) hS.2.2 dX2_weightOf_125
      · replace h := h.2 hc
        refine lv_iconst (v := (0 : Int32)) hx hb dX2_weightOf_119 (by decide) ?_
        refine lv_goto (tgt := 124) hx hb dX2_weightOf_120 rfl ?_
        refine lv_iadd hx hb dX2_weightOf_124 ?_
        exact W.iret hx hb hr (gr_i h hG hK hX hS) hS.2.2 dX2_weightOf_125
set_option maxHeartbeats 4000000 in
set_option maxRecDepth 100000 in
theorem c_X2_hits (l : Launch) (D : va_G) (κ : Nat → ClassId) (A : Nat → Prop) (S : Hp) (a0 : Nat) (a1 : Nat) (x2 : Int32) (x3 : Int32) (Q : Int32 → Hp → Prop) (h : wp_X2_hits a0 a1 x2 x3 S Q) : Met l yX2_hits wsX2_hits ({ frames := 3, cells := 0, slots := 0, locals := 144 } : Room) (PG D κ A S [.ref a0, .ref a1, .int x2, .int x3]) (va_Qi Q (BG D κ A) A) 0 0 A := by
  refine Met.ofW (cc := cX2_hits) (maxL := 4) (ret := (some .boolean)) (by decide) rfl ?_
  intro p e s m args below meth c s₁ B hml hv
  obtain ⟨hargs, hA, hG, hK, hX⟩ := hv
  have hx := B.exec
  have hb := B.bytes
  have hr := B.returns
  have hts := atoms_spec (ws := wsX2_hits) B.pre
  have hown : s.vm.findClass RX2 = some m.cls := findClass_of_methodNamed B.named
  have hlocks := B.notSynchronized
  subst hargs
  clear B
  have hS : va_S A s.heap s.heap [] := va_S.rf
  have hl := lv_entry ([.ref a0, .ref a1, .int x2, .int x3]) (n := 4) (Nat.le_of_ble_eq_true rfl)
  rw [lg_entry_eq]
  generalize (lg_sl ([.ref a0, .ref a1, .int x2, .int x3]) ++ List.replicate (4 - (lg_sl ([.ref a0, .ref a1, .int x2, .int x3])).length) Slot.unset).toArray = ls at hl ⊢
  have hl : lv_has ls 4 [(0, .ref a0), (1, .ref a1), (2, .int x2), (3, .int x3)] := hl
  have hG : GG D κ A S s.heap := hG
  refine lv_aload_n hx hb dX2_hits_0 rfl (lv_at hl 0 rfl) ?_
  refine lv_aload_n hx hb dX2_hits_1 rfl (lv_at hl 1 rfl) ?_
  refine lv_iload_n hx hb dX2_hits_2 rfl (lv_at hl 2 rfl) ?_
  have hk := h.1
  replace h := h.2
  refine gc_i (va_runV (As := [.ref a1, .int x2]) (rest := []) ⟨hx, hb, hml, hown, hts⟩ (c_X2_allows l D κ A S a0 a1 x2 _ h) (cwV 2 hts gX2_hits_X2_allows rfl rfl rfl (by decide +kernel) ⟨Nat.le_of_ble_eq_true rfl, Nat.le_of_ble_eq_true rfl⟩) (pg_V (q := (RX2, TX2, 2)) hK hX hG (pg_A hA hS) (kc_3 hk) rfl) rfl rfl hl.1 rfl (lv_room (Nat.le_of_ble_eq_true rfl)) dX2_hits_3 ⟨Nat.le_of_ble_eq_true rfl, Nat.le_of_ble_eq_true rfl⟩) hS (fun z3 S2 H locs1 h hG hS => ?_)
  refine lv_if_eq (tgt := 23) hx hb dX2_hits_6 rfl (fun hc => ?_) (fun hc => ?_)
  · replace h := h.1 hc
    refine lv_iconst (v := (0 : Int32)) hx hb dX2_hits_23 (by decide) ?_
    exact W.zret (ty := .boolean) hx hb hr (by decide) (gr_i h hG hK hX hS) hS.2.2 dX2_hits_24
  · replace h := h.2 hc
    refine lv_aload_n hx hb dX2_hits_9 rfl (lv_at hl 0 rfl) ?_
    refine lv_aload_n hx hb dX2_hits_10 rfl (lv_at hl 1 rfl) ?_
    refine lv_iload_n hx hb dX2_hits_11 rfl (lv_at hl 2 rfl) ?_
    have hk := h.1
    replace h := h.2
    refine gc_i (va_runV (As := [.ref a1, .int x2]) (rest := []) ⟨hx, hb, hml, hown, hts⟩ (c_X2_weightOf l D κ A S2 a0 a1 x2 _ h) (cwV 2 hts gX2_hits_X2_weightOf rfl rfl rfl (by decide +kernel) ⟨Nat.le_of_ble_eq_true rfl, Nat.le_of_ble_eq_true rfl⟩) (pg_V (q := (RX2, TX2, 2)) hK hX hG (pg_A hA hS) (kc_3 hk) rfl) rfl rfl hl.1 rfl (lv_room (Nat.le_of_ble_eq_true rfl)) dX2_hits_12 ⟨Nat.le_of_ble_eq_true rfl, Nat.le_of_ble_eq_true rfl⟩) hS (fun z6 S5 H locs4 h hG hS => ?_)
    refine lv_iload_n hx hb dX2_hits_15 rfl (lv_at hl 3 rfl) ?_
    refine lv_icmp_ne (tgt := 23) hx hb dX2_hits_16 rfl (fun hc => ?_) (fun hc => ?_)
    · replace h := h.1 hc
      refine lv_iconst (v := (0 : Int32)) hx hb dX2_hits_23 (by decide) ?_
      exact W.zret (ty := .boolean) hx hb hr (by decide) (gr_i h hG hK hX hS) hS.2.2 dX2_hits_24
    · replace h := h.2 hc
      refine lv_iconst (v := (1 : Int32)) hx hb dX2_hits_19 (by decide) ?_
      refine lv_goto (tgt := 24) hx hb dX2_hits_20 rfl ?_
      exact W.zret (ty := .boolean) hx hb hr (by decide) (gr_i h hG hK hX hS) hS.2.2 dX2_hits_24
set_option maxHeartbeats 4000000 in
set_option maxRecDepth 100000 in
theorem c_X2_price (l : Launch) (D : va_G) (κ : Nat → ClassId) (A : Nat → Prop) (S : Hp) (a0 : Nat) (Q : Int32 → Hp → Prop) (h : wp_X2_price a0 S Q) : Met l yX2_price wsX2_price ({ frames := 1, cells := 0, slots := 0, locals := 48 } : Room) (PG D κ A S [.ref a0]) (va_Qi Q (BG D κ A) A) 0 0 A := by
  refine Met.ofW (cc := cX2_price) (maxL := 5) (ret := (some .int)) (by decide) rfl ?_
  intro p e s m args below meth c s₁ B hml hv
  obtain ⟨hargs, hA, hG, hK, hX⟩ := hv
  have hx := B.exec
  have hb := B.bytes
  have hr := B.returns
  have hts := atoms_spec (ws := wsX2_price) B.pre
  have hown : s.vm.findClass RX2 = some m.cls := findClass_of_methodNamed B.named
  have hlocks := B.notSynchronized
  subst hargs
  clear B
  have hS : va_S A s.heap s.heap [] := va_S.rf
  have hl := lv_entry ([.ref a0]) (n := 5) (Nat.le_of_ble_eq_true rfl)
  rw [lg_entry_eq]
  generalize (lg_sl ([.ref a0]) ++ List.replicate (5 - (lg_sl ([.ref a0])).length) Slot.unset).toArray = ls at hl ⊢
  have hl : lv_has ls 5 [(0, .ref a0)] := hl
  have hG : GG D κ A S s.heap := hG
  refine lv_iconst (v := (5 : Int32)) hx hb dX2_price_0 (by decide) ?_
  refine lv_istore_n (lv' := [(1, .int (5 : Int32)), (0, .ref a0)]) hx hb dX2_price_1 rfl hl (by decide) rfl (fun ls hl => ?_)
  refine lv_iload_n hx hb dX2_price_2 rfl (lv_at hl 0 rfl) ?_
  refine lv_iconst (v := (1 : Int32)) hx hb dX2_price_3 (by decide) ?_
  refine lv_isub hx hb dX2_price_4 ?_
  refine lv_topi (fun y1 ey1 => ?_)
  replace h := h y1 ey1
  refine lv_istore_n (lv' := [(2, .int y1), (1, .int (5 : Int32)), (0, .ref a0)]) hx hb dX2_price_5 rfl hl (by decide) rfl (fun ls hl => ?_)
  refine lv_iload_n hx hb dX2_price_6 rfl (lv_at hl 1 rfl) ?_
  refine lv_aload_n hx hb dX2_price_7 rfl (lv_at hl 2 rfl) ?_
  have hk := h.1
  replace h := h.2
  refine gg_get (ci := 2) (C := RX2) (T := TX2) (N := 2) hx hb hts (fun _ h => List.mem_cons_of_mem _ (List.mem_append_right _ (h))) hown hK hG (kc_3 hk) rfl 1 (by decide) (hts (.fieldLink RX2 15 "FourStones$Scale" "figure" "I") (List.mem_of_getElem? (i := 1) rfl)) (fun _ h9 => h9) rfl dX2_price_8 ?_
  refine lv_iconst (v := (1 : Int32)) hx hb dX2_price_11 (by decide) ?_
  refine lv_iadd hx hb dX2_price_12 ?_
  refine lv_imul hx hb dX2_price_13 ?_
  refine lv_topi (fun y2 ey2 => ?_)
  replace h := h y2 ey2
  refine lv_istore_n (lv' := [(3, .int y2), (2, .int y1), (1, .int (5 : Int32)), (0, .ref a0)]) hx hb dX2_price_14 rfl hl (by decide) rfl (fun ls hl => ?_)
  refine lv_iload_n hx hb dX2_price_15 rfl (lv_at hl 2 rfl) ?_
  refine lv_aload_n hx hb dX2_price_16 rfl (lv_at hl 3 rfl) ?_
  have hk := h.1
  replace h := h.2
  refine gg_get (ci := 2) (C := RX2) (T := TX2) (N := 2) hx hb hts (fun _ h => List.mem_cons_of_mem _ (List.mem_append_right _ (h))) hown hK hG (kc_3 hk) rfl 1 (by decide) (hts (.fieldLink RX2 15 "FourStones$Scale" "figure" "I") (List.mem_of_getElem? (i := 1) rfl)) (fun _ h9 => h9) rfl dX2_price_17 ?_
  refine lv_isub hx hb dX2_price_20 ?_
  refine lv_topi (fun y3 ey3 => ?_)
  replace h := h y3 ey3
  refine lv_istore (lv' := [(4, .int y3), (3, .int y2), (2, .int y1), (1, .int (5 : Int32)), (0, .ref a0)]) hx hb dX2_price_21 hl (by decide) rfl (fun ls hl => ?_)
  refine lv_aload_n hx hb dX2_price_23 rfl (lv_at hl 4 rfl) ?_
  have hk := h.1
  replace h := h.2
  refine gg_get (ci := 2) (C := RX2) (T := TX2) (N := 2) hx hb hts (fun _ h => List.mem_cons_of_mem _ (List.mem_append_right _ (h))) hown hK hG (kc_3 hk) rfl 0 (by decide) (hts (.fieldLink RX2 9 "FourStones$Scale" "kind" "I") (List.mem_of_getElem? (i := 2) rfl)) (fun _ h9 => h9) rfl dX2_price_24 ?_
  by_cases hd : ((gI S 20 a0)).toInt < 1 ∨ 7 < ((gI S 20 a0)).toInt
  · replace h := h.2.2.2.2.2.2.2 hd
    refine lv_tableOut (tgt := 96) hx hb dX2_price_27 hd rfl ?_
    refine lv_iload_n hx hb dX2_price_96 rfl (lv_at hl 3 rfl) ?_
    exact W.iret hx hb hr (gr_i h hG hK hX hS) hS.2.2 dX2_price_97
  · have hd2 : ((gI S 20 a0)).toInt = 1 ∨ ((gI S 20 a0)).toInt = 2 ∨ ((gI S 20 a0)).toInt = 3 ∨ ((gI S 20 a0)).toInt = 4 ∨ ((gI S 20 a0)).toInt = 5 ∨ ((gI S 20 a0)).toInt = 6 ∨ ((gI S 20 a0)).toInt = 7 := by omega
    rcases hd2 with hc | hc | hc | hc | hc | hc | hc
    · replace h := h.1 hc
      refine lv_tableIn (off := 41) (tgt := 68) hx hb dX2_price_27 (by rw [hc]; decide) (by rw [hc]; decide) (by rw [hc]; rfl) rfl ?_
      refine lv_iload_n hx hb dX2_price_68 rfl (lv_at hl 2 rfl) ?_
      exact W.iret hx hb hr (gr_i h hG hK hX hS) hS.2.2 dX2_price_69
    · replace h := h.2.1 hc
      refine lv_tableIn (off := 43) (tgt := 70) hx hb dX2_price_27 (by rw [hc]; decide) (by rw [hc]; decide) (by rw [hc]; rfl) rfl ?_
      refine lv_iload_n hx hb dX2_price_70 rfl (lv_at hl 1 rfl) ?_
      exact W.iret hx hb hr (gr_i h hG hK hX hS) hS.2.2 dX2_price_71
    · replace h := h.2.2.1 hc
      refine lv_tableIn (off := 45) (tgt := 72) hx hb dX2_price_27 (by rw [hc]; decide) (by rw [hc]; decide) (by rw [hc]; rfl) rfl ?_
      refine lv_iload hx hb dX2_price_72 (lv_at hl 0 rfl) ?_
      exact W.iret hx hb hr (gr_i h hG hK hX hS) hS.2.2 dX2_price_74
    · replace h := h.2.2.2.1 hc
      refine lv_tableIn (off := 48) (tgt := 75) hx hb dX2_price_27 (by rw [hc]; decide) (by rw [hc]; decide) (by rw [hc]; rfl) rfl ?_
      refine lv_iload_n hx hb dX2_price_75 rfl (lv_at hl 1 rfl) ?_
      refine lv_iconst (v := (4 : Int32)) hx hb dX2_price_76 (by decide) ?_
      refine lv_iadd hx hb dX2_price_77 ?_
      exact W.iret hx hb hr (gr_i h hG hK hX hS) hS.2.2 dX2_price_78
    · replace h := h.2.2.2.2.1 hc
      refine lv_tableIn (off := 52) (tgt := 79) hx hb dX2_price_27 (by rw [hc]; decide) (by rw [hc]; decide) (by rw [hc]; rfl) rfl ?_
      refine lv_iconst (v := (2 : Int32)) hx hb dX2_price_79 (by decide) ?_
      refine lv_iload_n hx hb dX2_price_80 rfl (lv_at hl 3 rfl) ?_
      refine lv_imul hx hb dX2_price_81 ?_
      exact W.iret hx hb hr (gr_i h hG hK hX hS) hS.2.2 dX2_price_82
    · replace h := h.2.2.2.2.2.1 hc
      refine lv_tableIn (off := 56) (tgt := 83) hx hb dX2_price_27 (by rw [hc]; decide) (by rw [hc]; decide) (by rw [hc]; rfl) rfl ?_
      refine lv_iload_n hx hb dX2_price_83 rfl (lv_at hl 2 rfl) ?_
      refine lv_aload_n hx hb dX2_price_84 rfl (lv_at hl 4 rfl) ?_
      have hk := h.1
      replace h := h.2
      refine gg_get (ci := 2) (C := RX2) (T := TX2) (N := 2) hx hb hts (fun _ h => List.mem_cons_of_mem _ (List.mem_append_right _ (h))) hown hK hG (kc_3 hk) rfl 1 (by decide) (hts (.fieldLink RX2 15 "FourStones$Scale" "figure" "I") (List.mem_of_getElem? (i := 1) rfl)) (fun _ h9 => h9) rfl dX2_price_85 ?_
      refine lv_iadd hx hb dX2_price_88 ?_
      exact W.iret hx hb hr (gr_i h hG hK hX hS) hS.2.2 dX2_price_89
    · replace h := h.2.2.2.2.2.2.1 hc
      refine lv_tableIn (off := 63) (tgt := 90) hx hb dX2_price_27 (by rw [hc]; decide) (by rw [hc]; decide) (by rw [hc]; rfl) rfl ?_
      refine lv_iload hx hb dX2_price_90 (lv_at hl 0 rfl) ?_
      refine lv_bipush (v := (7 : Int32)) hx hb dX2_price_92 (by decide) ?_
      refine lv_iadd hx hb dX2_price_94 ?_
      exact W.iret hx hb hr (gr_i h hG hK hX hS) hS.2.2 dX2_price_95
set_option maxHeartbeats 4000000 in
set_option maxRecDepth 100000 in
theorem c_X4_init (l : Launch) (D : va_G) (κ : Nat → ClassId) (A : Nat → Prop) (S : Hp) (a0 : Nat) (Q : Hp → Prop) (h : wp_X4_init a0 S Q) : Met l yX4_init wsX4_init ({ frames := 2, cells := 2, slots := 12, locals := 96 } : Room) (PG D κ A S [.ref a0]) (va_Qv Q (BG D κ A) A) 2 12 A := by
  refine Met.ofW (cc := cX4_init) (maxL := 1) (ret := none) (by decide) rfl ?_
  intro p e s m args below meth c s₁ B hml hv
  obtain ⟨hargs, hA, hG, hK, hX⟩ := hv
  have hx := B.exec
  have hb := B.bytes
  have hr := B.returns
  have hts := atoms_spec (ws := wsX4_init) B.pre
  have hown : s.vm.findClass RX4 = some m.cls := findClass_of_methodNamed B.named
  have hlocks := B.notSynchronized
  have hin : meth.name = "<init>" := (name_of_methodNamed B.named B.method).1
  subst hargs
  clear B
  have hS : va_S A s.heap s.heap [] := va_S.rf
  have hl := lv_entry ([.ref a0]) (n := 1) (Nat.le_of_ble_eq_true rfl)
  rw [lg_entry_eq]
  generalize (lg_sl ([.ref a0]) ++ List.replicate (1 - (lg_sl ([.ref a0])).length) Slot.unset).toArray = ls at hl ⊢
  have hl : lv_has ls 1 [(0, .ref a0)] := hl
  have hG : GG D κ A S s.heap := hG
  refine lv_aload_n hx hb dX4_init_0 rfl (lv_at hl 0 rfl) ?_
  refine W.objInit hx hb hown (hts (.methodLink RX4 3 objectInit) (List.mem_of_getElem? (i := 1) rfl)) (hts (.instanceMethod objectInit) (List.mem_of_getElem? (i := 2) rfl)) (hts _ (List.mem_of_getElem? (i := 3) rfl)) rfl (by rw [hml]; exact hl.1) rfl dX4_init_1 (Nat.le_of_ble_eq_true rfl) (Nat.le_of_ble_eq_true rfl) ?_
  refine W.eq (g2 := F0 m 4 ls []) rfl ?_
  refine lv_aload_n hx hb dX4_init_4 rfl (lv_at hl 0 rfl) ?_
  refine lv_bipush (v := (6 : Int32)) hx hb dX4_init_5 (by decide) ?_
  refine gg_newi (N' := 6) hx hb (hts (.arrayClass .int) (List.mem_of_getElem? (i := 4) rfl)) hK hG hS hA (by decide) (by decide) (Nat.le_of_ble_eq_true rfl) (by show _ ≤ 2; omega) (by show _ ≤ 12; omega) dX4_init_7 (fun q2 H hq2 hG hS => ?_)
  obtain ⟨S3, eS3⟩ : ∃ z, z = nA S q2 8 6 := ⟨_, rfl⟩
  replace h := h q2 hq2 S3 eS3
  rw [← eS3] at hG
  have hk := h.1
  replace h := h.2
  obtain ⟨S4, eS4⟩ : ∃ z, z = sR S3 40 a0 (some q2) := ⟨_, rfl⟩
  replace h := h S4 eS4
  refine gg_putF (ci := 4) (C := RX4) (T := TX4) (N := 3) hx hb hts (fun _ h => List.mem_cons_of_mem _ (List.mem_append_right _ (h))) tyX4 tyX4_ok nmX4 hown hK hG hS (kc_5 hk) rfl 0 (by decide) (hts (.fieldLink RX4 9 "FourStones$Stones" "weights" "[I") (List.mem_of_getElem? (i := 5) rfl)) (fun _ h9 => h9) rfl hin rfl (tyX4_ok 0 (by decide)) rfl rfl (Nat.le_of_ble_eq_true rfl) dX4_init_9 (S' := S4) (fun b hb9 => by rw [eS4]; exact cO_sR hb9) (by rw [eS4]; exact cs_40 hk) (fun H locs5 hG hS => ?_)
  refine lv_aload_n hx hb dX4_init_12 rfl (lv_at hl 0 rfl) ?_
  refine lv_bipush (v := (6 : Int32)) hx hb dX4_init_13 (by decide) ?_
  refine gg_newi (N' := 6) hx hb (hts (.arrayClass .int) (List.mem_of_getElem? (i := 4) rfl)) hK hG hS hA (by decide) (by decide) (Nat.le_of_ble_eq_true rfl) (by show _ ≤ 2; omega) (by show _ ≤ 12; omega) dX4_init_15 (fun q6 H hq6 hG hS => ?_)
  obtain ⟨S7, eS7⟩ : ∃ z, z = nA S4 q6 8 6 := ⟨_, rfl⟩
  replace h := h q6 hq6 S7 eS7
  rw [← eS7] at hG
  have hk := h.1
  replace h := h.2
  obtain ⟨S8, eS8⟩ : ∃ z, z = sR S7 41 a0 (some q6) := ⟨_, rfl⟩
  replace h := h S8 eS8
  refine gg_putF (ci := 4) (C := RX4) (T := TX4) (N := 3) hx hb hts (fun _ h => List.mem_cons_of_mem _ (List.mem_append_right _ (h))) tyX4 tyX4_ok nmX4 hown hK hG hS (kc_5 hk) rfl 1 (by decide) (hts (.fieldLink RX4 15 "FourStones$Stones" "prices" "[I") (List.mem_of_getElem? (i := 6) rfl)) (fun _ h9 => h9) rfl hin rfl (tyX4_ok 1 (by decide)) rfl rfl (Nat.le_of_ble_eq_true rfl) dX4_init_17 (S' := S8) (fun b hb9 => by rw [eS8]; exact cO_sR hb9) (by rw [eS8]; exact cs_41 hk) (fun H locs9 hG hS => ?_)
  refine W.widen (k := 2) (n := 12) (by omega) (by omega) ?_
  exact W.vret hx hb hr (gr_v h hG hK hX hS) hS.2.2 dX4_init_20
set_option maxHeartbeats 4000000 in
set_option maxRecDepth 100000 in
theorem c_X3_init (l : Launch) (D : va_G) (κ : Nat → ClassId) (A : Nat → Prop) (S : Hp) (a0 : Nat) (Q : Hp → Prop) (h : wp_X3_init a0 S Q) : Met l yX3_init wsX3_init ({ frames := 3, cells := 3, slots := 15, locals := 144 } : Room) (PG D κ A S [.ref a0]) (va_Qv Q (BG D κ A) A) 3 15 A := by
  refine Met.ofW (cc := cX3_init) (maxL := 1) (ret := none) (by decide) rfl ?_
  intro p e s m args below meth c s₁ B hml hv
  obtain ⟨hargs, hA, hG, hK, hX⟩ := hv
  have hx := B.exec
  have hb := B.bytes
  have hr := B.returns
  have hts := atoms_spec (ws := wsX3_init) B.pre
  have hown : s.vm.findClass RX3 = some m.cls := findClass_of_methodNamed B.named
  have hlocks := B.notSynchronized
  have hin : meth.name = "<init>" := (name_of_methodNamed B.named B.method).1
  subst hargs
  clear B
  have hS : va_S A s.heap s.heap [] := va_S.rf
  have hl := lv_entry ([.ref a0]) (n := 1) (Nat.le_of_ble_eq_true rfl)
  rw [lg_entry_eq]
  generalize (lg_sl ([.ref a0]) ++ List.replicate (1 - (lg_sl ([.ref a0])).length) Slot.unset).toArray = ls at hl ⊢
  have hl : lv_has ls 1 [(0, .ref a0)] := hl
  have hG : GG D κ A S s.heap := hG
  refine lv_aload_n hx hb dX3_init_0 rfl (lv_at hl 0 rfl) ?_
  refine W.objInit hx hb hown (hts (.methodLink RX3 3 objectInit) (List.mem_of_getElem? (i := 1) rfl)) (hts (.instanceMethod objectInit) (List.mem_of_getElem? (i := 2) rfl)) (hts _ (List.mem_of_getElem? (i := 3) rfl)) rfl (by rw [hml]; exact hl.1) rfl dX3_init_1 (Nat.le_of_ble_eq_true rfl) (Nat.le_of_ble_eq_true rfl) ?_
  refine W.eq (g2 := F0 m 4 ls []) rfl ?_
  refine lv_aload_n hx hb dX3_init_4 rfl (lv_at hl 0 rfl) ?_
  refine gg_new (ci := 4) (C := RX4) (T := TX4) (N := 3) (k := 5) hx hb hts (fun _ h => List.mem_cons_of_mem _ (List.mem_append_left _ (List.mem_append_right _ (h)))) tyX4 tyX4_ok hown (hts (.classLink RX3 9 RX4) (List.mem_of_getElem? (i := 4) rfl)) (hts (.instantiable RX4 3) (List.mem_of_getElem? (i := 5) rfl)) (hts (.initialized RX4) (List.mem_of_getElem? (i := 6) rfl)) hK hG hS hA rfl [.null, .null, .int 0] (by decide +kernel) (fun q => (kc_5 (S := nO _ q 5) ((h_kd_nO _ _ _ _).trans (if_pos rfl))).trans (by simp [h_gI_nO, h_gR_nO, va_rf])) (by show _ ≤ 3; omega) (by show _ ≤ 15; omega) dX3_init_5 (fun q2 H hq2 hG hS => ?_)
  obtain ⟨S3, eS3⟩ : ∃ z, z = nO S q2 5 := ⟨_, rfl⟩
  replace h := h q2 hq2 S3 eS3
  rw [← eS3] at hG
  refine lv_dup hx hb dX3_init_8 rfl ?_
  refine gc_v (va_runIN (As := []) (rest := [.ref q2, .ref a0]) ⟨hx, hb, hml, hown, hts⟩ (c_X4_init l D κ A S3 q2 _ h) ⟨va_cnB 0 hts gX3_init_X4_init_n11 rfl rfl rfl hX.2.2.2.2.2 (hts (.initialized RX4) (List.mem_of_getElem? (i := 6) rfl)) (by decide +kernel) ⟨Nat.le_of_ble_eq_true rfl, Nat.le_of_ble_eq_true rfl⟩, rfl, hts (.instanceMethod yX4_init) (List.mem_of_getElem? (i := 8) rfl)⟩ (pg_S hK hX hG (pg_A hA hS)) rfl rfl hl.1 rfl (lv_room (Nat.le_of_ble_eq_true rfl)) dX3_init_9 ⟨by show _ ≤ 3; omega, by show _ ≤ 15; omega⟩) hS (fun S5 H locs4 h hG hS => ?_)
  have hk := h.1
  replace h := h.2
  obtain ⟨S6, eS6⟩ : ∃ z, z = sR S5 30 a0 (some q2) := ⟨_, rfl⟩
  replace h := h S6 eS6
  refine gg_putF (ci := 3) (C := RX3) (T := TX3) (N := 3) hx hb hts (fun _ h => List.mem_cons_of_mem _ (List.mem_append_right _ (h))) tyX3 tyX3_ok nmX3 hown hK hG hS (kc_4 hk) rfl 0 (by decide) (hts (.fieldLink RX3 12 "FourStones$ShopReader" "trial" "LFourStones$Stones;") (List.mem_of_getElem? (i := 7) rfl)) (fun _ h9 => h9) rfl hin rfl (tyX3_ok 0 (by decide)) rfl rfl (Nat.le_of_ble_eq_true rfl) dX3_init_12 (S' := S6) (fun b hb9 => by rw [eS6]; exact cO_sR hb9) (by rw [eS6]; exact cs_30 hk) (fun H locs7 hG hS => ?_)
  refine W.widen (k := 3) (n := 15) (by omega) (by omega) ?_
  exact W.vret hx hb hr (gr_v h hG hK hX hS) hS.2.2 dX3_init_15
set_option maxHeartbeats 4000000 in
set_option maxRecDepth 100000 in
theorem c_X4_takeFrom (l : Launch) (D : va_G) (κ : Nat → ClassId) (A : Nat → Prop) (S : Hp) (a0 : Nat) (a1 : Nat) (Q : Hp → Prop) (h : wp_X4_takeFrom a0 a1 S Q) : Met l yX4_takeFrom wsX4_takeFrom ({ frames := 2, cells := 0, slots := 0, locals := 96 } : Room) (PG D κ A S [.ref a0, .ref a1]) (va_Qv Q (BG D κ A) A) 0 0 A := by
  refine Met.ofW (cc := cX4_takeFrom) (maxL := 2) (ret := none) (by decide) rfl ?_
  intro p e s m args below meth c s₁ B hml hv
  obtain ⟨hargs, hA, hG, hK, hX⟩ := hv
  have hx := B.exec
  have hb := B.bytes
  have hr := B.returns
  have hts := atoms_spec (ws := wsX4_takeFrom) B.pre
  have hown : s.vm.findClass RX4 = some m.cls := findClass_of_methodNamed B.named
  have hlocks := B.notSynchronized
  subst hargs
  clear B
  have hS : va_S A s.heap s.heap [] := va_S.rf
  have hl := lv_entry ([.ref a0, .ref a1]) (n := 2) (Nat.le_of_ble_eq_true rfl)
  rw [lg_entry_eq]
  generalize (lg_sl ([.ref a0, .ref a1]) ++ List.replicate (2 - (lg_sl ([.ref a0, .ref a1])).length) Slot.unset).toArray = ls at hl ⊢
  have hl : lv_has ls 2 [(0, .ref a0), (1, .ref a1)] := hl
  have hG : GG D κ A S s.heap := hG
  refine lv_aload_n hx hb dX4_takeFrom_0 rfl (lv_at hl 1 rfl) ?_
  have hk := h.1
  replace h := h.2
  obtain ⟨r1, hr1, h⟩ := h
  refine gg_get (v := .ref r1) (ci := 4) (C := RX4) (T := TX4) (N := 3) hx hb hts (fun _ h => List.mem_cons_of_mem _ (List.mem_append_right _ (h))) hown hK hG (kc_5 hk) rfl 0 (by decide) (hts (.fieldLink RX4 9 "FourStones$Stones" "weights" "[I") (List.mem_of_getElem? (i := 1) rfl)) (fun _ h9 => h9) (congrArg (fun z => some (va_rf z)) hr1) dX4_takeFrom_1 ?_
  refine lv_iconst (v := (0 : Int32)) hx hb dX4_takeFrom_4 (by decide) ?_
  refine lv_aload_n hx hb dX4_takeFrom_5 rfl (lv_at hl 0 rfl) ?_
  have hk := h.1
  replace h := h.2
  obtain ⟨r2, hr2, h⟩ := h
  refine gg_get (v := .ref r2) (ci := 4) (C := RX4) (T := TX4) (N := 3) hx hb hts (fun _ h => List.mem_cons_of_mem _ (List.mem_append_right _ (h))) hown hK hG (kc_5 hk) rfl 0 (by decide) (hts (.fieldLink RX4 9 "FourStones$Stones" "weights" "[I") (List.mem_of_getElem? (i := 1) rfl)) (fun _ h9 => h9) (congrArg (fun z => some (va_rf z)) hr2) dX4_takeFrom_6 ?_
  refine lv_iconst (v := (0 : Int32)) hx hb dX4_takeFrom_9 (by decide) ?_
  refine lv_bipush (v := (6 : Int32)) hx hb dX4_takeFrom_10 (by decide) ?_
  have hk := h.1
  replace h := h.2
  have hn := h.1
  replace h := h.2
  have hi := h.1
  replace h := h.2
  obtain ⟨S4, eS4⟩ : ∃ z, z = sF S r2 (va_cpy (gA S r1) (gA S r2) ((0 : Int32)).toNatClampNeg ((0 : Int32)).toNatClampNeg ((6 : Int32)).toNatClampNeg) := ⟨_, rfl⟩
  replace h := h S4 eS4
  refine gg_copyi hx hb (hml.trans hl.1.symm) hown (hts (.methodLink RX4 40 arraycopyName) (List.mem_of_getElem? (i := 2) rfl)) (hts (.native arraycopyName) (List.mem_of_getElem? (i := 3) rfl)) (hts (.static arraycopyName) (List.mem_of_getElem? (i := 4) rfl)) (hts (.initialized "java/lang/System") (List.mem_of_getElem? (i := 5) rfl)) hK hG hS hk.1 hk.2 hn.1 hn.2.1 hn.2.2 hi.1 hi.2 (Nat.le_of_ble_eq_true rfl) (Nat.le_of_ble_eq_true rfl) dX4_takeFrom_12 (fun H locs3 hG hS => ?_)
  rw [← eS4] at hG
  refine lv_aload_n hx hb dX4_takeFrom_15 rfl (lv_at hl 1 rfl) ?_
  have hk := h.1
  replace h := h.2
  obtain ⟨r5, hr5, h⟩ := h
  refine gg_get (v := .ref r5) (ci := 4) (C := RX4) (T := TX4) (N := 3) hx hb hts (fun _ h => List.mem_cons_of_mem _ (List.mem_append_right _ (h))) hown hK hG (kc_5 hk) rfl 1 (by decide) (hts (.fieldLink RX4 15 "FourStones$Stones" "prices" "[I") (List.mem_of_getElem? (i := 6) rfl)) (fun _ h9 => h9) (congrArg (fun z => some (va_rf z)) hr5) dX4_takeFrom_16 ?_
  refine lv_iconst (v := (0 : Int32)) hx hb dX4_takeFrom_19 (by decide) ?_
  refine lv_aload_n hx hb dX4_takeFrom_20 rfl (lv_at hl 0 rfl) ?_
  have hk := h.1
  replace h := h.2
  obtain ⟨r6, hr6, h⟩ := h
  refine gg_get (v := .ref r6) (ci := 4) (C := RX4) (T := TX4) (N := 3) hx hb hts (fun _ h => List.mem_cons_of_mem _ (List.mem_append_right _ (h))) hown hK hG (kc_5 hk) rfl 1 (by decide) (hts (.fieldLink RX4 15 "FourStones$Stones" "prices" "[I") (List.mem_of_getElem? (i := 6) rfl)) (fun _ h9 => h9) (congrArg (fun z => some (va_rf z)) hr6) dX4_takeFrom_21 ?_
  refine lv_iconst (v := (0 : Int32)) hx hb dX4_takeFrom_24 (by decide) ?_
  refine lv_bipush (v := (6 : Int32)) hx hb dX4_takeFrom_25 (by decide) ?_
  have hk := h.1
  replace h := h.2
  have hn := h.1
  replace h := h.2
  have hi := h.1
  replace h := h.2
  obtain ⟨S8, eS8⟩ : ∃ z, z = sF S4 r6 (va_cpy (gA S4 r5) (gA S4 r6) ((0 : Int32)).toNatClampNeg ((0 : Int32)).toNatClampNeg ((6 : Int32)).toNatClampNeg) := ⟨_, rfl⟩
  replace h := h S8 eS8
  refine gg_copyi hx hb (hml.trans hl.1.symm) hown (hts (.methodLink RX4 40 arraycopyName) (List.mem_of_getElem? (i := 2) rfl)) (hts (.native arraycopyName) (List.mem_of_getElem? (i := 3) rfl)) (hts (.static arraycopyName) (List.mem_of_getElem? (i := 4) rfl)) (hts (.initialized "java/lang/System") (List.mem_of_getElem? (i := 5) rfl)) hK hG hS hk.1 hk.2 hn.1 hn.2.1 hn.2.2 hi.1 hi.2 (Nat.le_of_ble_eq_true rfl) (Nat.le_of_ble_eq_true rfl) dX4_takeFrom_27 (fun H locs7 hG hS => ?_)
  rw [← eS8] at hG
  refine lv_aload_n hx hb dX4_takeFrom_30 rfl (lv_at hl 0 rfl) ?_
  refine lv_aload_n hx hb dX4_takeFrom_31 rfl (lv_at hl 1 rfl) ?_
  have hk := h.1
  replace h := h.2
  refine gg_get (ci := 4) (C := RX4) (T := TX4) (N := 3) hx hb hts (fun _ h => List.mem_cons_of_mem _ (List.mem_append_right _ (h))) hown hK hG (kc_5 hk) rfl 2 (by decide) (hts (.fieldLink RX4 18 "FourStones$Stones" "count" "I") (List.mem_of_getElem? (i := 7) rfl)) (fun _ h9 => h9) rfl dX4_takeFrom_32 ?_
  have hk := h.1
  replace h := h.2
  obtain ⟨S9, eS9⟩ : ∃ z, z = sI S8 42 a0 (gI S8 42 a1) := ⟨_, rfl⟩
  replace h := h S9 eS9
  refine gg_put (ci := 4) (C := RX4) (T := TX4) (N := 3) hx hb hts (fun _ h => List.mem_cons_of_mem _ (List.mem_append_right _ (h))) tyX4 tyX4_ok nmX4 hown hK hG hS (kc_5 hk) rfl 2 (by decide) (hts (.fieldLink RX4 18 "FourStones$Stones" "count" "I") (List.mem_of_getElem? (i := 7) rfl)) (fun _ h9 => h9) rfl (tyX4_ok 2 (by decide)) rfl rfl (Nat.le_of_ble_eq_true rfl) dX4_takeFrom_35 (S' := S9) (fun b hb9 => by rw [eS9]; exact cO_sI hb9) (by rw [eS9]; exact cs_42 hk) (fun H locs10 hG hS => ?_)
  exact W.vret hx hb hr (gr_v h hG hK hX hS) hS.2.2 dX4_takeFrom_38
set_option maxHeartbeats 4000000 in
set_option maxRecDepth 100000 in
theorem c_X3_readLetter (l : Launch) (D : va_G) (κ : Nat → ClassId) (A : Nat → Prop) (S : Hp) (a0 : Nat) (a1 : Nat) (Q : Int32 → Hp → Prop) (h : wp_X3_readLetter a0 a1 S Q) : Met l yX3_readLetter wsX3_readLetter ({ frames := 2, cells := 0, slots := 0, locals := 96 } : Room) (PG D κ A S [.ref a0, .ref a1]) (va_Qi Q (BG D κ A) A) 0 0 A := by
  refine Met.ofW (cc := cX3_readLetter) (maxL := 3) (ret := (some .int)) (by decide) rfl ?_
  intro p e s m args below meth c s₁ B hml hv
  obtain ⟨hargs, hA, hG, hK, hX⟩ := hv
  have hx := B.exec
  have hb := B.bytes
  have hr := B.returns
  have hts := atoms_spec (ws := wsX3_readLetter) B.pre
  have hown : s.vm.findClass RX3 = some m.cls := findClass_of_methodNamed B.named
  have hlocks := B.notSynchronized
  subst hargs
  clear B
  have hS : va_S A s.heap s.heap [] := va_S.rf
  have hl := lv_entry ([.ref a0, .ref a1]) (n := 3) (Nat.le_of_ble_eq_true rfl)
  rw [lg_entry_eq]
  generalize (lg_sl ([.ref a0, .ref a1]) ++ List.replicate (3 - (lg_sl ([.ref a0, .ref a1])).length) Slot.unset).toArray = ls at hl ⊢
  have hl : lv_has ls 3 [(0, .ref a0), (1, .ref a1)] := hl
  have hG : GG D κ A S s.heap := hG
  refine lv_aload_n hx hb dX3_readLetter_0 rfl (lv_at hl 1 rfl) ?_
  refine lv_aload_n hx hb dX3_readLetter_1 rfl (lv_at hl 0 rfl) ?_
  have hk := h.1
  replace h := h.2
  refine gg_get (ci := 3) (C := RX3) (T := TX3) (N := 3) hx hb hts (fun _ h => List.mem_cons_of_mem _ (List.mem_append_left _ (List.mem_append_right _ (h)))) hown hK hG (kc_4 hk) rfl 1 (by decide) (hts (.fieldLink RX3 22 "FourStones$ShopReader" "at" "I") (List.mem_of_getElem? (i := 1) rfl)) (fun _ h9 => h9) rfl dX3_readLetter_2 ?_
  have hk := h.1
  replace h := h.2
  refine gc_i (va_runV (As := [.int (gI S 31 a0)]) (rest := []) ⟨hx, hb, hml, hown, hts⟩ (c_X1_isPlace l D κ A S a1 (gI S 31 a0) _ h) (cwV 1 hts gX3_readLetter_X1_isPlace rfl rfl rfl (by decide +kernel) ⟨Nat.le_of_ble_eq_true rfl, Nat.le_of_ble_eq_true rfl⟩) (pg_V (q := (RX1, TX1, 2)) hK hX hG (pg_A hA hS) (kc_2 hk) rfl) rfl rfl hl.1 rfl (lv_room (Nat.le_of_ble_eq_true rfl)) dX3_readLetter_5 ⟨Nat.le_of_ble_eq_true rfl, Nat.le_of_ble_eq_true rfl⟩) hS (fun z3 S2 H locs1 h hG hS => ?_)
  refine lv_if_ne (tgt := 13) hx hb dX3_readLetter_8 rfl (fun hc => ?_) (fun hc => ?_)
  · replace h := h.1 hc
    refine lv_aload_n hx hb dX3_readLetter_13 rfl (lv_at hl 1 rfl) ?_
    have hk := h.1
    replace h := h.2
    obtain ⟨r4, hr4, h⟩ := h
    refine gg_get (v := .ref r4) (ci := 1) (C := RX1) (T := TX1) (N := 2) hx hb hts (fun _ h => List.mem_cons_of_mem _ (List.mem_append_right _ (h))) hown hK hG (kc_2 hk) rfl 1 (by decide) (hts (.fieldLink RX3 33 "FourStones$Row" "cells" "[I") (List.mem_of_getElem? (i := 2) rfl)) (fun _ h9 => h9) (congrArg (fun z => some (va_rf z)) hr4) dX3_readLetter_14 ?_
    refine lv_aload_n hx hb dX3_readLetter_17 rfl (lv_at hl 0 rfl) ?_
    have hk := h.1
    replace h := h.2
    refine gg_get (ci := 3) (C := RX3) (T := TX3) (N := 3) hx hb hts (fun _ h => List.mem_cons_of_mem _ (List.mem_append_left _ (List.mem_append_right _ (h)))) hown hK hG (kc_4 hk) rfl 1 (by decide) (hts (.fieldLink RX3 22 "FourStones$ShopReader" "at" "I") (List.mem_of_getElem? (i := 1) rfl)) (fun _ h9 => h9) rfl dX3_readLetter_18 ?_
    have hk := h.1
    replace h := h.2
    have hi := h.1
    replace h := h.2
    refine gg_iald hx hb hK hG hk hi dX3_readLetter_21 ?_
    refine lv_topi (fun y5 ey5 => ?_)
    replace h := h y5 ey5
    refine lv_istore_n (lv' := [(2, .int y5), (0, .ref a0), (1, .ref a1)]) hx hb dX3_readLetter_22 rfl hl (by decide) rfl (fun ls hl => ?_)
    refine lv_iload_n hx hb dX3_readLetter_23 rfl (lv_at hl 0 rfl) ?_
    refine lv_bipush (v := (115 : Int32)) hx hb dX3_readLetter_24 (by decide) ?_
    refine lv_icmp_eq (tgt := 49) hx hb dX3_readLetter_26 rfl (fun hc => ?_) (fun hc => ?_)
    · replace h := h.1 hc
      refine lv_aload_n hx hb dX3_readLetter_49 rfl (lv_at hl 1 rfl) ?_
      refine lv_dup hx hb dX3_readLetter_50 rfl ?_
      have hk := h.1
      replace h := h.2
      refine gg_get (ci := 3) (C := RX3) (T := TX3) (N := 3) hx hb hts (fun _ h => List.mem_cons_of_mem _ (List.mem_append_left _ (List.mem_append_right _ (h)))) hown hK hG (kc_4 hk) rfl 1 (by decide) (hts (.fieldLink RX3 22 "FourStones$ShopReader" "at" "I") (List.mem_of_getElem? (i := 1) rfl)) (fun _ h9 => h9) rfl dX3_readLetter_51 ?_
      refine lv_iconst (v := (1 : Int32)) hx hb dX3_readLetter_54 (by decide) ?_
      refine lv_iadd hx hb dX3_readLetter_55 ?_
      have hk := h.1
      replace h := h.2
      obtain ⟨S6, eS6⟩ : ∃ z, z = sI S2 31 a0 ((gI S2 31 a0) + (1 : Int32)) := ⟨_, rfl⟩
      replace h := h S6 eS6
      refine gg_put (ci := 3) (C := RX3) (T := TX3) (N := 3) hx hb hts (fun _ h => List.mem_cons_of_mem _ (List.mem_append_left _ (List.mem_append_right _ (h)))) tyX3 tyX3_ok nmX3 hown hK hG hS (kc_4 hk) rfl 1 (by decide) (hts (.fieldLink RX3 22 "FourStones$ShopReader" "at" "I") (List.mem_of_getElem? (i := 1) rfl)) (fun _ h9 => h9) rfl (tyX3_ok 1 (by decide)) rfl rfl (Nat.le_of_ble_eq_true rfl) dX3_readLetter_56 (S' := S6) (fun b hb9 => by rw [eS6]; exact cO_sI hb9) (by rw [eS6]; exact cs_31 hk) (fun H locs7 hG hS => ?_)
      refine lv_iload_n hx hb dX3_readLetter_59 rfl (lv_at hl 0 rfl) ?_
      exact W.iret hx hb hr (gr_i h hG hK hX hS) hS.2.2 dX3_readLetter_60
    · replace h := h.2 hc
      refine lv_iload_n hx hb dX3_readLetter_29 rfl (lv_at hl 0 rfl) ?_
      refine lv_bipush (v := (119 : Int32)) hx hb dX3_readLetter_30 (by decide) ?_
      refine lv_icmp_eq (tgt := 49) hx hb dX3_readLetter_32 rfl (fun hc => ?_) (fun hc => ?_)
      · replace h := h.1 hc
        refine lv_aload_n hx hb dX3_readLetter_49 rfl (lv_at hl 1 rfl) ?_
        refine lv_dup hx hb dX3_readLetter_50 rfl ?_
        have hk := h.1
        replace h := h.2
        refine gg_get (ci := 3) (C := RX3) (T := TX3) (N := 3) hx hb hts (fun _ h => List.mem_cons_of_mem _ (List.mem_append_left _ (List.mem_append_right _ (h)))) hown hK hG (kc_4 hk) rfl 1 (by decide) (hts (.fieldLink RX3 22 "FourStones$ShopReader" "at" "I") (List.mem_of_getElem? (i := 1) rfl)) (fun _ h9 => h9) rfl dX3_readLetter_51 ?_
        refine lv_iconst (v := (1 : Int32)) hx hb dX3_readLetter_54 (by decide) ?_
        refine lv_iadd hx hb dX3_readLetter_55 ?_
        have hk := h.1
        replace h := h.2
        obtain ⟨S8, eS8⟩ : ∃ z, z = sI S2 31 a0 ((gI S2 31 a0) + (1 : Int32)) := ⟨_, rfl⟩
        replace h := h S8 eS8
        refine gg_put (ci := 3) (C := RX3) (T := TX3) (N := 3) hx hb hts (fun _ h => List.mem_cons_of_mem _ (List.mem_append_left _ (List.mem_append_right _ (h)))) tyX3 tyX3_ok nmX3 hown hK hG hS (kc_4 hk) rfl 1 (by decide) (hts (.fieldLink RX3 22 "FourStones$ShopReader" "at" "I") (List.mem_of_getElem? (i := 1) rfl)) (fun _ h9 => h9) rfl (tyX3_ok 1 (by decide)) rfl rfl (Nat.le_of_ble_eq_true rfl) dX3_readLetter_56 (S' := S8) (fun b hb9 => by rw [eS8]; exact cO_sI hb9) (by rw [eS8]; exact cs_31 hk) (fun H locs9 hG hS => ?_)
        refine lv_iload_n hx hb dX3_readLetter_59 rfl (lv_at hl 0 rfl) ?_
        exact W.iret hx hb hr (gr_i h hG hK hX hS) hS.2.2 dX3_readLetter_60
      · replace h := h.2 hc
        refine lv_iload_n hx hb dX3_readLetter_35 rfl (lv_at hl 0 rfl) ?_
        refine lv_bipush (v := (112 : Int32)) hx hb dX3_readLetter_36 (by decide) ?_
        refine lv_icmp_eq (tgt := 49) hx hb dX3_readLetter_38 rfl (fun hc => ?_) (fun hc => ?_)
        · replace h := h.1 hc
          refine lv_aload_n hx hb dX3_readLetter_49 rfl (lv_at hl 1 rfl) ?_
          refine lv_dup hx hb dX3_readLetter_50 rfl ?_
          have hk := h.1
          replace h := h.2
          refine gg_get (ci := 3) (C := RX3) (T := TX3) (N := 3) hx hb hts (fun _ h => List.mem_cons_of_mem _ (List.mem_append_left _ (List.mem_append_right _ (h)))) hown hK hG (kc_4 hk) rfl 1 (by decide) (hts (.fieldLink RX3 22 "FourStones$ShopReader" "at" "I") (List.mem_of_getElem? (i := 1) rfl)) (fun _ h9 => h9) rfl dX3_readLetter_51 ?_
          refine lv_iconst (v := (1 : Int32)) hx hb dX3_readLetter_54 (by decide) ?_
          refine lv_iadd hx hb dX3_readLetter_55 ?_
          have hk := h.1
          replace h := h.2
          obtain ⟨S10, eS10⟩ : ∃ z, z = sI S2 31 a0 ((gI S2 31 a0) + (1 : Int32)) := ⟨_, rfl⟩
          replace h := h S10 eS10
          refine gg_put (ci := 3) (C := RX3) (T := TX3) (N := 3) hx hb hts (fun _ h => List.mem_cons_of_mem _ (List.mem_append_left _ (List.mem_append_right _ (h)))) tyX3 tyX3_ok nmX3 hown hK hG hS (kc_4 hk) rfl 1 (by decide) (hts (.fieldLink RX3 22 "FourStones$ShopReader" "at" "I") (List.mem_of_getElem? (i := 1) rfl)) (fun _ h9 => h9) rfl (tyX3_ok 1 (by decide)) rfl rfl (Nat.le_of_ble_eq_true rfl) dX3_readLetter_56 (S' := S10) (fun b hb9 => by rw [eS10]; exact cO_sI hb9) (by rw [eS10]; exact cs_31 hk) (fun H locs11 hG hS => ?_)
          refine lv_iload_n hx hb dX3_readLetter_59 rfl (lv_at hl 0 rfl) ?_
          exact W.iret hx hb hr (gr_i h hG hK hX hS) hS.2.2 dX3_readLetter_60
        · replace h := h.2 hc
          refine lv_iload_n hx hb dX3_readLetter_41 rfl (lv_at hl 0 rfl) ?_
          refine lv_bipush (v := (120 : Int32)) hx hb dX3_readLetter_42 (by decide) ?_
          refine lv_icmp_eq (tgt := 49) hx hb dX3_readLetter_44 rfl (fun hc => ?_) (fun hc => ?_)
          · replace h := h.1 hc
            refine lv_aload_n hx hb dX3_readLetter_49 rfl (lv_at hl 1 rfl) ?_
            refine lv_dup hx hb dX3_readLetter_50 rfl ?_
            have hk := h.1
            replace h := h.2
            refine gg_get (ci := 3) (C := RX3) (T := TX3) (N := 3) hx hb hts (fun _ h => List.mem_cons_of_mem _ (List.mem_append_left _ (List.mem_append_right _ (h)))) hown hK hG (kc_4 hk) rfl 1 (by decide) (hts (.fieldLink RX3 22 "FourStones$ShopReader" "at" "I") (List.mem_of_getElem? (i := 1) rfl)) (fun _ h9 => h9) rfl dX3_readLetter_51 ?_
            refine lv_iconst (v := (1 : Int32)) hx hb dX3_readLetter_54 (by decide) ?_
            refine lv_iadd hx hb dX3_readLetter_55 ?_
            have hk := h.1
            replace h := h.2
            obtain ⟨S12, eS12⟩ : ∃ z, z = sI S2 31 a0 ((gI S2 31 a0) + (1 : Int32)) := ⟨_, rfl⟩
            replace h := h S12 eS12
            refine gg_put (ci := 3) (C := RX3) (T := TX3) (N := 3) hx hb hts (fun _ h => List.mem_cons_of_mem _ (List.mem_append_left _ (List.mem_append_right _ (h)))) tyX3 tyX3_ok nmX3 hown hK hG hS (kc_4 hk) rfl 1 (by decide) (hts (.fieldLink RX3 22 "FourStones$ShopReader" "at" "I") (List.mem_of_getElem? (i := 1) rfl)) (fun _ h9 => h9) rfl (tyX3_ok 1 (by decide)) rfl rfl (Nat.le_of_ble_eq_true rfl) dX3_readLetter_56 (S' := S12) (fun b hb9 => by rw [eS12]; exact cO_sI hb9) (by rw [eS12]; exact cs_31 hk) (fun H locs13 hG hS => ?_)
            refine lv_iload_n hx hb dX3_readLetter_59 rfl (lv_at hl 0 rfl) ?_
            exact W.iret hx hb hr (gr_i h hG hK hX hS) hS.2.2 dX3_readLetter_60
          · replace h := h.2 hc
            refine lv_iconst (v := (-1 : Int32)) hx hb dX3_readLetter_47 (by decide) ?_
            exact W.iret hx hb hr (gr_i h hG hK hX hS) hS.2.2 dX3_readLetter_48
  · replace h := h.2 hc
    refine lv_iconst (v := (-1 : Int32)) hx hb dX3_readLetter_11 (by decide) ?_
    exact W.iret hx hb hr (gr_i h hG hK hX hS) hS.2.2 dX3_readLetter_12
set_option maxHeartbeats 4000000 in
set_option maxRecDepth 100000 in
theorem c_X3_readDigit (l : Launch) (D : va_G) (κ : Nat → ClassId) (A : Nat → Prop) (S : Hp) (a0 : Nat) (a1 : Nat) (Q : Int32 → Hp → Prop) (h : wp_X3_readDigit a0 a1 S Q) : Met l yX3_readDigit wsX3_readDigit ({ frames := 2, cells := 0, slots := 0, locals := 96 } : Room) (PG D κ A S [.ref a0, .ref a1]) (va_Qi Q (BG D κ A) A) 0 0 A := by
  refine Met.ofW (cc := cX3_readDigit) (maxL := 3) (ret := (some .int)) (by decide) rfl ?_
  intro p e s m args below meth c s₁ B hml hv
  obtain ⟨hargs, hA, hG, hK, hX⟩ := hv
  have hx := B.exec
  have hb := B.bytes
  have hr := B.returns
  have hts := atoms_spec (ws := wsX3_readDigit) B.pre
  have hown : s.vm.findClass RX3 = some m.cls := findClass_of_methodNamed B.named
  have hlocks := B.notSynchronized
  subst hargs
  clear B
  have hS : va_S A s.heap s.heap [] := va_S.rf
  have hl := lv_entry ([.ref a0, .ref a1]) (n := 3) (Nat.le_of_ble_eq_true rfl)
  rw [lg_entry_eq]
  generalize (lg_sl ([.ref a0, .ref a1]) ++ List.replicate (3 - (lg_sl ([.ref a0, .ref a1])).length) Slot.unset).toArray = ls at hl ⊢
  have hl : lv_has ls 3 [(0, .ref a0), (1, .ref a1)] := hl
  have hG : GG D κ A S s.heap := hG
  refine lv_aload_n hx hb dX3_readDigit_0 rfl (lv_at hl 1 rfl) ?_
  refine lv_aload_n hx hb dX3_readDigit_1 rfl (lv_at hl 0 rfl) ?_
  have hk := h.1
  replace h := h.2
  refine gg_get (ci := 3) (C := RX3) (T := TX3) (N := 3) hx hb hts (fun _ h => List.mem_cons_of_mem _ (List.mem_append_left _ (List.mem_append_right _ (h)))) hown hK hG (kc_4 hk) rfl 1 (by decide) (hts (.fieldLink RX3 22 "FourStones$ShopReader" "at" "I") (List.mem_of_getElem? (i := 1) rfl)) (fun _ h9 => h9) rfl dX3_readDigit_2 ?_
  have hk := h.1
  replace h := h.2
  refine gc_i (va_runV (As := [.int (gI S 31 a0)]) (rest := []) ⟨hx, hb, hml, hown, hts⟩ (c_X1_isPlace l D κ A S a1 (gI S 31 a0) _ h) (cwV 1 hts gX3_readDigit_X1_isPlace rfl rfl rfl (by decide +kernel) ⟨Nat.le_of_ble_eq_true rfl, Nat.le_of_ble_eq_true rfl⟩) (pg_V (q := (RX1, TX1, 2)) hK hX hG (pg_A hA hS) (kc_2 hk) rfl) rfl rfl hl.1 rfl (lv_room (Nat.le_of_ble_eq_true rfl)) dX3_readDigit_5 ⟨Nat.le_of_ble_eq_true rfl, Nat.le_of_ble_eq_true rfl⟩) hS (fun z3 S2 H locs1 h hG hS => ?_)
  refine lv_if_eq (tgt := 39) hx hb dX3_readDigit_8 rfl (fun hc => ?_) (fun hc => ?_)
  · replace h := h.1 hc
    refine lv_iconst (v := (-1 : Int32)) hx hb dX3_readDigit_39 (by decide) ?_
    exact W.iret hx hb hr (gr_i h hG hK hX hS) hS.2.2 dX3_readDigit_40
  · replace h := h.2 hc
    refine lv_aload_n hx hb dX3_readDigit_11 rfl (lv_at hl 1 rfl) ?_
    have hk := h.1
    replace h := h.2
    obtain ⟨r4, hr4, h⟩ := h
    refine gg_get (v := .ref r4) (ci := 1) (C := RX1) (T := TX1) (N := 2) hx hb hts (fun _ h => List.mem_cons_of_mem _ (List.mem_append_right _ (h))) hown hK hG (kc_2 hk) rfl 1 (by decide) (hts (.fieldLink RX3 33 "FourStones$Row" "cells" "[I") (List.mem_of_getElem? (i := 2) rfl)) (fun _ h9 => h9) (congrArg (fun z => some (va_rf z)) hr4) dX3_readDigit_12 ?_
    refine lv_aload_n hx hb dX3_readDigit_15 rfl (lv_at hl 0 rfl) ?_
    have hk := h.1
    replace h := h.2
    refine gg_get (ci := 3) (C := RX3) (T := TX3) (N := 3) hx hb hts (fun _ h => List.mem_cons_of_mem _ (List.mem_append_left _ (List.mem_append_right _ (h)))) hown hK hG (kc_4 hk) rfl 1 (by decide) (hts (.fieldLink RX3 22 "FourStones$ShopReader" "at" "I") (List.mem_of_getElem? (i := 1) rfl)) (fun _ h9 => h9) rfl dX3_readDigit_16 ?_
    have hk := h.1
    replace h := h.2
    have hi := h.1
    replace h := h.2
    refine gg_iald hx hb hK hG hk hi dX3_readDigit_19 ?_
    refine lv_bipush (v := (48 : Int32)) hx hb dX3_readDigit_20 (by decide) ?_
    refine lv_icmp_lt (tgt := 39) hx hb dX3_readDigit_22 rfl (fun hc => ?_) (fun hc => ?_)
    · replace h := h.1 hc
      refine lv_iconst (v := (-1 : Int32)) hx hb dX3_readDigit_39 (by decide) ?_
      exact W.iret hx hb hr (gr_i h hG hK hX hS) hS.2.2 dX3_readDigit_40
    · replace h := h.2 hc
      refine lv_aload_n hx hb dX3_readDigit_25 rfl (lv_at hl 1 rfl) ?_
      have hk := h.1
      replace h := h.2
      obtain ⟨r5, hr5, h⟩ := h
      refine gg_get (v := .ref r5) (ci := 1) (C := RX1) (T := TX1) (N := 2) hx hb hts (fun _ h => List.mem_cons_of_mem _ (List.mem_append_right _ (h))) hown hK hG (kc_2 hk) rfl 1 (by decide) (hts (.fieldLink RX3 33 "FourStones$Row" "cells" "[I") (List.mem_of_getElem? (i := 2) rfl)) (fun _ h9 => h9) (congrArg (fun z => some (va_rf z)) hr5) dX3_readDigit_26 ?_
      refine lv_aload_n hx hb dX3_readDigit_29 rfl (lv_at hl 0 rfl) ?_
      have hk := h.1
      replace h := h.2
      refine gg_get (ci := 3) (C := RX3) (T := TX3) (N := 3) hx hb hts (fun _ h => List.mem_cons_of_mem _ (List.mem_append_left _ (List.mem_append_right _ (h)))) hown hK hG (kc_4 hk) rfl 1 (by decide) (hts (.fieldLink RX3 22 "FourStones$ShopReader" "at" "I") (List.mem_of_getElem? (i := 1) rfl)) (fun _ h9 => h9) rfl dX3_readDigit_30 ?_
      have hk := h.1
      replace h := h.2
      have hi := h.1
      replace h := h.2
      refine gg_iald hx hb hK hG hk hi dX3_readDigit_33 ?_
      refine lv_bipush (v := (57 : Int32)) hx hb dX3_readDigit_34 (by decide) ?_
      refine lv_icmp_le (tgt := 41) hx hb dX3_readDigit_36 rfl (fun hc => ?_) (fun hc => ?_)
      · replace h := h.1 hc
        refine lv_aload_n hx hb dX3_readDigit_41 rfl (lv_at hl 1 rfl) ?_
        have hk := h.1
        replace h := h.2
        obtain ⟨r6, hr6, h⟩ := h
        refine gg_get (v := .ref r6) (ci := 1) (C := RX1) (T := TX1) (N := 2) hx hb hts (fun _ h => List.mem_cons_of_mem _ (List.mem_append_right _ (h))) hown hK hG (kc_2 hk) rfl 1 (by decide) (hts (.fieldLink RX3 33 "FourStones$Row" "cells" "[I") (List.mem_of_getElem? (i := 2) rfl)) (fun _ h9 => h9) (congrArg (fun z => some (va_rf z)) hr6) dX3_readDigit_42 ?_
        refine lv_aload_n hx hb dX3_readDigit_45 rfl (lv_at hl 0 rfl) ?_
        have hk := h.1
        replace h := h.2
        refine gg_get (ci := 3) (C := RX3) (T := TX3) (N := 3) hx hb hts (fun _ h => List.mem_cons_of_mem _ (List.mem_append_left _ (List.mem_append_right _ (h)))) hown hK hG (kc_4 hk) rfl 1 (by decide) (hts (.fieldLink RX3 22 "FourStones$ShopReader" "at" "I") (List.mem_of_getElem? (i := 1) rfl)) (fun _ h9 => h9) rfl dX3_readDigit_46 ?_
        have hk := h.1
        replace h := h.2
        have hi := h.1
        replace h := h.2
        refine gg_iald hx hb hK hG hk hi dX3_readDigit_49 ?_
        refine lv_bipush (v := (48 : Int32)) hx hb dX3_readDigit_50 (by decide) ?_
        refine lv_isub hx hb dX3_readDigit_52 ?_
        refine lv_topi (fun y7 ey7 => ?_)
        replace h := h y7 ey7
        refine lv_istore_n (lv' := [(2, .int y7), (0, .ref a0), (1, .ref a1)]) hx hb dX3_readDigit_53 rfl hl (by decide) rfl (fun ls hl => ?_)
        refine lv_aload_n hx hb dX3_readDigit_54 rfl (lv_at hl 1 rfl) ?_
        refine lv_dup hx hb dX3_readDigit_55 rfl ?_
        have hk := h.1
        replace h := h.2
        refine gg_get (ci := 3) (C := RX3) (T := TX3) (N := 3) hx hb hts (fun _ h => List.mem_cons_of_mem _ (List.mem_append_left _ (List.mem_append_right _ (h)))) hown hK hG (kc_4 hk) rfl 1 (by decide) (hts (.fieldLink RX3 22 "FourStones$ShopReader" "at" "I") (List.mem_of_getElem? (i := 1) rfl)) (fun _ h9 => h9) rfl dX3_readDigit_56 ?_
        refine lv_iconst (v := (1 : Int32)) hx hb dX3_readDigit_59 (by decide) ?_
        refine lv_iadd hx hb dX3_readDigit_60 ?_
        have hk := h.1
        replace h := h.2
        obtain ⟨S8, eS8⟩ : ∃ z, z = sI S2 31 a0 ((gI S2 31 a0) + (1 : Int32)) := ⟨_, rfl⟩
        replace h := h S8 eS8
        refine gg_put (ci := 3) (C := RX3) (T := TX3) (N := 3) hx hb hts (fun _ h => List.mem_cons_of_mem _ (List.mem_append_left _ (List.mem_append_right _ (h)))) tyX3 tyX3_ok nmX3 hown hK hG hS (kc_4 hk) rfl 1 (by decide) (hts (.fieldLink RX3 22 "FourStones$ShopReader" "at" "I") (List.mem_of_getElem? (i := 1) rfl)) (fun _ h9 => h9) rfl (tyX3_ok 1 (by decide)) rfl rfl (Nat.le_of_ble_eq_true rfl) dX3_readDigit_61 (S' := S8) (fun b hb9 => by rw [eS8]; exact cO_sI hb9) (by rw [eS8]; exact cs_31 hk) (fun H locs9 hG hS => ?_)
        refine lv_iload_n hx hb dX3_readDigit_64 rfl (lv_at hl 0 rfl) ?_
        exact W.iret hx hb hr (gr_i h hG hK hX hS) hS.2.2 dX3_readDigit_65
      · replace h := h.2 hc
        refine lv_iconst (v := (-1 : Int32)) hx hb dX3_readDigit_39 (by decide) ?_
        exact W.iret hx hb hr (gr_i h hG hK hX hS) hS.2.2 dX3_readDigit_40
set_option maxHeartbeats 4000000 in
set_option maxRecDepth 100000 in
theorem c_X3_readNumber (l : Launch) (D : va_G) (κ : Nat → ClassId) (A : Nat → Prop) (S : Hp) (a0 : Nat) (a1 : Nat) (Q : Int32 → Hp → Prop) (h : wp_X3_readNumber a0 a1 S Q) : Met l yX3_readNumber wsX3_readNumber ({ frames := 3, cells := 0, slots := 0, locals := 144 } : Room) (PG D κ A S [.ref a0, .ref a1]) (va_Qi Q (BG D κ A) A) 0 0 A := by
  refine Met.ofW (cc := cX3_readNumber) (maxL := 4) (ret := (some .int)) (by decide) rfl ?_
  intro p e s m args below meth c s₁ B hml hv
  obtain ⟨hargs, hA, hG, hK, hX⟩ := hv
  have hx := B.exec
  have hb := B.bytes
  have hr := B.returns
  have hts := atoms_spec (ws := wsX3_readNumber) B.pre
  have hown : s.vm.findClass RX3 = some m.cls := findClass_of_methodNamed B.named
  have hlocks := B.notSynchronized
  subst hargs
  clear B
  have hS : va_S A s.heap s.heap [] := va_S.rf
  have hl := lv_entry ([.ref a0, .ref a1]) (n := 4) (Nat.le_of_ble_eq_true rfl)
  rw [lg_entry_eq]
  generalize (lg_sl ([.ref a0, .ref a1]) ++ List.replicate (4 - (lg_sl ([.ref a0, .ref a1])).length) Slot.unset).toArray = ls at hl ⊢
  have hl : lv_has ls 4 [(0, .ref a0), (1, .ref a1)] := hl
  have hG : GG D κ A S s.heap := hG
  refine lv_aload_n hx hb dX3_readNumber_0 rfl (lv_at hl 0 rfl) ?_
  refine lv_aload_n hx hb dX3_readNumber_1 rfl (lv_at hl 1 rfl) ?_
  have hk := h.1
  replace h := h.2
  refine gc_i (va_runV (As := [.ref a1]) (rest := []) ⟨hx, hb, hml, hown, hts⟩ (c_X3_readDigit l D κ A S a0 a1 _ h) (cwV 1 hts gX3_readNumber_X3_readDigit rfl rfl rfl (by decide +kernel) ⟨Nat.le_of_ble_eq_true rfl, Nat.le_of_ble_eq_true rfl⟩) (pg_V (q := (RX3, TX3, 3)) hK hX hG (pg_A hA hS) (kc_4 hk) rfl) rfl rfl hl.1 rfl (lv_room (Nat.le_of_ble_eq_true rfl)) dX3_readNumber_2 ⟨Nat.le_of_ble_eq_true rfl, Nat.le_of_ble_eq_true rfl⟩) hS (fun z3 S2 H locs1 h hG hS => ?_)
  refine lv_istore_n (lv' := [(2, .int z3), (0, .ref a0), (1, .ref a1)]) hx hb dX3_readNumber_5 rfl hl (by decide) rfl (fun ls hl => ?_)
  refine lv_iload_n hx hb dX3_readNumber_6 rfl (lv_at hl 0 rfl) ?_
  refine lv_if_gt (tgt := 12) hx hb dX3_readNumber_7 rfl (fun hc => ?_) (fun hc => ?_)
  · replace h := h.1 hc
    refine lv_aload_n hx hb dX3_readNumber_12 rfl (lv_at hl 1 rfl) ?_
    refine lv_aload_n hx hb dX3_readNumber_13 rfl (lv_at hl 2 rfl) ?_
    have hk := h.1
    replace h := h.2
    refine gc_i (va_runV (As := [.ref a1]) (rest := []) ⟨hx, hb, hml, hown, hts⟩ (c_X3_readDigit l D κ A S2 a0 a1 _ h) (cwV 1 hts gX3_readNumber_X3_readDigit rfl rfl rfl (by decide +kernel) ⟨Nat.le_of_ble_eq_true rfl, Nat.le_of_ble_eq_true rfl⟩) (pg_V (q := (RX3, TX3, 3)) hK hX hG (pg_A hA hS) (kc_4 hk) rfl) rfl rfl hl.1 rfl (lv_room (Nat.le_of_ble_eq_true rfl)) dX3_readNumber_14 ⟨Nat.le_of_ble_eq_true rfl, Nat.le_of_ble_eq_true rfl⟩) hS (fun z6 S5 H locs4 h hG hS => ?_)
    refine lv_istore_n (lv' := [(3, .int z6), (2, .int z3), (0, .ref a0), (1, .ref a1)]) hx hb dX3_readNumber_17 rfl hl (by decide) rfl (fun ls hl => ?_)
    refine lv_iload_n hx hb dX3_readNumber_18 rfl (lv_at hl 0 rfl) ?_
    refine lv_if_ge (tgt := 26) hx hb dX3_readNumber_19 rfl (fun hc => ?_) (fun hc => ?_)
    · replace h := h.1 hc
      refine lv_bipush (v := (10 : Int32)) hx hb dX3_readNumber_26 (by decide) ?_
      refine lv_iload_n hx hb dX3_readNumber_28 rfl (lv_at hl 1 rfl) ?_
      refine lv_imul hx hb dX3_readNumber_29 ?_
      refine lv_iload_n hx hb dX3_readNumber_30 rfl (lv_at hl 0 rfl) ?_
      refine lv_iadd hx hb dX3_readNumber_31 ?_
      exact W.iret hx hb hr (gr_i h hG hK hX hS) hS.2.2 dX3_readNumber_32
    · replace h := h.2 hc
      refine lv_iload_n hx hb dX3_readNumber_22 rfl (lv_at hl 1 rfl) ?_
      refine lv_goto (tgt := 32) hx hb dX3_readNumber_23 rfl ?_
      exact W.iret hx hb hr (gr_i h hG hK hX hS) hS.2.2 dX3_readNumber_32
  · replace h := h.2 hc
    refine lv_iload_n hx hb dX3_readNumber_10 rfl (lv_at hl 0 rfl) ?_
    exact W.iret hx hb hr (gr_i h hG hK hX hS) hS.2.2 dX3_readNumber_11
set_option maxHeartbeats 4000000 in
set_option maxRecDepth 100000 in
theorem c_X3_readSign (l : Launch) (D : va_G) (κ : Nat → ClassId) (A : Nat → Prop) (S : Hp) (a0 : Nat) (a1 : Nat) (x2 : Int32) (Q : Int32 → Hp → Prop) (h : wp_X3_readSign a0 a1 x2 S Q) : Met l yX3_readSign wsX3_readSign ({ frames := 2, cells := 0, slots := 0, locals := 96 } : Room) (PG D κ A S [.ref a0, .ref a1, .int x2]) (va_Qi Q (BG D κ A) A) 0 0 A := by
  refine Met.ofW (cc := cX3_readSign) (maxL := 3) (ret := (some .boolean)) (by decide) rfl ?_
  intro p e s m args below meth c s₁ B hml hv
  obtain ⟨hargs, hA, hG, hK, hX⟩ := hv
  have hx := B.exec
  have hb := B.bytes
  have hr := B.returns
  have hts := atoms_spec (ws := wsX3_readSign) B.pre
  have hown : s.vm.findClass RX3 = some m.cls := findClass_of_methodNamed B.named
  have hlocks := B.notSynchronized
  subst hargs
  clear B
  have hS : va_S A s.heap s.heap [] := va_S.rf
  have hl := lv_entry ([.ref a0, .ref a1, .int x2]) (n := 3) (Nat.le_of_ble_eq_true rfl)
  rw [lg_entry_eq]
  generalize (lg_sl ([.ref a0, .ref a1, .int x2]) ++ List.replicate (3 - (lg_sl ([.ref a0, .ref a1, .int x2])).length) Slot.unset).toArray = ls at hl ⊢
  have hl : lv_has ls 3 [(0, .ref a0), (1, .ref a1), (2, .int x2)] := hl
  have hG : GG D κ A S s.heap := hG
  refine lv_aload_n hx hb dX3_readSign_0 rfl (lv_at hl 1 rfl) ?_
  refine lv_aload_n hx hb dX3_readSign_1 rfl (lv_at hl 0 rfl) ?_
  have hk := h.1
  replace h := h.2
  refine gg_get (ci := 3) (C := RX3) (T := TX3) (N := 3) hx hb hts (fun _ h => List.mem_cons_of_mem _ (List.mem_append_left _ (List.mem_append_right _ (h)))) hown hK hG (kc_4 hk) rfl 1 (by decide) (hts (.fieldLink RX3 22 "FourStones$ShopReader" "at" "I") (List.mem_of_getElem? (i := 1) rfl)) (fun _ h9 => h9) rfl dX3_readSign_2 ?_
  have hk := h.1
  replace h := h.2
  refine gc_i (va_runV (As := [.int (gI S 31 a0)]) (rest := []) ⟨hx, hb, hml, hown, hts⟩ (c_X1_isPlace l D κ A S a1 (gI S 31 a0) _ h) (cwV 1 hts gX3_readSign_X1_isPlace rfl rfl rfl (by decide +kernel) ⟨Nat.le_of_ble_eq_true rfl, Nat.le_of_ble_eq_true rfl⟩) (pg_V (q := (RX1, TX1, 2)) hK hX hG (pg_A hA hS) (kc_2 hk) rfl) rfl rfl hl.1 rfl (lv_room (Nat.le_of_ble_eq_true rfl)) dX3_readSign_5 ⟨Nat.le_of_ble_eq_true rfl, Nat.le_of_ble_eq_true rfl⟩) hS (fun z3 S2 H locs1 h hG hS => ?_)
  refine lv_if_eq (tgt := 24) hx hb dX3_readSign_8 rfl (fun hc => ?_) (fun hc => ?_)
  · replace h := h.1 hc
    refine lv_iconst (v := (0 : Int32)) hx hb dX3_readSign_24 (by decide) ?_
    exact W.zret (ty := .boolean) hx hb hr (by decide) (gr_i h hG hK hX hS) hS.2.2 dX3_readSign_25
  · replace h := h.2 hc
    refine lv_aload_n hx hb dX3_readSign_11 rfl (lv_at hl 1 rfl) ?_
    have hk := h.1
    replace h := h.2
    obtain ⟨r4, hr4, h⟩ := h
    refine gg_get (v := .ref r4) (ci := 1) (C := RX1) (T := TX1) (N := 2) hx hb hts (fun _ h => List.mem_cons_of_mem _ (List.mem_append_right _ (h))) hown hK hG (kc_2 hk) rfl 1 (by decide) (hts (.fieldLink RX3 33 "FourStones$Row" "cells" "[I") (List.mem_of_getElem? (i := 2) rfl)) (fun _ h9 => h9) (congrArg (fun z => some (va_rf z)) hr4) dX3_readSign_12 ?_
    refine lv_aload_n hx hb dX3_readSign_15 rfl (lv_at hl 0 rfl) ?_
    have hk := h.1
    replace h := h.2
    refine gg_get (ci := 3) (C := RX3) (T := TX3) (N := 3) hx hb hts (fun _ h => List.mem_cons_of_mem _ (List.mem_append_left _ (List.mem_append_right _ (h)))) hown hK hG (kc_4 hk) rfl 1 (by decide) (hts (.fieldLink RX3 22 "FourStones$ShopReader" "at" "I") (List.mem_of_getElem? (i := 1) rfl)) (fun _ h9 => h9) rfl dX3_readSign_16 ?_
    have hk := h.1
    replace h := h.2
    have hi := h.1
    replace h := h.2
    refine gg_iald hx hb hK hG hk hi dX3_readSign_19 ?_
    refine lv_iload_n hx hb dX3_readSign_20 rfl (lv_at hl 2 rfl) ?_
    refine lv_icmp_eq (tgt := 26) hx hb dX3_readSign_21 rfl (fun hc => ?_) (fun hc => ?_)
    · replace h := h.1 hc
      refine lv_aload_n hx hb dX3_readSign_26 rfl (lv_at hl 0 rfl) ?_
      refine lv_dup hx hb dX3_readSign_27 rfl ?_
      have hk := h.1
      replace h := h.2
      refine gg_get (ci := 3) (C := RX3) (T := TX3) (N := 3) hx hb hts (fun _ h => List.mem_cons_of_mem _ (List.mem_append_left _ (List.mem_append_right _ (h)))) hown hK hG (kc_4 hk) rfl 1 (by decide) (hts (.fieldLink RX3 22 "FourStones$ShopReader" "at" "I") (List.mem_of_getElem? (i := 1) rfl)) (fun _ h9 => h9) rfl dX3_readSign_28 ?_
      refine lv_iconst (v := (1 : Int32)) hx hb dX3_readSign_31 (by decide) ?_
      refine lv_iadd hx hb dX3_readSign_32 ?_
      have hk := h.1
      replace h := h.2
      obtain ⟨S5, eS5⟩ : ∃ z, z = sI S2 31 a0 ((gI S2 31 a0) + (1 : Int32)) := ⟨_, rfl⟩
      replace h := h S5 eS5
      refine gg_put (ci := 3) (C := RX3) (T := TX3) (N := 3) hx hb hts (fun _ h => List.mem_cons_of_mem _ (List.mem_append_left _ (List.mem_append_right _ (h)))) tyX3 tyX3_ok nmX3 hown hK hG hS (kc_4 hk) rfl 1 (by decide) (hts (.fieldLink RX3 22 "FourStones$ShopReader" "at" "I") (List.mem_of_getElem? (i := 1) rfl)) (fun _ h9 => h9) rfl (tyX3_ok 1 (by decide)) rfl rfl (Nat.le_of_ble_eq_true rfl) dX3_readSign_33 (S' := S5) (fun b hb9 => by rw [eS5]; exact cO_sI hb9) (by rw [eS5]; exact cs_31 hk) (fun H locs6 hG hS => ?_)
      refine lv_iconst (v := (1 : Int32)) hx hb dX3_readSign_36 (by decide) ?_
      exact W.zret (ty := .boolean) hx hb hr (by decide) (gr_i h hG hK hX hS) hS.2.2 dX3_readSign_37
    · replace h := h.2 hc
      refine lv_iconst (v := (0 : Int32)) hx hb dX3_readSign_24 (by decide) ?_
      exact W.zret (ty := .boolean) hx hb hr (by decide) (gr_i h hG hK hX hS) hS.2.2 dX3_readSign_25
set_option maxHeartbeats 4000000 in
set_option maxRecDepth 100000 in
theorem c_X4_isWeight (l : Launch) (D : va_G) (κ : Nat → ClassId) (A : Nat → Prop) (S : Hp) (x0 : Int32) (Q : Int32 → Hp → Prop) (h : wp_X4_isWeight x0 S Q) : Met l yX4_isWeight wsX4_isWeight ({ frames := 1, cells := 0, slots := 0, locals := 48 } : Room) (PG D κ A S [.int x0]) (va_Qi Q (BG D κ A) A) 0 0 A := by
  refine Met.ofW (cc := cX4_isWeight) (maxL := 1) (ret := (some .boolean)) (by decide) rfl ?_
  intro p e s m args below meth c s₁ B hml hv
  obtain ⟨hargs, hA, hG, hK, hX⟩ := hv
  have hx := B.exec
  have hb := B.bytes
  have hr := B.returns
  have hts := atoms_spec (ws := wsX4_isWeight) B.pre
  have hown : s.vm.findClass RX4 = some m.cls := findClass_of_methodNamed B.named
  have hlocks := B.notSynchronized
  subst hargs
  clear B
  have hS : va_S A s.heap s.heap [] := va_S.rf
  have hl := lv_entry ([.int x0]) (n := 1) (Nat.le_of_ble_eq_true rfl)
  rw [lg_entry_eq]
  generalize (lg_sl ([.int x0]) ++ List.replicate (1 - (lg_sl ([.int x0])).length) Slot.unset).toArray = ls at hl ⊢
  have hl : lv_has ls 1 [(0, .int x0)] := hl
  have hG : GG D κ A S s.heap := hG
  refine lv_iload_n hx hb dX4_isWeight_0 rfl (lv_at hl 0 rfl) ?_
  refine lv_iconst (v := (1 : Int32)) hx hb dX4_isWeight_1 (by decide) ?_
  refine lv_icmp_lt (tgt := 15) hx hb dX4_isWeight_2 rfl (fun hc => ?_) (fun hc => ?_)
  · replace h := h.1 hc
    refine lv_iconst (v := (0 : Int32)) hx hb dX4_isWeight_15 (by decide) ?_
    exact W.zret (ty := .boolean) hx hb hr (by decide) (gr_i h hG hK hX hS) hS.2.2 dX4_isWeight_16
  · replace h := h.2 hc
    refine lv_iload_n hx hb dX4_isWeight_5 rfl (lv_at hl 0 rfl) ?_
    refine lv_bipush (v := (99 : Int32)) hx hb dX4_isWeight_6 (by decide) ?_
    refine lv_icmp_gt (tgt := 15) hx hb dX4_isWeight_8 rfl (fun hc => ?_) (fun hc => ?_)
    · replace h := h.1 hc
      refine lv_iconst (v := (0 : Int32)) hx hb dX4_isWeight_15 (by decide) ?_
      exact W.zret (ty := .boolean) hx hb hr (by decide) (gr_i h hG hK hX hS) hS.2.2 dX4_isWeight_16
    · replace h := h.2 hc
      refine lv_iconst (v := (1 : Int32)) hx hb dX4_isWeight_11 (by decide) ?_
      refine lv_goto (tgt := 16) hx hb dX4_isWeight_12 rfl ?_
      exact W.zret (ty := .boolean) hx hb hr (by decide) (gr_i h hG hK hX hS) hS.2.2 dX4_isWeight_16
set_option maxHeartbeats 4000000 in
set_option maxRecDepth 100000 in
theorem c_X4_isPrice (l : Launch) (D : va_G) (κ : Nat → ClassId) (A : Nat → Prop) (S : Hp) (x0 : Int32) (Q : Int32 → Hp → Prop) (h : wp_X4_isPrice x0 S Q) : Met l yX4_isPrice wsX4_isPrice ({ frames := 1, cells := 0, slots := 0, locals := 48 } : Room) (PG D κ A S [.int x0]) (va_Qi Q (BG D κ A) A) 0 0 A := by
  refine Met.ofW (cc := cX4_isPrice) (maxL := 1) (ret := (some .boolean)) (by decide) rfl ?_
  intro p e s m args below meth c s₁ B hml hv
  obtain ⟨hargs, hA, hG, hK, hX⟩ := hv
  have hx := B.exec
  have hb := B.bytes
  have hr := B.returns
  have hts := atoms_spec (ws := wsX4_isPrice) B.pre
  have hown : s.vm.findClass RX4 = some m.cls := findClass_of_methodNamed B.named
  have hlocks := B.notSynchronized
  subst hargs
  clear B
  have hS : va_S A s.heap s.heap [] := va_S.rf
  have hl := lv_entry ([.int x0]) (n := 1) (Nat.le_of_ble_eq_true rfl)
  rw [lg_entry_eq]
  generalize (lg_sl ([.int x0]) ++ List.replicate (1 - (lg_sl ([.int x0])).length) Slot.unset).toArray = ls at hl ⊢
  have hl : lv_has ls 1 [(0, .int x0)] := hl
  have hG : GG D κ A S s.heap := hG
  refine lv_iload_n hx hb dX4_isPrice_0 rfl (lv_at hl 0 rfl) ?_
  refine lv_if_lt (tgt := 14) hx hb dX4_isPrice_1 rfl (fun hc => ?_) (fun hc => ?_)
  · replace h := h.1 hc
    refine lv_iconst (v := (0 : Int32)) hx hb dX4_isPrice_14 (by decide) ?_
    exact W.zret (ty := .boolean) hx hb hr (by decide) (gr_i h hG hK hX hS) hS.2.2 dX4_isPrice_15
  · replace h := h.2 hc
    refine lv_iload_n hx hb dX4_isPrice_4 rfl (lv_at hl 0 rfl) ?_
    refine lv_bipush (v := (99 : Int32)) hx hb dX4_isPrice_5 (by decide) ?_
    refine lv_icmp_gt (tgt := 14) hx hb dX4_isPrice_7 rfl (fun hc => ?_) (fun hc => ?_)
    · replace h := h.1 hc
      refine lv_iconst (v := (0 : Int32)) hx hb dX4_isPrice_14 (by decide) ?_
      exact W.zret (ty := .boolean) hx hb hr (by decide) (gr_i h hG hK hX hS) hS.2.2 dX4_isPrice_15
    · replace h := h.2 hc
      refine lv_iconst (v := (1 : Int32)) hx hb dX4_isPrice_10 (by decide) ?_
      refine lv_goto (tgt := 15) hx hb dX4_isPrice_11 rfl ?_
      exact W.zret (ty := .boolean) hx hb hr (by decide) (gr_i h hG hK hX hS) hS.2.2 dX4_isPrice_15
set_option maxHeartbeats 4000000 in
set_option maxRecDepth 100000 in
theorem c_X4_add (l : Launch) (D : va_G) (κ : Nat → ClassId) (A : Nat → Prop) (S : Hp) (a0 : Nat) (x1 : Int32) (x2 : Int32) (Q : Int32 → Hp → Prop) (h : wp_X4_add a0 x1 x2 S Q) : Met l yX4_add wsX4_add ({ frames := 2, cells := 0, slots := 0, locals := 96 } : Room) (PG D κ A S [.ref a0, .int x1, .int x2]) (va_Qi Q (BG D κ A) A) 0 0 A := by
  refine Met.ofW (cc := cX4_add) (maxL := 3) (ret := (some .boolean)) (by decide) rfl ?_
  intro p e s m args below meth c s₁ B hml hv
  obtain ⟨hargs, hA, hG, hK, hX⟩ := hv
  have hx := B.exec
  have hb := B.bytes
  have hr := B.returns
  have hts := atoms_spec (ws := wsX4_add) B.pre
  have hown : s.vm.findClass RX4 = some m.cls := findClass_of_methodNamed B.named
  have hlocks := B.notSynchronized
  subst hargs
  clear B
  have hS : va_S A s.heap s.heap [] := va_S.rf
  have hl := lv_entry ([.ref a0, .int x1, .int x2]) (n := 3) (Nat.le_of_ble_eq_true rfl)
  rw [lg_entry_eq]
  generalize (lg_sl ([.ref a0, .int x1, .int x2]) ++ List.replicate (3 - (lg_sl ([.ref a0, .int x1, .int x2])).length) Slot.unset).toArray = ls at hl ⊢
  have hl : lv_has ls 3 [(0, .ref a0), (1, .int x1), (2, .int x2)] := hl
  have hG : GG D κ A S s.heap := hG
  refine lv_aload_n hx hb dX4_add_0 rfl (lv_at hl 0 rfl) ?_
  have hk := h.1
  replace h := h.2
  refine gg_get (ci := 4) (C := RX4) (T := TX4) (N := 3) hx hb hts (fun _ h => List.mem_cons_of_mem _ (List.mem_append_right _ (h))) hown hK hG (kc_5 hk) rfl 2 (by decide) (hts (.fieldLink RX4 18 "FourStones$Stones" "count" "I") (List.mem_of_getElem? (i := 1) rfl)) (fun _ h9 => h9) rfl dX4_add_1 ?_
  refine lv_bipush (v := (6 : Int32)) hx hb dX4_add_4 (by decide) ?_
  refine lv_icmp_ge (tgt := 23) hx hb dX4_add_6 rfl (fun hc => ?_) (fun hc => ?_)
  · replace h := h.1 hc
    refine lv_iconst (v := (0 : Int32)) hx hb dX4_add_23 (by decide) ?_
    exact W.zret (ty := .boolean) hx hb hr (by decide) (gr_i h hG hK hX hS) hS.2.2 dX4_add_24
  · replace h := h.2 hc
    refine lv_iload_n hx hb dX4_add_9 rfl (lv_at hl 1 rfl) ?_
    refine gc_i (va_runS (As := [.int x1]) (rest := []) ⟨hx, hb, hml, hown, hts⟩ (c_X4_isWeight l D κ A S x1 _ h) (va_cwS 1 hts gX4_add_X4_isWeight rfl rfl rfl (by decide +kernel) ⟨Nat.le_of_ble_eq_true rfl, Nat.le_of_ble_eq_true rfl⟩) (pg_S hK hX hG (pg_A hA hS)) rfl rfl hl.1 rfl (lv_room (Nat.le_of_ble_eq_true rfl)) dX4_add_10 ⟨Nat.le_of_ble_eq_true rfl, Nat.le_of_ble_eq_true rfl⟩) hS (fun z3 S2 H locs1 h hG hS => ?_)
    refine lv_if_eq (tgt := 23) hx hb dX4_add_13 rfl (fun hc => ?_) (fun hc => ?_)
    · replace h := h.1 hc
      refine lv_iconst (v := (0 : Int32)) hx hb dX4_add_23 (by decide) ?_
      exact W.zret (ty := .boolean) hx hb hr (by decide) (gr_i h hG hK hX hS) hS.2.2 dX4_add_24
    · replace h := h.2 hc
      refine lv_iload_n hx hb dX4_add_16 rfl (lv_at hl 2 rfl) ?_
      refine gc_i (va_runS (As := [.int x2]) (rest := []) ⟨hx, hb, hml, hown, hts⟩ (c_X4_isPrice l D κ A S2 x2 _ h) (va_cwS 1 hts gX4_add_X4_isPrice rfl rfl rfl (by decide +kernel) ⟨Nat.le_of_ble_eq_true rfl, Nat.le_of_ble_eq_true rfl⟩) (pg_S hK hX hG (pg_A hA hS)) rfl rfl hl.1 rfl (lv_room (Nat.le_of_ble_eq_true rfl)) dX4_add_17 ⟨Nat.le_of_ble_eq_true rfl, Nat.le_of_ble_eq_true rfl⟩) hS (fun z6 S5 H locs4 h hG hS => ?_)
      refine lv_if_ne (tgt := 25) hx hb dX4_add_20 rfl (fun hc => ?_) (fun hc => ?_)
      · replace h := h.1 hc
        refine lv_aload_n hx hb dX4_add_25 rfl (lv_at hl 0 rfl) ?_
        have hk := h.1
        replace h := h.2
        obtain ⟨r7, hr7, h⟩ := h
        refine gg_get (v := .ref r7) (ci := 4) (C := RX4) (T := TX4) (N := 3) hx hb hts (fun _ h => List.mem_cons_of_mem _ (List.mem_append_right _ (h))) hown hK hG (kc_5 hk) rfl 0 (by decide) (hts (.fieldLink RX4 9 "FourStones$Stones" "weights" "[I") (List.mem_of_getElem? (i := 2) rfl)) (fun _ h9 => h9) (congrArg (fun z => some (va_rf z)) hr7) dX4_add_26 ?_
        refine lv_aload_n hx hb dX4_add_29 rfl (lv_at hl 0 rfl) ?_
        have hk := h.1
        replace h := h.2
        refine gg_get (ci := 4) (C := RX4) (T := TX4) (N := 3) hx hb hts (fun _ h => List.mem_cons_of_mem _ (List.mem_append_right _ (h))) hown hK hG (kc_5 hk) rfl 2 (by decide) (hts (.fieldLink RX4 18 "FourStones$Stones" "count" "I") (List.mem_of_getElem? (i := 1) rfl)) (fun _ h9 => h9) rfl dX4_add_30 ?_
        refine lv_iload_n hx hb dX4_add_33 rfl (lv_at hl 1 rfl) ?_
        have hk := h.1
        replace h := h.2
        have hi := h.1
        replace h := h.2
        obtain ⟨S8, eS8⟩ : ∃ z, z = sA S5 r7 ((gI S5 42 a0)).toNatClampNeg x1 := ⟨_, rfl⟩
        replace h := h S8 eS8
        refine gg_iast hx hb hK hG hS hk hi dX4_add_34 (fun H locs9 hG hS => ?_)
        rw [← eS8] at hG
        refine lv_aload_n hx hb dX4_add_35 rfl (lv_at hl 0 rfl) ?_
        have hk := h.1
        replace h := h.2
        obtain ⟨r10, hr10, h⟩ := h
        refine gg_get (v := .ref r10) (ci := 4) (C := RX4) (T := TX4) (N := 3) hx hb hts (fun _ h => List.mem_cons_of_mem _ (List.mem_append_right _ (h))) hown hK hG (kc_5 hk) rfl 1 (by decide) (hts (.fieldLink RX4 15 "FourStones$Stones" "prices" "[I") (List.mem_of_getElem? (i := 3) rfl)) (fun _ h9 => h9) (congrArg (fun z => some (va_rf z)) hr10) dX4_add_36 ?_
        refine lv_aload_n hx hb dX4_add_39 rfl (lv_at hl 0 rfl) ?_
        have hk := h.1
        replace h := h.2
        refine gg_get (ci := 4) (C := RX4) (T := TX4) (N := 3) hx hb hts (fun _ h => List.mem_cons_of_mem _ (List.mem_append_right _ (h))) hown hK hG (kc_5 hk) rfl 2 (by decide) (hts (.fieldLink RX4 18 "FourStones$Stones" "count" "I") (List.mem_of_getElem? (i := 1) rfl)) (fun _ h9 => h9) rfl dX4_add_40 ?_
        refine lv_iload_n hx hb dX4_add_43 rfl (lv_at hl 2 rfl) ?_
        have hk := h.1
        replace h := h.2
        have hi := h.1
        replace h := h.2
        obtain ⟨S11, eS11⟩ : ∃ z, z = sA S8 r10 ((gI S8 42 a0)).toNatClampNeg x2 := ⟨_, rfl⟩
        replace h := h S11 eS11
        refine gg_iast hx hb hK hG hS hk hi dX4_add_44 (fun H locs12 hG hS => ?_)
        rw [← eS11] at hG
        refine lv_aload_n hx hb dX4_add_45 rfl (lv_at hl 0 rfl) ?_
        refine lv_dup hx hb dX4_add_46 rfl ?_
        have hk := h.1
        replace h := h.2
        refine gg_get (ci := 4) (C := RX4) (T := TX4) (N := 3) hx hb hts (fun _ h => List.mem_cons_of_mem _ (List.mem_append_right _ (h))) hown hK hG (kc_5 hk) rfl 2 (by decide) (hts (.fieldLink RX4 18 "FourStones$Stones" "count" "I") (List.mem_of_getElem? (i := 1) rfl)) (fun _ h9 => h9) rfl dX4_add_47 ?_
        refine lv_iconst (v := (1 : Int32)) hx hb dX4_add_50 (by decide) ?_
        refine lv_iadd hx hb dX4_add_51 ?_
        have hk := h.1
        replace h := h.2
        obtain ⟨S13, eS13⟩ : ∃ z, z = sI S11 42 a0 ((gI S11 42 a0) + (1 : Int32)) := ⟨_, rfl⟩
        replace h := h S13 eS13
        refine gg_put (ci := 4) (C := RX4) (T := TX4) (N := 3) hx hb hts (fun _ h => List.mem_cons_of_mem _ (List.mem_append_right _ (h))) tyX4 tyX4_ok nmX4 hown hK hG hS (kc_5 hk) rfl 2 (by decide) (hts (.fieldLink RX4 18 "FourStones$Stones" "count" "I") (List.mem_of_getElem? (i := 1) rfl)) (fun _ h9 => h9) rfl (tyX4_ok 2 (by decide)) rfl rfl (Nat.le_of_ble_eq_true rfl) dX4_add_52 (S' := S13) (fun b hb9 => by rw [eS13]; exact cO_sI hb9) (by rw [eS13]; exact cs_42 hk) (fun H locs14 hG hS => ?_)
        refine lv_iconst (v := (1 : Int32)) hx hb dX4_add_55 (by decide) ?_
        exact W.zret (ty := .boolean) hx hb hr (by decide) (gr_i h hG hK hX hS) hS.2.2 dX4_add_56
      · replace h := h.2 hc
        refine lv_iconst (v := (0 : Int32)) hx hb dX4_add_23 (by decide) ?_
        exact W.zret (ty := .boolean) hx hb hr (by decide) (gr_i h hG hK hX hS) hS.2.2 dX4_add_24
set_option maxHeartbeats 4000000 in
set_option maxRecDepth 100000 in
theorem c_X4_isStone (l : Launch) (D : va_G) (κ : Nat → ClassId) (A : Nat → Prop) (S : Hp) (a0 : Nat) (x1 : Int32) (Q : Int32 → Hp → Prop) (h : wp_X4_isStone a0 x1 S Q) : Met l yX4_isStone wsX4_isStone ({ frames := 1, cells := 0, slots := 0, locals := 48 } : Room) (PG D κ A S [.ref a0, .int x1]) (va_Qi Q (BG D κ A) A) 0 0 A := by
  refine Met.ofW (cc := cX4_isStone) (maxL := 2) (ret := (some .boolean)) (by decide) rfl ?_
  intro p e s m args below meth c s₁ B hml hv
  obtain ⟨hargs, hA, hG, hK, hX⟩ := hv
  have hx := B.exec
  have hb := B.bytes
  have hr := B.returns
  have hts := atoms_spec (ws := wsX4_isStone) B.pre
  have hown : s.vm.findClass RX4 = some m.cls := findClass_of_methodNamed B.named
  have hlocks := B.notSynchronized
  subst hargs
  clear B
  have hS : va_S A s.heap s.heap [] := va_S.rf
  have hl := lv_entry ([.ref a0, .int x1]) (n := 2) (Nat.le_of_ble_eq_true rfl)
  rw [lg_entry_eq]
  generalize (lg_sl ([.ref a0, .int x1]) ++ List.replicate (2 - (lg_sl ([.ref a0, .int x1])).length) Slot.unset).toArray = ls at hl ⊢
  have hl : lv_has ls 2 [(0, .ref a0), (1, .int x1)] := hl
  have hG : GG D κ A S s.heap := hG
  refine lv_iload_n hx hb dX4_isStone_0 rfl (lv_at hl 1 rfl) ?_
  refine lv_if_lt (tgt := 16) hx hb dX4_isStone_1 rfl (fun hc => ?_) (fun hc => ?_)
  · replace h := h.1 hc
    refine lv_iconst (v := (0 : Int32)) hx hb dX4_isStone_16 (by decide) ?_
    exact W.zret (ty := .boolean) hx hb hr (by decide) (gr_i h hG hK hX hS) hS.2.2 dX4_isStone_17
  · replace h := h.2 hc
    refine lv_iload_n hx hb dX4_isStone_4 rfl (lv_at hl 1 rfl) ?_
    refine lv_aload_n hx hb dX4_isStone_5 rfl (lv_at hl 0 rfl) ?_
    have hk := h.1
    replace h := h.2
    refine gg_get (ci := 4) (C := RX4) (T := TX4) (N := 3) hx hb hts (fun _ h => List.mem_cons_of_mem _ (List.mem_append_right _ (h))) hown hK hG (kc_5 hk) rfl 2 (by decide) (hts (.fieldLink RX4 18 "FourStones$Stones" "count" "I") (List.mem_of_getElem? (i := 1) rfl)) (fun _ h9 => h9) rfl dX4_isStone_6 ?_
    refine lv_icmp_ge (tgt := 16) hx hb dX4_isStone_9 rfl (fun hc => ?_) (fun hc => ?_)
    · replace h := h.1 hc
      refine lv_iconst (v := (0 : Int32)) hx hb dX4_isStone_16 (by decide) ?_
      exact W.zret (ty := .boolean) hx hb hr (by decide) (gr_i h hG hK hX hS) hS.2.2 dX4_isStone_17
    · replace h := h.2 hc
      refine lv_iconst (v := (1 : Int32)) hx hb dX4_isStone_12 (by decide) ?_
      refine lv_goto (tgt := 17) hx hb dX4_isStone_13 rfl ?_
      exact W.zret (ty := .boolean) hx hb hr (by decide) (gr_i h hG hK hX hS) hS.2.2 dX4_isStone_17
set_option maxHeartbeats 4000000 in
set_option maxRecDepth 100000 in
theorem c_X4_weighAnew (l : Launch) (D : va_G) (κ : Nat → ClassId) (A : Nat → Prop) (S : Hp) (a0 : Nat) (x1 : Int32) (x2 : Int32) (Q : Int32 → Hp → Prop) (h : wp_X4_weighAnew a0 x1 x2 S Q) : Met l yX4_weighAnew wsX4_weighAnew ({ frames := 2, cells := 0, slots := 0, locals := 96 } : Room) (PG D κ A S [.ref a0, .int x1, .int x2]) (va_Qi Q (BG D κ A) A) 0 0 A := by
  refine Met.ofW (cc := cX4_weighAnew) (maxL := 3) (ret := (some .boolean)) (by decide) rfl ?_
  intro p e s m args below meth c s₁ B hml hv
  obtain ⟨hargs, hA, hG, hK, hX⟩ := hv
  have hx := B.exec
  have hb := B.bytes
  have hr := B.returns
  have hts := atoms_spec (ws := wsX4_weighAnew) B.pre
  have hown : s.vm.findClass RX4 = some m.cls := findClass_of_methodNamed B.named
  have hlocks := B.notSynchronized
  subst hargs
  clear B
  have hS : va_S A s.heap s.heap [] := va_S.rf
  have hl := lv_entry ([.ref a0, .int x1, .int x2]) (n := 3) (Nat.le_of_ble_eq_true rfl)
  rw [lg_entry_eq]
  generalize (lg_sl ([.ref a0, .int x1, .int x2]) ++ List.replicate (3 - (lg_sl ([.ref a0, .int x1, .int x2])).length) Slot.unset).toArray = ls at hl ⊢
  have hl : lv_has ls 3 [(0, .ref a0), (1, .int x1), (2, .int x2)] := hl
  have hG : GG D κ A S s.heap := hG
  refine lv_aload_n hx hb dX4_weighAnew_0 rfl (lv_at hl 0 rfl) ?_
  refine lv_iload_n hx hb dX4_weighAnew_1 rfl (lv_at hl 1 rfl) ?_
  have hk := h.1
  replace h := h.2
  refine gc_i (va_runV (As := [.int x1]) (rest := []) ⟨hx, hb, hml, hown, hts⟩ (c_X4_isStone l D κ A S a0 x1 _ h) (cwV 1 hts gX4_weighAnew_X4_isStone rfl rfl rfl (by decide +kernel) ⟨Nat.le_of_ble_eq_true rfl, Nat.le_of_ble_eq_true rfl⟩) (pg_V (q := (RX4, TX4, 3)) hK hX hG (pg_A hA hS) (kc_5 hk) rfl) rfl rfl hl.1 rfl (lv_room (Nat.le_of_ble_eq_true rfl)) dX4_weighAnew_2 ⟨Nat.le_of_ble_eq_true rfl, Nat.le_of_ble_eq_true rfl⟩) hS (fun z3 S2 H locs1 h hG hS => ?_)
  refine lv_if_eq (tgt := 15) hx hb dX4_weighAnew_5 rfl (fun hc => ?_) (fun hc => ?_)
  · replace h := h.1 hc
    refine lv_iconst (v := (0 : Int32)) hx hb dX4_weighAnew_15 (by decide) ?_
    exact W.zret (ty := .boolean) hx hb hr (by decide) (gr_i h hG hK hX hS) hS.2.2 dX4_weighAnew_16
  · replace h := h.2 hc
    refine lv_iload_n hx hb dX4_weighAnew_8 rfl (lv_at hl 2 rfl) ?_
    refine gc_i (va_runS (As := [.int x2]) (rest := []) ⟨hx, hb, hml, hown, hts⟩ (c_X4_isWeight l D κ A S2 x2 _ h) (va_cwS 1 hts gX4_weighAnew_X4_isWeight rfl rfl rfl (by decide +kernel) ⟨Nat.le_of_ble_eq_true rfl, Nat.le_of_ble_eq_true rfl⟩) (pg_S hK hX hG (pg_A hA hS)) rfl rfl hl.1 rfl (lv_room (Nat.le_of_ble_eq_true rfl)) dX4_weighAnew_9 ⟨Nat.le_of_ble_eq_true rfl, Nat.le_of_ble_eq_true rfl⟩) hS (fun z6 S5 H locs4 h hG hS => ?_)
    refine lv_if_ne (tgt := 17) hx hb dX4_weighAnew_12 rfl (fun hc => ?_) (fun hc => ?_)
    · replace h := h.1 hc
      refine lv_aload_n hx hb dX4_weighAnew_17 rfl (lv_at hl 0 rfl) ?_
      have hk := h.1
      replace h := h.2
      obtain ⟨r7, hr7, h⟩ := h
      refine gg_get (v := .ref r7) (ci := 4) (C := RX4) (T := TX4) (N := 3) hx hb hts (fun _ h => List.mem_cons_of_mem _ (List.mem_append_right _ (h))) hown hK hG (kc_5 hk) rfl 0 (by decide) (hts (.fieldLink RX4 9 "FourStones$Stones" "weights" "[I") (List.mem_of_getElem? (i := 1) rfl)) (fun _ h9 => h9) (congrArg (fun z => some (va_rf z)) hr7) dX4_weighAnew_18 ?_
      refine lv_iload_n hx hb dX4_weighAnew_21 rfl (lv_at hl 1 rfl) ?_
      refine lv_iload_n hx hb dX4_weighAnew_22 rfl (lv_at hl 2 rfl) ?_
      have hk := h.1
      replace h := h.2
      have hi := h.1
      replace h := h.2
      obtain ⟨S8, eS8⟩ : ∃ z, z = sA S5 r7 (x1).toNatClampNeg x2 := ⟨_, rfl⟩
      replace h := h S8 eS8
      refine gg_iast hx hb hK hG hS hk hi dX4_weighAnew_23 (fun H locs9 hG hS => ?_)
      rw [← eS8] at hG
      refine lv_iconst (v := (1 : Int32)) hx hb dX4_weighAnew_24 (by decide) ?_
      exact W.zret (ty := .boolean) hx hb hr (by decide) (gr_i h hG hK hX hS) hS.2.2 dX4_weighAnew_25
    · replace h := h.2 hc
      refine lv_iconst (v := (0 : Int32)) hx hb dX4_weighAnew_15 (by decide) ?_
      exact W.zret (ty := .boolean) hx hb hr (by decide) (gr_i h hG hK hX hS) hS.2.2 dX4_weighAnew_16
set_option maxHeartbeats 4000000 in
set_option maxRecDepth 100000 in
theorem c_X4_priceAnew (l : Launch) (D : va_G) (κ : Nat → ClassId) (A : Nat → Prop) (S : Hp) (a0 : Nat) (x1 : Int32) (x2 : Int32) (Q : Int32 → Hp → Prop) (h : wp_X4_priceAnew a0 x1 x2 S Q) : Met l yX4_priceAnew wsX4_priceAnew ({ frames := 2, cells := 0, slots := 0, locals := 96 } : Room) (PG D κ A S [.ref a0, .int x1, .int x2]) (va_Qi Q (BG D κ A) A) 0 0 A := by
  refine Met.ofW (cc := cX4_priceAnew) (maxL := 3) (ret := (some .boolean)) (by decide) rfl ?_
  intro p e s m args below meth c s₁ B hml hv
  obtain ⟨hargs, hA, hG, hK, hX⟩ := hv
  have hx := B.exec
  have hb := B.bytes
  have hr := B.returns
  have hts := atoms_spec (ws := wsX4_priceAnew) B.pre
  have hown : s.vm.findClass RX4 = some m.cls := findClass_of_methodNamed B.named
  have hlocks := B.notSynchronized
  subst hargs
  clear B
  have hS : va_S A s.heap s.heap [] := va_S.rf
  have hl := lv_entry ([.ref a0, .int x1, .int x2]) (n := 3) (Nat.le_of_ble_eq_true rfl)
  rw [lg_entry_eq]
  generalize (lg_sl ([.ref a0, .int x1, .int x2]) ++ List.replicate (3 - (lg_sl ([.ref a0, .int x1, .int x2])).length) Slot.unset).toArray = ls at hl ⊢
  have hl : lv_has ls 3 [(0, .ref a0), (1, .int x1), (2, .int x2)] := hl
  have hG : GG D κ A S s.heap := hG
  refine lv_aload_n hx hb dX4_priceAnew_0 rfl (lv_at hl 0 rfl) ?_
  refine lv_iload_n hx hb dX4_priceAnew_1 rfl (lv_at hl 1 rfl) ?_
  have hk := h.1
  replace h := h.2
  refine gc_i (va_runV (As := [.int x1]) (rest := []) ⟨hx, hb, hml, hown, hts⟩ (c_X4_isStone l D κ A S a0 x1 _ h) (cwV 1 hts gX4_priceAnew_X4_isStone rfl rfl rfl (by decide +kernel) ⟨Nat.le_of_ble_eq_true rfl, Nat.le_of_ble_eq_true rfl⟩) (pg_V (q := (RX4, TX4, 3)) hK hX hG (pg_A hA hS) (kc_5 hk) rfl) rfl rfl hl.1 rfl (lv_room (Nat.le_of_ble_eq_true rfl)) dX4_priceAnew_2 ⟨Nat.le_of_ble_eq_true rfl, Nat.le_of_ble_eq_true rfl⟩) hS (fun z3 S2 H locs1 h hG hS => ?_)
  refine lv_if_eq (tgt := 15) hx hb dX4_priceAnew_5 rfl (fun hc => ?_) (fun hc => ?_)
  · replace h := h.1 hc
    refine lv_iconst (v := (0 : Int32)) hx hb dX4_priceAnew_15 (by decide) ?_
    exact W.zret (ty := .boolean) hx hb hr (by decide) (gr_i h hG hK hX hS) hS.2.2 dX4_priceAnew_16
  · replace h := h.2 hc
    refine lv_iload_n hx hb dX4_priceAnew_8 rfl (lv_at hl 2 rfl) ?_
    refine gc_i (va_runS (As := [.int x2]) (rest := []) ⟨hx, hb, hml, hown, hts⟩ (c_X4_isPrice l D κ A S2 x2 _ h) (va_cwS 1 hts gX4_priceAnew_X4_isPrice rfl rfl rfl (by decide +kernel) ⟨Nat.le_of_ble_eq_true rfl, Nat.le_of_ble_eq_true rfl⟩) (pg_S hK hX hG (pg_A hA hS)) rfl rfl hl.1 rfl (lv_room (Nat.le_of_ble_eq_true rfl)) dX4_priceAnew_9 ⟨Nat.le_of_ble_eq_true rfl, Nat.le_of_ble_eq_true rfl⟩) hS (fun z6 S5 H locs4 h hG hS => ?_)
    refine lv_if_ne (tgt := 17) hx hb dX4_priceAnew_12 rfl (fun hc => ?_) (fun hc => ?_)
    · replace h := h.1 hc
      refine lv_aload_n hx hb dX4_priceAnew_17 rfl (lv_at hl 0 rfl) ?_
      have hk := h.1
      replace h := h.2
      obtain ⟨r7, hr7, h⟩ := h
      refine gg_get (v := .ref r7) (ci := 4) (C := RX4) (T := TX4) (N := 3) hx hb hts (fun _ h => List.mem_cons_of_mem _ (List.mem_append_right _ (h))) hown hK hG (kc_5 hk) rfl 1 (by decide) (hts (.fieldLink RX4 15 "FourStones$Stones" "prices" "[I") (List.mem_of_getElem? (i := 1) rfl)) (fun _ h9 => h9) (congrArg (fun z => some (va_rf z)) hr7) dX4_priceAnew_18 ?_
      refine lv_iload_n hx hb dX4_priceAnew_21 rfl (lv_at hl 1 rfl) ?_
      refine lv_iload_n hx hb dX4_priceAnew_22 rfl (lv_at hl 2 rfl) ?_
      have hk := h.1
      replace h := h.2
      have hi := h.1
      replace h := h.2
      obtain ⟨S8, eS8⟩ : ∃ z, z = sA S5 r7 (x1).toNatClampNeg x2 := ⟨_, rfl⟩
      replace h := h S8 eS8
      refine gg_iast hx hb hK hG hS hk hi dX4_priceAnew_23 (fun H locs9 hG hS => ?_)
      rw [← eS8] at hG
      refine lv_iconst (v := (1 : Int32)) hx hb dX4_priceAnew_24 (by decide) ?_
      exact W.zret (ty := .boolean) hx hb hr (by decide) (gr_i h hG hK hX hS) hS.2.2 dX4_priceAnew_25
    · replace h := h.2 hc
      refine lv_iconst (v := (0 : Int32)) hx hb dX4_priceAnew_15 (by decide) ?_
      exact W.zret (ty := .boolean) hx hb hr (by decide) (gr_i h hG hK hX hS) hS.2.2 dX4_priceAnew_16
set_option maxHeartbeats 4000000 in
set_option maxRecDepth 100000 in
theorem c_X4_dropLatest (l : Launch) (D : va_G) (κ : Nat → ClassId) (A : Nat → Prop) (S : Hp) (a0 : Nat) (Q : Int32 → Hp → Prop) (h : wp_X4_dropLatest a0 S Q) : Met l yX4_dropLatest wsX4_dropLatest ({ frames := 1, cells := 0, slots := 0, locals := 48 } : Room) (PG D κ A S [.ref a0]) (va_Qi Q (BG D κ A) A) 0 0 A := by
  refine Met.ofW (cc := cX4_dropLatest) (maxL := 1) (ret := (some .boolean)) (by decide) rfl ?_
  intro p e s m args below meth c s₁ B hml hv
  obtain ⟨hargs, hA, hG, hK, hX⟩ := hv
  have hx := B.exec
  have hb := B.bytes
  have hr := B.returns
  have hts := atoms_spec (ws := wsX4_dropLatest) B.pre
  have hown : s.vm.findClass RX4 = some m.cls := findClass_of_methodNamed B.named
  have hlocks := B.notSynchronized
  subst hargs
  clear B
  have hS : va_S A s.heap s.heap [] := va_S.rf
  have hl := lv_entry ([.ref a0]) (n := 1) (Nat.le_of_ble_eq_true rfl)
  rw [lg_entry_eq]
  generalize (lg_sl ([.ref a0]) ++ List.replicate (1 - (lg_sl ([.ref a0])).length) Slot.unset).toArray = ls at hl ⊢
  have hl : lv_has ls 1 [(0, .ref a0)] := hl
  have hG : GG D κ A S s.heap := hG
  refine lv_aload_n hx hb dX4_dropLatest_0 rfl (lv_at hl 0 rfl) ?_
  have hk := h.1
  replace h := h.2
  refine gg_get (ci := 4) (C := RX4) (T := TX4) (N := 3) hx hb hts (fun _ h => List.mem_cons_of_mem _ (List.mem_append_right _ (h))) hown hK hG (kc_5 hk) rfl 2 (by decide) (hts (.fieldLink RX4 18 "FourStones$Stones" "count" "I") (List.mem_of_getElem? (i := 1) rfl)) (fun _ h9 => h9) rfl dX4_dropLatest_1 ?_
  refine lv_if_ne (tgt := 9) hx hb dX4_dropLatest_4 rfl (fun hc => ?_) (fun hc => ?_)
  · replace h := h.1 hc
    refine lv_aload_n hx hb dX4_dropLatest_9 rfl (lv_at hl 0 rfl) ?_
    refine lv_dup hx hb dX4_dropLatest_10 rfl ?_
    have hk := h.1
    replace h := h.2
    refine gg_get (ci := 4) (C := RX4) (T := TX4) (N := 3) hx hb hts (fun _ h => List.mem_cons_of_mem _ (List.mem_append_right _ (h))) hown hK hG (kc_5 hk) rfl 2 (by decide) (hts (.fieldLink RX4 18 "FourStones$Stones" "count" "I") (List.mem_of_getElem? (i := 1) rfl)) (fun _ h9 => h9) rfl dX4_dropLatest_11 ?_
    refine lv_iconst (v := (1 : Int32)) hx hb dX4_dropLatest_14 (by decide) ?_
    refine lv_isub hx hb dX4_dropLatest_15 ?_
    have hk := h.1
    replace h := h.2
    obtain ⟨S1, eS1⟩ : ∃ z, z = sI S 42 a0 ((gI S 42 a0) - (1 : Int32)) := ⟨_, rfl⟩
    replace h := h S1 eS1
    refine gg_put (ci := 4) (C := RX4) (T := TX4) (N := 3) hx hb hts (fun _ h => List.mem_cons_of_mem _ (List.mem_append_right _ (h))) tyX4 tyX4_ok nmX4 hown hK hG hS (kc_5 hk) rfl 2 (by decide) (hts (.fieldLink RX4 18 "FourStones$Stones" "count" "I") (List.mem_of_getElem? (i := 1) rfl)) (fun _ h9 => h9) rfl (tyX4_ok 2 (by decide)) rfl rfl (Nat.le_of_ble_eq_true rfl) dX4_dropLatest_16 (S' := S1) (fun b hb9 => by rw [eS1]; exact cO_sI hb9) (by rw [eS1]; exact cs_42 hk) (fun H locs2 hG hS => ?_)
    refine lv_iconst (v := (1 : Int32)) hx hb dX4_dropLatest_19 (by decide) ?_
    exact W.zret (ty := .boolean) hx hb hr (by decide) (gr_i h hG hK hX hS) hS.2.2 dX4_dropLatest_20
  · replace h := h.2 hc
    refine lv_iconst (v := (0 : Int32)) hx hb dX4_dropLatest_7 (by decide) ?_
    exact W.zret (ty := .boolean) hx hb hr (by decide) (gr_i h hG hK hX hS) hS.2.2 dX4_dropLatest_8
set_option maxHeartbeats 4000000 in
set_option maxRecDepth 100000 in
theorem c_X3_isDone (l : Launch) (D : va_G) (κ : Nat → ClassId) (A : Nat → Prop) (S : Hp) (a0 : Nat) (x1 : Int32) (x2 : Int32) (x3 : Int32) (Q : Int32 → Hp → Prop) (h : wp_X3_isDone a0 x1 x2 x3 S Q) : Met l yX3_isDone wsX3_isDone ({ frames := 3, cells := 0, slots := 0, locals := 144 } : Room) (PG D κ A S [.ref a0, .int x1, .int x2, .int x3]) (va_Qi Q (BG D κ A) A) 0 0 A := by
  refine Met.ofW (cc := cX3_isDone) (maxL := 4) (ret := (some .boolean)) (by decide) rfl ?_
  intro p e s m args below meth c s₁ B hml hv
  obtain ⟨hargs, hA, hG, hK, hX⟩ := hv
  have hx := B.exec
  have hb := B.bytes
  have hr := B.returns
  have hts := atoms_spec (ws := wsX3_isDone) B.pre
  have hown : s.vm.findClass RX3 = some m.cls := findClass_of_methodNamed B.named
  have hlocks := B.notSynchronized
  subst hargs
  clear B
  have hS : va_S A s.heap s.heap [] := va_S.rf
  have hl := lv_entry ([.ref a0, .int x1, .int x2, .int x3]) (n := 4) (Nat.le_of_ble_eq_true rfl)
  rw [lg_entry_eq]
  generalize (lg_sl ([.ref a0, .int x1, .int x2, .int x3]) ++ List.replicate (4 - (lg_sl ([.ref a0, .int x1, .int x2, .int x3])).length) Slot.unset).toArray = ls at hl ⊢
  have hl : lv_has ls 4 [(0, .ref a0), (1, .int x1), (2, .int x2), (3, .int x3)] := hl
  have hG : GG D κ A S s.heap := hG
  refine lv_iload_n hx hb dX3_isDone_0 rfl (lv_at hl 1 rfl) ?_
  by_cases hc0 : (x1).toInt = 112
  · replace h := h.1 hc0
    refine lv_lookup (off := 55) (tgt := 56) hx hb dX3_isDone_1 (by decide) (by rw [hc0]; rfl) rfl ?_
    refine lv_aload_n hx hb dX3_isDone_56 rfl (lv_at hl 0 rfl) ?_
    have hk := h.1
    replace h := h.2
    obtain ⟨r1, hr1, h⟩ := h
    refine gg_get (v := .ref r1) (ci := 3) (C := RX3) (T := TX3) (N := 3) hx hb hts (fun _ h => List.mem_cons_of_mem _ (List.mem_append_left _ (List.mem_append_right _ (h)))) hown hK hG (kc_4 hk) rfl 0 (by decide) (hts (.fieldLink RX3 12 "FourStones$ShopReader" "trial" "LFourStones$Stones;") (List.mem_of_getElem? (i := 1) rfl)) (fun _ h9 => h9) (congrArg (fun z => some (va_rf z)) hr1) dX3_isDone_57 ?_
    refine lv_iload_n hx hb dX3_isDone_60 rfl (lv_at hl 2 rfl) ?_
    refine lv_iload_n hx hb dX3_isDone_61 rfl (lv_at hl 3 rfl) ?_
    have hk := h.1
    replace h := h.2
    refine gc_i (va_runV (As := [.int x2, .int x3]) (rest := []) ⟨hx, hb, hml, hown, hts⟩ (c_X4_priceAnew l D κ A S r1 x2 x3 _ h) (cwV 2 hts gX3_isDone_X4_priceAnew rfl rfl rfl (by decide +kernel) ⟨Nat.le_of_ble_eq_true rfl, Nat.le_of_ble_eq_true rfl⟩) (pg_V (q := (RX4, TX4, 3)) hK hX hG (pg_A hA hS) (kc_5 hk) rfl) rfl rfl hl.1 rfl (lv_room (Nat.le_of_ble_eq_true rfl)) dX3_isDone_62 ⟨Nat.le_of_ble_eq_true rfl, Nat.le_of_ble_eq_true rfl⟩) hS (fun z4 S3 H locs2 h hG hS => ?_)
    have hz := h.1
    replace h := h.2
    exact W.zret (ty := .boolean) hx hb hr hz (gr_i h hG hK hX hS) hS.2.2 dX3_isDone_65
  ·
    by_cases hc1 : (x1).toInt = 115
    · replace h := h.2.1 hc1
      refine lv_lookup (off := 35) (tgt := 36) hx hb dX3_isDone_1 (by decide) (by rw [hc1]; rfl) rfl ?_
      refine lv_aload_n hx hb dX3_isDone_36 rfl (lv_at hl 0 rfl) ?_
      have hk := h.1
      replace h := h.2
      obtain ⟨r5, hr5, h⟩ := h
      refine gg_get (v := .ref r5) (ci := 3) (C := RX3) (T := TX3) (N := 3) hx hb hts (fun _ h => List.mem_cons_of_mem _ (List.mem_append_left _ (List.mem_append_right _ (h)))) hown hK hG (kc_4 hk) rfl 0 (by decide) (hts (.fieldLink RX3 12 "FourStones$ShopReader" "trial" "LFourStones$Stones;") (List.mem_of_getElem? (i := 1) rfl)) (fun _ h9 => h9) (congrArg (fun z => some (va_rf z)) hr5) dX3_isDone_37 ?_
      refine lv_iload_n hx hb dX3_isDone_40 rfl (lv_at hl 2 rfl) ?_
      refine lv_iload_n hx hb dX3_isDone_41 rfl (lv_at hl 3 rfl) ?_
      have hk := h.1
      replace h := h.2
      refine gc_i (va_runV (As := [.int x2, .int x3]) (rest := []) ⟨hx, hb, hml, hown, hts⟩ (c_X4_add l D κ A S r5 x2 x3 _ h) (cwV 2 hts gX3_isDone_X4_add rfl rfl rfl (by decide +kernel) ⟨Nat.le_of_ble_eq_true rfl, Nat.le_of_ble_eq_true rfl⟩) (pg_V (q := (RX4, TX4, 3)) hK hX hG (pg_A hA hS) (kc_5 hk) rfl) rfl rfl hl.1 rfl (lv_room (Nat.le_of_ble_eq_true rfl)) dX3_isDone_42 ⟨Nat.le_of_ble_eq_true rfl, Nat.le_of_ble_eq_true rfl⟩) hS (fun z8 S7 H locs6 h hG hS => ?_)
      have hz := h.1
      replace h := h.2
      exact W.zret (ty := .boolean) hx hb hr hz (gr_i h hG hK hX hS) hS.2.2 dX3_isDone_45
    ·
      by_cases hc2 : (x1).toInt = 119
      · replace h := h.2.2.1 hc2
        refine lv_lookup (off := 45) (tgt := 46) hx hb dX3_isDone_1 (by decide) (by rw [hc2]; rfl) rfl ?_
        refine lv_aload_n hx hb dX3_isDone_46 rfl (lv_at hl 0 rfl) ?_
        have hk := h.1
        replace h := h.2
        obtain ⟨r9, hr9, h⟩ := h
        refine gg_get (v := .ref r9) (ci := 3) (C := RX3) (T := TX3) (N := 3) hx hb hts (fun _ h => List.mem_cons_of_mem _ (List.mem_append_left _ (List.mem_append_right _ (h)))) hown hK hG (kc_4 hk) rfl 0 (by decide) (hts (.fieldLink RX3 12 "FourStones$ShopReader" "trial" "LFourStones$Stones;") (List.mem_of_getElem? (i := 1) rfl)) (fun _ h9 => h9) (congrArg (fun z => some (va_rf z)) hr9) dX3_isDone_47 ?_
        refine lv_iload_n hx hb dX3_isDone_50 rfl (lv_at hl 2 rfl) ?_
        refine lv_iload_n hx hb dX3_isDone_51 rfl (lv_at hl 3 rfl) ?_
        have hk := h.1
        replace h := h.2
        refine gc_i (va_runV (As := [.int x2, .int x3]) (rest := []) ⟨hx, hb, hml, hown, hts⟩ (c_X4_weighAnew l D κ A S r9 x2 x3 _ h) (cwV 2 hts gX3_isDone_X4_weighAnew rfl rfl rfl (by decide +kernel) ⟨Nat.le_of_ble_eq_true rfl, Nat.le_of_ble_eq_true rfl⟩) (pg_V (q := (RX4, TX4, 3)) hK hX hG (pg_A hA hS) (kc_5 hk) rfl) rfl rfl hl.1 rfl (lv_room (Nat.le_of_ble_eq_true rfl)) dX3_isDone_52 ⟨Nat.le_of_ble_eq_true rfl, Nat.le_of_ble_eq_true rfl⟩) hS (fun z12 S11 H locs10 h hG hS => ?_)
        have hz := h.1
        replace h := h.2
        exact W.zret (ty := .boolean) hx hb hr hz (gr_i h hG hK hX hS) hS.2.2 dX3_isDone_55
      ·
        replace h := h.2.2.2 ⟨hc0, hc1, hc2⟩
        refine lv_lookup (off := 65) (tgt := 66) hx hb dX3_isDone_1 (by decide) (by simp [Op.lookupswitch.offset, hc0, Ne.symm hc0, hc1, Ne.symm hc1, hc2, Ne.symm hc2]) rfl ?_
        refine lv_aload_n hx hb dX3_isDone_66 rfl (lv_at hl 0 rfl) ?_
        have hk := h.1
        replace h := h.2
        obtain ⟨r13, hr13, h⟩ := h
        refine gg_get (v := .ref r13) (ci := 3) (C := RX3) (T := TX3) (N := 3) hx hb hts (fun _ h => List.mem_cons_of_mem _ (List.mem_append_left _ (List.mem_append_right _ (h)))) hown hK hG (kc_4 hk) rfl 0 (by decide) (hts (.fieldLink RX3 12 "FourStones$ShopReader" "trial" "LFourStones$Stones;") (List.mem_of_getElem? (i := 1) rfl)) (fun _ h9 => h9) (congrArg (fun z => some (va_rf z)) hr13) dX3_isDone_67 ?_
        have hk := h.1
        replace h := h.2
        refine gc_i (va_runV (As := []) (rest := []) ⟨hx, hb, hml, hown, hts⟩ (c_X4_dropLatest l D κ A S r13 _ h) (cwV 0 hts gX3_isDone_X4_dropLatest rfl rfl rfl (by decide +kernel) ⟨Nat.le_of_ble_eq_true rfl, Nat.le_of_ble_eq_true rfl⟩) (pg_V (q := (RX4, TX4, 3)) hK hX hG (pg_A hA hS) (kc_5 hk) rfl) rfl rfl hl.1 rfl (lv_room (Nat.le_of_ble_eq_true rfl)) dX3_isDone_70 ⟨Nat.le_of_ble_eq_true rfl, Nat.le_of_ble_eq_true rfl⟩) hS (fun z16 S15 H locs14 h hG hS => ?_)
        have hz := h.1
        replace h := h.2
        exact W.zret (ty := .boolean) hx hb hr hz (gr_i h hG hK hX hS) hS.2.2 dX3_isDone_73
set_option maxHeartbeats 4000000 in
set_option maxRecDepth 100000 in
theorem c_X3_readStatement (l : Launch) (D : va_G) (κ : Nat → ClassId) (A : Nat → Prop) (S : Hp) (a0 : Nat) (a1 : Nat) (Q : Int32 → Hp → Prop) (h : wp_X3_readStatement a0 a1 S Q) : Met l yX3_readStatement wsX3_readStatement ({ frames := 4, cells := 0, slots := 0, locals := 192 } : Room) (PG D κ A S [.ref a0, .ref a1]) (va_Qi Q (BG D κ A) A) 0 0 A := by
  refine Met.ofW (cc := cX3_readStatement) (maxL := 6) (ret := (some .boolean)) (by decide) rfl ?_
  intro p e s m args below meth c s₁ B hml hv
  obtain ⟨hargs, hA, hG, hK, hX⟩ := hv
  have hx := B.exec
  have hb := B.bytes
  have hr := B.returns
  have hts := atoms_spec (ws := wsX3_readStatement) B.pre
  have hown : s.vm.findClass RX3 = some m.cls := findClass_of_methodNamed B.named
  have hlocks := B.notSynchronized
  subst hargs
  clear B
  have hS : va_S A s.heap s.heap [] := va_S.rf
  have hl := lv_entry ([.ref a0, .ref a1]) (n := 6) (Nat.le_of_ble_eq_true rfl)
  rw [lg_entry_eq]
  generalize (lg_sl ([.ref a0, .ref a1]) ++ List.replicate (6 - (lg_sl ([.ref a0, .ref a1])).length) Slot.unset).toArray = ls at hl ⊢
  have hl : lv_has ls 6 [(0, .ref a0), (1, .ref a1)] := hl
  have hG : GG D κ A S s.heap := hG
  have j_74 : ∀  (v0 : Nat) (v1 : Nat) (v2 : Int32) (v3 : Int32) (v4 : Int32) (v5 : Int32) (S : Hp) (ls : Array Slot) (H : Heap) (locs : List Loc), lv_has ls 6 [(0, .ref v0), (1, .ref v1), (2, .int v2), (3, .int v3), (4, .int v4), (5, .int v5)] → GG D κ A S H → va_S A s.heap H locs → J_X3_readStatement_74  Q v0 v1 v2 v3 v4 v5 S → W p l e ({ frames := 4, cells := 0, slots := 0, locals := 192 } : Room) s m ([.ref a0, .ref a1] : List Value).toArray below meth c H locs 0 0 (MQ below (va_Qi Q (BG D κ A) A) ([.ref a0, .ref a1] : List Value).toArray s 0 0 A) (F0 m 74 ls []) := by
    intro  v0 v1 v2 v3 v4 v5 S ls H locs hl hG hS h
    unfold J_X3_readStatement_74 at h
    refine lv_iload hx hb dX3_readStatement_74 (lv_at hl 5 rfl) ?_
    refine lv_if_lt (tgt := 89) hx hb dX3_readStatement_76 rfl (fun hc => ?_) (fun hc => ?_)
    · replace h := h.1 hc
      refine lv_iconst (v := (0 : Int32)) hx hb dX3_readStatement_89 (by decide) ?_
      exact W.zret (ty := .boolean) hx hb hr (by decide) (gr_i h hG hK hX hS) hS.2.2 dX3_readStatement_90
    · replace h := h.2 hc
      refine lv_aload_n hx hb dX3_readStatement_79 rfl (lv_at hl 0 rfl) ?_
      refine lv_aload_n hx hb dX3_readStatement_80 rfl (lv_at hl 1 rfl) ?_
      refine lv_bipush (v := (59 : Int32)) hx hb dX3_readStatement_81 (by decide) ?_
      have hk := h.1
      replace h := h.2
      refine gc_i (va_runV (As := [.ref v1, .int (59 : Int32)]) (rest := []) ⟨hx, hb, hml, hown, hts⟩ (c_X3_readSign l D κ A S v0 v1 (59 : Int32) _ h) (cwV 2 hts gX3_readStatement_X3_readSign rfl rfl rfl (by decide +kernel) ⟨Nat.le_of_ble_eq_true rfl, Nat.le_of_ble_eq_true rfl⟩) (pg_V (q := (RX3, TX3, 3)) hK hX hG (pg_A hA hS) (kc_4 hk) rfl) rfl rfl hl.1 rfl (lv_room (Nat.le_of_ble_eq_true rfl)) dX3_readStatement_83 ⟨Nat.le_of_ble_eq_true rfl, Nat.le_of_ble_eq_true rfl⟩) hS (fun z3 S2 H locs1 h hG hS => ?_)
      refine lv_if_ne (tgt := 91) hx hb dX3_readStatement_86 rfl (fun hc => ?_) (fun hc => ?_)
      · replace h := h.1 hc
        refine lv_aload_n hx hb dX3_readStatement_91 rfl (lv_at hl 0 rfl) ?_
        have hk := h.1
        replace h := h.2
        refine gg_get (ci := 3) (C := RX3) (T := TX3) (N := 3) hx hb hts (fun _ h => List.mem_cons_of_mem _ (List.mem_append_left _ (List.mem_append_left _ (List.mem_append_right _ (h))))) hown hK hG (kc_4 hk) rfl 2 (by decide) (hts (.fieldLink RX3 26 "FourStones$ShopReader" "undone" "I") (List.mem_of_getElem? (i := 2) rfl)) (fun _ h9 => h9) rfl dX3_readStatement_92 ?_
        refine lv_if_ge (tgt := 115) hx hb dX3_readStatement_95 rfl (fun hc => ?_) (fun hc => ?_)
        · replace h := h.1 hc
          refine lv_iconst (v := (1 : Int32)) hx hb dX3_readStatement_115 (by decide) ?_
          exact W.zret (ty := .boolean) hx hb hr (by decide) (gr_i h hG hK hX hS) hS.2.2 dX3_readStatement_116
        · replace h := h.2 hc
          refine lv_aload_n hx hb dX3_readStatement_98 rfl (lv_at hl 0 rfl) ?_
          refine lv_iload_n hx hb dX3_readStatement_99 rfl (lv_at hl 3 rfl) ?_
          refine lv_iload hx hb dX3_readStatement_100 (lv_at hl 4 rfl) ?_
          refine lv_iload hx hb dX3_readStatement_102 (lv_at hl 5 rfl) ?_
          have hk := h.1
          replace h := h.2
          refine gc_i (va_runV (As := [.int v3, .int v4, .int v5]) (rest := []) ⟨hx, hb, hml, hown, hts⟩ (c_X3_isDone l D κ A S2 v0 v3 v4 v5 _ h) (cwV 3 hts gX3_readStatement_X3_isDone rfl rfl rfl (by decide +kernel) ⟨Nat.le_of_ble_eq_true rfl, Nat.le_of_ble_eq_true rfl⟩) (pg_V (q := (RX3, TX3, 3)) hK hX hG (pg_A hA hS) (kc_4 hk) rfl) rfl rfl hl.1 rfl (lv_room (Nat.le_of_ble_eq_true rfl)) dX3_readStatement_104 ⟨Nat.le_of_ble_eq_true rfl, Nat.le_of_ble_eq_true rfl⟩) hS (fun z6 S5 H locs4 h hG hS => ?_)
          refine lv_if_ne (tgt := 115) hx hb dX3_readStatement_107 rfl (fun hc => ?_) (fun hc => ?_)
          · replace h := h.1 hc
            refine lv_iconst (v := (1 : Int32)) hx hb dX3_readStatement_115 (by decide) ?_
            exact W.zret (ty := .boolean) hx hb hr (by decide) (gr_i h hG hK hX hS) hS.2.2 dX3_readStatement_116
          · replace h := h.2 hc
            refine lv_aload_n hx hb dX3_readStatement_110 rfl (lv_at hl 0 rfl) ?_
            refine lv_iload_n hx hb dX3_readStatement_111 rfl (lv_at hl 2 rfl) ?_
            have hk := h.1
            replace h := h.2
            obtain ⟨S7, eS7⟩ : ∃ z, z = sI S5 32 v0 v2 := ⟨_, rfl⟩
            replace h := h S7 eS7
            refine gg_put (ci := 3) (C := RX3) (T := TX3) (N := 3) hx hb hts (fun _ h => List.mem_cons_of_mem _ (List.mem_append_left _ (List.mem_append_left _ (List.mem_append_right _ (h))))) tyX3 tyX3_ok nmX3 hown hK hG hS (kc_4 hk) rfl 2 (by decide) (hts (.fieldLink RX3 26 "FourStones$ShopReader" "undone" "I") (List.mem_of_getElem? (i := 2) rfl)) (fun _ h9 => h9) rfl (tyX3_ok 2 (by decide)) rfl rfl (Nat.le_of_ble_eq_true rfl) dX3_readStatement_112 (S' := S7) (fun b hb9 => by rw [eS7]; exact cO_sI hb9) (by rw [eS7]; exact cs_32 hk) (fun H locs8 hG hS => ?_)
            refine lv_iconst (v := (1 : Int32)) hx hb dX3_readStatement_115 (by decide) ?_
            exact W.zret (ty := .boolean) hx hb hr (by decide) (gr_i h hG hK hX hS) hS.2.2 dX3_readStatement_116
      · replace h := h.2 hc
        refine lv_iconst (v := (0 : Int32)) hx hb dX3_readStatement_89 (by decide) ?_
        exact W.zret (ty := .boolean) hx hb hr (by decide) (gr_i h hG hK hX hS) hS.2.2 dX3_readStatement_90
  have j_48 : ∀  (v0 : Nat) (v1 : Nat) (v2 : Int32) (v3 : Int32) (w0 : Int32) (S : Hp) (ls : Array Slot) (H : Heap) (locs : List Loc), lv_has ls 6 [(0, .ref v0), (1, .ref v1), (2, .int v2), (3, .int v3)] → GG D κ A S H → va_S A s.heap H locs → J_X3_readStatement_48  Q v0 v1 v2 v3 w0 S → W p l e ({ frames := 4, cells := 0, slots := 0, locals := 192 } : Room) s m ([.ref a0, .ref a1] : List Value).toArray below meth c H locs 0 0 (MQ below (va_Qi Q (BG D κ A) A) ([.ref a0, .ref a1] : List Value).toArray s 0 0 A) (F0 m 48 ls [.int w0]) := by
    intro  v0 v1 v2 v3 w0 S ls H locs hl hG hS h
    unfold J_X3_readStatement_48 at h
    refine lv_istore (lv' := [(4, .int w0), (0, .ref v0), (1, .ref v1), (2, .int v2), (3, .int v3)]) hx hb dX3_readStatement_48 hl (by decide) rfl (fun ls hl => ?_)
    refine lv_iload hx hb dX3_readStatement_50 (lv_at hl 0 rfl) ?_
    refine lv_if_lt (tgt := 65) hx hb dX3_readStatement_52 rfl (fun hc => ?_) (fun hc => ?_)
    · replace h := h.1 hc
      refine lv_iconst (v := (0 : Int32)) hx hb dX3_readStatement_65 (by decide) ?_
      exact W.zret (ty := .boolean) hx hb hr (by decide) (gr_i h hG hK hX hS) hS.2.2 dX3_readStatement_66
    · replace h := h.2 hc
      refine lv_aload_n hx hb dX3_readStatement_55 rfl (lv_at hl 1 rfl) ?_
      refine lv_aload_n hx hb dX3_readStatement_56 rfl (lv_at hl 2 rfl) ?_
      refine lv_bipush (v := (32 : Int32)) hx hb dX3_readStatement_57 (by decide) ?_
      have hk := h.1
      replace h := h.2
      refine gc_i (va_runV (As := [.ref v1, .int (32 : Int32)]) (rest := []) ⟨hx, hb, hml, hown, hts⟩ (c_X3_readSign l D κ A S v0 v1 (32 : Int32) _ h) (cwV 2 hts gX3_readStatement_X3_readSign rfl rfl rfl (by decide +kernel) ⟨Nat.le_of_ble_eq_true rfl, Nat.le_of_ble_eq_true rfl⟩) (pg_V (q := (RX3, TX3, 3)) hK hX hG (pg_A hA hS) (kc_4 hk) rfl) rfl rfl hl.1 rfl (lv_room (Nat.le_of_ble_eq_true rfl)) dX3_readStatement_59 ⟨Nat.le_of_ble_eq_true rfl, Nat.le_of_ble_eq_true rfl⟩) hS (fun z3 S2 H locs1 h hG hS => ?_)
      refine lv_if_ne (tgt := 67) hx hb dX3_readStatement_62 rfl (fun hc => ?_) (fun hc => ?_)
      · replace h := h.1 hc
        refine lv_aload_n hx hb dX3_readStatement_67 rfl (lv_at hl 1 rfl) ?_
        refine lv_aload_n hx hb dX3_readStatement_68 rfl (lv_at hl 2 rfl) ?_
        have hk := h.1
        replace h := h.2
        refine gc_i (va_runV (As := [.ref v1]) (rest := []) ⟨hx, hb, hml, hown, hts⟩ (c_X3_readNumber l D κ A S2 v0 v1 _ h) (cwV 1 hts gX3_readStatement_X3_readNumber rfl rfl rfl (by decide +kernel) ⟨Nat.le_of_ble_eq_true rfl, Nat.le_of_ble_eq_true rfl⟩) (pg_V (q := (RX3, TX3, 3)) hK hX hG (pg_A hA hS) (kc_4 hk) rfl) rfl rfl hl.1 rfl (lv_room (Nat.le_of_ble_eq_true rfl)) dX3_readStatement_69 ⟨Nat.le_of_ble_eq_true rfl, Nat.le_of_ble_eq_true rfl⟩) hS (fun z6 S5 H locs4 h hG hS => ?_)
        refine lv_istore (lv' := [(5, .int z6), (4, .int w0), (0, .ref v0), (1, .ref v1), (2, .int v2), (3, .int v3)]) hx hb dX3_readStatement_72 hl (by decide) rfl (fun ls hl => ?_)
        exact j_74  v0 v1 v2 v3 w0 z6 S5 ls _ _ (lv_sub hl [2, 3, 4, 5, 1, 0] rfl) hG hS h
      · replace h := h.2 hc
        refine lv_iconst (v := (0 : Int32)) hx hb dX3_readStatement_65 (by decide) ?_
        exact W.zret (ty := .boolean) hx hb hr (by decide) (gr_i h hG hK hX hS) hS.2.2 dX3_readStatement_66
  refine lv_aload_n hx hb dX3_readStatement_0 rfl (lv_at hl 0 rfl) ?_
  have hk := h.1
  replace h := h.2
  refine gg_get (ci := 3) (C := RX3) (T := TX3) (N := 3) hx hb hts (fun _ h => List.mem_cons_of_mem _ (List.mem_append_left _ (List.mem_append_left _ (List.mem_append_right _ (h))))) hown hK hG (kc_4 hk) rfl 1 (by decide) (hts (.fieldLink RX3 22 "FourStones$ShopReader" "at" "I") (List.mem_of_getElem? (i := 1) rfl)) (fun _ h9 => h9) rfl dX3_readStatement_1 ?_
  refine lv_topi (fun y1 ey1 => ?_)
  replace h := h y1 ey1
  refine lv_istore_n (lv' := [(2, .int y1), (0, .ref a0), (1, .ref a1)]) hx hb dX3_readStatement_4 rfl hl (by decide) rfl (fun ls hl => ?_)
  refine lv_aload_n hx hb dX3_readStatement_5 rfl (lv_at hl 1 rfl) ?_
  refine lv_aload_n hx hb dX3_readStatement_6 rfl (lv_at hl 2 rfl) ?_
  have hk := h.1
  replace h := h.2
  refine gc_i (va_runV (As := [.ref a1]) (rest := []) ⟨hx, hb, hml, hown, hts⟩ (c_X3_readLetter l D κ A S a0 a1 _ h) (cwV 1 hts gX3_readStatement_X3_readLetter rfl rfl rfl (by decide +kernel) ⟨Nat.le_of_ble_eq_true rfl, Nat.le_of_ble_eq_true rfl⟩) (pg_V (q := (RX3, TX3, 3)) hK hX hG (pg_A hA hS) (kc_4 hk) rfl) rfl rfl hl.1 rfl (lv_room (Nat.le_of_ble_eq_true rfl)) dX3_readStatement_7 ⟨Nat.le_of_ble_eq_true rfl, Nat.le_of_ble_eq_true rfl⟩) hS (fun z4 S3 H locs2 h hG hS => ?_)
  refine lv_istore_n (lv' := [(3, .int z4), (2, .int y1), (0, .ref a0), (1, .ref a1)]) hx hb dX3_readStatement_10 rfl hl (by decide) rfl (fun ls hl => ?_)
  refine lv_iconst (v := (0 : Int32)) hx hb dX3_readStatement_11 (by decide) ?_
  refine lv_istore (lv' := [(4, .int (0 : Int32)), (3, .int z4), (2, .int y1), (0, .ref a0), (1, .ref a1)]) hx hb dX3_readStatement_12 hl (by decide) rfl (fun ls hl => ?_)
  refine lv_iconst (v := (0 : Int32)) hx hb dX3_readStatement_14 (by decide) ?_
  refine lv_istore (lv' := [(5, .int (0 : Int32)), (4, .int (0 : Int32)), (3, .int z4), (2, .int y1), (0, .ref a0), (1, .ref a1)]) hx hb dX3_readStatement_15 hl (by decide) rfl (fun ls hl => ?_)
  refine lv_iload_n hx hb dX3_readStatement_17 rfl (lv_at hl 2 rfl) ?_
  refine lv_if_ge (tgt := 23) hx hb dX3_readStatement_18 rfl (fun hc => ?_) (fun hc => ?_)
  · replace h := h.1 hc
    refine lv_iload_n hx hb dX3_readStatement_23 rfl (lv_at hl 2 rfl) ?_
    refine lv_bipush (v := (120 : Int32)) hx hb dX3_readStatement_24 (by decide) ?_
    refine lv_icmp_eq (tgt := 74) hx hb dX3_readStatement_26 rfl (fun hc => ?_) (fun hc => ?_)
    · replace h := h.1 hc
      exact j_74  a0 a1 y1 z4 (0 : Int32) (0 : Int32) S3 ls _ _ (lv_sub hl [4, 5, 3, 2, 1, 0] rfl) hG hS h
    · replace h := h.2 hc
      refine lv_iload_n hx hb dX3_readStatement_29 rfl (lv_at hl 2 rfl) ?_
      refine lv_bipush (v := (115 : Int32)) hx hb dX3_readStatement_30 (by decide) ?_
      refine lv_icmp_ne (tgt := 43) hx hb dX3_readStatement_32 rfl (fun hc => ?_) (fun hc => ?_)
      · replace h := h.1 hc
        refine lv_aload_n hx hb dX3_readStatement_43 rfl (lv_at hl 4 rfl) ?_
        refine lv_aload_n hx hb dX3_readStatement_44 rfl (lv_at hl 5 rfl) ?_
        have hk := h.1
        replace h := h.2
        refine gc_i (va_runV (As := [.ref a1]) (rest := []) ⟨hx, hb, hml, hown, hts⟩ (c_X3_readDigit l D κ A S3 a0 a1 _ h) (cwV 1 hts gX3_readStatement_X3_readDigit rfl rfl rfl (by decide +kernel) ⟨Nat.le_of_ble_eq_true rfl, Nat.le_of_ble_eq_true rfl⟩) (pg_V (q := (RX3, TX3, 3)) hK hX hG (pg_A hA hS) (kc_4 hk) rfl) rfl rfl hl.1 rfl (lv_room (Nat.le_of_ble_eq_true rfl)) dX3_readStatement_45 ⟨Nat.le_of_ble_eq_true rfl, Nat.le_of_ble_eq_true rfl⟩) hS (fun z7 S6 H locs5 h hG hS => ?_)
        exact j_48  a0 a1 y1 z4 z7 S6 ls _ _ (lv_sub hl [4, 5, 3, 2] rfl) hG hS h
      · replace h := h.2 hc
        refine lv_aload_n hx hb dX3_readStatement_35 rfl (lv_at hl 4 rfl) ?_
        refine lv_aload_n hx hb dX3_readStatement_36 rfl (lv_at hl 5 rfl) ?_
        have hk := h.1
        replace h := h.2
        refine gc_i (va_runV (As := [.ref a1]) (rest := []) ⟨hx, hb, hml, hown, hts⟩ (c_X3_readNumber l D κ A S3 a0 a1 _ h) (cwV 1 hts gX3_readStatement_X3_readNumber rfl rfl rfl (by decide +kernel) ⟨Nat.le_of_ble_eq_true rfl, Nat.le_of_ble_eq_true rfl⟩) (pg_V (q := (RX3, TX3, 3)) hK hX hG (pg_A hA hS) (kc_4 hk) rfl) rfl rfl hl.1 rfl (lv_room (Nat.le_of_ble_eq_true rfl)) dX3_readStatement_37 ⟨Nat.le_of_ble_eq_true rfl, Nat.le_of_ble_eq_true rfl⟩) hS (fun z10 S9 H locs8 h hG hS => ?_)
        refine lv_goto (tgt := 48) hx hb dX3_readStatement_40 rfl ?_
        exact j_48  a0 a1 y1 z4 z10 S9 ls _ _ (lv_sub hl [4, 5, 3, 2] rfl) hG hS h
  · replace h := h.2 hc
    refine lv_iconst (v := (0 : Int32)) hx hb dX3_readStatement_21 (by decide) ?_
    exact W.zret (ty := .boolean) hx hb hr (by decide) (gr_i h hG hK hX hS) hS.2.2 dX3_readStatement_22
set_option maxHeartbeats 4000000 in
set_option maxRecDepth 100000 in
theorem c_X3_read (l : Launch) (D : va_G) (κ : Nat → ClassId) (A : Nat → Prop) (S : Hp) (a0 : Nat) (a1 : Nat) (a2 : Nat) (Q : Int32 → Hp → Prop) (h : wp_X3_read a0 a1 a2 S Q) : Met l yX3_read wsX3_read ({ frames := 5, cells := 0, slots := 0, locals := 240 } : Room) (PG D κ A S [.ref a0, .ref a1, .ref a2]) (va_Qi Q (BG D κ A) A) 0 0 A := by
  refine Met.ofW (cc := cX3_read) (maxL := 4) (ret := (some .int)) (by decide) rfl ?_
  intro p e s m args below meth c s₁ B hml hv
  obtain ⟨hargs, hA, hG, hK, hX⟩ := hv
  have hx := B.exec
  have hb := B.bytes
  have hr := B.returns
  have hts := atoms_spec (ws := wsX3_read) B.pre
  have hown : s.vm.findClass RX3 = some m.cls := findClass_of_methodNamed B.named
  have hlocks := B.notSynchronized
  subst hargs
  clear B
  have hS : va_S A s.heap s.heap [] := va_S.rf
  have hl := lv_entry ([.ref a0, .ref a1, .ref a2]) (n := 4) (Nat.le_of_ble_eq_true rfl)
  rw [lg_entry_eq]
  generalize (lg_sl ([.ref a0, .ref a1, .ref a2]) ++ List.replicate (4 - (lg_sl ([.ref a0, .ref a1, .ref a2])).length) Slot.unset).toArray = ls at hl ⊢
  have hl : lv_has ls 4 [(0, .ref a0), (1, .ref a1), (2, .ref a2)] := hl
  have hG : GG D κ A S s.heap := hG
  have j_58 : ∀  (v0 : Nat) (v2 : Nat) (v3 : Int32) (S : Hp) (ls : Array Slot) (H : Heap) (locs : List Loc), lv_has ls 4 [(0, .ref v0), (2, .ref v2), (3, .int v3)] → GG D κ A S H → va_S A s.heap H locs → J_X3_read_58  Q v0 v2 v3 S → W p l e ({ frames := 5, cells := 0, slots := 0, locals := 240 } : Room) s m ([.ref a0, .ref a1, .ref a2] : List Value).toArray below meth c H locs 0 0 (MQ below (va_Qi Q (BG D κ A) A) ([.ref a0, .ref a1, .ref a2] : List Value).toArray s 0 0 A) (F0 m 58 ls []) := by
    intro  v0 v2 v3 S ls H locs hl hG hS h
    unfold J_X3_read_58 at h
    refine lv_aload_n hx hb dX3_read_58 rfl (lv_at hl 0 rfl) ?_
    have hk := h.1
    replace h := h.2
    refine gg_get (ci := 3) (C := RX3) (T := TX3) (N := 3) hx hb hts (fun _ h => List.mem_cons_of_mem _ (List.mem_append_left _ (List.mem_append_left _ (List.mem_append_right _ (h))))) hown hK hG (kc_4 hk) rfl 2 (by decide) (hts (.fieldLink RX3 26 "FourStones$ShopReader" "undone" "I") (List.mem_of_getElem? (i := 3) rfl)) (fun _ h9 => h9) rfl dX3_read_59 ?_
    refine lv_if_lt (tgt := 74) hx hb dX3_read_62 rfl (fun hc => ?_) (fun hc => ?_)
    · replace h := h.1 hc
      refine lv_aload_n hx hb dX3_read_74 rfl (lv_at hl 1 rfl) ?_
      refine lv_aload_n hx hb dX3_read_75 rfl (lv_at hl 0 rfl) ?_
      have hk := h.1
      replace h := h.2
      obtain ⟨r1, hr1, h⟩ := h
      refine gg_get (v := .ref r1) (ci := 3) (C := RX3) (T := TX3) (N := 3) hx hb hts (fun _ h => List.mem_cons_of_mem _ (List.mem_append_left _ (List.mem_append_left _ (List.mem_append_right _ (h))))) hown hK hG (kc_4 hk) rfl 0 (by decide) (hts (.fieldLink RX3 12 "FourStones$ShopReader" "trial" "LFourStones$Stones;") (List.mem_of_getElem? (i := 1) rfl)) (fun _ h9 => h9) (congrArg (fun z => some (va_rf z)) hr1) dX3_read_76 ?_
      have hk := h.1
      replace h := h.2
      refine gc_v (va_runV (As := [.ref r1]) (rest := []) ⟨hx, hb, hml, hown, hts⟩ (c_X4_takeFrom l D κ A S v2 r1 _ h) (cwV 1 hts gX3_read_X4_takeFrom rfl rfl rfl (by decide +kernel) ⟨Nat.le_of_ble_eq_true rfl, Nat.le_of_ble_eq_true rfl⟩) (pg_V (q := (RX4, TX4, 3)) hK hX hG (pg_A hA hS) (kc_5 hk) rfl) rfl rfl hl.1 rfl (lv_room (Nat.le_of_ble_eq_true rfl)) dX3_read_79 ⟨Nat.le_of_ble_eq_true rfl, Nat.le_of_ble_eq_true rfl⟩) hS (fun S3 H locs2 h hG hS => ?_)
      refine lv_iload_n hx hb dX3_read_82 rfl (lv_at hl 2 rfl) ?_
      exact W.iret hx hb hr (gr_i h hG hK hX hS) hS.2.2 dX3_read_83
    · replace h := h.2 hc
      refine lv_sipush (v := (-2000 : Int32)) hx hb dX3_read_65 (by decide) ?_
      refine lv_aload_n hx hb dX3_read_68 rfl (lv_at hl 0 rfl) ?_
      have hk := h.1
      replace h := h.2
      refine gg_get (ci := 3) (C := RX3) (T := TX3) (N := 3) hx hb hts (fun _ h => List.mem_cons_of_mem _ (List.mem_append_left _ (List.mem_append_left _ (List.mem_append_right _ (h))))) hown hK hG (kc_4 hk) rfl 2 (by decide) (hts (.fieldLink RX3 26 "FourStones$ShopReader" "undone" "I") (List.mem_of_getElem? (i := 3) rfl)) (fun _ h9 => h9) rfl dX3_read_69 ?_
      refine lv_isub hx hb dX3_read_72 ?_
      exact W.iret hx hb hr (gr_i h hG hK hX hS) hS.2.2 dX3_read_73
  have k_20 : ∀  (n : Nat), ∀ (v0 : Nat) (v1 : Nat) (v2 : Nat) (v3 : Int32) (S : Hp) (ls : Array Slot) (H : Heap) (locs : List Loc), lv_has ls 4 [(0, .ref v0), (1, .ref v1), (2, .ref v2), (3, .int v3)] → GG D κ A S H → va_S A s.heap H locs → it (L_X3_read_20  Q) n (v0, v1, v2, v3, S) → W p l e ({ frames := 5, cells := 0, slots := 0, locals := 240 } : Room) s m ([.ref a0, .ref a1, .ref a2] : List Value).toArray below meth c H locs 0 0 (MQ below (va_Qi Q (BG D κ A) A) ([.ref a0, .ref a1, .ref a2] : List Value).toArray s 0 0 A) (F0 m 20 ls []) := by
    intro  n
    induction n with
    | zero => intro v0 v1 v2 v3 S ls H locs hl hG hS h; exact False.elim h
    | succ n hC20 =>
      intro v0 v1 v2 v3 S ls H locs hl hG hS h
      replace h : L_X3_read_20  Q (it (L_X3_read_20  Q) n) (v0, v1, v2, v3, S) := h
      simp only [L_X3_read_20] at h
      refine lv_aload_n hx hb dX3_read_20 rfl (lv_at hl 0 rfl) ?_
      refine lv_aload_n hx hb dX3_read_21 rfl (lv_at hl 1 rfl) ?_
      have hk := h.1
      replace h := h.2
      refine gc_i (va_runV (As := [.ref v1]) (rest := []) ⟨hx, hb, hml, hown, hts⟩ (c_X3_readStatement l D κ A S v0 v1 _ h) (cwV 1 hts gX3_read_X3_readStatement rfl rfl rfl (by decide +kernel) ⟨Nat.le_of_ble_eq_true rfl, Nat.le_of_ble_eq_true rfl⟩) (pg_V (q := (RX3, TX3, 3)) hK hX hG (pg_A hA hS) (kc_4 hk) rfl) rfl rfl hl.1 rfl (lv_room (Nat.le_of_ble_eq_true rfl)) dX3_read_22 ⟨Nat.le_of_ble_eq_true rfl, Nat.le_of_ble_eq_true rfl⟩) hS (fun z3 S2 H locs1 h hG hS => ?_)
      refine lv_if_ne (tgt := 37) hx hb dX3_read_25 rfl (fun hc => ?_) (fun hc => ?_)
      · replace h := h.1 hc
        obtain ⟨y4, ey4⟩ : ∃ z, z = v3 + (1 : Int32) := ⟨_, rfl⟩
        replace h := h y4 ey4
        refine lv_iinc (v := y4) (lv' := [(3, .int y4), (0, .ref v0), (1, .ref v1), (2, .ref v2)]) hx hb dX3_read_37 hl (k := 3) rfl (by rw [ey4]; rfl) (by decide) rfl (fun ls hl => ?_)
        refine lv_aload_n hx hb dX3_read_40 rfl (lv_at hl 1 rfl) ?_
        have hk := h.1
        replace h := h.2
        refine gg_get (ci := 3) (C := RX3) (T := TX3) (N := 3) hx hb hts (fun _ h => List.mem_cons_of_mem _ (List.mem_append_left _ (List.mem_append_left _ (List.mem_append_right _ (h))))) hown hK hG (kc_4 hk) rfl 1 (by decide) (hts (.fieldLink RX3 22 "FourStones$ShopReader" "at" "I") (List.mem_of_getElem? (i := 2) rfl)) (fun _ h9 => h9) rfl dX3_read_41 ?_
        refine lv_aload_n hx hb dX3_read_44 rfl (lv_at hl 2 rfl) ?_
        have hk := h.1
        replace h := h.2
        obtain ⟨r5, hr5, h⟩ := h
        refine gg_get (v := .ref r5) (ci := 1) (C := RX1) (T := TX1) (N := 2) hx hb hts (fun _ h => List.mem_cons_of_mem _ (List.mem_append_left _ (List.mem_append_right _ (h)))) hown hK hG (kc_2 hk) rfl 1 (by decide) (hts (.fieldLink RX3 33 "FourStones$Row" "cells" "[I") (List.mem_of_getElem? (i := 4) rfl)) (fun _ h9 => h9) (congrArg (fun z => some (va_rf z)) hr5) dX3_read_45 ?_
        have hk := h.1
        replace h := h.2
        refine gg_alen8 hx hb hK hG hk dX3_read_48 ?_
        refine lv_icmp_ge (tgt := 58) hx hb dX3_read_49 rfl (fun hc => ?_) (fun hc => ?_)
        · replace h := h.1 hc
          exact j_58  v0 v2 y4 S2 ls _ _ (lv_sub hl [1, 3, 0] rfl) hG hS h
        · replace h := h.2 hc
          refine lv_iload_n hx hb dX3_read_52 rfl (lv_at hl 0 rfl) ?_
          refine lv_bipush (v := (100 : Int32)) hx hb dX3_read_53 (by decide) ?_
          refine lv_icmp_lt (tgt := 20) hx hb dX3_read_55 rfl (fun hc => ?_) (fun hc => ?_)
          · replace h := h.1 hc
            exact hC20 v0 v1 v2 y4 S2 ls _ _ (lv_sub hl [1, 2, 3, 0] rfl) hG hS h
          · replace h := h.2 hc
            exact j_58  v0 v2 y4 S2 ls _ _ (lv_sub hl [1, 3, 0] rfl) hG hS h
      · replace h := h.2 hc
        refine lv_sipush (v := (-1000 : Int32)) hx hb dX3_read_28 (by decide) ?_
        refine lv_aload_n hx hb dX3_read_31 rfl (lv_at hl 0 rfl) ?_
        have hk := h.1
        replace h := h.2
        refine gg_get (ci := 3) (C := RX3) (T := TX3) (N := 3) hx hb hts (fun _ h => List.mem_cons_of_mem _ (List.mem_append_left _ (List.mem_append_left _ (List.mem_append_right _ (h))))) hown hK hG (kc_4 hk) rfl 1 (by decide) (hts (.fieldLink RX3 22 "FourStones$ShopReader" "at" "I") (List.mem_of_getElem? (i := 2) rfl)) (fun _ h9 => h9) rfl dX3_read_32 ?_
        refine lv_isub hx hb dX3_read_35 ?_
        exact W.iret hx hb hr (gr_i h hG hK hX hS) hS.2.2 dX3_read_36
  refine lv_aload_n hx hb dX3_read_0 rfl (lv_at hl 0 rfl) ?_
  have hk := h.1
  replace h := h.2
  obtain ⟨r1, hr1, h⟩ := h
  refine gg_get (v := .ref r1) (ci := 3) (C := RX3) (T := TX3) (N := 3) hx hb hts (fun _ h => List.mem_cons_of_mem _ (List.mem_append_left _ (List.mem_append_left _ (List.mem_append_right _ (h))))) hown hK hG (kc_4 hk) rfl 0 (by decide) (hts (.fieldLink RX3 12 "FourStones$ShopReader" "trial" "LFourStones$Stones;") (List.mem_of_getElem? (i := 1) rfl)) (fun _ h9 => h9) (congrArg (fun z => some (va_rf z)) hr1) dX3_read_1 ?_
  refine lv_aload_n hx hb dX3_read_4 rfl (lv_at hl 2 rfl) ?_
  have hk := h.1
  replace h := h.2
  refine gc_v (va_runV (As := [.ref a2]) (rest := []) ⟨hx, hb, hml, hown, hts⟩ (c_X4_takeFrom l D κ A S r1 a2 _ h) (cwV 1 hts gX3_read_X4_takeFrom rfl rfl rfl (by decide +kernel) ⟨Nat.le_of_ble_eq_true rfl, Nat.le_of_ble_eq_true rfl⟩) (pg_V (q := (RX4, TX4, 3)) hK hX hG (pg_A hA hS) (kc_5 hk) rfl) rfl rfl hl.1 rfl (lv_room (Nat.le_of_ble_eq_true rfl)) dX3_read_5 ⟨Nat.le_of_ble_eq_true rfl, Nat.le_of_ble_eq_true rfl⟩) hS (fun S3 H locs2 h hG hS => ?_)
  refine lv_aload_n hx hb dX3_read_8 rfl (lv_at hl 0 rfl) ?_
  refine lv_iconst (v := (0 : Int32)) hx hb dX3_read_9 (by decide) ?_
  have hk := h.1
  replace h := h.2
  obtain ⟨S4, eS4⟩ : ∃ z, z = sI S3 31 a0 (0 : Int32) := ⟨_, rfl⟩
  replace h := h S4 eS4
  refine gg_put (ci := 3) (C := RX3) (T := TX3) (N := 3) hx hb hts (fun _ h => List.mem_cons_of_mem _ (List.mem_append_left _ (List.mem_append_left _ (List.mem_append_right _ (h))))) tyX3 tyX3_ok nmX3 hown hK hG hS (kc_4 hk) rfl 1 (by decide) (hts (.fieldLink RX3 22 "FourStones$ShopReader" "at" "I") (List.mem_of_getElem? (i := 2) rfl)) (fun _ h9 => h9) rfl (tyX3_ok 1 (by decide)) rfl rfl (Nat.le_of_ble_eq_true rfl) dX3_read_10 (S' := S4) (fun b hb9 => by rw [eS4]; exact cO_sI hb9) (by rw [eS4]; exact cs_31 hk) (fun H locs5 hG hS => ?_)
  refine lv_aload_n hx hb dX3_read_13 rfl (lv_at hl 0 rfl) ?_
  refine lv_iconst (v := (-1 : Int32)) hx hb dX3_read_14 (by decide) ?_
  have hk := h.1
  replace h := h.2
  obtain ⟨S6, eS6⟩ : ∃ z, z = sI S4 32 a0 (-1 : Int32) := ⟨_, rfl⟩
  replace h := h S6 eS6
  refine gg_put (ci := 3) (C := RX3) (T := TX3) (N := 3) hx hb hts (fun _ h => List.mem_cons_of_mem _ (List.mem_append_left _ (List.mem_append_left _ (List.mem_append_right _ (h))))) tyX3 tyX3_ok nmX3 hown hK hG hS (kc_4 hk) rfl 2 (by decide) (hts (.fieldLink RX3 26 "FourStones$ShopReader" "undone" "I") (List.mem_of_getElem? (i := 3) rfl)) (fun _ h9 => h9) rfl (tyX3_ok 2 (by decide)) rfl rfl (Nat.le_of_ble_eq_true rfl) dX3_read_15 (S' := S6) (fun b hb9 => by rw [eS6]; exact cO_sI hb9) (by rw [eS6]; exact cs_32 hk) (fun H locs7 hG hS => ?_)
  refine lv_iconst (v := (0 : Int32)) hx hb dX3_read_18 (by decide) ?_
  refine lv_istore_n (lv' := [(3, .int (0 : Int32)), (0, .ref a0), (1, .ref a1), (2, .ref a2)]) hx hb dX3_read_19 rfl hl (by decide) rfl (fun ls hl => ?_)
  obtain ⟨nn, h⟩ := h
  exact k_20  nn a0 a1 a2 (0 : Int32) S6 ls _ _ (lv_sub hl [1, 2, 3, 0] rfl) hG hS h
set_option maxHeartbeats 4000000 in
set_option maxRecDepth 100000 in
theorem c_X4_all (l : Launch) (D : va_G) (κ : Nat → ClassId) (A : Nat → Prop) (S : Hp) (a0 : Nat) (Q : Int32 → Hp → Prop) (h : wp_X4_all a0 S Q) : Met l yX4_all wsX4_all ({ frames := 1, cells := 0, slots := 0, locals := 48 } : Room) (PG D κ A S [.ref a0]) (va_Qi Q (BG D κ A) A) 0 0 A := by
  refine Met.ofW (cc := cX4_all) (maxL := 1) (ret := (some .int)) (by decide) rfl ?_
  intro p e s m args below meth c s₁ B hml hv
  obtain ⟨hargs, hA, hG, hK, hX⟩ := hv
  have hx := B.exec
  have hb := B.bytes
  have hr := B.returns
  have hts := atoms_spec (ws := wsX4_all) B.pre
  have hown : s.vm.findClass RX4 = some m.cls := findClass_of_methodNamed B.named
  have hlocks := B.notSynchronized
  subst hargs
  clear B
  have hS : va_S A s.heap s.heap [] := va_S.rf
  have hl := lv_entry ([.ref a0]) (n := 1) (Nat.le_of_ble_eq_true rfl)
  rw [lg_entry_eq]
  generalize (lg_sl ([.ref a0]) ++ List.replicate (1 - (lg_sl ([.ref a0])).length) Slot.unset).toArray = ls at hl ⊢
  have hl : lv_has ls 1 [(0, .ref a0)] := hl
  have hG : GG D κ A S s.heap := hG
  refine lv_iconst (v := (1 : Int32)) hx hb dX4_all_0 (by decide) ?_
  refine lv_aload_n hx hb dX4_all_1 rfl (lv_at hl 0 rfl) ?_
  have hk := h.1
  replace h := h.2
  refine gg_get (ci := 4) (C := RX4) (T := TX4) (N := 3) hx hb hts (fun _ h => List.mem_cons_of_mem _ (List.mem_append_right _ (h))) hown hK hG (kc_5 hk) rfl 2 (by decide) (hts (.fieldLink RX4 18 "FourStones$Stones" "count" "I") (List.mem_of_getElem? (i := 1) rfl)) (fun _ h9 => h9) rfl dX4_all_2 ?_
  refine lv_ishl hx hb dX4_all_5 ?_
  refine lv_iconst (v := (1 : Int32)) hx hb dX4_all_6 (by decide) ?_
  refine lv_isub hx hb dX4_all_7 ?_
  exact W.iret hx hb hr (gr_i h hG hK hX hS) hS.2.2 dX4_all_8
set_option maxHeartbeats 4000000 in
set_option maxRecDepth 100000 in
theorem c_X4_areStones (l : Launch) (D : va_G) (κ : Nat → ClassId) (A : Nat → Prop) (S : Hp) (a0 : Nat) (x1 : Int32) (Q : Int32 → Hp → Prop) (h : wp_X4_areStones a0 x1 S Q) : Met l yX4_areStones wsX4_areStones ({ frames := 2, cells := 0, slots := 0, locals := 96 } : Room) (PG D κ A S [.ref a0, .int x1]) (va_Qi Q (BG D κ A) A) 0 0 A := by
  refine Met.ofW (cc := cX4_areStones) (maxL := 2) (ret := (some .boolean)) (by decide) rfl ?_
  intro p e s m args below meth c s₁ B hml hv
  obtain ⟨hargs, hA, hG, hK, hX⟩ := hv
  have hx := B.exec
  have hb := B.bytes
  have hr := B.returns
  have hts := atoms_spec (ws := wsX4_areStones) B.pre
  have hown : s.vm.findClass RX4 = some m.cls := findClass_of_methodNamed B.named
  have hlocks := B.notSynchronized
  subst hargs
  clear B
  have hS : va_S A s.heap s.heap [] := va_S.rf
  have hl := lv_entry ([.ref a0, .int x1]) (n := 2) (Nat.le_of_ble_eq_true rfl)
  rw [lg_entry_eq]
  generalize (lg_sl ([.ref a0, .int x1]) ++ List.replicate (2 - (lg_sl ([.ref a0, .int x1])).length) Slot.unset).toArray = ls at hl ⊢
  have hl : lv_has ls 2 [(0, .ref a0), (1, .int x1)] := hl
  have hG : GG D κ A S s.heap := hG
  refine lv_iload_n hx hb dX4_areStones_0 rfl (lv_at hl 1 rfl) ?_
  refine lv_if_lt (tgt := 16) hx hb dX4_areStones_1 rfl (fun hc => ?_) (fun hc => ?_)
  · replace h := h.1 hc
    refine lv_iconst (v := (0 : Int32)) hx hb dX4_areStones_16 (by decide) ?_
    exact W.zret (ty := .boolean) hx hb hr (by decide) (gr_i h hG hK hX hS) hS.2.2 dX4_areStones_17
  · replace h := h.2 hc
    refine lv_iload_n hx hb dX4_areStones_4 rfl (lv_at hl 1 rfl) ?_
    refine lv_aload_n hx hb dX4_areStones_5 rfl (lv_at hl 0 rfl) ?_
    have hk := h.1
    replace h := h.2
    refine gc_i (va_runV (As := []) (rest := [.int x1]) ⟨hx, hb, hml, hown, hts⟩ (c_X4_all l D κ A S a0 _ h) (cwV 0 hts gX4_areStones_X4_all rfl rfl rfl (by decide +kernel) ⟨Nat.le_of_ble_eq_true rfl, Nat.le_of_ble_eq_true rfl⟩) (pg_V (q := (RX4, TX4, 3)) hK hX hG (pg_A hA hS) (kc_5 hk) rfl) rfl rfl hl.1 rfl (lv_room (Nat.le_of_ble_eq_true rfl)) dX4_areStones_6 ⟨Nat.le_of_ble_eq_true rfl, Nat.le_of_ble_eq_true rfl⟩) hS (fun z3 S2 H locs1 h hG hS => ?_)
    refine lv_icmp_gt (tgt := 16) hx hb dX4_areStones_9 rfl (fun hc => ?_) (fun hc => ?_)
    · replace h := h.1 hc
      refine lv_iconst (v := (0 : Int32)) hx hb dX4_areStones_16 (by decide) ?_
      exact W.zret (ty := .boolean) hx hb hr (by decide) (gr_i h hG hK hX hS) hS.2.2 dX4_areStones_17
    · replace h := h.2 hc
      refine lv_iconst (v := (1 : Int32)) hx hb dX4_areStones_12 (by decide) ?_
      refine lv_goto (tgt := 17) hx hb dX4_areStones_13 rfl ?_
      exact W.zret (ty := .boolean) hx hb hr (by decide) (gr_i h hG hK hX hS) hS.2.2 dX4_areStones_17
set_option maxHeartbeats 4000000 in
set_option maxRecDepth 100000 in
theorem c_X4_sumOf (l : Launch) (D : va_G) (κ : Nat → ClassId) (A : Nat → Prop) (S : Hp) (a0 : Nat) (a1 : Nat) (x2 : Int32) (Q : Int32 → Hp → Prop) (h : wp_X4_sumOf a0 a1 x2 S Q) : Met l yX4_sumOf wsX4_sumOf ({ frames := 1, cells := 0, slots := 0, locals := 48 } : Room) (PG D κ A S [.ref a0, .ref a1, .int x2]) (va_Qi Q (BG D κ A) A) 0 0 A := by
  refine Met.ofW (cc := cX4_sumOf) (maxL := 5) (ret := (some .int)) (by decide) rfl ?_
  intro p e s m args below meth c s₁ B hml hv
  obtain ⟨hargs, hA, hG, hK, hX⟩ := hv
  have hx := B.exec
  have hb := B.bytes
  have hr := B.returns
  have hts := atoms_spec (ws := wsX4_sumOf) B.pre
  have hown : s.vm.findClass RX4 = some m.cls := findClass_of_methodNamed B.named
  have hlocks := B.notSynchronized
  subst hargs
  clear B
  have hS : va_S A s.heap s.heap [] := va_S.rf
  have hl := lv_entry ([.ref a0, .ref a1, .int x2]) (n := 5) (Nat.le_of_ble_eq_true rfl)
  rw [lg_entry_eq]
  generalize (lg_sl ([.ref a0, .ref a1, .int x2]) ++ List.replicate (5 - (lg_sl ([.ref a0, .ref a1, .int x2])).length) Slot.unset).toArray = ls at hl ⊢
  have hl : lv_has ls 5 [(0, .ref a0), (1, .ref a1), (2, .int x2)] := hl
  have hG : GG D κ A S s.heap := hG
  have j_31 : ∀ (C5 : Nat × Nat × Int32 × Int32 × Int32 × Hp → Prop) (hC5 : ∀ (v0 : Nat) (v1 : Nat) (v2 : Int32) (v3 : Int32) (v4 : Int32) (S : Hp) (ls : Array Slot) (H : Heap) (locs : List Loc), lv_has ls 5 [(0, .ref v0), (1, .ref v1), (2, .int v2), (3, .int v3), (4, .int v4)] → GG D κ A S H → va_S A s.heap H locs → C5 (v0, v1, v2, v3, v4, S) → W p l e ({ frames := 1, cells := 0, slots := 0, locals := 48 } : Room) s m ([.ref a0, .ref a1, .int x2] : List Value).toArray below meth c H locs 0 0 (MQ below (va_Qi Q (BG D κ A) A) ([.ref a0, .ref a1, .int x2] : List Value).toArray s 0 0 A) (F0 m 5 ls [])) (v0 : Nat) (v1 : Nat) (v2 : Int32) (v3 : Int32) (v4 : Int32) (S : Hp) (ls : Array Slot) (H : Heap) (locs : List Loc), lv_has ls 5 [(0, .ref v0), (1, .ref v1), (2, .int v2), (3, .int v3), (4, .int v4)] → GG D κ A S H → va_S A s.heap H locs → J_X4_sumOf_31 C5 Q v0 v1 v2 v3 v4 S → W p l e ({ frames := 1, cells := 0, slots := 0, locals := 48 } : Room) s m ([.ref a0, .ref a1, .int x2] : List Value).toArray below meth c H locs 0 0 (MQ below (va_Qi Q (BG D κ A) A) ([.ref a0, .ref a1, .int x2] : List Value).toArray s 0 0 A) (F0 m 31 ls []) := by
    intro C5 hC5 v0 v1 v2 v3 v4 S ls H locs hl hG hS h
    unfold J_X4_sumOf_31 at h
    obtain ⟨y1, ey1⟩ : ∃ z, z = v4 + (1 : Int32) := ⟨_, rfl⟩
    replace h := h y1 ey1
    refine lv_iinc (v := y1) (lv' := [(4, .int y1), (0, .ref v0), (1, .ref v1), (2, .int v2), (3, .int v3)]) hx hb dX4_sumOf_31 hl (k := 4) rfl (by rw [ey1]; rfl) (by decide) rfl (fun ls hl => ?_)
    refine lv_goto (tgt := 5) hx hb dX4_sumOf_34 rfl ?_
    exact hC5 v0 v1 v2 v3 y1 S ls _ _ (lv_sub hl [1, 2, 3, 4, 0] rfl) hG hS h
  have k_5 : ∀  (n : Nat), ∀ (v0 : Nat) (v1 : Nat) (v2 : Int32) (v3 : Int32) (v4 : Int32) (S : Hp) (ls : Array Slot) (H : Heap) (locs : List Loc), lv_has ls 5 [(0, .ref v0), (1, .ref v1), (2, .int v2), (3, .int v3), (4, .int v4)] → GG D κ A S H → va_S A s.heap H locs → it (L_X4_sumOf_5  Q) n (v0, v1, v2, v3, v4, S) → W p l e ({ frames := 1, cells := 0, slots := 0, locals := 48 } : Room) s m ([.ref a0, .ref a1, .int x2] : List Value).toArray below meth c H locs 0 0 (MQ below (va_Qi Q (BG D κ A) A) ([.ref a0, .ref a1, .int x2] : List Value).toArray s 0 0 A) (F0 m 5 ls []) := by
    intro  n
    induction n with
    | zero => intro v0 v1 v2 v3 v4 S ls H locs hl hG hS h; exact False.elim h
    | succ n hC5 =>
      intro v0 v1 v2 v3 v4 S ls H locs hl hG hS h
      replace h : L_X4_sumOf_5  Q (it (L_X4_sumOf_5  Q) n) (v0, v1, v2, v3, v4, S) := h
      simp only [L_X4_sumOf_5] at h
      refine lv_iload hx hb dX4_sumOf_5 (lv_at hl 4 rfl) ?_
      refine lv_aload_n hx hb dX4_sumOf_7 rfl (lv_at hl 0 rfl) ?_
      have hk := h.1
      replace h := h.2
      refine gg_get (ci := 4) (C := RX4) (T := TX4) (N := 3) hx hb hts (fun _ h => List.mem_cons_of_mem _ (List.mem_append_right _ (h))) hown hK hG (kc_5 hk) rfl 2 (by decide) (hts (.fieldLink RX4 18 "FourStones$Stones" "count" "I") (List.mem_of_getElem? (i := 1) rfl)) (fun _ h9 => h9) rfl dX4_sumOf_8 ?_
      refine lv_icmp_ge (tgt := 37) hx hb dX4_sumOf_11 rfl (fun hc => ?_) (fun hc => ?_)
      · replace h := h.1 hc
        refine lv_iload_n hx hb dX4_sumOf_37 rfl (lv_at hl 3 rfl) ?_
        exact W.iret hx hb hr (gr_i h hG hK hX hS) hS.2.2 dX4_sumOf_38
      · replace h := h.2 hc
        refine lv_iload_n hx hb dX4_sumOf_14 rfl (lv_at hl 2 rfl) ?_
        refine lv_iload hx hb dX4_sumOf_15 (lv_at hl 4 rfl) ?_
        refine lv_ishr hx hb dX4_sumOf_17 ?_
        refine lv_iconst (v := (1 : Int32)) hx hb dX4_sumOf_18 (by decide) ?_
        refine lv_iand hx hb dX4_sumOf_19 ?_
        refine lv_iconst (v := (1 : Int32)) hx hb dX4_sumOf_20 (by decide) ?_
        refine lv_icmp_ne (tgt := 31) hx hb dX4_sumOf_21 rfl (fun hc => ?_) (fun hc => ?_)
        · replace h := h.1 hc
          exact j_31 _ hC5 v0 v1 v2 v3 v4 S ls _ _ (lv_sub hl [0, 1, 2, 3, 4] rfl) hG hS h
        · replace h := h.2 hc
          refine lv_iload_n hx hb dX4_sumOf_24 rfl (lv_at hl 3 rfl) ?_
          refine lv_aload_n hx hb dX4_sumOf_25 rfl (lv_at hl 1 rfl) ?_
          refine lv_iload hx hb dX4_sumOf_26 (lv_at hl 4 rfl) ?_
          have hk := h.1
          replace h := h.2
          have hi := h.1
          replace h := h.2
          refine gg_iald hx hb hK hG hk hi dX4_sumOf_28 ?_
          refine lv_iadd hx hb dX4_sumOf_29 ?_
          refine lv_topi (fun y1 ey1 => ?_)
          replace h := h y1 ey1
          refine lv_istore_n (lv' := [(3, .int y1), (0, .ref v0), (1, .ref v1), (2, .int v2), (4, .int v4)]) hx hb dX4_sumOf_30 rfl hl (by decide) rfl (fun ls hl => ?_)
          exact j_31 _ hC5 v0 v1 v2 y1 v4 S ls _ _ (lv_sub hl [1, 2, 3, 0, 4] rfl) hG hS h
  refine lv_iconst (v := (0 : Int32)) hx hb dX4_sumOf_0 (by decide) ?_
  refine lv_istore_n (lv' := [(3, .int (0 : Int32)), (0, .ref a0), (1, .ref a1), (2, .int x2)]) hx hb dX4_sumOf_1 rfl hl (by decide) rfl (fun ls hl => ?_)
  refine lv_iconst (v := (0 : Int32)) hx hb dX4_sumOf_2 (by decide) ?_
  refine lv_istore (lv' := [(4, .int (0 : Int32)), (3, .int (0 : Int32)), (0, .ref a0), (1, .ref a1), (2, .int x2)]) hx hb dX4_sumOf_3 hl (by decide) rfl (fun ls hl => ?_)
  obtain ⟨nn, h⟩ := h
  exact k_5  nn a0 a1 x2 (0 : Int32) (0 : Int32) S ls _ _ (lv_sub hl [2, 3, 4, 1, 0] rfl) hG hS h
set_option maxHeartbeats 4000000 in
set_option maxRecDepth 100000 in
theorem c_X4_weightsOf (l : Launch) (D : va_G) (κ : Nat → ClassId) (A : Nat → Prop) (S : Hp) (a0 : Nat) (x1 : Int32) (Q : Int32 → Hp → Prop) (h : wp_X4_weightsOf a0 x1 S Q) : Met l yX4_weightsOf wsX4_weightsOf ({ frames := 2, cells := 0, slots := 0, locals := 96 } : Room) (PG D κ A S [.ref a0, .int x1]) (va_Qi Q (BG D κ A) A) 0 0 A := by
  refine Met.ofW (cc := cX4_weightsOf) (maxL := 2) (ret := (some .int)) (by decide) rfl ?_
  intro p e s m args below meth c s₁ B hml hv
  obtain ⟨hargs, hA, hG, hK, hX⟩ := hv
  have hx := B.exec
  have hb := B.bytes
  have hr := B.returns
  have hts := atoms_spec (ws := wsX4_weightsOf) B.pre
  have hown : s.vm.findClass RX4 = some m.cls := findClass_of_methodNamed B.named
  have hlocks := B.notSynchronized
  subst hargs
  clear B
  have hS : va_S A s.heap s.heap [] := va_S.rf
  have hl := lv_entry ([.ref a0, .int x1]) (n := 2) (Nat.le_of_ble_eq_true rfl)
  rw [lg_entry_eq]
  generalize (lg_sl ([.ref a0, .int x1]) ++ List.replicate (2 - (lg_sl ([.ref a0, .int x1])).length) Slot.unset).toArray = ls at hl ⊢
  have hl : lv_has ls 2 [(0, .ref a0), (1, .int x1)] := hl
  have hG : GG D κ A S s.heap := hG
  refine lv_aload_n hx hb dX4_weightsOf_0 rfl (lv_at hl 0 rfl) ?_
  refine lv_aload_n hx hb dX4_weightsOf_1 rfl (lv_at hl 0 rfl) ?_
  have hk := h.1
  replace h := h.2
  obtain ⟨r1, hr1, h⟩ := h
  refine gg_get (v := .ref r1) (ci := 4) (C := RX4) (T := TX4) (N := 3) hx hb hts (fun _ h => List.mem_cons_of_mem _ (List.mem_append_right _ (h))) hown hK hG (kc_5 hk) rfl 0 (by decide) (hts (.fieldLink RX4 9 "FourStones$Stones" "weights" "[I") (List.mem_of_getElem? (i := 1) rfl)) (fun _ h9 => h9) (congrArg (fun z => some (va_rf z)) hr1) dX4_weightsOf_2 ?_
  refine lv_iload_n hx hb dX4_weightsOf_5 rfl (lv_at hl 1 rfl) ?_
  have hk := h.1
  replace h := h.2
  refine gc_i (va_runV (As := [.ref r1, .int x1]) (rest := []) ⟨hx, hb, hml, hown, hts⟩ (c_X4_sumOf l D κ A S a0 r1 x1 _ h) (cwV 2 hts gX4_weightsOf_X4_sumOf rfl rfl rfl (by decide +kernel) ⟨Nat.le_of_ble_eq_true rfl, Nat.le_of_ble_eq_true rfl⟩) (pg_V (q := (RX4, TX4, 3)) hK hX hG (pg_A hA hS) (kc_5 hk) rfl) rfl rfl hl.1 rfl (lv_room (Nat.le_of_ble_eq_true rfl)) dX4_weightsOf_6 ⟨Nat.le_of_ble_eq_true rfl, Nat.le_of_ble_eq_true rfl⟩) hS (fun z4 S3 H locs2 h hG hS => ?_)
  exact W.iret hx hb hr (gr_i h hG hK hX hS) hS.2.2 dX4_weightsOf_9
set_option maxHeartbeats 4000000 in
set_option maxRecDepth 100000 in
theorem c_X4_pricesOf (l : Launch) (D : va_G) (κ : Nat → ClassId) (A : Nat → Prop) (S : Hp) (a0 : Nat) (x1 : Int32) (Q : Int32 → Hp → Prop) (h : wp_X4_pricesOf a0 x1 S Q) : Met l yX4_pricesOf wsX4_pricesOf ({ frames := 2, cells := 0, slots := 0, locals := 96 } : Room) (PG D κ A S [.ref a0, .int x1]) (va_Qi Q (BG D κ A) A) 0 0 A := by
  refine Met.ofW (cc := cX4_pricesOf) (maxL := 2) (ret := (some .int)) (by decide) rfl ?_
  intro p e s m args below meth c s₁ B hml hv
  obtain ⟨hargs, hA, hG, hK, hX⟩ := hv
  have hx := B.exec
  have hb := B.bytes
  have hr := B.returns
  have hts := atoms_spec (ws := wsX4_pricesOf) B.pre
  have hown : s.vm.findClass RX4 = some m.cls := findClass_of_methodNamed B.named
  have hlocks := B.notSynchronized
  subst hargs
  clear B
  have hS : va_S A s.heap s.heap [] := va_S.rf
  have hl := lv_entry ([.ref a0, .int x1]) (n := 2) (Nat.le_of_ble_eq_true rfl)
  rw [lg_entry_eq]
  generalize (lg_sl ([.ref a0, .int x1]) ++ List.replicate (2 - (lg_sl ([.ref a0, .int x1])).length) Slot.unset).toArray = ls at hl ⊢
  have hl : lv_has ls 2 [(0, .ref a0), (1, .int x1)] := hl
  have hG : GG D κ A S s.heap := hG
  refine lv_aload_n hx hb dX4_pricesOf_0 rfl (lv_at hl 0 rfl) ?_
  refine lv_aload_n hx hb dX4_pricesOf_1 rfl (lv_at hl 0 rfl) ?_
  have hk := h.1
  replace h := h.2
  obtain ⟨r1, hr1, h⟩ := h
  refine gg_get (v := .ref r1) (ci := 4) (C := RX4) (T := TX4) (N := 3) hx hb hts (fun _ h => List.mem_cons_of_mem _ (List.mem_append_right _ (h))) hown hK hG (kc_5 hk) rfl 1 (by decide) (hts (.fieldLink RX4 15 "FourStones$Stones" "prices" "[I") (List.mem_of_getElem? (i := 1) rfl)) (fun _ h9 => h9) (congrArg (fun z => some (va_rf z)) hr1) dX4_pricesOf_2 ?_
  refine lv_iload_n hx hb dX4_pricesOf_5 rfl (lv_at hl 1 rfl) ?_
  have hk := h.1
  replace h := h.2
  refine gc_i (va_runV (As := [.ref r1, .int x1]) (rest := []) ⟨hx, hb, hml, hown, hts⟩ (c_X4_sumOf l D κ A S a0 r1 x1 _ h) (cwV 2 hts gX4_pricesOf_X4_sumOf rfl rfl rfl (by decide +kernel) ⟨Nat.le_of_ble_eq_true rfl, Nat.le_of_ble_eq_true rfl⟩) (pg_V (q := (RX4, TX4, 3)) hK hX hG (pg_A hA hS) (kc_5 hk) rfl) rfl rfl hl.1 rfl (lv_room (Nat.le_of_ble_eq_true rfl)) dX4_pricesOf_6 ⟨Nat.le_of_ble_eq_true rfl, Nat.le_of_ble_eq_true rfl⟩) hS (fun z4 S3 H locs2 h hG hS => ?_)
  exact W.iret hx hb hr (gr_i h hG hK hX hS) hS.2.2 dX4_pricesOf_9
set_option maxHeartbeats 4000000 in
set_option maxRecDepth 100000 in
theorem c_J7_fill_53178 (l : Launch) (D : va_G) (κ : Nat → ClassId) (A : Nat → Prop) (S : Hp) (a0 : Nat) (x1 : Int32) (Q : Hp → Prop) (h : wp_J7_fill_53178 a0 x1 S Q) : Met l yJ7_fill_53178 wsJ7_fill_53178 ({ frames := 1, cells := 0, slots := 0, locals := 48 } : Room) (PG D κ A S [.ref a0, .int x1]) (va_Qv Q (BG D κ A) A) 0 0 A := by
  refine gg_ofWF (cc := cJ7_fill_53178) (maxL := 4) (ret := none) (by decide +kernel) rfl ?_
  intro p e s m args below meth c s₁ B hml hv
  obtain ⟨hargs, hA, hG, hK, hX⟩ := hv
  have hx := B.exec
  have hb := B.bytes
  have hr := B.returns
  have hts := atoms_spec (ws := wsJ7_fill_53178) B.pre
  have hown : s.vm.findClass RJ7 = some m.cls := findClass_of_methodNamed B.named
  have hlocks := B.notSynchronized
  subst hargs
  clear B
  have hS : va_S A s.heap s.heap [] := va_S.rf
  have hl := lv_entry ([.ref a0, .int x1]) (n := 4) (Nat.le_of_ble_eq_true rfl)
  rw [lg_entry_eq]
  generalize (lg_sl ([.ref a0, .int x1]) ++ List.replicate (4 - (lg_sl ([.ref a0, .int x1])).length) Slot.unset).toArray = ls at hl ⊢
  have hl : lv_has ls 4 [(0, .ref a0), (1, .int x1)] := hl
  have hG : GG D κ A S s.heap := hG
  have k_5 : ∀  (n : Nat), ∀ (v0 : Nat) (v1 : Int32) (v2 : Int32) (v3 : Int32) (S : Hp) (ls : Array Slot) (H : Heap) (locs : List Loc), lv_has ls 4 [(0, .ref v0), (1, .int v1), (2, .int v2), (3, .int v3)] → GG D κ A S H → va_S A s.heap H locs → it (L_J7_fill_53178_5  Q) n (v0, v1, v2, v3, S) → W p l e ({ frames := 1, cells := 0, slots := 0, locals := 48 } : Room) s m ([.ref a0, .int x1] : List Value).toArray below meth c H locs 0 0 (MQ below (va_Qv Q (BG D κ A) A) ([.ref a0, .int x1] : List Value).toArray s 0 0 A) (F0 m 5 ls []) := by
    intro  n
    induction n with
    | zero => intro v0 v1 v2 v3 S ls H locs hl hG hS h; exact False.elim h
    | succ n hC5 =>
      intro v0 v1 v2 v3 S ls H locs hl hG hS h
      replace h : L_J7_fill_53178_5  Q (it (L_J7_fill_53178_5  Q) n) (v0, v1, v2, v3, S) := h
      simp only [L_J7_fill_53178_5] at h
      refine lv_iload_n hx hb dJ7_fill_53178_5 rfl (lv_at hl 2 rfl) ?_
      refine lv_iload_n hx hb dJ7_fill_53178_6 rfl (lv_at hl 3 rfl) ?_
      refine lv_icmp_ge (tgt := 20) hx hb dJ7_fill_53178_7 rfl (fun hc => ?_) (fun hc => ?_)
      · replace h := h.1 hc
        exact W.vret hx hb hr (gr_v h hG hK hX hS) hS.2.2 dJ7_fill_53178_20
      · replace h := h.2 hc
        refine lv_aload_n hx hb dJ7_fill_53178_10 rfl (lv_at hl 0 rfl) ?_
        refine lv_iload_n hx hb dJ7_fill_53178_11 rfl (lv_at hl 2 rfl) ?_
        refine lv_iload_n hx hb dJ7_fill_53178_12 rfl (lv_at hl 1 rfl) ?_
        have hk := h.1
        replace h := h.2
        have hi := h.1
        replace h := h.2
        obtain ⟨S1, eS1⟩ : ∃ z, z = sA S v0 (v2).toNatClampNeg v1 := ⟨_, rfl⟩
        replace h := h S1 eS1
        refine gg_iast hx hb hK hG hS hk hi dJ7_fill_53178_13 (fun H locs2 hG hS => ?_)
        rw [← eS1] at hG
        obtain ⟨y3, ey3⟩ : ∃ z, z = v2 + (1 : Int32) := ⟨_, rfl⟩
        replace h := h y3 ey3
        refine lv_iinc (v := y3) (lv' := [(2, .int y3), (0, .ref v0), (1, .int v1), (3, .int v3)]) hx hb dJ7_fill_53178_14 hl (k := 2) rfl (by rw [ey3]; rfl) (by decide) rfl (fun ls hl => ?_)
        refine lv_goto (tgt := 5) hx hb dJ7_fill_53178_17 rfl ?_
        exact hC5 v0 v1 y3 v3 S1 ls _ _ (lv_sub hl [1, 2, 0, 3] rfl) hG hS h
  refine lv_iconst (v := (0 : Int32)) hx hb dJ7_fill_53178_0 (by decide) ?_
  refine lv_istore_n (lv' := [(2, .int (0 : Int32)), (0, .ref a0), (1, .int x1)]) hx hb dJ7_fill_53178_1 rfl hl (by decide) rfl (fun ls hl => ?_)
  refine lv_aload_n hx hb dJ7_fill_53178_2 rfl (lv_at hl 1 rfl) ?_
  have hk := h.1
  replace h := h.2
  refine gg_alen8 hx hb hK hG hk dJ7_fill_53178_3 ?_
  refine lv_topi (fun y1 ey1 => ?_)
  replace h := h y1 ey1
  refine lv_istore_n (lv' := [(3, .int y1), (2, .int (0 : Int32)), (0, .ref a0), (1, .int x1)]) hx hb dJ7_fill_53178_4 rfl hl (by decide) rfl (fun ls hl => ?_)
  obtain ⟨nn, h⟩ := h
  exact k_5  nn a0 x1 (0 : Int32) y1 S ls _ _ (lv_sub hl [2, 3, 1, 0] rfl) hG hS h
set_option maxHeartbeats 4000000 in
set_option maxRecDepth 100000 in
theorem c_J9_floorDiv_7cf53 (l : Launch) (D : va_G) (κ : Nat → ClassId) (A : Nat → Prop) (S : Hp) (x0 : Int32) (x1 : Int32) (Q : Int32 → Hp → Prop) (h : wp_J9_floorDiv_7cf53 x0 x1 S Q) : Met l yJ9_floorDiv_7cf53 wsJ9_floorDiv_7cf53 ({ frames := 1, cells := 0, slots := 0, locals := 48 } : Room) (PG D κ A S [.int x0, .int x1]) (va_Qi Q (BG D κ A) A) 0 0 A := by
  refine gg_ofWF (cc := cJ9_floorDiv_7cf53) (maxL := 3) (ret := (some .int)) (by decide +kernel) rfl ?_
  intro p e s m args below meth c s₁ B hml hv
  obtain ⟨hargs, hA, hG, hK, hX⟩ := hv
  have hx := B.exec
  have hb := B.bytes
  have hr := B.returns
  have hts := atoms_spec (ws := wsJ9_floorDiv_7cf53) B.pre
  have hown : s.vm.findClass RJ9 = some m.cls := findClass_of_methodNamed B.named
  have hlocks := B.notSynchronized
  subst hargs
  clear B
  have hS : va_S A s.heap s.heap [] := va_S.rf
  have hl := lv_entry ([.int x0, .int x1]) (n := 3) (Nat.le_of_ble_eq_true rfl)
  rw [lg_entry_eq]
  generalize (lg_sl ([.int x0, .int x1]) ++ List.replicate (3 - (lg_sl ([.int x0, .int x1])).length) Slot.unset).toArray = ls at hl ⊢
  have hl : lv_has ls 3 [(0, .int x0), (1, .int x1)] := hl
  have hG : GG D κ A S s.heap := hG
  refine lv_iload_n hx hb dJ9_floorDiv_7cf53_0 rfl (lv_at hl 0 rfl) ?_
  refine lv_iload_n hx hb dJ9_floorDiv_7cf53_1 rfl (lv_at hl 1 rfl) ?_
  have hne := h.1
  replace h := h.2
  refine lv_idiv hx hb dJ9_floorDiv_7cf53_2 hne ?_
  refine lv_topi (fun y1 ey1 => ?_)
  replace h := h y1 ey1
  refine lv_istore_n (lv' := [(2, .int y1), (0, .int x0), (1, .int x1)]) hx hb dJ9_floorDiv_7cf53_3 rfl hl (by decide) rfl (fun ls hl => ?_)
  refine lv_iload_n hx hb dJ9_floorDiv_7cf53_4 rfl (lv_at hl 1 rfl) ?_
  refine lv_iload_n hx hb dJ9_floorDiv_7cf53_5 rfl (lv_at hl 2 rfl) ?_
  refine lv_ixor hx hb dJ9_floorDiv_7cf53_6 ?_
  refine lv_if_ge (tgt := 21) hx hb dJ9_floorDiv_7cf53_7 rfl (fun hc => ?_) (fun hc => ?_)
  · replace h := h.1 hc
    refine lv_iload_n hx hb dJ9_floorDiv_7cf53_21 rfl (lv_at hl 0 rfl) ?_
    exact W.iret hx hb hr (gr_i h hG hK hX hS) hS.2.2 dJ9_floorDiv_7cf53_22
  · replace h := h.2 hc
    refine lv_iload_n hx hb dJ9_floorDiv_7cf53_10 rfl (lv_at hl 0 rfl) ?_
    refine lv_iload_n hx hb dJ9_floorDiv_7cf53_11 rfl (lv_at hl 2 rfl) ?_
    refine lv_imul hx hb dJ9_floorDiv_7cf53_12 ?_
    refine lv_iload_n hx hb dJ9_floorDiv_7cf53_13 rfl (lv_at hl 1 rfl) ?_
    refine lv_icmp_eq (tgt := 21) hx hb dJ9_floorDiv_7cf53_14 rfl (fun hc => ?_) (fun hc => ?_)
    · replace h := h.1 hc
      refine lv_iload_n hx hb dJ9_floorDiv_7cf53_21 rfl (lv_at hl 0 rfl) ?_
      exact W.iret hx hb hr (gr_i h hG hK hX hS) hS.2.2 dJ9_floorDiv_7cf53_22
    · replace h := h.2 hc
      refine lv_iload_n hx hb dJ9_floorDiv_7cf53_17 rfl (lv_at hl 0 rfl) ?_
      refine lv_iconst (v := (1 : Int32)) hx hb dJ9_floorDiv_7cf53_18 (by decide) ?_
      refine lv_isub hx hb dJ9_floorDiv_7cf53_19 ?_
      exact W.iret hx hb hr (gr_i h hG hK hX hS) hS.2.2 dJ9_floorDiv_7cf53_20
set_option maxHeartbeats 4000000 in
set_option maxRecDepth 100000 in
theorem c_J9_floorMod_7cf53 (l : Launch) (D : va_G) (κ : Nat → ClassId) (A : Nat → Prop) (S : Hp) (x0 : Int32) (x1 : Int32) (Q : Int32 → Hp → Prop) (h : wp_J9_floorMod_7cf53 x0 x1 S Q) : Met l yJ9_floorMod_7cf53 wsJ9_floorMod_7cf53 ({ frames := 1, cells := 0, slots := 0, locals := 48 } : Room) (PG D κ A S [.int x0, .int x1]) (va_Qi Q (BG D κ A) A) 0 0 A := by
  refine gg_ofWF (cc := cJ9_floorMod_7cf53) (maxL := 3) (ret := (some .int)) (by decide +kernel) rfl ?_
  intro p e s m args below meth c s₁ B hml hv
  obtain ⟨hargs, hA, hG, hK, hX⟩ := hv
  have hx := B.exec
  have hb := B.bytes
  have hr := B.returns
  have hts := atoms_spec (ws := wsJ9_floorMod_7cf53) B.pre
  have hown : s.vm.findClass RJ9 = some m.cls := findClass_of_methodNamed B.named
  have hlocks := B.notSynchronized
  subst hargs
  clear B
  have hS : va_S A s.heap s.heap [] := va_S.rf
  have hl := lv_entry ([.int x0, .int x1]) (n := 3) (Nat.le_of_ble_eq_true rfl)
  rw [lg_entry_eq]
  generalize (lg_sl ([.int x0, .int x1]) ++ List.replicate (3 - (lg_sl ([.int x0, .int x1])).length) Slot.unset).toArray = ls at hl ⊢
  have hl : lv_has ls 3 [(0, .int x0), (1, .int x1)] := hl
  have hG : GG D κ A S s.heap := hG
  refine lv_iload_n hx hb dJ9_floorMod_7cf53_0 rfl (lv_at hl 0 rfl) ?_
  refine lv_iload_n hx hb dJ9_floorMod_7cf53_1 rfl (lv_at hl 1 rfl) ?_
  have hne := h.1
  replace h := h.2
  refine lv_irem hx hb dJ9_floorMod_7cf53_2 hne ?_
  refine lv_topi (fun y1 ey1 => ?_)
  replace h := h y1 ey1
  refine lv_istore_n (lv' := [(2, .int y1), (0, .int x0), (1, .int x1)]) hx hb dJ9_floorMod_7cf53_3 rfl hl (by decide) rfl (fun ls hl => ?_)
  refine lv_iload_n hx hb dJ9_floorMod_7cf53_4 rfl (lv_at hl 1 rfl) ?_
  refine lv_iload_n hx hb dJ9_floorMod_7cf53_5 rfl (lv_at hl 2 rfl) ?_
  refine lv_ixor hx hb dJ9_floorMod_7cf53_6 ?_
  refine lv_if_ge (tgt := 18) hx hb dJ9_floorMod_7cf53_7 rfl (fun hc => ?_) (fun hc => ?_)
  · replace h := h.1 hc
    refine lv_iload_n hx hb dJ9_floorMod_7cf53_18 rfl (lv_at hl 0 rfl) ?_
    exact W.iret hx hb hr (gr_i h hG hK hX hS) hS.2.2 dJ9_floorMod_7cf53_19
  · replace h := h.2 hc
    refine lv_iload_n hx hb dJ9_floorMod_7cf53_10 rfl (lv_at hl 0 rfl) ?_
    refine lv_if_eq (tgt := 18) hx hb dJ9_floorMod_7cf53_11 rfl (fun hc => ?_) (fun hc => ?_)
    · replace h := h.1 hc
      refine lv_iload_n hx hb dJ9_floorMod_7cf53_18 rfl (lv_at hl 0 rfl) ?_
      exact W.iret hx hb hr (gr_i h hG hK hX hS) hS.2.2 dJ9_floorMod_7cf53_19
    · replace h := h.2 hc
      refine lv_iload_n hx hb dJ9_floorMod_7cf53_14 rfl (lv_at hl 0 rfl) ?_
      refine lv_iload_n hx hb dJ9_floorMod_7cf53_15 rfl (lv_at hl 2 rfl) ?_
      refine lv_iadd hx hb dJ9_floorMod_7cf53_16 ?_
      exact W.iret hx hb hr (gr_i h hG hK hX hS) hS.2.2 dJ9_floorMod_7cf53_17
