set_option maxHeartbeats 4000000 in
set_option maxRecDepth 100000 in
theorem c_X6_init (l : Launch) (D : va_G) (κ : Nat → ClassId) (A : Nat → Prop) (S : Hp) (a0 : Nat) (Q : Hp → Prop) (h : wp_X6_init a0 S Q) : Met l yX6_init wsX6_init ({ frames := 2, cells := 14, slots := 1974, locals := 96 } : Room) (PG D κ A S [.ref a0]) (va_Qv Q (BG D κ A) A) 14 1974 A := by
  refine Met.ofW (cc := cX6_init) (maxL := 1) (ret := none) (by decide) rfl ?_
  intro p e s m args below meth c s₁ B hml hv
  obtain ⟨hargs, hA, hG, hK, hX⟩ := hv
  have hx := B.exec
  have hb := B.bytes
  have hr := B.returns
  have hts := atoms_spec (ws := wsX6_init) B.pre
  have hown : s.vm.findClass RX6 = some m.cls := findClass_of_methodNamed B.named
  have hlocks := B.notSynchronized
  have hin : meth.name = "<init>" := (name_of_methodNamed B.named B.method).1
  subst hargs
  clear B
  have hS : va_S A s.heap s.heap [] := va_S.rf
  have hl := lv_entry ([.ref a0]) (n := 1) (Nat.le_of_ble_eq_true rfl)
  rw [lg_entry_eq]
  generalize (lg_sl ([.ref a0]) ++ List.replicate (1 - (lg_sl ([.ref a0])).length) Slot.unset).toArray = ls at hl ⊢
  have hl : lv_has ls 1 [(0, .ref a0)] := hl
  have hG : GG D κ A S s.heap := hG
  refine lv_aload_n hx hb dX6_init_0 rfl (lv_at hl 0 rfl) ?_
  refine W.objInit hx hb hown (hts (.methodLink RX6 1 objectInit) (List.mem_of_getElem? (i := 1) rfl)) (hts (.instanceMethod objectInit) (List.mem_of_getElem? (i := 2) rfl)) (hts _ (List.mem_of_getElem? (i := 3) rfl)) rfl (by rw [hml]; exact hl.1) rfl dX6_init_1 (Nat.le_of_ble_eq_true rfl) (Nat.le_of_ble_eq_true rfl) ?_
  refine W.eq (g2 := F0 m 4 ls []) rfl ?_
  refine lv_aload_n hx hb dX6_init_4 rfl (lv_at hl 0 rfl) ?_
  refine lv_bipush (v := (6 : Int32)) hx hb dX6_init_5 (by decide) ?_
  refine gg_newi (N' := 6) hx hb (hts (.arrayClass .int) (List.mem_of_getElem? (i := 4) rfl)) hK hG hS hA (by decide) (by decide) (Nat.le_of_ble_eq_true rfl) (by show _ ≤ 14; omega) (by show _ ≤ 1974; omega) dX6_init_7 (fun q2 H hq2 hG hS => ?_)
  obtain ⟨S3, eS3⟩ : ∃ z, z = nA S q2 8 6 := ⟨_, rfl⟩
  replace h := h q2 hq2 S3 eS3
  rw [← eS3] at hG
  have hk := h.1
  replace h := h.2
  obtain ⟨S4, eS4⟩ : ∃ z, z = sR S3 71 a0 (some q2) := ⟨_, rfl⟩
  replace h := h S4 eS4
  refine gg_putF (ci := 6) (C := RX6) (T := TX6) (N := 32) hx hb hts (fun _ h => List.mem_cons_of_mem _ (List.mem_append_right _ (h))) tyX6 tyX6_ok nmX6 hown hK hG hS (kc_7 hk) rfl 1 (by decide) (hts (.fieldLink RX6 7 "FourStonesModel" "weight" "[I") (List.mem_of_getElem? (i := 5) rfl)) (fun _ h9 => h9) rfl hin rfl (tyX6_ok 1 (by decide)) rfl rfl (Nat.le_of_ble_eq_true rfl) dX6_init_9 (S' := S4) (fun b hb9 => by rw [eS4]; exact cO_sR hb9) (by rw [eS4]; exact cs_71 hk) (fun H locs5 hG hS => ?_)
  refine lv_aload_n hx hb dX6_init_12 rfl (lv_at hl 0 rfl) ?_
  refine lv_bipush (v := (6 : Int32)) hx hb dX6_init_13 (by decide) ?_
  refine gg_newi (N' := 6) hx hb (hts (.arrayClass .int) (List.mem_of_getElem? (i := 4) rfl)) hK hG hS hA (by decide) (by decide) (Nat.le_of_ble_eq_true rfl) (by show _ ≤ 14; omega) (by show _ ≤ 1974; omega) dX6_init_15 (fun q6 H hq6 hG hS => ?_)
  obtain ⟨S7, eS7⟩ : ∃ z, z = nA S4 q6 8 6 := ⟨_, rfl⟩
  replace h := h q6 hq6 S7 eS7
  rw [← eS7] at hG
  have hk := h.1
  replace h := h.2
  obtain ⟨S8, eS8⟩ : ∃ z, z = sR S7 72 a0 (some q6) := ⟨_, rfl⟩
  replace h := h S8 eS8
  refine gg_putF (ci := 6) (C := RX6) (T := TX6) (N := 32) hx hb hts (fun _ h => List.mem_cons_of_mem _ (List.mem_append_right _ (h))) tyX6 tyX6_ok nmX6 hown hK hG hS (kc_7 hk) rfl 2 (by decide) (hts (.fieldLink RX6 13 "FourStonesModel" "price" "[I") (List.mem_of_getElem? (i := 6) rfl)) (fun _ h9 => h9) rfl hin rfl (tyX6_ok 2 (by decide)) rfl rfl (Nat.le_of_ble_eq_true rfl) dX6_init_17 (S' := S8) (fun b hb9 => by rw [eS8]; exact cO_sR hb9) (by rw [eS8]; exact cs_72 hk) (fun H locs9 hG hS => ?_)
  refine lv_aload_n hx hb dX6_init_20 rfl (lv_at hl 0 rfl) ?_
  refine lv_bipush (v := (6 : Int32)) hx hb dX6_init_21 (by decide) ?_
  refine gg_newi (N' := 6) hx hb (hts (.arrayClass .int) (List.mem_of_getElem? (i := 4) rfl)) hK hG hS hA (by decide) (by decide) (Nat.le_of_ble_eq_true rfl) (by show _ ≤ 14; omega) (by show _ ≤ 1974; omega) dX6_init_23 (fun q10 H hq10 hG hS => ?_)
  obtain ⟨S11, eS11⟩ : ∃ z, z = nA S8 q10 8 6 := ⟨_, rfl⟩
  replace h := h q10 hq10 S11 eS11
  rw [← eS11] at hG
  have hk := h.1
  replace h := h.2
  obtain ⟨S12, eS12⟩ : ∃ z, z = sR S11 75 a0 (some q10) := ⟨_, rfl⟩
  replace h := h S12 eS12
  refine gg_putF (ci := 6) (C := RX6) (T := TX6) (N := 32) hx hb hts (fun _ h => List.mem_cons_of_mem _ (List.mem_append_right _ (h))) tyX6 tyX6_ok nmX6 hown hK hG hS (kc_7 hk) rfl 5 (by decide) (hts (.fieldLink RX6 16 "FourStonesModel" "weightThen" "[I") (List.mem_of_getElem? (i := 7) rfl)) (fun _ h9 => h9) rfl hin rfl (tyX6_ok 5 (by decide)) rfl rfl (Nat.le_of_ble_eq_true rfl) dX6_init_25 (S' := S12) (fun b hb9 => by rw [eS12]; exact cO_sR hb9) (by rw [eS12]; exact cs_75 hk) (fun H locs13 hG hS => ?_)
  refine lv_aload_n hx hb dX6_init_28 rfl (lv_at hl 0 rfl) ?_
  refine lv_bipush (v := (6 : Int32)) hx hb dX6_init_29 (by decide) ?_
  refine gg_newi (N' := 6) hx hb (hts (.arrayClass .int) (List.mem_of_getElem? (i := 4) rfl)) hK hG hS hA (by decide) (by decide) (Nat.le_of_ble_eq_true rfl) (by show _ ≤ 14; omega) (by show _ ≤ 1974; omega) dX6_init_31 (fun q14 H hq14 hG hS => ?_)
  obtain ⟨S15, eS15⟩ : ∃ z, z = nA S12 q14 8 6 := ⟨_, rfl⟩
  replace h := h q14 hq14 S15 eS15
  rw [← eS15] at hG
  have hk := h.1
  replace h := h.2
  obtain ⟨S16, eS16⟩ : ∃ z, z = sR S15 76 a0 (some q14) := ⟨_, rfl⟩
  replace h := h S16 eS16
  refine gg_putF (ci := 6) (C := RX6) (T := TX6) (N := 32) hx hb hts (fun _ h => List.mem_cons_of_mem _ (List.mem_append_right _ (h))) tyX6 tyX6_ok nmX6 hown hK hG hS (kc_7 hk) rfl 6 (by decide) (hts (.fieldLink RX6 19 "FourStonesModel" "priceThen" "[I") (List.mem_of_getElem? (i := 8) rfl)) (fun _ h9 => h9) rfl hin rfl (tyX6_ok 6 (by decide)) rfl rfl (Nat.le_of_ble_eq_true rfl) dX6_init_33 (S' := S16) (fun b hb9 => by rw [eS16]; exact cO_sR hb9) (by rw [eS16]; exact cs_76 hk) (fun H locs17 hG hS => ?_)
  refine lv_aload_n hx hb dX6_init_36 rfl (lv_at hl 0 rfl) ?_
  refine lv_sipush (v := (1001 : Int32)) hx hb dX6_init_37 (by decide) ?_
  refine gg_newz (N' := 1001) hx hb (hts (.arrayClass .boolean) (List.mem_of_getElem? (i := 9) rfl)) hK hG hS hA (by decide) (by decide) (Nat.le_of_ble_eq_true rfl) (by show _ ≤ 14; omega) (by show _ ≤ 1974; omega) dX6_init_40 (fun q18 H hq18 hG hS => ?_)
  obtain ⟨S19, eS19⟩ : ∃ z, z = nA S16 q18 9 1001 := ⟨_, rfl⟩
  replace h := h q18 hq18 S19 eS19
  rw [← eS19] at hG
  have hk := h.1
  replace h := h.2
  obtain ⟨S20, eS20⟩ : ∃ z, z = sR S19 83 a0 (some q18) := ⟨_, rfl⟩
  replace h := h S20 eS20
  refine gg_putF (ci := 6) (C := RX6) (T := TX6) (N := 32) hx hb hts (fun _ h => List.mem_cons_of_mem _ (List.mem_append_right _ (h))) tyX6 tyX6_ok nmX6 hown hK hG hS (kc_7 hk) rfl 13 (by decide) (hts (.fieldLink RX6 22 "FourStonesModel" "had" "[Z") (List.mem_of_getElem? (i := 10) rfl)) (fun _ h9 => h9) rfl hin rfl (tyX6_ok 13 (by decide)) rfl rfl (Nat.le_of_ble_eq_true rfl) dX6_init_42 (S' := S20) (fun b hb9 => by rw [eS20]; exact cO_sR hb9) (by rw [eS20]; exact cs_83 hk) (fun H locs21 hG hS => ?_)
  refine lv_aload_n hx hb dX6_init_45 rfl (lv_at hl 0 rfl) ?_
  refine lv_iconst (v := (3 : Int32)) hx hb dX6_init_46 (by decide) ?_
  refine gg_newi (N' := 3) hx hb (hts (.arrayClass .int) (List.mem_of_getElem? (i := 4) rfl)) hK hG hS hA (by decide) (by decide) (Nat.le_of_ble_eq_true rfl) (by show _ ≤ 14; omega) (by show _ ≤ 1974; omega) dX6_init_47 (fun q22 H hq22 hG hS => ?_)
  obtain ⟨S23, eS23⟩ : ∃ z, z = nA S20 q22 8 3 := ⟨_, rfl⟩
  replace h := h q22 hq22 S23 eS23
  rw [← eS23] at hG
  have hk := h.1
  replace h := h.2
  obtain ⟨S24, eS24⟩ : ∃ z, z = sR S23 86 a0 (some q22) := ⟨_, rfl⟩
  replace h := h S24 eS24
  refine gg_putF (ci := 6) (C := RX6) (T := TX6) (N := 32) hx hb hts (fun _ h => List.mem_cons_of_mem _ (List.mem_append_right _ (h))) tyX6 tyX6_ok nmX6 hown hK hG hS (kc_7 hk) rfl 16 (by decide) (hts (.fieldLink RX6 26 "FourStonesModel" "some" "[I") (List.mem_of_getElem? (i := 11) rfl)) (fun _ h9 => h9) rfl hin rfl (tyX6_ok 16 (by decide)) rfl rfl (Nat.le_of_ble_eq_true rfl) dX6_init_49 (S' := S24) (fun b hb9 => by rw [eS24]; exact cO_sR hb9) (by rw [eS24]; exact cs_86 hk) (fun H locs25 hG hS => ?_)
  refine lv_aload_n hx hb dX6_init_52 rfl (lv_at hl 0 rfl) ?_
  refine lv_bipush (v := (6 : Int32)) hx hb dX6_init_53 (by decide) ?_
  refine gg_newi (N' := 6) hx hb (hts (.arrayClass .int) (List.mem_of_getElem? (i := 4) rfl)) hK hG hS hA (by decide) (by decide) (Nat.le_of_ble_eq_true rfl) (by show _ ≤ 14; omega) (by show _ ≤ 1974; omega) dX6_init_55 (fun q26 H hq26 hG hS => ?_)
  obtain ⟨S27, eS27⟩ : ∃ z, z = nA S24 q26 8 6 := ⟨_, rfl⟩
  replace h := h q26 hq26 S27 eS27
  rw [← eS27] at hG
  have hk := h.1
  replace h := h.2
  obtain ⟨S28, eS28⟩ : ∃ z, z = sR S27 87 a0 (some q26) := ⟨_, rfl⟩
  replace h := h S28 eS28
  refine gg_putF (ci := 6) (C := RX6) (T := TX6) (N := 32) hx hb hts (fun _ h => List.mem_cons_of_mem _ (List.mem_append_right _ (h))) tyX6 tyX6_ok nmX6 hown hK hG hS (kc_7 hk) rfl 17 (by decide) (hts (.fieldLink RX6 29 "FourStonesModel" "keptWeight" "[I") (List.mem_of_getElem? (i := 12) rfl)) (fun _ h9 => h9) rfl hin rfl (tyX6_ok 17 (by decide)) rfl rfl (Nat.le_of_ble_eq_true rfl) dX6_init_57 (S' := S28) (fun b hb9 => by rw [eS28]; exact cO_sR hb9) (by rw [eS28]; exact cs_87 hk) (fun H locs29 hG hS => ?_)
  refine lv_aload_n hx hb dX6_init_60 rfl (lv_at hl 0 rfl) ?_
  refine lv_bipush (v := (8 : Int32)) hx hb dX6_init_61 (by decide) ?_
  refine gg_newi (N' := 8) hx hb (hts (.arrayClass .int) (List.mem_of_getElem? (i := 4) rfl)) hK hG hS hA (by decide) (by decide) (Nat.le_of_ble_eq_true rfl) (by show _ ≤ 14; omega) (by show _ ≤ 1974; omega) dX6_init_63 (fun q30 H hq30 hG hS => ?_)
  obtain ⟨S31, eS31⟩ : ∃ z, z = nA S28 q30 8 8 := ⟨_, rfl⟩
  replace h := h q30 hq30 S31 eS31
  rw [← eS31] at hG
  have hk := h.1
  replace h := h.2
  obtain ⟨S32, eS32⟩ : ∃ z, z = sR S31 94 a0 (some q30) := ⟨_, rfl⟩
  replace h := h S32 eS32
  refine gg_putF (ci := 6) (C := RX6) (T := TX6) (N := 32) hx hb hts (fun _ h => List.mem_cons_of_mem _ (List.mem_append_right _ (h))) tyX6 tyX6_ok nmX6 hown hK hG hS (kc_7 hk) rfl 24 (by decide) (hts (.fieldLink RX6 32 "FourStonesModel" "holds" "[I") (List.mem_of_getElem? (i := 13) rfl)) (fun _ h9 => h9) rfl hin rfl (tyX6_ok 24 (by decide)) rfl rfl (Nat.le_of_ble_eq_true rfl) dX6_init_65 (S' := S32) (fun b hb9 => by rw [eS32]; exact cO_sR hb9) (by rw [eS32]; exact cs_94 hk) (fun H locs33 hG hS => ?_)
  refine lv_aload_n hx hb dX6_init_68 rfl (lv_at hl 0 rfl) ?_
  refine lv_bipush (v := (8 : Int32)) hx hb dX6_init_69 (by decide) ?_
  refine gg_newi (N' := 8) hx hb (hts (.arrayClass .int) (List.mem_of_getElem? (i := 4) rfl)) hK hG hS hA (by decide) (by decide) (Nat.le_of_ble_eq_true rfl) (by show _ ≤ 14; omega) (by show _ ≤ 1974; omega) dX6_init_71 (fun q34 H hq34 hG hS => ?_)
  obtain ⟨S35, eS35⟩ : ∃ z, z = nA S32 q34 8 8 := ⟨_, rfl⟩
  replace h := h q34 hq34 S35 eS35
  rw [← eS35] at hG
  have hk := h.1
  replace h := h.2
  obtain ⟨S36, eS36⟩ : ∃ z, z = sR S35 95 a0 (some q34) := ⟨_, rfl⟩
  replace h := h S36 eS36
  refine gg_putF (ci := 6) (C := RX6) (T := TX6) (N := 32) hx hb hts (fun _ h => List.mem_cons_of_mem _ (List.mem_append_right _ (h))) tyX6 tyX6_ok nmX6 hown hK hG hS (kc_7 hk) rfl 25 (by decide) (hts (.fieldLink RX6 35 "FourStonesModel" "kindOf" "[I") (List.mem_of_getElem? (i := 14) rfl)) (fun _ h9 => h9) rfl hin rfl (tyX6_ok 25 (by decide)) rfl rfl (Nat.le_of_ble_eq_true rfl) dX6_init_73 (S' := S36) (fun b hb9 => by rw [eS36]; exact cO_sR hb9) (by rw [eS36]; exact cs_95 hk) (fun H locs37 hG hS => ?_)
  refine lv_aload_n hx hb dX6_init_76 rfl (lv_at hl 0 rfl) ?_
  refine lv_bipush (v := (8 : Int32)) hx hb dX6_init_77 (by decide) ?_
  refine gg_newi (N' := 8) hx hb (hts (.arrayClass .int) (List.mem_of_getElem? (i := 4) rfl)) hK hG hS hA (by decide) (by decide) (Nat.le_of_ble_eq_true rfl) (by show _ ≤ 14; omega) (by show _ ≤ 1974; omega) dX6_init_79 (fun q38 H hq38 hG hS => ?_)
  obtain ⟨S39, eS39⟩ : ∃ z, z = nA S36 q38 8 8 := ⟨_, rfl⟩
  replace h := h q38 hq38 S39 eS39
  rw [← eS39] at hG
  have hk := h.1
  replace h := h.2
  obtain ⟨S40, eS40⟩ : ∃ z, z = sR S39 96 a0 (some q38) := ⟨_, rfl⟩
  replace h := h S40 eS40
  refine gg_putF (ci := 6) (C := RX6) (T := TX6) (N := 32) hx hb hts (fun _ h => List.mem_cons_of_mem _ (List.mem_append_right _ (h))) tyX6 tyX6_ok nmX6 hown hK hG hS (kc_7 hk) rfl 26 (by decide) (hts (.fieldLink RX6 38 "FourStonesModel" "figureOf" "[I") (List.mem_of_getElem? (i := 15) rfl)) (fun _ h9 => h9) rfl hin rfl (tyX6_ok 26 (by decide)) rfl rfl (Nat.le_of_ble_eq_true rfl) dX6_init_81 (S' := S40) (fun b hb9 => by rw [eS40]; exact cO_sR hb9) (by rw [eS40]; exact cs_96 hk) (fun H locs41 hG hS => ?_)
  refine lv_aload_n hx hb dX6_init_84 rfl (lv_at hl 0 rfl) ?_
  refine lv_bipush (v := (8 : Int32)) hx hb dX6_init_85 (by decide) ?_
  refine gg_newi (N' := 8) hx hb (hts (.arrayClass .int) (List.mem_of_getElem? (i := 4) rfl)) hK hG hS hA (by decide) (by decide) (Nat.le_of_ble_eq_true rfl) (by show _ ≤ 14; omega) (by show _ ≤ 1974; omega) dX6_init_87 (fun q42 H hq42 hG hS => ?_)
  obtain ⟨S43, eS43⟩ : ∃ z, z = nA S40 q42 8 8 := ⟨_, rfl⟩
  replace h := h q42 hq42 S43 eS43
  rw [← eS43] at hG
  have hk := h.1
  replace h := h.2
  obtain ⟨S44, eS44⟩ : ∃ z, z = sR S43 97 a0 (some q42) := ⟨_, rfl⟩
  replace h := h S44 eS44
  refine gg_putF (ci := 6) (C := RX6) (T := TX6) (N := 32) hx hb hts (fun _ h => List.mem_cons_of_mem _ (List.mem_append_right _ (h))) tyX6 tyX6_ok nmX6 hown hK hG hS (kc_7 hk) rfl 27 (by decide) (hts (.fieldLink RX6 41 "FourStonesModel" "sort" "[I") (List.mem_of_getElem? (i := 16) rfl)) (fun _ h9 => h9) rfl hin rfl (tyX6_ok 27 (by decide)) rfl rfl (Nat.le_of_ble_eq_true rfl) dX6_init_89 (S' := S44) (fun b hb9 => by rw [eS44]; exact cO_sR hb9) (by rw [eS44]; exact cs_97 hk) (fun H locs45 hG hS => ?_)
  refine lv_aload_n hx hb dX6_init_92 rfl (lv_at hl 0 rfl) ?_
  refine lv_bipush (v := (8 : Int32)) hx hb dX6_init_93 (by decide) ?_
  refine gg_newi (N' := 8) hx hb (hts (.arrayClass .int) (List.mem_of_getElem? (i := 4) rfl)) hK hG hS hA (by decide) (by decide) (Nat.le_of_ble_eq_true rfl) (by show _ ≤ 14; omega) (by show _ ≤ 1974; omega) dX6_init_95 (fun q46 H hq46 hG hS => ?_)
  obtain ⟨S47, eS47⟩ : ∃ z, z = nA S44 q46 8 8 := ⟨_, rfl⟩
  replace h := h q46 hq46 S47 eS47
  rw [← eS47] at hG
  have hk := h.1
  replace h := h.2
  obtain ⟨S48, eS48⟩ : ∃ z, z = sR S47 98 a0 (some q46) := ⟨_, rfl⟩
  replace h := h S48 eS48
  refine gg_putF (ci := 6) (C := RX6) (T := TX6) (N := 32) hx hb hts (fun _ h => List.mem_cons_of_mem _ (List.mem_append_right _ (h))) tyX6 tyX6_ok nmX6 hown hK hG hS (kc_7 hk) rfl 28 (by decide) (hts (.fieldLink RX6 44 "FourStonesModel" "size" "[I") (List.mem_of_getElem? (i := 17) rfl)) (fun _ h9 => h9) rfl hin rfl (tyX6_ok 28 (by decide)) rfl rfl (Nat.le_of_ble_eq_true rfl) dX6_init_97 (S' := S48) (fun b hb9 => by rw [eS48]; exact cO_sR hb9) (by rw [eS48]; exact cs_98 hk) (fun H locs49 hG hS => ?_)
  refine lv_aload_n hx hb dX6_init_100 rfl (lv_at hl 0 rfl) ?_
  refine lv_sipush (v := (800 : Int32)) hx hb dX6_init_101 (by decide) ?_
  refine gg_newi (N' := 800) hx hb (hts (.arrayClass .int) (List.mem_of_getElem? (i := 4) rfl)) hK hG hS hA (by decide) (by decide) (Nat.le_of_ble_eq_true rfl) (by show _ ≤ 14; omega) (by show _ ≤ 1974; omega) dX6_init_104 (fun q50 H hq50 hG hS => ?_)
  obtain ⟨S51, eS51⟩ : ∃ z, z = nA S48 q50 8 800 := ⟨_, rfl⟩
  replace h := h q50 hq50 S51 eS51
  rw [← eS51] at hG
  have hk := h.1
  replace h := h.2
  obtain ⟨S52, eS52⟩ : ∃ z, z = sR S51 99 a0 (some q50) := ⟨_, rfl⟩
  replace h := h S52 eS52
  refine gg_putF (ci := 6) (C := RX6) (T := TX6) (N := 32) hx hb hts (fun _ h => List.mem_cons_of_mem _ (List.mem_append_right _ (h))) tyX6 tyX6_ok nmX6 hown hK hG hS (kc_7 hk) rfl 29 (by decide) (hts (.fieldLink RX6 47 "FourStonesModel" "items" "[I") (List.mem_of_getElem? (i := 18) rfl)) (fun _ h9 => h9) rfl hin rfl (tyX6_ok 29 (by decide)) rfl rfl (Nat.le_of_ble_eq_true rfl) dX6_init_106 (S' := S52) (fun b hb9 => by rw [eS52]; exact cO_sR hb9) (by rw [eS52]; exact cs_99 hk) (fun H locs53 hG hS => ?_)
  refine lv_aload_n hx hb dX6_init_109 rfl (lv_at hl 0 rfl) ?_
  refine lv_bipush (v := (100 : Int32)) hx hb dX6_init_110 (by decide) ?_
  refine gg_newi (N' := 100) hx hb (hts (.arrayClass .int) (List.mem_of_getElem? (i := 4) rfl)) hK hG hS hA (by decide) (by decide) (Nat.le_of_ble_eq_true rfl) (by show _ ≤ 14; omega) (by show _ ≤ 1974; omega) dX6_init_112 (fun q54 H hq54 hG hS => ?_)
  obtain ⟨S55, eS55⟩ : ∃ z, z = nA S52 q54 8 100 := ⟨_, rfl⟩
  replace h := h q54 hq54 S55 eS55
  rw [← eS55] at hG
  have hk := h.1
  replace h := h.2
  obtain ⟨S56, eS56⟩ : ∃ z, z = sR S55 100 a0 (some q54) := ⟨_, rfl⟩
  replace h := h S56 eS56
  refine gg_putF (ci := 6) (C := RX6) (T := TX6) (N := 32) hx hb hts (fun _ h => List.mem_cons_of_mem _ (List.mem_append_right _ (h))) tyX6 tyX6_ok nmX6 hown hK hG hS (kc_7 hk) rfl 30 (by decide) (hts (.fieldLink RX6 50 "FourStonesModel" "moved" "[I") (List.mem_of_getElem? (i := 19) rfl)) (fun _ h9 => h9) rfl hin rfl (tyX6_ok 30 (by decide)) rfl rfl (Nat.le_of_ble_eq_true rfl) dX6_init_114 (S' := S56) (fun b hb9 => by rw [eS56]; exact cO_sR hb9) (by rw [eS56]; exact cs_100 hk) (fun H locs57 hG hS => ?_)
  refine W.widen (k := 14) (n := 1974) (by omega) (by omega) ?_
  exact W.vret hx hb hr (gr_v h hG hK hX hS) hS.2.2 dX6_init_117
set_option maxHeartbeats 4000000 in
set_option maxRecDepth 100000 in
theorem c_X6_isIn (l : Launch) (D : va_G) (κ : Nat → ClassId) (A : Nat → Prop) (S : Hp) (x0 : Int32) (x1 : Int32) (x2 : Int32) (Q : Int32 → Hp → Prop) (h : wp_X6_isIn x0 x1 x2 S Q) : Met l yX6_isIn wsX6_isIn ({ frames := 1, cells := 0, slots := 0, locals := 48 } : Room) (PG D κ A S [.int x0, .int x1, .int x2]) (va_Qi Q (BG D κ A) A) 0 0 A := by
  refine Met.ofW (cc := cX6_isIn) (maxL := 3) (ret := (some .boolean)) (by decide) rfl ?_
  intro p e s m args below meth c s₁ B hml hv
  obtain ⟨hargs, hA, hG, hK, hX⟩ := hv
  have hx := B.exec
  have hb := B.bytes
  have hr := B.returns
  have hts := atoms_spec (ws := wsX6_isIn) B.pre
  have hown : s.vm.findClass RX6 = some m.cls := findClass_of_methodNamed B.named
  have hlocks := B.notSynchronized
  subst hargs
  clear B
  have hS : va_S A s.heap s.heap [] := va_S.rf
  have hl := lv_entry ([.int x0, .int x1, .int x2]) (n := 3) (Nat.le_of_ble_eq_true rfl)
  rw [lg_entry_eq]
  generalize (lg_sl ([.int x0, .int x1, .int x2]) ++ List.replicate (3 - (lg_sl ([.int x0, .int x1, .int x2])).length) Slot.unset).toArray = ls at hl ⊢
  have hl : lv_has ls 3 [(0, .int x0), (1, .int x1), (2, .int x2)] := hl
  have hG : GG D κ A S s.heap := hG
  refine lv_iload_n hx hb dX6_isIn_0 rfl (lv_at hl 0 rfl) ?_
  refine lv_iload_n hx hb dX6_isIn_1 rfl (lv_at hl 1 rfl) ?_
  refine lv_icmp_lt (tgt := 14) hx hb dX6_isIn_2 rfl (fun hc => ?_) (fun hc => ?_)
  · replace h := h.1 hc
    refine lv_iconst (v := (0 : Int32)) hx hb dX6_isIn_14 (by decide) ?_
    exact W.zret (ty := .boolean) hx hb hr (by decide) (gr_i h hG hK hX hS) hS.2.2 dX6_isIn_15
  · replace h := h.2 hc
    refine lv_iload_n hx hb dX6_isIn_5 rfl (lv_at hl 0 rfl) ?_
    refine lv_iload_n hx hb dX6_isIn_6 rfl (lv_at hl 2 rfl) ?_
    refine lv_icmp_gt (tgt := 14) hx hb dX6_isIn_7 rfl (fun hc => ?_) (fun hc => ?_)
    · replace h := h.1 hc
      refine lv_iconst (v := (0 : Int32)) hx hb dX6_isIn_14 (by decide) ?_
      exact W.zret (ty := .boolean) hx hb hr (by decide) (gr_i h hG hK hX hS) hS.2.2 dX6_isIn_15
    · replace h := h.2 hc
      refine lv_iconst (v := (1 : Int32)) hx hb dX6_isIn_10 (by decide) ?_
      refine lv_goto (tgt := 15) hx hb dX6_isIn_11 rfl ?_
      exact W.zret (ty := .boolean) hx hb hr (by decide) (gr_i h hG hK hX hS) hS.2.2 dX6_isIn_15
set_option maxHeartbeats 4000000 in
set_option maxRecDepth 100000 in
theorem c_X6_move (l : Launch) (D : va_G) (κ : Nat → ClassId) (A : Nat → Prop) (S : Hp) (a0 : Nat) (a1 : Nat) (Q : Hp → Prop) (h : wp_X6_move a0 a1 S Q) : Met l yX6_move wsX6_move ({ frames := 1, cells := 0, slots := 0, locals := 48 } : Room) (PG D κ A S [.ref a0, .ref a1]) (va_Qv Q (BG D κ A) A) 0 0 A := by
  refine Met.ofW (cc := cX6_move) (maxL := 3) (ret := none) (by decide) rfl ?_
  intro p e s m args below meth c s₁ B hml hv
  obtain ⟨hargs, hA, hG, hK, hX⟩ := hv
  have hx := B.exec
  have hb := B.bytes
  have hr := B.returns
  have hts := atoms_spec (ws := wsX6_move) B.pre
  have hown : s.vm.findClass RX6 = some m.cls := findClass_of_methodNamed B.named
  have hlocks := B.notSynchronized
  subst hargs
  clear B
  have hS : va_S A s.heap s.heap [] := va_S.rf
  have hl := lv_entry ([.ref a0, .ref a1]) (n := 3) (Nat.le_of_ble_eq_true rfl)
  rw [lg_entry_eq]
  generalize (lg_sl ([.ref a0, .ref a1]) ++ List.replicate (3 - (lg_sl ([.ref a0, .ref a1])).length) Slot.unset).toArray = ls at hl ⊢
  have hl : lv_has ls 3 [(0, .ref a0), (1, .ref a1)] := hl
  have hG : GG D κ A S s.heap := hG
  have k_2 : ∀  (n : Nat), ∀ (v0 : Nat) (v1 : Nat) (v2 : Int32) (S : Hp) (ls : Array Slot) (H : Heap) (locs : List Loc), lv_has ls 3 [(0, .ref v0), (1, .ref v1), (2, .int v2)] → GG D κ A S H → va_S A s.heap H locs → it (L_X6_move_2  Q) n (v0, v1, v2, S) → W p l e ({ frames := 1, cells := 0, slots := 0, locals := 48 } : Room) s m ([.ref a0, .ref a1] : List Value).toArray below meth c H locs 0 0 (MQ below (va_Qv Q (BG D κ A) A) ([.ref a0, .ref a1] : List Value).toArray s 0 0 A) (F0 m 2 ls []) := by
    intro  n
    induction n with
    | zero => intro v0 v1 v2 S ls H locs hl hG hS h; exact False.elim h
    | succ n hC2 =>
      intro v0 v1 v2 S ls H locs hl hG hS h
      replace h : L_X6_move_2  Q (it (L_X6_move_2  Q) n) (v0, v1, v2, S) := h
      simp only [L_X6_move_2] at h
      refine lv_iload_n hx hb dX6_move_2 rfl (lv_at hl 2 rfl) ?_
      refine lv_aload_n hx hb dX6_move_3 rfl (lv_at hl 0 rfl) ?_
      have hk := h.1
      replace h := h.2
      refine gg_alen8 hx hb hK hG hk dX6_move_4 ?_
      refine lv_icmp_ge (tgt := 20) hx hb dX6_move_5 rfl (fun hc => ?_) (fun hc => ?_)
      · replace h := h.1 hc
        exact W.vret hx hb hr (gr_v h hG hK hX hS) hS.2.2 dX6_move_20
      · replace h := h.2 hc
        refine lv_aload_n hx hb dX6_move_8 rfl (lv_at hl 1 rfl) ?_
        refine lv_iload_n hx hb dX6_move_9 rfl (lv_at hl 2 rfl) ?_
        refine lv_aload_n hx hb dX6_move_10 rfl (lv_at hl 0 rfl) ?_
        refine lv_iload_n hx hb dX6_move_11 rfl (lv_at hl 2 rfl) ?_
        have hk := h.1
        replace h := h.2
        have hi := h.1
        replace h := h.2
        refine gg_iald hx hb hK hG hk hi dX6_move_12 ?_
        have hk := h.1
        replace h := h.2
        have hi := h.1
        replace h := h.2
        obtain ⟨S1, eS1⟩ : ∃ z, z = sA S v1 (v2).toNatClampNeg (gA S v0 (v2).toNatClampNeg) := ⟨_, rfl⟩
        replace h := h S1 eS1
        refine gg_iast hx hb hK hG hS hk hi dX6_move_13 (fun H locs2 hG hS => ?_)
        rw [← eS1] at hG
        obtain ⟨y3, ey3⟩ : ∃ z, z = v2 + (1 : Int32) := ⟨_, rfl⟩
        replace h := h y3 ey3
        refine lv_iinc (v := y3) (lv' := [(2, .int y3), (0, .ref v0), (1, .ref v1)]) hx hb dX6_move_14 hl (k := 2) rfl (by rw [ey3]; rfl) (by decide) rfl (fun ls hl => ?_)
        refine lv_goto (tgt := 2) hx hb dX6_move_17 rfl ?_
        exact hC2 v0 v1 y3 S1 ls _ _ (lv_sub hl [1, 2, 0] rfl) hG hS h
  refine lv_iconst (v := (0 : Int32)) hx hb dX6_move_0 (by decide) ?_
  refine lv_istore_n (lv' := [(2, .int (0 : Int32)), (0, .ref a0), (1, .ref a1)]) hx hb dX6_move_1 rfl hl (by decide) rfl (fun ls hl => ?_)
  obtain ⟨nn, h⟩ := h
  exact k_2  nn a0 a1 (0 : Int32) S ls _ _ (lv_sub hl [1, 2, 0] rfl) hG hS h
set_option maxHeartbeats 4000000 in
set_option maxRecDepth 100000 in
theorem c_X6_image (l : Launch) (D : va_G) (κ : Nat → ClassId) (A : Nat → Prop) (S : Hp) (a0 : Nat) (Q : Int32 → Hp → Prop) (h : wp_X6_image a0 S Q) : Met l yX6_image wsX6_image ({ frames := 2, cells := 0, slots := 0, locals := 96 } : Room) (PG D κ A S [.ref a0]) (va_Qi Q (BG D κ A) A) 0 0 A := by
  refine Met.ofW (cc := cX6_image) (maxL := 1) (ret := (some .int)) (by decide) rfl ?_
  intro p e s m args below meth c s₁ B hml hv
  obtain ⟨hargs, hA, hG, hK, hX⟩ := hv
  have hx := B.exec
  have hb := B.bytes
  have hr := B.returns
  have hts := atoms_spec (ws := wsX6_image) B.pre
  have hown : s.vm.findClass RX6 = some m.cls := findClass_of_methodNamed B.named
  have hlocks := B.notSynchronized
  subst hargs
  clear B
  have hS : va_S A s.heap s.heap [] := va_S.rf
  have hl := lv_entry ([.ref a0]) (n := 1) (Nat.le_of_ble_eq_true rfl)
  rw [lg_entry_eq]
  generalize (lg_sl ([.ref a0]) ++ List.replicate (1 - (lg_sl ([.ref a0])).length) Slot.unset).toArray = ls at hl ⊢
  have hl : lv_has ls 1 [(0, .ref a0)] := hl
  have hG : GG D κ A S s.heap := hG
  refine lv_aload_n hx hb dX6_image_0 rfl (lv_at hl 0 rfl) ?_
  refine lv_iconst (v := (1 : Int32)) hx hb dX6_image_1 (by decide) ?_
  have hk := h.1
  replace h := h.2
  obtain ⟨S1, eS1⟩ : ∃ z, z = sI S 73 a0 (1 : Int32) := ⟨_, rfl⟩
  replace h := h S1 eS1
  refine gg_put (ci := 6) (C := RX6) (T := TX6) (N := 32) hx hb hts (fun _ h => List.mem_cons_of_mem _ (List.mem_append_right _ (h))) tyX6 tyX6_ok nmX6 hown hK hG hS (kc_7 hk) rfl 3 (by decide) (hts (.fieldLink RX6 53 "FourStonesModel" "kept" "Z") (List.mem_of_getElem? (i := 1) rfl)) (fun _ h9 => h9) rfl (tyX6_ok 3 (by decide)) (by decide) (by decide) (Nat.le_of_ble_eq_true rfl) dX6_image_2 (S' := S1) (fun b hb9 => by rw [eS1]; exact cO_sI hb9) (by rw [eS1]; exact cs_73 hk) (fun H locs2 hG hS => ?_)
  refine lv_aload_n hx hb dX6_image_5 rfl (lv_at hl 0 rfl) ?_
  refine lv_aload_n hx hb dX6_image_6 rfl (lv_at hl 0 rfl) ?_
  have hk := h.1
  replace h := h.2
  refine gg_get (ci := 6) (C := RX6) (T := TX6) (N := 32) hx hb hts (fun _ h => List.mem_cons_of_mem _ (List.mem_append_right _ (h))) hown hK hG (kc_7 hk) rfl 0 (by decide) (hts (.fieldLink RX6 57 "FourStonesModel" "stones" "I") (List.mem_of_getElem? (i := 2) rfl)) (fun _ h9 => h9) rfl dX6_image_7 ?_
  have hk := h.1
  replace h := h.2
  obtain ⟨S3, eS3⟩ : ∃ z, z = sI S1 74 a0 (gI S1 70 a0) := ⟨_, rfl⟩
  replace h := h S3 eS3
  refine gg_put (ci := 6) (C := RX6) (T := TX6) (N := 32) hx hb hts (fun _ h => List.mem_cons_of_mem _ (List.mem_append_right _ (h))) tyX6 tyX6_ok nmX6 hown hK hG hS (kc_7 hk) rfl 4 (by decide) (hts (.fieldLink RX6 61 "FourStonesModel" "stonesThen" "I") (List.mem_of_getElem? (i := 3) rfl)) (fun _ h9 => h9) rfl (tyX6_ok 4 (by decide)) rfl rfl (Nat.le_of_ble_eq_true rfl) dX6_image_10 (S' := S3) (fun b hb9 => by rw [eS3]; exact cO_sI hb9) (by rw [eS3]; exact cs_74 hk) (fun H locs4 hG hS => ?_)
  refine lv_aload_n hx hb dX6_image_13 rfl (lv_at hl 0 rfl) ?_
  have hk := h.1
  replace h := h.2
  obtain ⟨r5, hr5, h⟩ := h
  refine gg_get (v := .ref r5) (ci := 6) (C := RX6) (T := TX6) (N := 32) hx hb hts (fun _ h => List.mem_cons_of_mem _ (List.mem_append_right _ (h))) hown hK hG (kc_7 hk) rfl 1 (by decide) (hts (.fieldLink RX6 7 "FourStonesModel" "weight" "[I") (List.mem_of_getElem? (i := 4) rfl)) (fun _ h9 => h9) (congrArg (fun z => some (va_rf z)) hr5) dX6_image_14 ?_
  refine lv_aload_n hx hb dX6_image_17 rfl (lv_at hl 0 rfl) ?_
  have hk := h.1
  replace h := h.2
  obtain ⟨r6, hr6, h⟩ := h
  refine gg_get (v := .ref r6) (ci := 6) (C := RX6) (T := TX6) (N := 32) hx hb hts (fun _ h => List.mem_cons_of_mem _ (List.mem_append_right _ (h))) hown hK hG (kc_7 hk) rfl 5 (by decide) (hts (.fieldLink RX6 16 "FourStonesModel" "weightThen" "[I") (List.mem_of_getElem? (i := 5) rfl)) (fun _ h9 => h9) (congrArg (fun z => some (va_rf z)) hr6) dX6_image_18 ?_
  refine gc_v (va_runS (As := [.ref r5, .ref r6]) (rest := []) ⟨hx, hb, hml, hown, hts⟩ (c_X6_move l D κ A S3 r5 r6 _ h) (va_cwS 2 hts gX6_image_X6_move rfl rfl rfl (by decide +kernel) ⟨Nat.le_of_ble_eq_true rfl, Nat.le_of_ble_eq_true rfl⟩) (pg_S hK hX hG (pg_A hA hS)) rfl rfl hl.1 rfl (lv_room (Nat.le_of_ble_eq_true rfl)) dX6_image_21 ⟨Nat.le_of_ble_eq_true rfl, Nat.le_of_ble_eq_true rfl⟩) hS (fun S8 H locs7 h hG hS => ?_)
  refine lv_aload_n hx hb dX6_image_24 rfl (lv_at hl 0 rfl) ?_
  have hk := h.1
  replace h := h.2
  obtain ⟨r9, hr9, h⟩ := h
  refine gg_get (v := .ref r9) (ci := 6) (C := RX6) (T := TX6) (N := 32) hx hb hts (fun _ h => List.mem_cons_of_mem _ (List.mem_append_right _ (h))) hown hK hG (kc_7 hk) rfl 2 (by decide) (hts (.fieldLink RX6 13 "FourStonesModel" "price" "[I") (List.mem_of_getElem? (i := 6) rfl)) (fun _ h9 => h9) (congrArg (fun z => some (va_rf z)) hr9) dX6_image_25 ?_
  refine lv_aload_n hx hb dX6_image_28 rfl (lv_at hl 0 rfl) ?_
  have hk := h.1
  replace h := h.2
  obtain ⟨r10, hr10, h⟩ := h
  refine gg_get (v := .ref r10) (ci := 6) (C := RX6) (T := TX6) (N := 32) hx hb hts (fun _ h => List.mem_cons_of_mem _ (List.mem_append_right _ (h))) hown hK hG (kc_7 hk) rfl 6 (by decide) (hts (.fieldLink RX6 19 "FourStonesModel" "priceThen" "[I") (List.mem_of_getElem? (i := 7) rfl)) (fun _ h9 => h9) (congrArg (fun z => some (va_rf z)) hr10) dX6_image_29 ?_
  refine gc_v (va_runS (As := [.ref r9, .ref r10]) (rest := []) ⟨hx, hb, hml, hown, hts⟩ (c_X6_move l D κ A S8 r9 r10 _ h) (va_cwS 2 hts gX6_image_X6_move rfl rfl rfl (by decide +kernel) ⟨Nat.le_of_ble_eq_true rfl, Nat.le_of_ble_eq_true rfl⟩) (pg_S hK hX hG (pg_A hA hS)) rfl rfl hl.1 rfl (lv_room (Nat.le_of_ble_eq_true rfl)) dX6_image_32 ⟨Nat.le_of_ble_eq_true rfl, Nat.le_of_ble_eq_true rfl⟩) hS (fun S12 H locs11 h hG hS => ?_)
  refine lv_aload_n hx hb dX6_image_35 rfl (lv_at hl 0 rfl) ?_
  have hk := h.1
  replace h := h.2
  refine gg_get (ci := 6) (C := RX6) (T := TX6) (N := 32) hx hb hts (fun _ h => List.mem_cons_of_mem _ (List.mem_append_right _ (h))) hown hK hG (kc_7 hk) rfl 0 (by decide) (hts (.fieldLink RX6 57 "FourStonesModel" "stones" "I") (List.mem_of_getElem? (i := 2) rfl)) (fun _ h9 => h9) rfl dX6_image_36 ?_
  exact W.iret hx hb hr (gr_i h hG hK hX hS) hS.2.2 dX6_image_39
set_option maxHeartbeats 4000000 in
set_option maxRecDepth 100000 in
theorem c_X6_restore (l : Launch) (D : va_G) (κ : Nat → ClassId) (A : Nat → Prop) (S : Hp) (a0 : Nat) (Q : Int32 → Hp → Prop) (h : wp_X6_restore a0 S Q) : Met l yX6_restore wsX6_restore ({ frames := 2, cells := 0, slots := 0, locals := 96 } : Room) (PG D κ A S [.ref a0]) (va_Qi Q (BG D κ A) A) 0 0 A := by
  refine Met.ofW (cc := cX6_restore) (maxL := 1) (ret := (some .int)) (by decide) rfl ?_
  intro p e s m args below meth c s₁ B hml hv
  obtain ⟨hargs, hA, hG, hK, hX⟩ := hv
  have hx := B.exec
  have hb := B.bytes
  have hr := B.returns
  have hts := atoms_spec (ws := wsX6_restore) B.pre
  have hown : s.vm.findClass RX6 = some m.cls := findClass_of_methodNamed B.named
  have hlocks := B.notSynchronized
  subst hargs
  clear B
  have hS : va_S A s.heap s.heap [] := va_S.rf
  have hl := lv_entry ([.ref a0]) (n := 1) (Nat.le_of_ble_eq_true rfl)
  rw [lg_entry_eq]
  generalize (lg_sl ([.ref a0]) ++ List.replicate (1 - (lg_sl ([.ref a0])).length) Slot.unset).toArray = ls at hl ⊢
  have hl : lv_has ls 1 [(0, .ref a0)] := hl
  have hG : GG D κ A S s.heap := hG
  refine lv_aload_n hx hb dX6_restore_0 rfl (lv_at hl 0 rfl) ?_
  have hk := h.1
  replace h := h.2
  refine gg_get (ci := 6) (C := RX6) (T := TX6) (N := 32) hx hb hts (fun _ h => List.mem_cons_of_mem _ (List.mem_append_right _ (h))) hown hK hG (kc_7 hk) rfl 3 (by decide) (hts (.fieldLink RX6 53 "FourStonesModel" "kept" "Z") (List.mem_of_getElem? (i := 1) rfl)) (fun _ h9 => h9) rfl dX6_restore_1 ?_
  refine lv_if_ne (tgt := 10) hx hb dX6_restore_4 rfl (fun hc => ?_) (fun hc => ?_)
  · replace h := h.1 hc
    refine lv_aload_n hx hb dX6_restore_10 rfl (lv_at hl 0 rfl) ?_
    refine lv_aload_n hx hb dX6_restore_11 rfl (lv_at hl 0 rfl) ?_
    have hk := h.1
    replace h := h.2
    refine gg_get (ci := 6) (C := RX6) (T := TX6) (N := 32) hx hb hts (fun _ h => List.mem_cons_of_mem _ (List.mem_append_right _ (h))) hown hK hG (kc_7 hk) rfl 4 (by decide) (hts (.fieldLink RX6 61 "FourStonesModel" "stonesThen" "I") (List.mem_of_getElem? (i := 2) rfl)) (fun _ h9 => h9) rfl dX6_restore_12 ?_
    have hk := h.1
    replace h := h.2
    obtain ⟨S1, eS1⟩ : ∃ z, z = sI S 70 a0 (gI S 74 a0) := ⟨_, rfl⟩
    replace h := h S1 eS1
    refine gg_put (ci := 6) (C := RX6) (T := TX6) (N := 32) hx hb hts (fun _ h => List.mem_cons_of_mem _ (List.mem_append_right _ (h))) tyX6 tyX6_ok nmX6 hown hK hG hS (kc_7 hk) rfl 0 (by decide) (hts (.fieldLink RX6 57 "FourStonesModel" "stones" "I") (List.mem_of_getElem? (i := 3) rfl)) (fun _ h9 => h9) rfl (tyX6_ok 0 (by decide)) rfl rfl (Nat.le_of_ble_eq_true rfl) dX6_restore_15 (S' := S1) (fun b hb9 => by rw [eS1]; exact cO_sI hb9) (by rw [eS1]; exact cs_70 hk) (fun H locs2 hG hS => ?_)
    refine lv_aload_n hx hb dX6_restore_18 rfl (lv_at hl 0 rfl) ?_
    have hk := h.1
    replace h := h.2
    obtain ⟨r3, hr3, h⟩ := h
    refine gg_get (v := .ref r3) (ci := 6) (C := RX6) (T := TX6) (N := 32) hx hb hts (fun _ h => List.mem_cons_of_mem _ (List.mem_append_right _ (h))) hown hK hG (kc_7 hk) rfl 5 (by decide) (hts (.fieldLink RX6 16 "FourStonesModel" "weightThen" "[I") (List.mem_of_getElem? (i := 4) rfl)) (fun _ h9 => h9) (congrArg (fun z => some (va_rf z)) hr3) dX6_restore_19 ?_
    refine lv_aload_n hx hb dX6_restore_22 rfl (lv_at hl 0 rfl) ?_
    have hk := h.1
    replace h := h.2
    obtain ⟨r4, hr4, h⟩ := h
    refine gg_get (v := .ref r4) (ci := 6) (C := RX6) (T := TX6) (N := 32) hx hb hts (fun _ h => List.mem_cons_of_mem _ (List.mem_append_right _ (h))) hown hK hG (kc_7 hk) rfl 1 (by decide) (hts (.fieldLink RX6 7 "FourStonesModel" "weight" "[I") (List.mem_of_getElem? (i := 5) rfl)) (fun _ h9 => h9) (congrArg (fun z => some (va_rf z)) hr4) dX6_restore_23 ?_
    refine gc_v (va_runS (As := [.ref r3, .ref r4]) (rest := []) ⟨hx, hb, hml, hown, hts⟩ (c_X6_move l D κ A S1 r3 r4 _ h) (va_cwS 2 hts gX6_restore_X6_move rfl rfl rfl (by decide +kernel) ⟨Nat.le_of_ble_eq_true rfl, Nat.le_of_ble_eq_true rfl⟩) (pg_S hK hX hG (pg_A hA hS)) rfl rfl hl.1 rfl (lv_room (Nat.le_of_ble_eq_true rfl)) dX6_restore_26 ⟨Nat.le_of_ble_eq_true rfl, Nat.le_of_ble_eq_true rfl⟩) hS (fun S6 H locs5 h hG hS => ?_)
    refine lv_aload_n hx hb dX6_restore_29 rfl (lv_at hl 0 rfl) ?_
    have hk := h.1
    replace h := h.2
    obtain ⟨r7, hr7, h⟩ := h
    refine gg_get (v := .ref r7) (ci := 6) (C := RX6) (T := TX6) (N := 32) hx hb hts (fun _ h => List.mem_cons_of_mem _ (List.mem_append_right _ (h))) hown hK hG (kc_7 hk) rfl 6 (by decide) (hts (.fieldLink RX6 19 "FourStonesModel" "priceThen" "[I") (List.mem_of_getElem? (i := 6) rfl)) (fun _ h9 => h9) (congrArg (fun z => some (va_rf z)) hr7) dX6_restore_30 ?_
    refine lv_aload_n hx hb dX6_restore_33 rfl (lv_at hl 0 rfl) ?_
    have hk := h.1
    replace h := h.2
    obtain ⟨r8, hr8, h⟩ := h
    refine gg_get (v := .ref r8) (ci := 6) (C := RX6) (T := TX6) (N := 32) hx hb hts (fun _ h => List.mem_cons_of_mem _ (List.mem_append_right _ (h))) hown hK hG (kc_7 hk) rfl 2 (by decide) (hts (.fieldLink RX6 13 "FourStonesModel" "price" "[I") (List.mem_of_getElem? (i := 7) rfl)) (fun _ h9 => h9) (congrArg (fun z => some (va_rf z)) hr8) dX6_restore_34 ?_
    refine gc_v (va_runS (As := [.ref r7, .ref r8]) (rest := []) ⟨hx, hb, hml, hown, hts⟩ (c_X6_move l D κ A S6 r7 r8 _ h) (va_cwS 2 hts gX6_restore_X6_move rfl rfl rfl (by decide +kernel) ⟨Nat.le_of_ble_eq_true rfl, Nat.le_of_ble_eq_true rfl⟩) (pg_S hK hX hG (pg_A hA hS)) rfl rfl hl.1 rfl (lv_room (Nat.le_of_ble_eq_true rfl)) dX6_restore_37 ⟨Nat.le_of_ble_eq_true rfl, Nat.le_of_ble_eq_true rfl⟩) hS (fun S10 H locs9 h hG hS => ?_)
    refine lv_aload_n hx hb dX6_restore_40 rfl (lv_at hl 0 rfl) ?_
    have hk := h.1
    replace h := h.2
    refine gg_get (ci := 6) (C := RX6) (T := TX6) (N := 32) hx hb hts (fun _ h => List.mem_cons_of_mem _ (List.mem_append_right _ (h))) hown hK hG (kc_7 hk) rfl 0 (by decide) (hts (.fieldLink RX6 57 "FourStonesModel" "stones" "I") (List.mem_of_getElem? (i := 3) rfl)) (fun _ h9 => h9) rfl dX6_restore_41 ?_
    exact W.iret hx hb hr (gr_i h hG hK hX hS) hS.2.2 dX6_restore_44
  · replace h := h.2 hc
    refine lv_bipush (v := (-3 : Int32)) hx hb dX6_restore_7 (by decide) ?_
    exact W.iret hx hb hr (gr_i h hG hK hX hS) hS.2.2 dX6_restore_9
set_option maxHeartbeats 4000000 in
set_option maxRecDepth 100000 in
theorem c_X6_isStone (l : Launch) (D : va_G) (κ : Nat → ClassId) (A : Nat → Prop) (S : Hp) (a0 : Nat) (x1 : Int32) (Q : Int32 → Hp → Prop) (h : wp_X6_isStone a0 x1 S Q) : Met l yX6_isStone wsX6_isStone ({ frames := 2, cells := 0, slots := 0, locals := 96 } : Room) (PG D κ A S [.ref a0, .int x1]) (va_Qi Q (BG D κ A) A) 0 0 A := by
  refine Met.ofW (cc := cX6_isStone) (maxL := 2) (ret := (some .boolean)) (by decide) rfl ?_
  intro p e s m args below meth c s₁ B hml hv
  obtain ⟨hargs, hA, hG, hK, hX⟩ := hv
  have hx := B.exec
  have hb := B.bytes
  have hr := B.returns
  have hts := atoms_spec (ws := wsX6_isStone) B.pre
  have hown : s.vm.findClass RX6 = some m.cls := findClass_of_methodNamed B.named
  have hlocks := B.notSynchronized
  subst hargs
  clear B
  have hS : va_S A s.heap s.heap [] := va_S.rf
  have hl := lv_entry ([.ref a0, .int x1]) (n := 2) (Nat.le_of_ble_eq_true rfl)
  rw [lg_entry_eq]
  generalize (lg_sl ([.ref a0, .int x1]) ++ List.replicate (2 - (lg_sl ([.ref a0, .int x1])).length) Slot.unset).toArray = ls at hl ⊢
  have hl : lv_has ls 2 [(0, .ref a0), (1, .int x1)] := hl
  have hG : GG D κ A S s.heap := hG
  refine lv_iload_n hx hb dX6_isStone_0 rfl (lv_at hl 1 rfl) ?_
  refine lv_iconst (v := (0 : Int32)) hx hb dX6_isStone_1 (by decide) ?_
  refine lv_aload_n hx hb dX6_isStone_2 rfl (lv_at hl 0 rfl) ?_
  have hk := h.1
  replace h := h.2
  refine gg_get (ci := 6) (C := RX6) (T := TX6) (N := 32) hx hb hts (fun _ h => List.mem_cons_of_mem _ (List.mem_append_right _ (h))) hown hK hG (kc_7 hk) rfl 0 (by decide) (hts (.fieldLink RX6 57 "FourStonesModel" "stones" "I") (List.mem_of_getElem? (i := 1) rfl)) (fun _ h9 => h9) rfl dX6_isStone_3 ?_
  refine lv_iconst (v := (1 : Int32)) hx hb dX6_isStone_6 (by decide) ?_
  refine lv_isub hx hb dX6_isStone_7 ?_
  refine gc_i (va_runS (As := [.int x1, .int (0 : Int32), .int ((gI S 70 a0) - (1 : Int32))]) (rest := []) ⟨hx, hb, hml, hown, hts⟩ (c_X6_isIn l D κ A S x1 (0 : Int32) ((gI S 70 a0) - (1 : Int32)) _ h) (va_cwS 3 hts gX6_isStone_X6_isIn rfl rfl rfl (by decide +kernel) ⟨Nat.le_of_ble_eq_true rfl, Nat.le_of_ble_eq_true rfl⟩) (pg_S hK hX hG (pg_A hA hS)) rfl rfl hl.1 rfl (lv_room (Nat.le_of_ble_eq_true rfl)) dX6_isStone_8 ⟨Nat.le_of_ble_eq_true rfl, Nat.le_of_ble_eq_true rfl⟩) hS (fun z3 S2 H locs1 h hG hS => ?_)
  have hz := h.1
  replace h := h.2
  exact W.zret (ty := .boolean) hx hb hr hz (gr_i h hG hK hX hS) hS.2.2 dX6_isStone_11
set_option maxHeartbeats 4000000 in
set_option maxRecDepth 100000 in
theorem c_X6_stone (l : Launch) (D : va_G) (κ : Nat → ClassId) (A : Nat → Prop) (S : Hp) (a0 : Nat) (x1 : Int32) (x2 : Int32) (Q : Int32 → Hp → Prop) (h : wp_X6_stone a0 x1 x2 S Q) : Met l yX6_stone wsX6_stone ({ frames := 3, cells := 0, slots := 0, locals := 144 } : Room) (PG D κ A S [.ref a0, .int x1, .int x2]) (va_Qi Q (BG D κ A) A) 0 0 A := by
  refine Met.ofW (cc := cX6_stone) (maxL := 3) (ret := (some .int)) (by decide) rfl ?_
  intro p e s m args below meth c s₁ B hml hv
  obtain ⟨hargs, hA, hG, hK, hX⟩ := hv
  have hx := B.exec
  have hb := B.bytes
  have hr := B.returns
  have hts := atoms_spec (ws := wsX6_stone) B.pre
  have hown : s.vm.findClass RX6 = some m.cls := findClass_of_methodNamed B.named
  have hlocks := B.notSynchronized
  subst hargs
  clear B
  have hS : va_S A s.heap s.heap [] := va_S.rf
  have hl := lv_entry ([.ref a0, .int x1, .int x2]) (n := 3) (Nat.le_of_ble_eq_true rfl)
  rw [lg_entry_eq]
  generalize (lg_sl ([.ref a0, .int x1, .int x2]) ++ List.replicate (3 - (lg_sl ([.ref a0, .int x1, .int x2])).length) Slot.unset).toArray = ls at hl ⊢
  have hl : lv_has ls 3 [(0, .ref a0), (1, .int x1), (2, .int x2)] := hl
  have hG : GG D κ A S s.heap := hG
  refine lv_aload_n hx hb dX6_stone_0 rfl (lv_at hl 0 rfl) ?_
  refine lv_iload_n hx hb dX6_stone_1 rfl (lv_at hl 1 rfl) ?_
  have hk := h.1
  replace h := h.2
  refine gc_i (va_runV (As := [.int x1]) (rest := []) ⟨hx, hb, hml, hown, hts⟩ (c_X6_isStone l D κ A S a0 x1 _ h) (cwV 1 hts gX6_stone_X6_isStone rfl rfl rfl (by decide +kernel) ⟨Nat.le_of_ble_eq_true rfl, Nat.le_of_ble_eq_true rfl⟩) (pg_V (q := (RX6, TX6, 32)) hK hX hG (pg_A hA hS) (kc_7 hk) rfl) rfl rfl hl.1 rfl (lv_room (Nat.le_of_ble_eq_true rfl)) dX6_stone_2 ⟨Nat.le_of_ble_eq_true rfl, Nat.le_of_ble_eq_true rfl⟩) hS (fun z3 S2 H locs1 h hG hS => ?_)
  refine lv_if_eq (tgt := 17) hx hb dX6_stone_5 rfl (fun hc => ?_) (fun hc => ?_)
  · replace h := h.1 hc
    refine lv_iconst (v := (-1 : Int32)) hx hb dX6_stone_17 (by decide) ?_
    exact W.iret hx hb hr (gr_i h hG hK hX hS) hS.2.2 dX6_stone_18
  · replace h := h.2 hc
    refine lv_iload_n hx hb dX6_stone_8 rfl (lv_at hl 2 rfl) ?_
    refine lv_iconst (v := (0 : Int32)) hx hb dX6_stone_9 (by decide) ?_
    refine lv_iconst (v := (1 : Int32)) hx hb dX6_stone_10 (by decide) ?_
    refine gc_i (va_runS (As := [.int x2, .int (0 : Int32), .int (1 : Int32)]) (rest := []) ⟨hx, hb, hml, hown, hts⟩ (c_X6_isIn l D κ A S2 x2 (0 : Int32) (1 : Int32) _ h) (va_cwS 3 hts gX6_stone_X6_isIn rfl rfl rfl (by decide +kernel) ⟨Nat.le_of_ble_eq_true rfl, Nat.le_of_ble_eq_true rfl⟩) (pg_S hK hX hG (pg_A hA hS)) rfl rfl hl.1 rfl (lv_room (Nat.le_of_ble_eq_true rfl)) dX6_stone_11 ⟨Nat.le_of_ble_eq_true rfl, Nat.le_of_ble_eq_true rfl⟩) hS (fun z6 S5 H locs4 h hG hS => ?_)
    refine lv_if_ne (tgt := 19) hx hb dX6_stone_14 rfl (fun hc => ?_) (fun hc => ?_)
    · replace h := h.1 hc
      refine lv_iload_n hx hb dX6_stone_19 rfl (lv_at hl 2 rfl) ?_
      refine lv_if_ne (tgt := 32) hx hb dX6_stone_20 rfl (fun hc => ?_) (fun hc => ?_)
      · replace h := h.1 hc
        refine lv_aload_n hx hb dX6_stone_32 rfl (lv_at hl 0 rfl) ?_
        have hk := h.1
        replace h := h.2
        obtain ⟨r7, hr7, h⟩ := h
        refine gg_get (v := .ref r7) (ci := 6) (C := RX6) (T := TX6) (N := 32) hx hb hts (fun _ h => List.mem_cons_of_mem _ (List.mem_append_right _ (h))) hown hK hG (kc_7 hk) rfl 2 (by decide) (hts (.fieldLink RX6 13 "FourStonesModel" "price" "[I") (List.mem_of_getElem? (i := 2) rfl)) (fun _ h9 => h9) (congrArg (fun z => some (va_rf z)) hr7) dX6_stone_33 ?_
        refine lv_iload_n hx hb dX6_stone_36 rfl (lv_at hl 1 rfl) ?_
        have hk := h.1
        replace h := h.2
        have hi := h.1
        replace h := h.2
        refine gg_iald hx hb hK hG hk hi dX6_stone_37 ?_
        exact W.iret hx hb hr (gr_i h hG hK hX hS) hS.2.2 dX6_stone_38
      · replace h := h.2 hc
        refine lv_aload_n hx hb dX6_stone_23 rfl (lv_at hl 0 rfl) ?_
        have hk := h.1
        replace h := h.2
        obtain ⟨r8, hr8, h⟩ := h
        refine gg_get (v := .ref r8) (ci := 6) (C := RX6) (T := TX6) (N := 32) hx hb hts (fun _ h => List.mem_cons_of_mem _ (List.mem_append_right _ (h))) hown hK hG (kc_7 hk) rfl 1 (by decide) (hts (.fieldLink RX6 7 "FourStonesModel" "weight" "[I") (List.mem_of_getElem? (i := 1) rfl)) (fun _ h9 => h9) (congrArg (fun z => some (va_rf z)) hr8) dX6_stone_24 ?_
        refine lv_iload_n hx hb dX6_stone_27 rfl (lv_at hl 1 rfl) ?_
        have hk := h.1
        replace h := h.2
        have hi := h.1
        replace h := h.2
        refine gg_iald hx hb hK hG hk hi dX6_stone_28 ?_
        refine lv_goto (tgt := 38) hx hb dX6_stone_29 rfl ?_
        exact W.iret hx hb hr (gr_i h hG hK hX hS) hS.2.2 dX6_stone_38
    · replace h := h.2 hc
      refine lv_iconst (v := (-1 : Int32)) hx hb dX6_stone_17 (by decide) ?_
      exact W.iret hx hb hr (gr_i h hG hK hX hS) hS.2.2 dX6_stone_18
set_option maxHeartbeats 4000000 in
set_option maxRecDepth 100000 in
theorem c_X6_power (l : Launch) (D : va_G) (κ : Nat → ClassId) (A : Nat → Prop) (S : Hp) (x0 : Int32) (Q : Int32 → Hp → Prop) (h : wp_X6_power x0 S Q) : Met l yX6_power wsX6_power ({ frames := 1, cells := 0, slots := 0, locals := 48 } : Room) (PG D κ A S [.int x0]) (va_Qi Q (BG D κ A) A) 0 0 A := by
  refine Met.ofW (cc := cX6_power) (maxL := 3) (ret := (some .int)) (by decide) rfl ?_
  intro p e s m args below meth c s₁ B hml hv
  obtain ⟨hargs, hA, hG, hK, hX⟩ := hv
  have hx := B.exec
  have hb := B.bytes
  have hr := B.returns
  have hts := atoms_spec (ws := wsX6_power) B.pre
  have hown : s.vm.findClass RX6 = some m.cls := findClass_of_methodNamed B.named
  have hlocks := B.notSynchronized
  subst hargs
  clear B
  have hS : va_S A s.heap s.heap [] := va_S.rf
  have hl := lv_entry ([.int x0]) (n := 3) (Nat.le_of_ble_eq_true rfl)
  rw [lg_entry_eq]
  generalize (lg_sl ([.int x0]) ++ List.replicate (3 - (lg_sl ([.int x0])).length) Slot.unset).toArray = ls at hl ⊢
  have hl : lv_has ls 3 [(0, .int x0)] := hl
  have hG : GG D κ A S s.heap := hG
  have k_4 : ∀  (n : Nat), ∀ (v0 : Int32) (v1 : Int32) (v2 : Int32) (S : Hp) (ls : Array Slot) (H : Heap) (locs : List Loc), lv_has ls 3 [(0, .int v0), (1, .int v1), (2, .int v2)] → GG D κ A S H → va_S A s.heap H locs → it (L_X6_power_4  Q) n (v0, v1, v2, S) → W p l e ({ frames := 1, cells := 0, slots := 0, locals := 48 } : Room) s m ([.int x0] : List Value).toArray below meth c H locs 0 0 (MQ below (va_Qi Q (BG D κ A) A) ([.int x0] : List Value).toArray s 0 0 A) (F0 m 4 ls []) := by
    intro  n
    induction n with
    | zero => intro v0 v1 v2 S ls H locs hl hG hS h; exact False.elim h
    | succ n hC4 =>
      intro v0 v1 v2 S ls H locs hl hG hS h
      replace h : L_X6_power_4  Q (it (L_X6_power_4  Q) n) (v0, v1, v2, S) := h
      simp only [L_X6_power_4] at h
      refine lv_iload_n hx hb dX6_power_4 rfl (lv_at hl 2 rfl) ?_
      refine lv_iload_n hx hb dX6_power_5 rfl (lv_at hl 0 rfl) ?_
      refine lv_icmp_ge (tgt := 19) hx hb dX6_power_6 rfl (fun hc => ?_) (fun hc => ?_)
      · replace h := h.1 hc
        refine lv_iload_n hx hb dX6_power_19 rfl (lv_at hl 1 rfl) ?_
        exact W.iret hx hb hr (gr_i h hG hK hX hS) hS.2.2 dX6_power_20
      · replace h := h.2 hc
        refine lv_iload_n hx hb dX6_power_9 rfl (lv_at hl 1 rfl) ?_
        refine lv_iconst (v := (3 : Int32)) hx hb dX6_power_10 (by decide) ?_
        refine lv_imul hx hb dX6_power_11 ?_
        refine lv_topi (fun y1 ey1 => ?_)
        replace h := h y1 ey1
        refine lv_istore_n (lv' := [(1, .int y1), (0, .int v0), (2, .int v2)]) hx hb dX6_power_12 rfl hl (by decide) rfl (fun ls hl => ?_)
        obtain ⟨y2, ey2⟩ : ∃ z, z = v2 + (1 : Int32) := ⟨_, rfl⟩
        replace h := h y2 ey2
        refine lv_iinc (v := y2) (lv' := [(2, .int y2), (1, .int y1), (0, .int v0)]) hx hb dX6_power_13 hl (k := 2) rfl (by rw [ey2]; rfl) (by decide) rfl (fun ls hl => ?_)
        refine lv_goto (tgt := 4) hx hb dX6_power_16 rfl ?_
        exact hC4 v0 y1 y2 S ls _ _ (lv_sub hl [2, 1, 0] rfl) hG hS h
  refine lv_iconst (v := (1 : Int32)) hx hb dX6_power_0 (by decide) ?_
  refine lv_istore_n (lv' := [(1, .int (1 : Int32)), (0, .int x0)]) hx hb dX6_power_1 rfl hl (by decide) rfl (fun ls hl => ?_)
  refine lv_iconst (v := (0 : Int32)) hx hb dX6_power_2 (by decide) ?_
  refine lv_istore_n (lv' := [(2, .int (0 : Int32)), (1, .int (1 : Int32)), (0, .int x0)]) hx hb dX6_power_3 rfl hl (by decide) rfl (fun ls hl => ?_)
  obtain ⟨nn, h⟩ := h
  exact k_4  nn x0 (1 : Int32) (0 : Int32) S ls _ _ (lv_sub hl [2, 1, 0] rfl) hG hS h
set_option maxHeartbeats 4000000 in
set_option maxRecDepth 100000 in
theorem c_X6_isLying (l : Launch) (D : va_G) (κ : Nat → ClassId) (A : Nat → Prop) (S : Hp) (a0 : Nat) (x1 : Int32) (Q : Int32 → Hp → Prop) (h : wp_X6_isLying a0 x1 S Q) : Met l yX6_isLying wsX6_isLying ({ frames := 2, cells := 0, slots := 0, locals := 96 } : Room) (PG D κ A S [.ref a0, .int x1]) (va_Qi Q (BG D κ A) A) 0 0 A := by
  refine Met.ofW (cc := cX6_isLying) (maxL := 2) (ret := (some .boolean)) (by decide) rfl ?_
  intro p e s m args below meth c s₁ B hml hv
  obtain ⟨hargs, hA, hG, hK, hX⟩ := hv
  have hx := B.exec
  have hb := B.bytes
  have hr := B.returns
  have hts := atoms_spec (ws := wsX6_isLying) B.pre
  have hown : s.vm.findClass RX6 = some m.cls := findClass_of_methodNamed B.named
  have hlocks := B.notSynchronized
  subst hargs
  clear B
  have hS : va_S A s.heap s.heap [] := va_S.rf
  have hl := lv_entry ([.ref a0, .int x1]) (n := 2) (Nat.le_of_ble_eq_true rfl)
  rw [lg_entry_eq]
  generalize (lg_sl ([.ref a0, .int x1]) ++ List.replicate (2 - (lg_sl ([.ref a0, .int x1])).length) Slot.unset).toArray = ls at hl ⊢
  have hl : lv_has ls 2 [(0, .ref a0), (1, .int x1)] := hl
  have hG : GG D κ A S s.heap := hG
  refine lv_iload_n hx hb dX6_isLying_0 rfl (lv_at hl 1 rfl) ?_
  refine lv_iconst (v := (0 : Int32)) hx hb dX6_isLying_1 (by decide) ?_
  refine lv_aload_n hx hb dX6_isLying_2 rfl (lv_at hl 0 rfl) ?_
  have hk := h.1
  replace h := h.2
  refine gg_get (ci := 6) (C := RX6) (T := TX6) (N := 32) hx hb hts (fun _ h => List.mem_cons_of_mem _ (List.mem_append_right _ (h))) hown hK hG (kc_7 hk) rfl 0 (by decide) (hts (.fieldLink RX6 57 "FourStonesModel" "stones" "I") (List.mem_of_getElem? (i := 1) rfl)) (fun _ h9 => h9) rfl dX6_isLying_3 ?_
  refine gc_i (va_runS (As := [.int (gI S 70 a0)]) (rest := [.int (0 : Int32), .int x1]) ⟨hx, hb, hml, hown, hts⟩ (c_X6_power l D κ A S (gI S 70 a0) _ h) (va_cwS 1 hts gX6_isLying_X6_power rfl rfl rfl (by decide +kernel) ⟨Nat.le_of_ble_eq_true rfl, Nat.le_of_ble_eq_true rfl⟩) (pg_S hK hX hG (pg_A hA hS)) rfl rfl hl.1 rfl (lv_room (Nat.le_of_ble_eq_true rfl)) dX6_isLying_6 ⟨Nat.le_of_ble_eq_true rfl, Nat.le_of_ble_eq_true rfl⟩) hS (fun z3 S2 H locs1 h hG hS => ?_)
  refine lv_iconst (v := (1 : Int32)) hx hb dX6_isLying_9 (by decide) ?_
  refine lv_isub hx hb dX6_isLying_10 ?_
  refine gc_i (va_runS (As := [.int x1, .int (0 : Int32), .int (z3 - (1 : Int32))]) (rest := []) ⟨hx, hb, hml, hown, hts⟩ (c_X6_isIn l D κ A S2 x1 (0 : Int32) (z3 - (1 : Int32)) _ h) (va_cwS 3 hts gX6_isLying_X6_isIn rfl rfl rfl (by decide +kernel) ⟨Nat.le_of_ble_eq_true rfl, Nat.le_of_ble_eq_true rfl⟩) (pg_S hK hX hG (pg_A hA hS)) rfl rfl hl.1 rfl (lv_room (Nat.le_of_ble_eq_true rfl)) dX6_isLying_11 ⟨Nat.le_of_ble_eq_true rfl, Nat.le_of_ble_eq_true rfl⟩) hS (fun z6 S5 H locs4 h hG hS => ?_)
  have hz := h.1
  replace h := h.2
  exact W.zret (ty := .boolean) hx hb hr hz (gr_i h hG hK hX hS) hS.2.2 dX6_isLying_14
set_option maxHeartbeats 4000000 in
set_option maxRecDepth 100000 in
theorem c_X6_look (l : Launch) (D : va_G) (κ : Nat → ClassId) (A : Nat → Prop) (S : Hp) (a0 : Nat) (x1 : Int32) (Q : Hp → Prop) (h : wp_X6_look a0 x1 S Q) : Met l yX6_look wsX6_look ({ frames := 1, cells := 0, slots := 0, locals := 48 } : Room) (PG D κ A S [.ref a0, .int x1]) (va_Qv Q (BG D κ A) A) 0 0 A := by
  refine Met.ofW (cc := cX6_look) (maxL := 5) (ret := none) (by decide) rfl ?_
  intro p e s m args below meth c s₁ B hml hv
  obtain ⟨hargs, hA, hG, hK, hX⟩ := hv
  have hx := B.exec
  have hb := B.bytes
  have hr := B.returns
  have hts := atoms_spec (ws := wsX6_look) B.pre
  have hown : s.vm.findClass RX6 = some m.cls := findClass_of_methodNamed B.named
  have hlocks := B.notSynchronized
  subst hargs
  clear B
  have hS : va_S A s.heap s.heap [] := va_S.rf
  have hl := lv_entry ([.ref a0, .int x1]) (n := 5) (Nat.le_of_ble_eq_true rfl)
  rw [lg_entry_eq]
  generalize (lg_sl ([.ref a0, .int x1]) ++ List.replicate (5 - (lg_sl ([.ref a0, .int x1])).length) Slot.unset).toArray = ls at hl ⊢
  have hl : lv_has ls 5 [(0, .ref a0), (1, .int x1)] := hl
  have hG : GG D κ A S s.heap := hG
  have j_182 : ∀ (C34 : Nat × Int32 × Int32 × Hp → Prop) (hC34 : ∀ (v0 : Nat) (v2 : Int32) (v3 : Int32) (S : Hp) (ls : Array Slot) (H : Heap) (locs : List Loc), lv_has ls 5 [(0, .ref v0), (2, .int v2), (3, .int v3)] → GG D κ A S H → va_S A s.heap H locs → C34 (v0, v2, v3, S) → W p l e ({ frames := 1, cells := 0, slots := 0, locals := 48 } : Room) s m ([.ref a0, .int x1] : List Value).toArray below meth c H locs 0 0 (MQ below (va_Qv Q (BG D κ A) A) ([.ref a0, .int x1] : List Value).toArray s 0 0 A) (F0 m 34 ls [])) (v0 : Nat) (v2 : Int32) (v3 : Int32) (w0 : Nat) (w1 : Int32) (w2 : Int32) (S : Hp) (ls : Array Slot) (H : Heap) (locs : List Loc), lv_has ls 5 [(0, .ref v0), (2, .int v2), (3, .int v3)] → GG D κ A S H → va_S A s.heap H locs → J_X6_look_182 C34 Q v0 v2 v3 w0 w1 w2 S → W p l e ({ frames := 1, cells := 0, slots := 0, locals := 48 } : Room) s m ([.ref a0, .int x1] : List Value).toArray below meth c H locs 0 0 (MQ below (va_Qv Q (BG D κ A) A) ([.ref a0, .int x1] : List Value).toArray s 0 0 A) (F0 m 182 ls [.int w2, .int w1, .ref w0]) := by
    intro C34 hC34 v0 v2 v3 w0 w1 w2 S ls H locs hl hG hS h
    unfold J_X6_look_182 at h
    refine lv_ior hx hb dX6_look_182 ?_
    have hk := h.1
    replace h := h.2
    obtain ⟨S1, eS1⟩ : ∃ z, z = sI S 82 w0 (w1 ||| w2) := ⟨_, rfl⟩
    replace h := h S1 eS1
    refine gg_put (ci := 6) (C := RX6) (T := TX6) (N := 32) hx hb hts (fun _ h => List.mem_cons_of_mem _ (List.mem_append_right _ (h))) tyX6 tyX6_ok nmX6 hown hK hG hS (kc_7 hk) rfl 12 (by decide) (hts (.fieldLink RX6 95 "FourStonesModel" "used" "I") (List.mem_of_getElem? (i := 6) rfl)) (fun _ h9 => h9) rfl (tyX6_ok 12 (by decide)) rfl rfl (Nat.le_of_ble_eq_true rfl) dX6_look_183 (S' := S1) (fun b hb9 => by rw [eS1]; exact cO_sI hb9) (by rw [eS1]; exact cs_82 hk) (fun H locs2 hG hS => ?_)
    obtain ⟨y3, ey3⟩ : ∃ z, z = v3 + (1 : Int32) := ⟨_, rfl⟩
    replace h := h y3 ey3
    refine lv_iinc (v := y3) (lv' := [(3, .int y3), (0, .ref v0), (2, .int v2)]) hx hb dX6_look_186 hl (k := 2) rfl (by rw [ey3]; rfl) (by decide) rfl (fun ls hl => ?_)
    refine lv_goto (tgt := 34) hx hb dX6_look_189 rfl ?_
    exact hC34 v0 v2 y3 S1 ls _ _ (lv_sub hl [1, 2, 0] rfl) hG hS h
  have j_161 : ∀ (C34 : Nat × Int32 × Int32 × Hp → Prop) (hC34 : ∀ (v0 : Nat) (v2 : Int32) (v3 : Int32) (S : Hp) (ls : Array Slot) (H : Heap) (locs : List Loc), lv_has ls 5 [(0, .ref v0), (2, .int v2), (3, .int v3)] → GG D κ A S H → va_S A s.heap H locs → C34 (v0, v2, v3, S) → W p l e ({ frames := 1, cells := 0, slots := 0, locals := 48 } : Room) s m ([.ref a0, .int x1] : List Value).toArray below meth c H locs 0 0 (MQ below (va_Qv Q (BG D κ A) A) ([.ref a0, .int x1] : List Value).toArray s 0 0 A) (F0 m 34 ls [])) (v0 : Nat) (v2 : Int32) (v3 : Int32) (v4 : Int32) (w0 : Nat) (w1 : Int32) (w2 : Int32) (S : Hp) (ls : Array Slot) (H : Heap) (locs : List Loc), lv_has ls 5 [(0, .ref v0), (2, .int v2), (3, .int v3), (4, .int v4)] → GG D κ A S H → va_S A s.heap H locs → J_X6_look_161 C34 Q v0 v2 v3 v4 w0 w1 w2 S → W p l e ({ frames := 1, cells := 0, slots := 0, locals := 48 } : Room) s m ([.ref a0, .int x1] : List Value).toArray below meth c H locs 0 0 (MQ below (va_Qv Q (BG D κ A) A) ([.ref a0, .int x1] : List Value).toArray s 0 0 A) (F0 m 161 ls [.int w2, .int w1, .ref w0]) := by
    intro C34 hC34 v0 v2 v3 v4 w0 w1 w2 S ls H locs hl hG hS h
    unfold J_X6_look_161 at h
    refine lv_iadd hx hb dX6_look_161 ?_
    have hk := h.1
    replace h := h.2
    obtain ⟨S1, eS1⟩ : ∃ z, z = sI S 81 w0 (w1 + w2) := ⟨_, rfl⟩
    replace h := h S1 eS1
    refine gg_put (ci := 6) (C := RX6) (T := TX6) (N := 32) hx hb hts (fun _ h => List.mem_cons_of_mem _ (List.mem_append_right _ (h))) tyX6 tyX6_ok nmX6 hown hK hG hS (kc_7 hk) rfl 11 (by decide) (hts (.fieldLink RX6 92 "FourStonesModel" "prices" "I") (List.mem_of_getElem? (i := 5) rfl)) (fun _ h9 => h9) rfl (tyX6_ok 11 (by decide)) rfl rfl (Nat.le_of_ble_eq_true rfl) dX6_look_162 (S' := S1) (fun b hb9 => by rw [eS1]; exact cO_sI hb9) (by rw [eS1]; exact cs_81 hk) (fun H locs2 hG hS => ?_)
    refine lv_aload_n hx hb dX6_look_165 rfl (lv_at hl 0 rfl) ?_
    refine lv_dup hx hb dX6_look_166 rfl ?_
    have hk := h.1
    replace h := h.2
    refine gg_get (ci := 6) (C := RX6) (T := TX6) (N := 32) hx hb hts (fun _ h => List.mem_cons_of_mem _ (List.mem_append_right _ (h))) hown hK hG (kc_7 hk) rfl 12 (by decide) (hts (.fieldLink RX6 95 "FourStonesModel" "used" "I") (List.mem_of_getElem? (i := 6) rfl)) (fun _ h9 => h9) rfl dX6_look_167 ?_
    refine lv_iload hx hb dX6_look_170 (lv_at hl 3 rfl) ?_
    refine lv_if_ne (tgt := 179) hx hb dX6_look_172 rfl (fun hc => ?_) (fun hc => ?_)
    · replace h := h.1 hc
      refine lv_iconst (v := (1 : Int32)) hx hb dX6_look_179 (by decide) ?_
      refine lv_iload_n hx hb dX6_look_180 rfl (lv_at hl 2 rfl) ?_
      refine lv_ishl hx hb dX6_look_181 ?_
      exact j_182 _ hC34 v0 v2 v3 v0 (gI S1 82 v0) ((1 : Int32) <<< (v3 &&& 31)) S1 ls _ _ (lv_sub hl [0, 1, 2] rfl) hG hS h
    · replace h := h.2 hc
      refine lv_iconst (v := (0 : Int32)) hx hb dX6_look_175 (by decide) ?_
      refine lv_goto (tgt := 182) hx hb dX6_look_176 rfl ?_
      exact j_182 _ hC34 v0 v2 v3 v0 (gI S1 82 v0) (0 : Int32) S1 ls _ _ (lv_sub hl [0, 1, 2] rfl) hG hS h
  have j_137 : ∀ (C34 : Nat × Int32 × Int32 × Hp → Prop) (hC34 : ∀ (v0 : Nat) (v2 : Int32) (v3 : Int32) (S : Hp) (ls : Array Slot) (H : Heap) (locs : List Loc), lv_has ls 5 [(0, .ref v0), (2, .int v2), (3, .int v3)] → GG D κ A S H → va_S A s.heap H locs → C34 (v0, v2, v3, S) → W p l e ({ frames := 1, cells := 0, slots := 0, locals := 48 } : Room) s m ([.ref a0, .int x1] : List Value).toArray below meth c H locs 0 0 (MQ below (va_Qv Q (BG D κ A) A) ([.ref a0, .int x1] : List Value).toArray s 0 0 A) (F0 m 34 ls [])) (v0 : Nat) (v2 : Int32) (v3 : Int32) (v4 : Int32) (w0 : Nat) (w1 : Int32) (w2 : Int32) (S : Hp) (ls : Array Slot) (H : Heap) (locs : List Loc), lv_has ls 5 [(0, .ref v0), (2, .int v2), (3, .int v3), (4, .int v4)] → GG D κ A S H → va_S A s.heap H locs → J_X6_look_137 C34 Q v0 v2 v3 v4 w0 w1 w2 S → W p l e ({ frames := 1, cells := 0, slots := 0, locals := 48 } : Room) s m ([.ref a0, .int x1] : List Value).toArray below meth c H locs 0 0 (MQ below (va_Qv Q (BG D κ A) A) ([.ref a0, .int x1] : List Value).toArray s 0 0 A) (F0 m 137 ls [.int w2, .int w1, .ref w0]) := by
    intro C34 hC34 v0 v2 v3 v4 w0 w1 w2 S ls H locs hl hG hS h
    unfold J_X6_look_137 at h
    refine lv_iadd hx hb dX6_look_137 ?_
    have hk := h.1
    replace h := h.2
    obtain ⟨S1, eS1⟩ : ∃ z, z = sI S 80 w0 (w1 + w2) := ⟨_, rfl⟩
    replace h := h S1 eS1
    refine gg_put (ci := 6) (C := RX6) (T := TX6) (N := 32) hx hb hts (fun _ h => List.mem_cons_of_mem _ (List.mem_append_right _ (h))) tyX6 tyX6_ok nmX6 hown hK hG hS (kc_7 hk) rfl 10 (by decide) (hts (.fieldLink RX6 89 "FourStonesModel" "lefts" "I") (List.mem_of_getElem? (i := 4) rfl)) (fun _ h9 => h9) rfl (tyX6_ok 10 (by decide)) rfl rfl (Nat.le_of_ble_eq_true rfl) dX6_look_138 (S' := S1) (fun b hb9 => by rw [eS1]; exact cO_sI hb9) (by rw [eS1]; exact cs_80 hk) (fun H locs2 hG hS => ?_)
    refine lv_aload_n hx hb dX6_look_141 rfl (lv_at hl 0 rfl) ?_
    refine lv_dup hx hb dX6_look_142 rfl ?_
    have hk := h.1
    replace h := h.2
    refine gg_get (ci := 6) (C := RX6) (T := TX6) (N := 32) hx hb hts (fun _ h => List.mem_cons_of_mem _ (List.mem_append_right _ (h))) hown hK hG (kc_7 hk) rfl 11 (by decide) (hts (.fieldLink RX6 92 "FourStonesModel" "prices" "I") (List.mem_of_getElem? (i := 5) rfl)) (fun _ h9 => h9) rfl dX6_look_143 ?_
    refine lv_iload hx hb dX6_look_146 (lv_at hl 3 rfl) ?_
    refine lv_if_ne (tgt := 155) hx hb dX6_look_148 rfl (fun hc => ?_) (fun hc => ?_)
    · replace h := h.1 hc
      refine lv_aload_n hx hb dX6_look_155 rfl (lv_at hl 0 rfl) ?_
      have hk := h.1
      replace h := h.2
      obtain ⟨r3, hr3, h⟩ := h
      refine gg_get (v := .ref r3) (ci := 6) (C := RX6) (T := TX6) (N := 32) hx hb hts (fun _ h => List.mem_cons_of_mem _ (List.mem_append_right _ (h))) hown hK hG (kc_7 hk) rfl 2 (by decide) (hts (.fieldLink RX6 13 "FourStonesModel" "price" "[I") (List.mem_of_getElem? (i := 9) rfl)) (fun _ h9 => h9) (congrArg (fun z => some (va_rf z)) hr3) dX6_look_156 ?_
      refine lv_iload_n hx hb dX6_look_159 rfl (lv_at hl 2 rfl) ?_
      have hk := h.1
      replace h := h.2
      have hi := h.1
      replace h := h.2
      refine gg_iald hx hb hK hG hk hi dX6_look_160 ?_
      exact j_161 _ hC34 v0 v2 v3 v4 v0 (gI S1 81 v0) (gA S1 r3 (v3).toNatClampNeg) S1 ls _ _ (lv_sub hl [0, 1, 2, 3] rfl) hG hS h
    · replace h := h.2 hc
      refine lv_iconst (v := (0 : Int32)) hx hb dX6_look_151 (by decide) ?_
      refine lv_goto (tgt := 161) hx hb dX6_look_152 rfl ?_
      exact j_161 _ hC34 v0 v2 v3 v4 v0 (gI S1 81 v0) (0 : Int32) S1 ls _ _ (lv_sub hl [0, 1, 2, 3] rfl) hG hS h
  have j_117 : ∀ (C34 : Nat × Int32 × Int32 × Hp → Prop) (hC34 : ∀ (v0 : Nat) (v2 : Int32) (v3 : Int32) (S : Hp) (ls : Array Slot) (H : Heap) (locs : List Loc), lv_has ls 5 [(0, .ref v0), (2, .int v2), (3, .int v3)] → GG D κ A S H → va_S A s.heap H locs → C34 (v0, v2, v3, S) → W p l e ({ frames := 1, cells := 0, slots := 0, locals := 48 } : Room) s m ([.ref a0, .int x1] : List Value).toArray below meth c H locs 0 0 (MQ below (va_Qv Q (BG D κ A) A) ([.ref a0, .int x1] : List Value).toArray s 0 0 A) (F0 m 34 ls [])) (v0 : Nat) (v2 : Int32) (v3 : Int32) (v4 : Int32) (w0 : Nat) (w1 : Int32) (w2 : Int32) (S : Hp) (ls : Array Slot) (H : Heap) (locs : List Loc), lv_has ls 5 [(0, .ref v0), (2, .int v2), (3, .int v3), (4, .int v4)] → GG D κ A S H → va_S A s.heap H locs → J_X6_look_117 C34 Q v0 v2 v3 v4 w0 w1 w2 S → W p l e ({ frames := 1, cells := 0, slots := 0, locals := 48 } : Room) s m ([.ref a0, .int x1] : List Value).toArray below meth c H locs 0 0 (MQ below (va_Qv Q (BG D κ A) A) ([.ref a0, .int x1] : List Value).toArray s 0 0 A) (F0 m 117 ls [.int w2, .int w1, .ref w0]) := by
    intro C34 hC34 v0 v2 v3 v4 w0 w1 w2 S ls H locs hl hG hS h
    unfold J_X6_look_117 at h
    refine lv_iadd hx hb dX6_look_117 ?_
    have hk := h.1
    replace h := h.2
    obtain ⟨S1, eS1⟩ : ∃ z, z = sI S 79 w0 (w1 + w2) := ⟨_, rfl⟩
    replace h := h S1 eS1
    refine gg_put (ci := 6) (C := RX6) (T := TX6) (N := 32) hx hb hts (fun _ h => List.mem_cons_of_mem _ (List.mem_append_right _ (h))) tyX6 tyX6_ok nmX6 hown hK hG hS (kc_7 hk) rfl 9 (by decide) (hts (.fieldLink RX6 86 "FourStonesModel" "rights" "I") (List.mem_of_getElem? (i := 3) rfl)) (fun _ h9 => h9) rfl (tyX6_ok 9 (by decide)) rfl rfl (Nat.le_of_ble_eq_true rfl) dX6_look_118 (S' := S1) (fun b hb9 => by rw [eS1]; exact cO_sI hb9) (by rw [eS1]; exact cs_79 hk) (fun H locs2 hG hS => ?_)
    refine lv_aload_n hx hb dX6_look_121 rfl (lv_at hl 0 rfl) ?_
    refine lv_dup hx hb dX6_look_122 rfl ?_
    have hk := h.1
    replace h := h.2
    refine gg_get (ci := 6) (C := RX6) (T := TX6) (N := 32) hx hb hts (fun _ h => List.mem_cons_of_mem _ (List.mem_append_right _ (h))) hown hK hG (kc_7 hk) rfl 10 (by decide) (hts (.fieldLink RX6 89 "FourStonesModel" "lefts" "I") (List.mem_of_getElem? (i := 4) rfl)) (fun _ h9 => h9) rfl dX6_look_123 ?_
    refine lv_iload hx hb dX6_look_126 (lv_at hl 3 rfl) ?_
    refine lv_iconst (v := (2 : Int32)) hx hb dX6_look_128 (by decide) ?_
    refine lv_icmp_ne (tgt := 136) hx hb dX6_look_129 rfl (fun hc => ?_) (fun hc => ?_)
    · replace h := h.1 hc
      refine lv_iconst (v := (0 : Int32)) hx hb dX6_look_136 (by decide) ?_
      exact j_137 _ hC34 v0 v2 v3 v4 v0 (gI S1 80 v0) (0 : Int32) S1 ls _ _ (lv_sub hl [0, 1, 2, 3] rfl) hG hS h
    · replace h := h.2 hc
      refine lv_iconst (v := (1 : Int32)) hx hb dX6_look_132 (by decide) ?_
      refine lv_goto (tgt := 137) hx hb dX6_look_133 rfl ?_
      exact j_137 _ hC34 v0 v2 v3 v4 v0 (gI S1 80 v0) (1 : Int32) S1 ls _ _ (lv_sub hl [0, 1, 2, 3] rfl) hG hS h
  have j_97 : ∀ (C34 : Nat × Int32 × Int32 × Hp → Prop) (hC34 : ∀ (v0 : Nat) (v2 : Int32) (v3 : Int32) (S : Hp) (ls : Array Slot) (H : Heap) (locs : List Loc), lv_has ls 5 [(0, .ref v0), (2, .int v2), (3, .int v3)] → GG D κ A S H → va_S A s.heap H locs → C34 (v0, v2, v3, S) → W p l e ({ frames := 1, cells := 0, slots := 0, locals := 48 } : Room) s m ([.ref a0, .int x1] : List Value).toArray below meth c H locs 0 0 (MQ below (va_Qv Q (BG D κ A) A) ([.ref a0, .int x1] : List Value).toArray s 0 0 A) (F0 m 34 ls [])) (v0 : Nat) (v2 : Int32) (v3 : Int32) (v4 : Int32) (w0 : Nat) (w1 : Int32) (w2 : Int32) (S : Hp) (ls : Array Slot) (H : Heap) (locs : List Loc), lv_has ls 5 [(0, .ref v0), (2, .int v2), (3, .int v3), (4, .int v4)] → GG D κ A S H → va_S A s.heap H locs → J_X6_look_97 C34 Q v0 v2 v3 v4 w0 w1 w2 S → W p l e ({ frames := 1, cells := 0, slots := 0, locals := 48 } : Room) s m ([.ref a0, .int x1] : List Value).toArray below meth c H locs 0 0 (MQ below (va_Qv Q (BG D κ A) A) ([.ref a0, .int x1] : List Value).toArray s 0 0 A) (F0 m 97 ls [.int w2, .int w1, .ref w0]) := by
    intro C34 hC34 v0 v2 v3 v4 w0 w1 w2 S ls H locs hl hG hS h
    unfold J_X6_look_97 at h
    refine lv_iadd hx hb dX6_look_97 ?_
    have hk := h.1
    replace h := h.2
    obtain ⟨S1, eS1⟩ : ∃ z, z = sI S 78 w0 (w1 + w2) := ⟨_, rfl⟩
    replace h := h S1 eS1
    refine gg_put (ci := 6) (C := RX6) (T := TX6) (N := 32) hx hb hts (fun _ h => List.mem_cons_of_mem _ (List.mem_append_right _ (h))) tyX6 tyX6_ok nmX6 hown hK hG hS (kc_7 hk) rfl 8 (by decide) (hts (.fieldLink RX6 83 "FourStonesModel" "left" "I") (List.mem_of_getElem? (i := 2) rfl)) (fun _ h9 => h9) rfl (tyX6_ok 8 (by decide)) rfl rfl (Nat.le_of_ble_eq_true rfl) dX6_look_98 (S' := S1) (fun b hb9 => by rw [eS1]; exact cO_sI hb9) (by rw [eS1]; exact cs_78 hk) (fun H locs2 hG hS => ?_)
    refine lv_aload_n hx hb dX6_look_101 rfl (lv_at hl 0 rfl) ?_
    refine lv_dup hx hb dX6_look_102 rfl ?_
    have hk := h.1
    replace h := h.2
    refine gg_get (ci := 6) (C := RX6) (T := TX6) (N := 32) hx hb hts (fun _ h => List.mem_cons_of_mem _ (List.mem_append_right _ (h))) hown hK hG (kc_7 hk) rfl 9 (by decide) (hts (.fieldLink RX6 86 "FourStonesModel" "rights" "I") (List.mem_of_getElem? (i := 3) rfl)) (fun _ h9 => h9) rfl dX6_look_103 ?_
    refine lv_iload hx hb dX6_look_106 (lv_at hl 3 rfl) ?_
    refine lv_iconst (v := (1 : Int32)) hx hb dX6_look_108 (by decide) ?_
    refine lv_icmp_ne (tgt := 116) hx hb dX6_look_109 rfl (fun hc => ?_) (fun hc => ?_)
    · replace h := h.1 hc
      refine lv_iconst (v := (0 : Int32)) hx hb dX6_look_116 (by decide) ?_
      exact j_117 _ hC34 v0 v2 v3 v4 v0 (gI S1 79 v0) (0 : Int32) S1 ls _ _ (lv_sub hl [0, 1, 2, 3] rfl) hG hS h
    · replace h := h.2 hc
      refine lv_iconst (v := (1 : Int32)) hx hb dX6_look_112 (by decide) ?_
      refine lv_goto (tgt := 117) hx hb dX6_look_113 rfl ?_
      exact j_117 _ hC34 v0 v2 v3 v4 v0 (gI S1 79 v0) (1 : Int32) S1 ls _ _ (lv_sub hl [0, 1, 2, 3] rfl) hG hS h
  have j_72 : ∀ (C34 : Nat × Int32 × Int32 × Hp → Prop) (hC34 : ∀ (v0 : Nat) (v2 : Int32) (v3 : Int32) (S : Hp) (ls : Array Slot) (H : Heap) (locs : List Loc), lv_has ls 5 [(0, .ref v0), (2, .int v2), (3, .int v3)] → GG D κ A S H → va_S A s.heap H locs → C34 (v0, v2, v3, S) → W p l e ({ frames := 1, cells := 0, slots := 0, locals := 48 } : Room) s m ([.ref a0, .int x1] : List Value).toArray below meth c H locs 0 0 (MQ below (va_Qv Q (BG D κ A) A) ([.ref a0, .int x1] : List Value).toArray s 0 0 A) (F0 m 34 ls [])) (v0 : Nat) (v2 : Int32) (v3 : Int32) (v4 : Int32) (w0 : Nat) (w1 : Int32) (w2 : Int32) (S : Hp) (ls : Array Slot) (H : Heap) (locs : List Loc), lv_has ls 5 [(0, .ref v0), (2, .int v2), (3, .int v3), (4, .int v4)] → GG D κ A S H → va_S A s.heap H locs → J_X6_look_72 C34 Q v0 v2 v3 v4 w0 w1 w2 S → W p l e ({ frames := 1, cells := 0, slots := 0, locals := 48 } : Room) s m ([.ref a0, .int x1] : List Value).toArray below meth c H locs 0 0 (MQ below (va_Qv Q (BG D κ A) A) ([.ref a0, .int x1] : List Value).toArray s 0 0 A) (F0 m 72 ls [.int w2, .int w1, .ref w0]) := by
    intro C34 hC34 v0 v2 v3 v4 w0 w1 w2 S ls H locs hl hG hS h
    unfold J_X6_look_72 at h
    refine lv_iadd hx hb dX6_look_72 ?_
    have hk := h.1
    replace h := h.2
    obtain ⟨S1, eS1⟩ : ∃ z, z = sI S 77 w0 (w1 + w2) := ⟨_, rfl⟩
    replace h := h S1 eS1
    refine gg_put (ci := 6) (C := RX6) (T := TX6) (N := 32) hx hb hts (fun _ h => List.mem_cons_of_mem _ (List.mem_append_right _ (h))) tyX6 tyX6_ok nmX6 hown hK hG hS (kc_7 hk) rfl 7 (by decide) (hts (.fieldLink RX6 80 "FourStonesModel" "right" "I") (List.mem_of_getElem? (i := 1) rfl)) (fun _ h9 => h9) rfl (tyX6_ok 7 (by decide)) rfl rfl (Nat.le_of_ble_eq_true rfl) dX6_look_73 (S' := S1) (fun b hb9 => by rw [eS1]; exact cO_sI hb9) (by rw [eS1]; exact cs_77 hk) (fun H locs2 hG hS => ?_)
    refine lv_aload_n hx hb dX6_look_76 rfl (lv_at hl 0 rfl) ?_
    refine lv_dup hx hb dX6_look_77 rfl ?_
    have hk := h.1
    replace h := h.2
    refine gg_get (ci := 6) (C := RX6) (T := TX6) (N := 32) hx hb hts (fun _ h => List.mem_cons_of_mem _ (List.mem_append_right _ (h))) hown hK hG (kc_7 hk) rfl 8 (by decide) (hts (.fieldLink RX6 83 "FourStonesModel" "left" "I") (List.mem_of_getElem? (i := 2) rfl)) (fun _ h9 => h9) rfl dX6_look_78 ?_
    refine lv_iload hx hb dX6_look_81 (lv_at hl 3 rfl) ?_
    refine lv_iconst (v := (2 : Int32)) hx hb dX6_look_83 (by decide) ?_
    refine lv_icmp_ne (tgt := 96) hx hb dX6_look_84 rfl (fun hc => ?_) (fun hc => ?_)
    · replace h := h.1 hc
      refine lv_iconst (v := (0 : Int32)) hx hb dX6_look_96 (by decide) ?_
      exact j_97 _ hC34 v0 v2 v3 v4 v0 (gI S1 78 v0) (0 : Int32) S1 ls _ _ (lv_sub hl [0, 1, 2, 3] rfl) hG hS h
    · replace h := h.2 hc
      refine lv_aload_n hx hb dX6_look_87 rfl (lv_at hl 0 rfl) ?_
      have hk := h.1
      replace h := h.2
      obtain ⟨r3, hr3, h⟩ := h
      refine gg_get (v := .ref r3) (ci := 6) (C := RX6) (T := TX6) (N := 32) hx hb hts (fun _ h => List.mem_cons_of_mem _ (List.mem_append_right _ (h))) hown hK hG (kc_7 hk) rfl 1 (by decide) (hts (.fieldLink RX6 7 "FourStonesModel" "weight" "[I") (List.mem_of_getElem? (i := 8) rfl)) (fun _ h9 => h9) (congrArg (fun z => some (va_rf z)) hr3) dX6_look_88 ?_
      refine lv_iload_n hx hb dX6_look_91 rfl (lv_at hl 2 rfl) ?_
      have hk := h.1
      replace h := h.2
      have hi := h.1
      replace h := h.2
      refine gg_iald hx hb hK hG hk hi dX6_look_92 ?_
      refine lv_goto (tgt := 97) hx hb dX6_look_93 rfl ?_
      exact j_97 _ hC34 v0 v2 v3 v4 v0 (gI S1 78 v0) (gA S1 r3 (v3).toNatClampNeg) S1 ls _ _ (lv_sub hl [0, 1, 2, 3] rfl) hG hS h
  have k_34 : ∀  (n : Nat), ∀ (v0 : Nat) (v2 : Int32) (v3 : Int32) (S : Hp) (ls : Array Slot) (H : Heap) (locs : List Loc), lv_has ls 5 [(0, .ref v0), (2, .int v2), (3, .int v3)] → GG D κ A S H → va_S A s.heap H locs → it (L_X6_look_34  Q) n (v0, v2, v3, S) → W p l e ({ frames := 1, cells := 0, slots := 0, locals := 48 } : Room) s m ([.ref a0, .int x1] : List Value).toArray below meth c H locs 0 0 (MQ below (va_Qv Q (BG D κ A) A) ([.ref a0, .int x1] : List Value).toArray s 0 0 A) (F0 m 34 ls []) := by
    intro  n
    induction n with
    | zero => intro v0 v2 v3 S ls H locs hl hG hS h; exact False.elim h
    | succ n hC34 =>
      intro v0 v2 v3 S ls H locs hl hG hS h
      replace h : L_X6_look_34  Q (it (L_X6_look_34  Q) n) (v0, v2, v3, S) := h
      simp only [L_X6_look_34] at h
      refine lv_iload_n hx hb dX6_look_34 rfl (lv_at hl 2 rfl) ?_
      refine lv_aload_n hx hb dX6_look_35 rfl (lv_at hl 0 rfl) ?_
      have hk := h.1
      replace h := h.2
      refine gg_get (ci := 6) (C := RX6) (T := TX6) (N := 32) hx hb hts (fun _ h => List.mem_cons_of_mem _ (List.mem_append_right _ (h))) hown hK hG (kc_7 hk) rfl 0 (by decide) (hts (.fieldLink RX6 57 "FourStonesModel" "stones" "I") (List.mem_of_getElem? (i := 7) rfl)) (fun _ h9 => h9) rfl dX6_look_36 ?_
      refine lv_icmp_ge (tgt := 192) hx hb dX6_look_39 rfl (fun hc => ?_) (fun hc => ?_)
      · replace h := h.1 hc
        exact W.vret hx hb hr (gr_v h hG hK hX hS) hS.2.2 dX6_look_192
      · replace h := h.2 hc
        refine lv_iload_n hx hb dX6_look_42 rfl (lv_at hl 1 rfl) ?_
        refine lv_iconst (v := (3 : Int32)) hx hb dX6_look_43 (by decide) ?_
        refine lv_irem hx hb dX6_look_44 (by decide) ?_
        refine lv_topi (fun y1 ey1 => ?_)
        replace h := h y1 ey1
        refine lv_istore (lv' := [(4, .int y1), (0, .ref v0), (2, .int v2), (3, .int v3)]) hx hb dX6_look_45 hl (by decide) rfl (fun ls hl => ?_)
        refine lv_iload_n hx hb dX6_look_47 rfl (lv_at hl 2 rfl) ?_
        refine lv_iconst (v := (3 : Int32)) hx hb dX6_look_48 (by decide) ?_
        refine lv_idiv hx hb dX6_look_49 (by decide) ?_
        refine lv_topi (fun y2 ey2 => ?_)
        replace h := h y2 ey2
        refine lv_istore_n (lv' := [(2, .int y2), (4, .int y1), (0, .ref v0), (3, .int v3)]) hx hb dX6_look_50 rfl hl (by decide) rfl (fun ls hl => ?_)
        refine lv_aload_n hx hb dX6_look_51 rfl (lv_at hl 2 rfl) ?_
        refine lv_dup hx hb dX6_look_52 rfl ?_
        have hk := h.1
        replace h := h.2
        refine gg_get (ci := 6) (C := RX6) (T := TX6) (N := 32) hx hb hts (fun _ h => List.mem_cons_of_mem _ (List.mem_append_right _ (h))) hown hK hG (kc_7 hk) rfl 7 (by decide) (hts (.fieldLink RX6 80 "FourStonesModel" "right" "I") (List.mem_of_getElem? (i := 1) rfl)) (fun _ h9 => h9) rfl dX6_look_53 ?_
        refine lv_iload hx hb dX6_look_56 (lv_at hl 1 rfl) ?_
        refine lv_iconst (v := (1 : Int32)) hx hb dX6_look_58 (by decide) ?_
        refine lv_icmp_ne (tgt := 71) hx hb dX6_look_59 rfl (fun hc => ?_) (fun hc => ?_)
        · replace h := h.1 hc
          refine lv_iconst (v := (0 : Int32)) hx hb dX6_look_71 (by decide) ?_
          exact j_72 _ hC34 v0 y2 v3 y1 v0 (gI S 77 v0) (0 : Int32) S ls _ _ (lv_sub hl [2, 0, 3, 1] rfl) hG hS h
        · replace h := h.2 hc
          refine lv_aload_n hx hb dX6_look_62 rfl (lv_at hl 2 rfl) ?_
          have hk := h.1
          replace h := h.2
          obtain ⟨r3, hr3, h⟩ := h
          refine gg_get (v := .ref r3) (ci := 6) (C := RX6) (T := TX6) (N := 32) hx hb hts (fun _ h => List.mem_cons_of_mem _ (List.mem_append_right _ (h))) hown hK hG (kc_7 hk) rfl 1 (by decide) (hts (.fieldLink RX6 7 "FourStonesModel" "weight" "[I") (List.mem_of_getElem? (i := 8) rfl)) (fun _ h9 => h9) (congrArg (fun z => some (va_rf z)) hr3) dX6_look_63 ?_
          refine lv_iload_n hx hb dX6_look_66 rfl (lv_at hl 3 rfl) ?_
          have hk := h.1
          replace h := h.2
          have hi := h.1
          replace h := h.2
          refine gg_iald hx hb hK hG hk hi dX6_look_67 ?_
          refine lv_goto (tgt := 72) hx hb dX6_look_68 rfl ?_
          exact j_72 _ hC34 v0 y2 v3 y1 v0 (gI S 77 v0) (gA S r3 (v3).toNatClampNeg) S ls _ _ (lv_sub hl [2, 0, 3, 1] rfl) hG hS h
  refine lv_aload_n hx hb dX6_look_0 rfl (lv_at hl 0 rfl) ?_
  refine lv_iconst (v := (0 : Int32)) hx hb dX6_look_1 (by decide) ?_
  have hk := h.1
  replace h := h.2
  obtain ⟨S1, eS1⟩ : ∃ z, z = sI S 77 a0 (0 : Int32) := ⟨_, rfl⟩
  replace h := h S1 eS1
  refine gg_put (ci := 6) (C := RX6) (T := TX6) (N := 32) hx hb hts (fun _ h => List.mem_cons_of_mem _ (List.mem_append_right _ (h))) tyX6 tyX6_ok nmX6 hown hK hG hS (kc_7 hk) rfl 7 (by decide) (hts (.fieldLink RX6 80 "FourStonesModel" "right" "I") (List.mem_of_getElem? (i := 1) rfl)) (fun _ h9 => h9) rfl (tyX6_ok 7 (by decide)) rfl rfl (Nat.le_of_ble_eq_true rfl) dX6_look_2 (S' := S1) (fun b hb9 => by rw [eS1]; exact cO_sI hb9) (by rw [eS1]; exact cs_77 hk) (fun H locs2 hG hS => ?_)
  refine lv_aload_n hx hb dX6_look_5 rfl (lv_at hl 0 rfl) ?_
  refine lv_iconst (v := (0 : Int32)) hx hb dX6_look_6 (by decide) ?_
  have hk := h.1
  replace h := h.2
  obtain ⟨S3, eS3⟩ : ∃ z, z = sI S1 78 a0 (0 : Int32) := ⟨_, rfl⟩
  replace h := h S3 eS3
  refine gg_put (ci := 6) (C := RX6) (T := TX6) (N := 32) hx hb hts (fun _ h => List.mem_cons_of_mem _ (List.mem_append_right _ (h))) tyX6 tyX6_ok nmX6 hown hK hG hS (kc_7 hk) rfl 8 (by decide) (hts (.fieldLink RX6 83 "FourStonesModel" "left" "I") (List.mem_of_getElem? (i := 2) rfl)) (fun _ h9 => h9) rfl (tyX6_ok 8 (by decide)) rfl rfl (Nat.le_of_ble_eq_true rfl) dX6_look_7 (S' := S3) (fun b hb9 => by rw [eS3]; exact cO_sI hb9) (by rw [eS3]; exact cs_78 hk) (fun H locs4 hG hS => ?_)
  refine lv_aload_n hx hb dX6_look_10 rfl (lv_at hl 0 rfl) ?_
  refine lv_iconst (v := (0 : Int32)) hx hb dX6_look_11 (by decide) ?_
  have hk := h.1
  replace h := h.2
  obtain ⟨S5, eS5⟩ : ∃ z, z = sI S3 79 a0 (0 : Int32) := ⟨_, rfl⟩
  replace h := h S5 eS5
  refine gg_put (ci := 6) (C := RX6) (T := TX6) (N := 32) hx hb hts (fun _ h => List.mem_cons_of_mem _ (List.mem_append_right _ (h))) tyX6 tyX6_ok nmX6 hown hK hG hS (kc_7 hk) rfl 9 (by decide) (hts (.fieldLink RX6 86 "FourStonesModel" "rights" "I") (List.mem_of_getElem? (i := 3) rfl)) (fun _ h9 => h9) rfl (tyX6_ok 9 (by decide)) rfl rfl (Nat.le_of_ble_eq_true rfl) dX6_look_12 (S' := S5) (fun b hb9 => by rw [eS5]; exact cO_sI hb9) (by rw [eS5]; exact cs_79 hk) (fun H locs6 hG hS => ?_)
  refine lv_aload_n hx hb dX6_look_15 rfl (lv_at hl 0 rfl) ?_
  refine lv_iconst (v := (0 : Int32)) hx hb dX6_look_16 (by decide) ?_
  have hk := h.1
  replace h := h.2
  obtain ⟨S7, eS7⟩ : ∃ z, z = sI S5 80 a0 (0 : Int32) := ⟨_, rfl⟩
  replace h := h S7 eS7
  refine gg_put (ci := 6) (C := RX6) (T := TX6) (N := 32) hx hb hts (fun _ h => List.mem_cons_of_mem _ (List.mem_append_right _ (h))) tyX6 tyX6_ok nmX6 hown hK hG hS (kc_7 hk) rfl 10 (by decide) (hts (.fieldLink RX6 89 "FourStonesModel" "lefts" "I") (List.mem_of_getElem? (i := 4) rfl)) (fun _ h9 => h9) rfl (tyX6_ok 10 (by decide)) rfl rfl (Nat.le_of_ble_eq_true rfl) dX6_look_17 (S' := S7) (fun b hb9 => by rw [eS7]; exact cO_sI hb9) (by rw [eS7]; exact cs_80 hk) (fun H locs8 hG hS => ?_)
  refine lv_aload_n hx hb dX6_look_20 rfl (lv_at hl 0 rfl) ?_
  refine lv_iconst (v := (0 : Int32)) hx hb dX6_look_21 (by decide) ?_
  have hk := h.1
  replace h := h.2
  obtain ⟨S9, eS9⟩ : ∃ z, z = sI S7 81 a0 (0 : Int32) := ⟨_, rfl⟩
  replace h := h S9 eS9
  refine gg_put (ci := 6) (C := RX6) (T := TX6) (N := 32) hx hb hts (fun _ h => List.mem_cons_of_mem _ (List.mem_append_right _ (h))) tyX6 tyX6_ok nmX6 hown hK hG hS (kc_7 hk) rfl 11 (by decide) (hts (.fieldLink RX6 92 "FourStonesModel" "prices" "I") (List.mem_of_getElem? (i := 5) rfl)) (fun _ h9 => h9) rfl (tyX6_ok 11 (by decide)) rfl rfl (Nat.le_of_ble_eq_true rfl) dX6_look_22 (S' := S9) (fun b hb9 => by rw [eS9]; exact cO_sI hb9) (by rw [eS9]; exact cs_81 hk) (fun H locs10 hG hS => ?_)
  refine lv_aload_n hx hb dX6_look_25 rfl (lv_at hl 0 rfl) ?_
  refine lv_iconst (v := (0 : Int32)) hx hb dX6_look_26 (by decide) ?_
  have hk := h.1
  replace h := h.2
  obtain ⟨S11, eS11⟩ : ∃ z, z = sI S9 82 a0 (0 : Int32) := ⟨_, rfl⟩
  replace h := h S11 eS11
  refine gg_put (ci := 6) (C := RX6) (T := TX6) (N := 32) hx hb hts (fun _ h => List.mem_cons_of_mem _ (List.mem_append_right _ (h))) tyX6 tyX6_ok nmX6 hown hK hG hS (kc_7 hk) rfl 12 (by decide) (hts (.fieldLink RX6 95 "FourStonesModel" "used" "I") (List.mem_of_getElem? (i := 6) rfl)) (fun _ h9 => h9) rfl (tyX6_ok 12 (by decide)) rfl rfl (Nat.le_of_ble_eq_true rfl) dX6_look_27 (S' := S11) (fun b hb9 => by rw [eS11]; exact cO_sI hb9) (by rw [eS11]; exact cs_82 hk) (fun H locs12 hG hS => ?_)
  refine lv_iload_n hx hb dX6_look_30 rfl (lv_at hl 1 rfl) ?_
  refine lv_istore_n (lv' := [(2, .int x1), (0, .ref a0), (1, .int x1)]) hx hb dX6_look_31 rfl hl (by decide) rfl (fun ls hl => ?_)
  refine lv_iconst (v := (0 : Int32)) hx hb dX6_look_32 (by decide) ?_
  refine lv_istore_n (lv' := [(3, .int (0 : Int32)), (2, .int x1), (0, .ref a0), (1, .int x1)]) hx hb dX6_look_33 rfl hl (by decide) rfl (fun ls hl => ?_)
  obtain ⟨nn, h⟩ := h
  exact k_34  nn a0 x1 (0 : Int32) S11 ls _ _ (lv_sub hl [2, 1, 0] rfl) hG hS h
set_option maxHeartbeats 4000000 in
set_option maxRecDepth 100000 in
theorem c_X6_lying (l : Launch) (D : va_G) (κ : Nat → ClassId) (A : Nat → Prop) (S : Hp) (a0 : Nat) (x1 : Int32) (x2 : Int32) (Q : Int32 → Hp → Prop) (h : wp_X6_lying a0 x1 x2 S Q) : Met l yX6_lying wsX6_lying ({ frames := 3, cells := 0, slots := 0, locals := 144 } : Room) (PG D κ A S [.ref a0, .int x1, .int x2]) (va_Qi Q (BG D κ A) A) 0 0 A := by
  refine Met.ofW (cc := cX6_lying) (maxL := 3) (ret := (some .int)) (by decide) rfl ?_
  intro p e s m args below meth c s₁ B hml hv
  obtain ⟨hargs, hA, hG, hK, hX⟩ := hv
  have hx := B.exec
  have hb := B.bytes
  have hr := B.returns
  have hts := atoms_spec (ws := wsX6_lying) B.pre
  have hown : s.vm.findClass RX6 = some m.cls := findClass_of_methodNamed B.named
  have hlocks := B.notSynchronized
  subst hargs
  clear B
  have hS : va_S A s.heap s.heap [] := va_S.rf
  have hl := lv_entry ([.ref a0, .int x1, .int x2]) (n := 3) (Nat.le_of_ble_eq_true rfl)
  rw [lg_entry_eq]
  generalize (lg_sl ([.ref a0, .int x1, .int x2]) ++ List.replicate (3 - (lg_sl ([.ref a0, .int x1, .int x2])).length) Slot.unset).toArray = ls at hl ⊢
  have hl : lv_has ls 3 [(0, .ref a0), (1, .int x1), (2, .int x2)] := hl
  have hG : GG D κ A S s.heap := hG
  refine lv_aload_n hx hb dX6_lying_0 rfl (lv_at hl 0 rfl) ?_
  refine lv_iload_n hx hb dX6_lying_1 rfl (lv_at hl 1 rfl) ?_
  have hk := h.1
  replace h := h.2
  refine gc_i (va_runV (As := [.int x1]) (rest := []) ⟨hx, hb, hml, hown, hts⟩ (c_X6_isLying l D κ A S a0 x1 _ h) (cwV 1 hts gX6_lying_X6_isLying rfl rfl rfl (by decide +kernel) ⟨Nat.le_of_ble_eq_true rfl, Nat.le_of_ble_eq_true rfl⟩) (pg_V (q := (RX6, TX6, 32)) hK hX hG (pg_A hA hS) (kc_7 hk) rfl) rfl rfl hl.1 rfl (lv_room (Nat.le_of_ble_eq_true rfl)) dX6_lying_2 ⟨Nat.le_of_ble_eq_true rfl, Nat.le_of_ble_eq_true rfl⟩) hS (fun z3 S2 H locs1 h hG hS => ?_)
  refine lv_if_eq (tgt := 17) hx hb dX6_lying_5 rfl (fun hc => ?_) (fun hc => ?_)
  · replace h := h.1 hc
    refine lv_iconst (v := (-1 : Int32)) hx hb dX6_lying_17 (by decide) ?_
    exact W.iret hx hb hr (gr_i h hG hK hX hS) hS.2.2 dX6_lying_18
  · replace h := h.2 hc
    refine lv_iload_n hx hb dX6_lying_8 rfl (lv_at hl 2 rfl) ?_
    refine lv_iconst (v := (0 : Int32)) hx hb dX6_lying_9 (by decide) ?_
    refine lv_iconst (v := (3 : Int32)) hx hb dX6_lying_10 (by decide) ?_
    refine gc_i (va_runS (As := [.int x2, .int (0 : Int32), .int (3 : Int32)]) (rest := []) ⟨hx, hb, hml, hown, hts⟩ (c_X6_isIn l D κ A S2 x2 (0 : Int32) (3 : Int32) _ h) (va_cwS 3 hts gX6_lying_X6_isIn rfl rfl rfl (by decide +kernel) ⟨Nat.le_of_ble_eq_true rfl, Nat.le_of_ble_eq_true rfl⟩) (pg_S hK hX hG (pg_A hA hS)) rfl rfl hl.1 rfl (lv_room (Nat.le_of_ble_eq_true rfl)) dX6_lying_11 ⟨Nat.le_of_ble_eq_true rfl, Nat.le_of_ble_eq_true rfl⟩) hS (fun z6 S5 H locs4 h hG hS => ?_)
    refine lv_if_ne (tgt := 19) hx hb dX6_lying_14 rfl (fun hc => ?_) (fun hc => ?_)
    · replace h := h.1 hc
      refine lv_aload_n hx hb dX6_lying_19 rfl (lv_at hl 0 rfl) ?_
      refine lv_iload_n hx hb dX6_lying_20 rfl (lv_at hl 1 rfl) ?_
      have hk := h.1
      replace h := h.2
      refine gc_v (va_runV (As := [.int x1]) (rest := []) ⟨hx, hb, hml, hown, hts⟩ (c_X6_look l D κ A S5 a0 x1 _ h) (cwV 1 hts gX6_lying_X6_look rfl rfl rfl (by decide +kernel) ⟨Nat.le_of_ble_eq_true rfl, Nat.le_of_ble_eq_true rfl⟩) (pg_V (q := (RX6, TX6, 32)) hK hX hG (pg_A hA hS) (kc_7 hk) rfl) rfl rfl hl.1 rfl (lv_room (Nat.le_of_ble_eq_true rfl)) dX6_lying_21 ⟨Nat.le_of_ble_eq_true rfl, Nat.le_of_ble_eq_true rfl⟩) hS (fun S8 H locs7 h hG hS => ?_)
      refine lv_iload_n hx hb dX6_lying_24 rfl (lv_at hl 2 rfl) ?_
      refine lv_if_ne (tgt := 35) hx hb dX6_lying_25 rfl (fun hc => ?_) (fun hc => ?_)
      · replace h := h.1 hc
        refine lv_iload_n hx hb dX6_lying_35 rfl (lv_at hl 2 rfl) ?_
        refine lv_iconst (v := (1 : Int32)) hx hb dX6_lying_36 (by decide) ?_
        refine lv_icmp_ne (tgt := 47) hx hb dX6_lying_37 rfl (fun hc => ?_) (fun hc => ?_)
        · replace h := h.1 hc
          refine lv_iload_n hx hb dX6_lying_47 rfl (lv_at hl 2 rfl) ?_
          refine lv_iconst (v := (2 : Int32)) hx hb dX6_lying_48 (by decide) ?_
          refine lv_icmp_ne (tgt := 64) hx hb dX6_lying_49 rfl (fun hc => ?_) (fun hc => ?_)
          · replace h := h.1 hc
            refine lv_aload_n hx hb dX6_lying_64 rfl (lv_at hl 0 rfl) ?_
            have hk := h.1
            replace h := h.2
            refine gg_get (ci := 6) (C := RX6) (T := TX6) (N := 32) hx hb hts (fun _ h => List.mem_cons_of_mem _ (List.mem_append_right _ (h))) hown hK hG (kc_7 hk) rfl 11 (by decide) (hts (.fieldLink RX6 92 "FourStonesModel" "prices" "I") (List.mem_of_getElem? (i := 5) rfl)) (fun _ h9 => h9) rfl dX6_lying_65 ?_
            exact W.iret hx hb hr (gr_i h hG hK hX hS) hS.2.2 dX6_lying_68
          · replace h := h.2 hc
            refine lv_aload_n hx hb dX6_lying_52 rfl (lv_at hl 0 rfl) ?_
            have hk := h.1
            replace h := h.2
            refine gg_get (ci := 6) (C := RX6) (T := TX6) (N := 32) hx hb hts (fun _ h => List.mem_cons_of_mem _ (List.mem_append_right _ (h))) hown hK hG (kc_7 hk) rfl 9 (by decide) (hts (.fieldLink RX6 86 "FourStonesModel" "rights" "I") (List.mem_of_getElem? (i := 3) rfl)) (fun _ h9 => h9) rfl dX6_lying_53 ?_
            refine lv_aload_n hx hb dX6_lying_56 rfl (lv_at hl 0 rfl) ?_
            have hk := h.1
            replace h := h.2
            refine gg_get (ci := 6) (C := RX6) (T := TX6) (N := 32) hx hb hts (fun _ h => List.mem_cons_of_mem _ (List.mem_append_right _ (h))) hown hK hG (kc_7 hk) rfl 10 (by decide) (hts (.fieldLink RX6 89 "FourStonesModel" "lefts" "I") (List.mem_of_getElem? (i := 4) rfl)) (fun _ h9 => h9) rfl dX6_lying_57 ?_
            refine lv_iadd hx hb dX6_lying_60 ?_
            refine lv_goto (tgt := 68) hx hb dX6_lying_61 rfl ?_
            exact W.iret hx hb hr (gr_i h hG hK hX hS) hS.2.2 dX6_lying_68
        · replace h := h.2 hc
          refine lv_aload_n hx hb dX6_lying_40 rfl (lv_at hl 0 rfl) ?_
          have hk := h.1
          replace h := h.2
          refine gg_get (ci := 6) (C := RX6) (T := TX6) (N := 32) hx hb hts (fun _ h => List.mem_cons_of_mem _ (List.mem_append_right _ (h))) hown hK hG (kc_7 hk) rfl 8 (by decide) (hts (.fieldLink RX6 83 "FourStonesModel" "left" "I") (List.mem_of_getElem? (i := 2) rfl)) (fun _ h9 => h9) rfl dX6_lying_41 ?_
          refine lv_goto (tgt := 68) hx hb dX6_lying_44 rfl ?_
          exact W.iret hx hb hr (gr_i h hG hK hX hS) hS.2.2 dX6_lying_68
      · replace h := h.2 hc
        refine lv_aload_n hx hb dX6_lying_28 rfl (lv_at hl 0 rfl) ?_
        have hk := h.1
        replace h := h.2
        refine gg_get (ci := 6) (C := RX6) (T := TX6) (N := 32) hx hb hts (fun _ h => List.mem_cons_of_mem _ (List.mem_append_right _ (h))) hown hK hG (kc_7 hk) rfl 7 (by decide) (hts (.fieldLink RX6 80 "FourStonesModel" "right" "I") (List.mem_of_getElem? (i := 1) rfl)) (fun _ h9 => h9) rfl dX6_lying_29 ?_
        refine lv_goto (tgt := 68) hx hb dX6_lying_32 rfl ?_
        exact W.iret hx hb hr (gr_i h hG hK hX hS) hS.2.2 dX6_lying_68
    · replace h := h.2 hc
      refine lv_iconst (v := (-1 : Int32)) hx hb dX6_lying_17 (by decide) ?_
      exact W.iret hx hb hr (gr_i h hG hK hX hS) hS.2.2 dX6_lying_18
set_option maxHeartbeats 4000000 in
set_option maxRecDepth 100000 in
theorem c_X6_readBy (l : Launch) (D : va_G) (κ : Nat → ClassId) (A : Nat → Prop) (S : Hp) (x0 : Int32) (x1 : Int32) (x2 : Int32) (x3 : Int32) (Q : Int32 → Hp → Prop) (h : wp_X6_readBy x0 x1 x2 x3 S Q) : Met l yX6_readBy wsX6_readBy ({ frames := 2, cells := 0, slots := 0, locals := 96 } : Room) (PG D κ A S [.int x0, .int x1, .int x2, .int x3]) (va_Qi Q (BG D κ A) A) 0 0 A := by
  refine Met.ofW (cc := cX6_readBy) (maxL := 4) (ret := (some .int)) (by decide) rfl ?_
  intro p e s m args below meth c s₁ B hml hv
  obtain ⟨hargs, hA, hG, hK, hX⟩ := hv
  have hx := B.exec
  have hb := B.bytes
  have hr := B.returns
  have hts := atoms_spec (ws := wsX6_readBy) B.pre
  have hown : s.vm.findClass RX6 = some m.cls := findClass_of_methodNamed B.named
  have hlocks := B.notSynchronized
  subst hargs
  clear B
  have hS : va_S A s.heap s.heap [] := va_S.rf
  have hl := lv_entry ([.int x0, .int x1, .int x2, .int x3]) (n := 4) (Nat.le_of_ble_eq_true rfl)
  rw [lg_entry_eq]
  generalize (lg_sl ([.int x0, .int x1, .int x2, .int x3]) ++ List.replicate (4 - (lg_sl ([.int x0, .int x1, .int x2, .int x3])).length) Slot.unset).toArray = ls at hl ⊢
  have hl : lv_has ls 4 [(0, .int x0), (1, .int x1), (2, .int x2), (3, .int x3)] := hl
  have hG : GG D κ A S s.heap := hG
  refine lv_iload_n hx hb dX6_readBy_0 rfl (lv_at hl 0 rfl) ?_
  by_cases hd : (x0).toInt < 2 ∨ 7 < (x0).toInt
  · replace h := h.2.2.2.2.2.2 hd
    refine lv_tableOut (tgt := 93) hx hb dX6_readBy_1 hd rfl ?_
    refine lv_iload_n hx hb dX6_readBy_93 rfl (lv_at hl 2 rfl) ?_
    refine lv_iload_n hx hb dX6_readBy_94 rfl (lv_at hl 3 rfl) ?_
    refine lv_isub hx hb dX6_readBy_95 ?_
    exact W.iret hx hb hr (gr_i h hG hK hX hS) hS.2.2 dX6_readBy_96
  · have hd2 : (x0).toInt = 2 ∨ (x0).toInt = 3 ∨ (x0).toInt = 4 ∨ (x0).toInt = 5 ∨ (x0).toInt = 6 ∨ (x0).toInt = 7 := by omega
    rcases hd2 with hc | hc | hc | hc | hc | hc
    · replace h := h.1 hc
      refine lv_tableIn (off := 39) (tgt := 40) hx hb dX6_readBy_1 (by rw [hc]; decide) (by rw [hc]; decide) (by rw [hc]; rfl) rfl ?_
      refine lv_iload_n hx hb dX6_readBy_40 rfl (lv_at hl 1 rfl) ?_
      refine lv_iconst (v := (1 : Int32)) hx hb dX6_readBy_41 (by decide) ?_
      refine lv_iadd hx hb dX6_readBy_42 ?_
      refine lv_iload_n hx hb dX6_readBy_43 rfl (lv_at hl 2 rfl) ?_
      refine lv_imul hx hb dX6_readBy_44 ?_
      refine lv_iload_n hx hb dX6_readBy_45 rfl (lv_at hl 3 rfl) ?_
      refine lv_isub hx hb dX6_readBy_46 ?_
      exact W.iret hx hb hr (gr_i h hG hK hX hS) hS.2.2 dX6_readBy_47
    · replace h := h.2.1 hc
      refine lv_tableIn (off := 47) (tgt := 48) hx hb dX6_readBy_1 (by rw [hc]; decide) (by rw [hc]; decide) (by rw [hc]; rfl) rfl ?_
      refine lv_iload_n hx hb dX6_readBy_48 rfl (lv_at hl 2 rfl) ?_
      refine lv_iload_n hx hb dX6_readBy_49 rfl (lv_at hl 3 rfl) ?_
      refine lv_isub hx hb dX6_readBy_50 ?_
      refine lv_iload_n hx hb dX6_readBy_51 rfl (lv_at hl 1 rfl) ?_
      refine lv_isub hx hb dX6_readBy_52 ?_
      exact W.iret hx hb hr (gr_i h hG hK hX hS) hS.2.2 dX6_readBy_53
    · replace h := h.2.2.1 hc
      refine lv_tableIn (off := 53) (tgt := 54) hx hb dX6_readBy_1 (by rw [hc]; decide) (by rw [hc]; decide) (by rw [hc]; rfl) rfl ?_
      refine lv_iload_n hx hb dX6_readBy_54 rfl (lv_at hl 1 rfl) ?_
      refine lv_iconst (v := (1 : Int32)) hx hb dX6_readBy_55 (by decide) ?_
      refine lv_iadd hx hb dX6_readBy_56 ?_
      refine lv_iload_n hx hb dX6_readBy_57 rfl (lv_at hl 2 rfl) ?_
      refine lv_imul hx hb dX6_readBy_58 ?_
      refine lv_iload_n hx hb dX6_readBy_59 rfl (lv_at hl 3 rfl) ?_
      refine lv_isub hx hb dX6_readBy_60 ?_
      refine lv_iload_n hx hb dX6_readBy_61 rfl (lv_at hl 2 rfl) ?_
      refine lv_iadd hx hb dX6_readBy_62 ?_
      exact W.iret hx hb hr (gr_i h hG hK hX hS) hS.2.2 dX6_readBy_63
    · replace h := h.2.2.2.1 hc
      refine lv_tableIn (off := 63) (tgt := 64) hx hb dX6_readBy_1 (by rw [hc]; decide) (by rw [hc]; decide) (by rw [hc]; rfl) rfl ?_
      refine lv_iload_n hx hb dX6_readBy_64 rfl (lv_at hl 2 rfl) ?_
      refine lv_iload_n hx hb dX6_readBy_65 rfl (lv_at hl 3 rfl) ?_
      refine lv_isub hx hb dX6_readBy_66 ?_
      refine va_mabs hx hb (hml.trans hl.1.symm) hown (hts (.methodLink RX6 105 Lib.Math.abs.name) (List.mem_of_getElem? (i := 1) rfl)) (hts (.static Lib.Math.abs.name) (List.mem_of_getElem? (i := 2) rfl)) (hts (.initialized "java/lang/Math") (List.mem_of_getElem? (i := 3) rfl)) (hts (.code Lib.Math.abs.name Lib.Math.abs.code 1 (some .int)) (List.mem_of_getElem? (i := 4) rfl)) (Nat.le_of_ble_eq_true rfl) (Nat.le_of_ble_eq_true rfl) (Nat.le_of_ble_eq_true rfl) (Nat.le_of_ble_eq_true rfl) dX6_readBy_67 ?_
      exact W.iret hx hb hr (gr_i h hG hK hX hS) hS.2.2 dX6_readBy_70
    · replace h := h.2.2.2.2.1 hc
      refine lv_tableIn (off := 70) (tgt := 71) hx hb dX6_readBy_1 (by rw [hc]; decide) (by rw [hc]; decide) (by rw [hc]; rfl) rfl ?_
      refine lv_iload_n hx hb dX6_readBy_71 rfl (lv_at hl 2 rfl) ?_
      refine lv_iload_n hx hb dX6_readBy_72 rfl (lv_at hl 3 rfl) ?_
      refine lv_isub hx hb dX6_readBy_73 ?_
      refine lv_iconst (v := (2 : Int32)) hx hb dX6_readBy_74 (by decide) ?_
      refine lv_idiv hx hb dX6_readBy_75 (by decide) ?_
      exact W.iret hx hb hr (gr_i h hG hK hX hS) hS.2.2 dX6_readBy_76
    · replace h := h.2.2.2.2.2.1 hc
      refine lv_tableIn (off := 76) (tgt := 77) hx hb dX6_readBy_1 (by rw [hc]; decide) (by rw [hc]; decide) (by rw [hc]; rfl) rfl ?_
      refine lv_iload_n hx hb dX6_readBy_77 rfl (lv_at hl 2 rfl) ?_
      refine lv_iload_n hx hb dX6_readBy_78 rfl (lv_at hl 3 rfl) ?_
      refine lv_isub hx hb dX6_readBy_79 ?_
      refine lv_iload_n hx hb dX6_readBy_80 rfl (lv_at hl 1 rfl) ?_
      refine lv_isub hx hb dX6_readBy_81 ?_
      refine lv_iload_n hx hb dX6_readBy_82 rfl (lv_at hl 3 rfl) ?_
      refine lv_if_le (tgt := 90) hx hb dX6_readBy_83 rfl (fun hc => ?_) (fun hc => ?_)
      · replace h := h.1 hc
        refine lv_iconst (v := (0 : Int32)) hx hb dX6_readBy_90 (by decide) ?_
        refine lv_iadd hx hb dX6_readBy_91 ?_
        exact W.iret hx hb hr (gr_i h hG hK hX hS) hS.2.2 dX6_readBy_92
      · replace h := h.2 hc
        refine lv_iconst (v := (1 : Int32)) hx hb dX6_readBy_86 (by decide) ?_
        refine lv_goto (tgt := 91) hx hb dX6_readBy_87 rfl ?_
        refine lv_iadd hx hb dX6_readBy_91 ?_
        exact W.iret hx hb hr (gr_i h hG hK hX hS) hS.2.2 dX6_readBy_92
set_option maxHeartbeats 4000000 in
set_option maxRecDepth 100000 in
theorem c_X6_mayBe (l : Launch) (D : va_G) (κ : Nat → ClassId) (A : Nat → Prop) (S : Hp) (a0 : Nat) (x1 : Int32) (Q : Int32 → Hp → Prop) (h : wp_X6_mayBe a0 x1 S Q) : Met l yX6_mayBe wsX6_mayBe ({ frames := 1, cells := 0, slots := 0, locals := 48 } : Room) (PG D κ A S [.ref a0, .int x1]) (va_Qi Q (BG D κ A) A) 0 0 A := by
  refine Met.ofW (cc := cX6_mayBe) (maxL := 2) (ret := (some .boolean)) (by decide) rfl ?_
  intro p e s m args below meth c s₁ B hml hv
  obtain ⟨hargs, hA, hG, hK, hX⟩ := hv
  have hx := B.exec
  have hb := B.bytes
  have hr := B.returns
  have hts := atoms_spec (ws := wsX6_mayBe) B.pre
  have hown : s.vm.findClass RX6 = some m.cls := findClass_of_methodNamed B.named
  have hlocks := B.notSynchronized
  subst hargs
  clear B
  have hS : va_S A s.heap s.heap [] := va_S.rf
  have hl := lv_entry ([.ref a0, .int x1]) (n := 2) (Nat.le_of_ble_eq_true rfl)
  rw [lg_entry_eq]
  generalize (lg_sl ([.ref a0, .int x1]) ++ List.replicate (2 - (lg_sl ([.ref a0, .int x1])).length) Slot.unset).toArray = ls at hl ⊢
  have hl : lv_has ls 2 [(0, .ref a0), (1, .int x1)] := hl
  have hG : GG D κ A S s.heap := hG
  have j_11 : ∀  (v0 : Nat) (S : Hp) (ls : Array Slot) (H : Heap) (locs : List Loc), lv_has ls 2 [(0, .ref v0)] → GG D κ A S H → va_S A s.heap H locs → J_X6_mayBe_11  Q v0 S → W p l e ({ frames := 1, cells := 0, slots := 0, locals := 48 } : Room) s m ([.ref a0, .int x1] : List Value).toArray below meth c H locs 0 0 (MQ below (va_Qi Q (BG D κ A) A) ([.ref a0, .int x1] : List Value).toArray s 0 0 A) (F0 m 11 ls []) := by
    intro  v0 S ls H locs hl hG hS h
    unfold J_X6_mayBe_11 at h
    refine lv_aload_n hx hb dX6_mayBe_11 rfl (lv_at hl 0 rfl) ?_
    have hk := h.1
    replace h := h.2
    refine gg_get (ci := 6) (C := RX6) (T := TX6) (N := 32) hx hb hts (fun _ h => List.mem_cons_of_mem _ (List.mem_append_right _ (h))) hown hK hG (kc_7 hk) rfl 10 (by decide) (hts (.fieldLink RX6 89 "FourStonesModel" "lefts" "I") (List.mem_of_getElem? (i := 1) rfl)) (fun _ h9 => h9) rfl dX6_mayBe_12 ?_
    refine lv_if_ne (tgt := 22) hx hb dX6_mayBe_15 rfl (fun hc => ?_) (fun hc => ?_)
    · replace h := h.1 hc
      refine lv_iconst (v := (0 : Int32)) hx hb dX6_mayBe_22 (by decide) ?_
      refine lv_goto (tgt := 44) hx hb dX6_mayBe_23 rfl ?_
      exact W.zret (ty := .boolean) hx hb hr (by decide) (gr_i h hG hK hX hS) hS.2.2 dX6_mayBe_44
    · replace h := h.2 hc
      refine lv_iconst (v := (1 : Int32)) hx hb dX6_mayBe_18 (by decide) ?_
      refine lv_goto (tgt := 44) hx hb dX6_mayBe_19 rfl ?_
      exact W.zret (ty := .boolean) hx hb hr (by decide) (gr_i h hG hK hX hS) hS.2.2 dX6_mayBe_44
  refine lv_iload_n hx hb dX6_mayBe_0 rfl (lv_at hl 1 rfl) ?_
  refine lv_iconst (v := (1 : Int32)) hx hb dX6_mayBe_1 (by decide) ?_
  refine lv_icmp_eq (tgt := 11) hx hb dX6_mayBe_2 rfl (fun hc => ?_) (fun hc => ?_)
  · replace h := h.1 hc
    exact j_11  a0 S ls _ _ (lv_sub hl [0] rfl) hG hS h
  · replace h := h.2 hc
    refine lv_iload_n hx hb dX6_mayBe_5 rfl (lv_at hl 1 rfl) ?_
    refine lv_bipush (v := (6 : Int32)) hx hb dX6_mayBe_6 (by decide) ?_
    refine lv_icmp_ne (tgt := 26) hx hb dX6_mayBe_8 rfl (fun hc => ?_) (fun hc => ?_)
    · replace h := h.1 hc
      refine lv_iload_n hx hb dX6_mayBe_26 rfl (lv_at hl 1 rfl) ?_
      refine lv_iconst (v := (4 : Int32)) hx hb dX6_mayBe_27 (by decide) ?_
      refine lv_icmp_ne (tgt := 39) hx hb dX6_mayBe_28 rfl (fun hc => ?_) (fun hc => ?_)
      · replace h := h.1 hc
        refine lv_iconst (v := (1 : Int32)) hx hb dX6_mayBe_39 (by decide) ?_
        refine lv_goto (tgt := 44) hx hb dX6_mayBe_40 rfl ?_
        exact W.zret (ty := .boolean) hx hb hr (by decide) (gr_i h hG hK hX hS) hS.2.2 dX6_mayBe_44
      · replace h := h.2 hc
        refine lv_aload_n hx hb dX6_mayBe_31 rfl (lv_at hl 0 rfl) ?_
        have hk := h.1
        replace h := h.2
        refine gg_get (ci := 6) (C := RX6) (T := TX6) (N := 32) hx hb hts (fun _ h => List.mem_cons_of_mem _ (List.mem_append_right _ (h))) hown hK hG (kc_7 hk) rfl 9 (by decide) (hts (.fieldLink RX6 86 "FourStonesModel" "rights" "I") (List.mem_of_getElem? (i := 2) rfl)) (fun _ h9 => h9) rfl dX6_mayBe_32 ?_
        refine lv_iconst (v := (2 : Int32)) hx hb dX6_mayBe_35 (by decide) ?_
        refine lv_icmp_gt (tgt := 43) hx hb dX6_mayBe_36 rfl (fun hc => ?_) (fun hc => ?_)
        · replace h := h.1 hc
          refine lv_iconst (v := (0 : Int32)) hx hb dX6_mayBe_43 (by decide) ?_
          exact W.zret (ty := .boolean) hx hb hr (by decide) (gr_i h hG hK hX hS) hS.2.2 dX6_mayBe_44
        · replace h := h.2 hc
          refine lv_iconst (v := (1 : Int32)) hx hb dX6_mayBe_39 (by decide) ?_
          refine lv_goto (tgt := 44) hx hb dX6_mayBe_40 rfl ?_
          exact W.zret (ty := .boolean) hx hb hr (by decide) (gr_i h hG hK hX hS) hS.2.2 dX6_mayBe_44
    · replace h := h.2 hc
      exact j_11  a0 S ls _ _ (lv_sub hl [0] rfl) hG hS h
set_option maxHeartbeats 4000000 in
set_option maxRecDepth 100000 in
theorem c_X6_isWeight (l : Launch) (D : va_G) (κ : Nat → ClassId) (A : Nat → Prop) (S : Hp) (a0 : Nat) (x1 : Int32) (x2 : Int32) (x3 : Int32) (Q : Int32 → Hp → Prop) (h : wp_X6_isWeight a0 x1 x2 x3 S Q) : Met l yX6_isWeight wsX6_isWeight ({ frames := 3, cells := 0, slots := 0, locals := 144 } : Room) (PG D κ A S [.ref a0, .int x1, .int x2, .int x3]) (va_Qi Q (BG D κ A) A) 0 0 A := by
  refine Met.ofW (cc := cX6_isWeight) (maxL := 4) (ret := (some .boolean)) (by decide) rfl ?_
  intro p e s m args below meth c s₁ B hml hv
  obtain ⟨hargs, hA, hG, hK, hX⟩ := hv
  have hx := B.exec
  have hb := B.bytes
  have hr := B.returns
  have hts := atoms_spec (ws := wsX6_isWeight) B.pre
  have hown : s.vm.findClass RX6 = some m.cls := findClass_of_methodNamed B.named
  have hlocks := B.notSynchronized
  subst hargs
  clear B
  have hS : va_S A s.heap s.heap [] := va_S.rf
  have hl := lv_entry ([.ref a0, .int x1, .int x2, .int x3]) (n := 4) (Nat.le_of_ble_eq_true rfl)
  rw [lg_entry_eq]
  generalize (lg_sl ([.ref a0, .int x1, .int x2, .int x3]) ++ List.replicate (4 - (lg_sl ([.ref a0, .int x1, .int x2, .int x3])).length) Slot.unset).toArray = ls at hl ⊢
  have hl : lv_has ls 4 [(0, .ref a0), (1, .int x1), (2, .int x2), (3, .int x3)] := hl
  have hG : GG D κ A S s.heap := hG
  refine lv_aload_n hx hb dX6_isWeight_0 rfl (lv_at hl 0 rfl) ?_
  refine lv_iload_n hx hb dX6_isWeight_1 rfl (lv_at hl 2 rfl) ?_
  have hk := h.1
  replace h := h.2
  refine gc_v (va_runV (As := [.int x2]) (rest := []) ⟨hx, hb, hml, hown, hts⟩ (c_X6_look l D κ A S a0 x2 _ h) (cwV 1 hts gX6_isWeight_X6_look rfl rfl rfl (by decide +kernel) ⟨Nat.le_of_ble_eq_true rfl, Nat.le_of_ble_eq_true rfl⟩) (pg_V (q := (RX6, TX6, 32)) hK hX hG (pg_A hA hS) (kc_7 hk) rfl) rfl rfl hl.1 rfl (lv_room (Nat.le_of_ble_eq_true rfl)) dX6_isWeight_2 ⟨Nat.le_of_ble_eq_true rfl, Nat.le_of_ble_eq_true rfl⟩) hS (fun S2 H locs1 h hG hS => ?_)
  refine lv_aload_n hx hb dX6_isWeight_5 rfl (lv_at hl 0 rfl) ?_
  refine lv_aload_n hx hb dX6_isWeight_6 rfl (lv_at hl 0 rfl) ?_
  have hk := h.1
  replace h := h.2
  obtain ⟨r3, hr3, h⟩ := h
  refine gg_get (v := .ref r3) (ci := 6) (C := RX6) (T := TX6) (N := 32) hx hb hts (fun _ h => List.mem_cons_of_mem _ (List.mem_append_right _ (h))) hown hK hG (kc_7 hk) rfl 25 (by decide) (hts (.fieldLink RX6 35 "FourStonesModel" "kindOf" "[I") (List.mem_of_getElem? (i := 1) rfl)) (fun _ h9 => h9) (congrArg (fun z => some (va_rf z)) hr3) dX6_isWeight_7 ?_
  refine lv_iload_n hx hb dX6_isWeight_10 rfl (lv_at hl 1 rfl) ?_
  have hk := h.1
  replace h := h.2
  have hi := h.1
  replace h := h.2
  refine gg_iald hx hb hK hG hk hi dX6_isWeight_11 ?_
  have hk := h.1
  replace h := h.2
  refine gc_i (va_runV (As := [.int (gA S2 r3 (x1).toNatClampNeg)]) (rest := []) ⟨hx, hb, hml, hown, hts⟩ (c_X6_mayBe l D κ A S2 a0 (gA S2 r3 (x1).toNatClampNeg) _ h) (cwV 1 hts gX6_isWeight_X6_mayBe rfl rfl rfl (by decide +kernel) ⟨Nat.le_of_ble_eq_true rfl, Nat.le_of_ble_eq_true rfl⟩) (pg_V (q := (RX6, TX6, 32)) hK hX hG (pg_A hA hS) (kc_7 hk) rfl) rfl rfl hl.1 rfl (lv_room (Nat.le_of_ble_eq_true rfl)) dX6_isWeight_12 ⟨Nat.le_of_ble_eq_true rfl, Nat.le_of_ble_eq_true rfl⟩) hS (fun z6 S5 H locs4 h hG hS => ?_)
  refine lv_if_eq (tgt := 49) hx hb dX6_isWeight_15 rfl (fun hc => ?_) (fun hc => ?_)
  · replace h := h.1 hc
    refine lv_iconst (v := (0 : Int32)) hx hb dX6_isWeight_49 (by decide) ?_
    exact W.zret (ty := .boolean) hx hb hr (by decide) (gr_i h hG hK hX hS) hS.2.2 dX6_isWeight_50
  · replace h := h.2 hc
    refine lv_aload_n hx hb dX6_isWeight_18 rfl (lv_at hl 0 rfl) ?_
    have hk := h.1
    replace h := h.2
    obtain ⟨r7, hr7, h⟩ := h
    refine gg_get (v := .ref r7) (ci := 6) (C := RX6) (T := TX6) (N := 32) hx hb hts (fun _ h => List.mem_cons_of_mem _ (List.mem_append_right _ (h))) hown hK hG (kc_7 hk) rfl 25 (by decide) (hts (.fieldLink RX6 35 "FourStonesModel" "kindOf" "[I") (List.mem_of_getElem? (i := 1) rfl)) (fun _ h9 => h9) (congrArg (fun z => some (va_rf z)) hr7) dX6_isWeight_19 ?_
    refine lv_iload_n hx hb dX6_isWeight_22 rfl (lv_at hl 1 rfl) ?_
    have hk := h.1
    replace h := h.2
    have hi := h.1
    replace h := h.2
    refine gg_iald hx hb hK hG hk hi dX6_isWeight_23 ?_
    refine lv_aload_n hx hb dX6_isWeight_24 rfl (lv_at hl 0 rfl) ?_
    have hk := h.1
    replace h := h.2
    obtain ⟨r8, hr8, h⟩ := h
    refine gg_get (v := .ref r8) (ci := 6) (C := RX6) (T := TX6) (N := 32) hx hb hts (fun _ h => List.mem_cons_of_mem _ (List.mem_append_right _ (h))) hown hK hG (kc_7 hk) rfl 26 (by decide) (hts (.fieldLink RX6 38 "FourStonesModel" "figureOf" "[I") (List.mem_of_getElem? (i := 2) rfl)) (fun _ h9 => h9) (congrArg (fun z => some (va_rf z)) hr8) dX6_isWeight_25 ?_
    refine lv_iload_n hx hb dX6_isWeight_28 rfl (lv_at hl 1 rfl) ?_
    have hk := h.1
    replace h := h.2
    have hi := h.1
    replace h := h.2
    refine gg_iald hx hb hK hG hk hi dX6_isWeight_29 ?_
    refine lv_aload_n hx hb dX6_isWeight_30 rfl (lv_at hl 0 rfl) ?_
    have hk := h.1
    replace h := h.2
    refine gg_get (ci := 6) (C := RX6) (T := TX6) (N := 32) hx hb hts (fun _ h => List.mem_cons_of_mem _ (List.mem_append_right _ (h))) hown hK hG (kc_7 hk) rfl 7 (by decide) (hts (.fieldLink RX6 80 "FourStonesModel" "right" "I") (List.mem_of_getElem? (i := 3) rfl)) (fun _ h9 => h9) rfl dX6_isWeight_31 ?_
    refine lv_aload_n hx hb dX6_isWeight_34 rfl (lv_at hl 0 rfl) ?_
    have hk := h.1
    replace h := h.2
    refine gg_get (ci := 6) (C := RX6) (T := TX6) (N := 32) hx hb hts (fun _ h => List.mem_cons_of_mem _ (List.mem_append_right _ (h))) hown hK hG (kc_7 hk) rfl 8 (by decide) (hts (.fieldLink RX6 83 "FourStonesModel" "left" "I") (List.mem_of_getElem? (i := 4) rfl)) (fun _ h9 => h9) rfl dX6_isWeight_35 ?_
    refine gc_i (va_runS (As := [.int (gA S5 r7 (x1).toNatClampNeg), .int (gA S5 r8 (x1).toNatClampNeg), .int (gI S5 77 a0), .int (gI S5 78 a0)]) (rest := []) ⟨hx, hb, hml, hown, hts⟩ (c_X6_readBy l D κ A S5 (gA S5 r7 (x1).toNatClampNeg) (gA S5 r8 (x1).toNatClampNeg) (gI S5 77 a0) (gI S5 78 a0) _ h) (va_cwS 4 hts gX6_isWeight_X6_readBy rfl rfl rfl (by decide +kernel) ⟨Nat.le_of_ble_eq_true rfl, Nat.le_of_ble_eq_true rfl⟩) (pg_S hK hX hG (pg_A hA hS)) rfl rfl hl.1 rfl (lv_room (Nat.le_of_ble_eq_true rfl)) dX6_isWeight_38 ⟨Nat.le_of_ble_eq_true rfl, Nat.le_of_ble_eq_true rfl⟩) hS (fun z11 S10 H locs9 h hG hS => ?_)
    refine lv_iload_n hx hb dX6_isWeight_41 rfl (lv_at hl 3 rfl) ?_
    refine lv_icmp_ne (tgt := 49) hx hb dX6_isWeight_42 rfl (fun hc => ?_) (fun hc => ?_)
    · replace h := h.1 hc
      refine lv_iconst (v := (0 : Int32)) hx hb dX6_isWeight_49 (by decide) ?_
      exact W.zret (ty := .boolean) hx hb hr (by decide) (gr_i h hG hK hX hS) hS.2.2 dX6_isWeight_50
    · replace h := h.2 hc
      refine lv_iconst (v := (1 : Int32)) hx hb dX6_isWeight_45 (by decide) ?_
      refine lv_goto (tgt := 50) hx hb dX6_isWeight_46 rfl ?_
      exact W.zret (ty := .boolean) hx hb hr (by decide) (gr_i h hG hK hX hS) hS.2.2 dX6_isWeight_50
set_option maxHeartbeats 4000000 in
set_option maxRecDepth 100000 in
theorem c_X6_noScale (l : Launch) (D : va_G) (κ : Nat → ClassId) (A : Nat → Prop) (S : Hp) (a0 : Nat) (x1 : Int32) (Q : Int32 → Hp → Prop) (h : wp_X6_noScale a0 x1 S Q) : Met l yX6_noScale wsX6_noScale ({ frames := 1, cells := 0, slots := 0, locals := 48 } : Room) (PG D κ A S [.ref a0, .int x1]) (va_Qi Q (BG D κ A) A) 0 0 A := by
  refine Met.ofW (cc := cX6_noScale) (maxL := 2) (ret := (some .int)) (by decide) rfl ?_
  intro p e s m args below meth c s₁ B hml hv
  obtain ⟨hargs, hA, hG, hK, hX⟩ := hv
  have hx := B.exec
  have hb := B.bytes
  have hr := B.returns
  have hts := atoms_spec (ws := wsX6_noScale) B.pre
  have hown : s.vm.findClass RX6 = some m.cls := findClass_of_methodNamed B.named
  have hlocks := B.notSynchronized
  subst hargs
  clear B
  have hS : va_S A s.heap s.heap [] := va_S.rf
  have hl := lv_entry ([.ref a0, .int x1]) (n := 2) (Nat.le_of_ble_eq_true rfl)
  rw [lg_entry_eq]
  generalize (lg_sl ([.ref a0, .int x1]) ++ List.replicate (2 - (lg_sl ([.ref a0, .int x1])).length) Slot.unset).toArray = ls at hl ⊢
  have hl : lv_has ls 2 [(0, .ref a0), (1, .int x1)] := hl
  have hG : GG D κ A S s.heap := hG
  refine lv_aload_n hx hb dX6_noScale_0 rfl (lv_at hl 0 rfl) ?_
  have hk := h.1
  replace h := h.2
  obtain ⟨r1, hr1, h⟩ := h
  refine gg_get (v := .ref r1) (ci := 6) (C := RX6) (T := TX6) (N := 32) hx hb hts (fun _ h => List.mem_cons_of_mem _ (List.mem_append_right _ (h))) hown hK hG (kc_7 hk) rfl 24 (by decide) (hts (.fieldLink RX6 32 "FourStonesModel" "holds" "[I") (List.mem_of_getElem? (i := 1) rfl)) (fun _ h9 => h9) (congrArg (fun z => some (va_rf z)) hr1) dX6_noScale_1 ?_
  refine lv_iload_n hx hb dX6_noScale_4 rfl (lv_at hl 1 rfl) ?_
  have hk := h.1
  replace h := h.2
  have hi := h.1
  replace h := h.2
  refine gg_iald hx hb hK hG hk hi dX6_noScale_5 ?_
  refine lv_if_ne (tgt := 14) hx hb dX6_noScale_6 rfl (fun hc => ?_) (fun hc => ?_)
  · replace h := h.1 hc
    refine lv_aload_n hx hb dX6_noScale_14 rfl (lv_at hl 0 rfl) ?_
    have hk := h.1
    replace h := h.2
    obtain ⟨r2, hr2, h⟩ := h
    refine gg_get (v := .ref r2) (ci := 6) (C := RX6) (T := TX6) (N := 32) hx hb hts (fun _ h => List.mem_cons_of_mem _ (List.mem_append_right _ (h))) hown hK hG (kc_7 hk) rfl 24 (by decide) (hts (.fieldLink RX6 32 "FourStonesModel" "holds" "[I") (List.mem_of_getElem? (i := 1) rfl)) (fun _ h9 => h9) (congrArg (fun z => some (va_rf z)) hr2) dX6_noScale_15 ?_
    refine lv_iload_n hx hb dX6_noScale_18 rfl (lv_at hl 1 rfl) ?_
    have hk := h.1
    replace h := h.2
    have hi := h.1
    replace h := h.2
    refine gg_iald hx hb hK hG hk hi dX6_noScale_19 ?_
    refine lv_iconst (v := (2 : Int32)) hx hb dX6_noScale_20 (by decide) ?_
    refine lv_icmp_ne (tgt := 29) hx hb dX6_noScale_21 rfl (fun hc => ?_) (fun hc => ?_)
    · replace h := h.1 hc
      refine lv_iconst (v := (0 : Int32)) hx hb dX6_noScale_29 (by decide) ?_
      exact W.iret hx hb hr (gr_i h hG hK hX hS) hS.2.2 dX6_noScale_30
    · replace h := h.2 hc
      refine lv_bipush (v := (-12 : Int32)) hx hb dX6_noScale_24 (by decide) ?_
      refine lv_goto (tgt := 30) hx hb dX6_noScale_26 rfl ?_
      exact W.iret hx hb hr (gr_i h hG hK hX hS) hS.2.2 dX6_noScale_30
  · replace h := h.2 hc
    refine lv_bipush (v := (-11 : Int32)) hx hb dX6_noScale_9 (by decide) ?_
    refine lv_goto (tgt := 30) hx hb dX6_noScale_11 rfl ?_
    exact W.iret hx hb hr (gr_i h hG hK hX hS) hS.2.2 dX6_noScale_30
set_option maxHeartbeats 4000000 in
set_option maxRecDepth 100000 in
theorem c_X6_isShelf (l : Launch) (D : va_G) (κ : Nat → ClassId) (A : Nat → Prop) (S : Hp) (x0 : Int32) (Q : Int32 → Hp → Prop) (h : wp_X6_isShelf x0 S Q) : Met l yX6_isShelf wsX6_isShelf ({ frames := 2, cells := 0, slots := 0, locals := 96 } : Room) (PG D κ A S [.int x0]) (va_Qi Q (BG D κ A) A) 0 0 A := by
  refine Met.ofW (cc := cX6_isShelf) (maxL := 1) (ret := (some .boolean)) (by decide) rfl ?_
  intro p e s m args below meth c s₁ B hml hv
  obtain ⟨hargs, hA, hG, hK, hX⟩ := hv
  have hx := B.exec
  have hb := B.bytes
  have hr := B.returns
  have hts := atoms_spec (ws := wsX6_isShelf) B.pre
  have hown : s.vm.findClass RX6 = some m.cls := findClass_of_methodNamed B.named
  have hlocks := B.notSynchronized
  subst hargs
  clear B
  have hS : va_S A s.heap s.heap [] := va_S.rf
  have hl := lv_entry ([.int x0]) (n := 1) (Nat.le_of_ble_eq_true rfl)
  rw [lg_entry_eq]
  generalize (lg_sl ([.int x0]) ++ List.replicate (1 - (lg_sl ([.int x0])).length) Slot.unset).toArray = ls at hl ⊢
  have hl : lv_has ls 1 [(0, .int x0)] := hl
  have hG : GG D κ A S s.heap := hG
  refine lv_iload_n hx hb dX6_isShelf_0 rfl (lv_at hl 0 rfl) ?_
  refine lv_iconst (v := (0 : Int32)) hx hb dX6_isShelf_1 (by decide) ?_
  refine lv_bipush (v := (7 : Int32)) hx hb dX6_isShelf_2 (by decide) ?_
  refine gc_i (va_runS (As := [.int x0, .int (0 : Int32), .int (7 : Int32)]) (rest := []) ⟨hx, hb, hml, hown, hts⟩ (c_X6_isIn l D κ A S x0 (0 : Int32) (7 : Int32) _ h) (va_cwS 3 hts gX6_isShelf_X6_isIn rfl rfl rfl (by decide +kernel) ⟨Nat.le_of_ble_eq_true rfl, Nat.le_of_ble_eq_true rfl⟩) (pg_S hK hX hG (pg_A hA hS)) rfl rfl hl.1 rfl (lv_room (Nat.le_of_ble_eq_true rfl)) dX6_isShelf_4 ⟨Nat.le_of_ble_eq_true rfl, Nat.le_of_ble_eq_true rfl⟩) hS (fun z3 S2 H locs1 h hG hS => ?_)
  have hz := h.1
  replace h := h.2
  exact W.zret (ty := .boolean) hx hb hr hz (gr_i h hG hK hX hS) hS.2.2 dX6_isShelf_7
set_option maxHeartbeats 4000000 in
set_option maxRecDepth 100000 in
theorem c_X6_weighs (l : Launch) (D : va_G) (κ : Nat → ClassId) (A : Nat → Prop) (S : Hp) (a0 : Nat) (x1 : Int32) (x2 : Int32) (Q : Int32 → Hp → Prop) (h : wp_X6_weighs a0 x1 x2 S Q) : Met l yX6_weighs wsX6_weighs ({ frames := 3, cells := 0, slots := 0, locals := 144 } : Room) (PG D κ A S [.ref a0, .int x1, .int x2]) (va_Qi Q (BG D κ A) A) 0 0 A := by
  refine Met.ofW (cc := cX6_weighs) (maxL := 3) (ret := (some .int)) (by decide) rfl ?_
  intro p e s m args below meth c s₁ B hml hv
  obtain ⟨hargs, hA, hG, hK, hX⟩ := hv
  have hx := B.exec
  have hb := B.bytes
  have hr := B.returns
  have hts := atoms_spec (ws := wsX6_weighs) B.pre
  have hown : s.vm.findClass RX6 = some m.cls := findClass_of_methodNamed B.named
  have hlocks := B.notSynchronized
  subst hargs
  clear B
  have hS : va_S A s.heap s.heap [] := va_S.rf
  have hl := lv_entry ([.ref a0, .int x1, .int x2]) (n := 3) (Nat.le_of_ble_eq_true rfl)
  rw [lg_entry_eq]
  generalize (lg_sl ([.ref a0, .int x1, .int x2]) ++ List.replicate (3 - (lg_sl ([.ref a0, .int x1, .int x2])).length) Slot.unset).toArray = ls at hl ⊢
  have hl : lv_has ls 3 [(0, .ref a0), (1, .int x1), (2, .int x2)] := hl
  have hG : GG D κ A S s.heap := hG
  refine lv_iload_n hx hb dX6_weighs_0 rfl (lv_at hl 1 rfl) ?_
  refine gc_i (va_runS (As := [.int x1]) (rest := []) ⟨hx, hb, hml, hown, hts⟩ (c_X6_isShelf l D κ A S x1 _ h) (va_cwS 1 hts gX6_weighs_X6_isShelf rfl rfl rfl (by decide +kernel) ⟨Nat.le_of_ble_eq_true rfl, Nat.le_of_ble_eq_true rfl⟩) (pg_S hK hX hG (pg_A hA hS)) rfl rfl hl.1 rfl (lv_room (Nat.le_of_ble_eq_true rfl)) dX6_weighs_1 ⟨Nat.le_of_ble_eq_true rfl, Nat.le_of_ble_eq_true rfl⟩) hS (fun z3 S2 H locs1 h hG hS => ?_)
  refine lv_if_eq (tgt := 15) hx hb dX6_weighs_4 rfl (fun hc => ?_) (fun hc => ?_)
  · replace h := h.1 hc
    refine lv_ldc (v := (-1000000001 : Int32)) hx hb hown (hts (.constant RX6 120 (-1000000001)) (List.mem_of_getElem? (i := 1) rfl)) dX6_weighs_15 ?_
    exact W.iret hx hb hr (gr_i h hG hK hX hS) hS.2.2 dX6_weighs_17
  · replace h := h.2 hc
    refine lv_aload_n hx hb dX6_weighs_7 rfl (lv_at hl 0 rfl) ?_
    refine lv_iload_n hx hb dX6_weighs_8 rfl (lv_at hl 2 rfl) ?_
    have hk := h.1
    replace h := h.2
    refine gc_i (va_runV (As := [.int x2]) (rest := []) ⟨hx, hb, hml, hown, hts⟩ (c_X6_isLying l D κ A S2 a0 x2 _ h) (cwV 1 hts gX6_weighs_X6_isLying rfl rfl rfl (by decide +kernel) ⟨Nat.le_of_ble_eq_true rfl, Nat.le_of_ble_eq_true rfl⟩) (pg_V (q := (RX6, TX6, 32)) hK hX hG (pg_A hA hS) (kc_7 hk) rfl) rfl rfl hl.1 rfl (lv_room (Nat.le_of_ble_eq_true rfl)) dX6_weighs_9 ⟨Nat.le_of_ble_eq_true rfl, Nat.le_of_ble_eq_true rfl⟩) hS (fun z6 S5 H locs4 h hG hS => ?_)
    refine lv_if_ne (tgt := 18) hx hb dX6_weighs_12 rfl (fun hc => ?_) (fun hc => ?_)
    · replace h := h.1 hc
      refine lv_aload_n hx hb dX6_weighs_18 rfl (lv_at hl 0 rfl) ?_
      refine lv_iload_n hx hb dX6_weighs_19 rfl (lv_at hl 1 rfl) ?_
      have hk := h.1
      replace h := h.2
      refine gc_i (va_runV (As := [.int x1]) (rest := []) ⟨hx, hb, hml, hown, hts⟩ (c_X6_noScale l D κ A S5 a0 x1 _ h) (cwV 1 hts gX6_weighs_X6_noScale rfl rfl rfl (by decide +kernel) ⟨Nat.le_of_ble_eq_true rfl, Nat.le_of_ble_eq_true rfl⟩) (pg_V (q := (RX6, TX6, 32)) hK hX hG (pg_A hA hS) (kc_7 hk) rfl) rfl rfl hl.1 rfl (lv_room (Nat.le_of_ble_eq_true rfl)) dX6_weighs_20 ⟨Nat.le_of_ble_eq_true rfl, Nat.le_of_ble_eq_true rfl⟩) hS (fun z9 S8 H locs7 h hG hS => ?_)
      refine lv_if_eq (tgt := 35) hx hb dX6_weighs_23 rfl (fun hc => ?_) (fun hc => ?_)
      · replace h := h.1 hc
        refine lv_aload_n hx hb dX6_weighs_35 rfl (lv_at hl 0 rfl) ?_
        refine lv_iload_n hx hb dX6_weighs_36 rfl (lv_at hl 2 rfl) ?_
        have hk := h.1
        replace h := h.2
        refine gc_v (va_runV (As := [.int x2]) (rest := []) ⟨hx, hb, hml, hown, hts⟩ (c_X6_look l D κ A S8 a0 x2 _ h) (cwV 1 hts gX6_weighs_X6_look rfl rfl rfl (by decide +kernel) ⟨Nat.le_of_ble_eq_true rfl, Nat.le_of_ble_eq_true rfl⟩) (pg_V (q := (RX6, TX6, 32)) hK hX hG (pg_A hA hS) (kc_7 hk) rfl) rfl rfl hl.1 rfl (lv_room (Nat.le_of_ble_eq_true rfl)) dX6_weighs_37 ⟨Nat.le_of_ble_eq_true rfl, Nat.le_of_ble_eq_true rfl⟩) hS (fun S11 H locs10 h hG hS => ?_)
        refine lv_aload_n hx hb dX6_weighs_40 rfl (lv_at hl 0 rfl) ?_
        refine lv_aload_n hx hb dX6_weighs_41 rfl (lv_at hl 0 rfl) ?_
        have hk := h.1
        replace h := h.2
        obtain ⟨r12, hr12, h⟩ := h
        refine gg_get (v := .ref r12) (ci := 6) (C := RX6) (T := TX6) (N := 32) hx hb hts (fun _ h => List.mem_cons_of_mem _ (List.mem_append_right _ (h))) hown hK hG (kc_7 hk) rfl 25 (by decide) (hts (.fieldLink RX6 35 "FourStonesModel" "kindOf" "[I") (List.mem_of_getElem? (i := 3) rfl)) (fun _ h9 => h9) (congrArg (fun z => some (va_rf z)) hr12) dX6_weighs_42 ?_
        refine lv_iload_n hx hb dX6_weighs_45 rfl (lv_at hl 1 rfl) ?_
        have hk := h.1
        replace h := h.2
        have hi := h.1
        replace h := h.2
        refine gg_iald hx hb hK hG hk hi dX6_weighs_46 ?_
        have hk := h.1
        replace h := h.2
        refine gc_i (va_runV (As := [.int (gA S11 r12 (x1).toNatClampNeg)]) (rest := []) ⟨hx, hb, hml, hown, hts⟩ (c_X6_mayBe l D κ A S11 a0 (gA S11 r12 (x1).toNatClampNeg) _ h) (cwV 1 hts gX6_weighs_X6_mayBe rfl rfl rfl (by decide +kernel) ⟨Nat.le_of_ble_eq_true rfl, Nat.le_of_ble_eq_true rfl⟩) (pg_V (q := (RX6, TX6, 32)) hK hX hG (pg_A hA hS) (kc_7 hk) rfl) rfl rfl hl.1 rfl (lv_room (Nat.le_of_ble_eq_true rfl)) dX6_weighs_47 ⟨Nat.le_of_ble_eq_true rfl, Nat.le_of_ble_eq_true rfl⟩) hS (fun z15 S14 H locs13 h hG hS => ?_)
        refine lv_if_eq (tgt := 79) hx hb dX6_weighs_50 rfl (fun hc => ?_) (fun hc => ?_)
        · replace h := h.1 hc
          refine lv_ldc (v := (-1000000003 : Int32)) hx hb hown (hts (.constant RX6 125 (-1000000003)) (List.mem_of_getElem? (i := 7) rfl)) dX6_weighs_79 ?_
          exact W.iret hx hb hr (gr_i h hG hK hX hS) hS.2.2 dX6_weighs_81
        · replace h := h.2 hc
          refine lv_aload_n hx hb dX6_weighs_53 rfl (lv_at hl 0 rfl) ?_
          have hk := h.1
          replace h := h.2
          obtain ⟨r16, hr16, h⟩ := h
          refine gg_get (v := .ref r16) (ci := 6) (C := RX6) (T := TX6) (N := 32) hx hb hts (fun _ h => List.mem_cons_of_mem _ (List.mem_append_right _ (h))) hown hK hG (kc_7 hk) rfl 25 (by decide) (hts (.fieldLink RX6 35 "FourStonesModel" "kindOf" "[I") (List.mem_of_getElem? (i := 3) rfl)) (fun _ h9 => h9) (congrArg (fun z => some (va_rf z)) hr16) dX6_weighs_54 ?_
          refine lv_iload_n hx hb dX6_weighs_57 rfl (lv_at hl 1 rfl) ?_
          have hk := h.1
          replace h := h.2
          have hi := h.1
          replace h := h.2
          refine gg_iald hx hb hK hG hk hi dX6_weighs_58 ?_
          refine lv_aload_n hx hb dX6_weighs_59 rfl (lv_at hl 0 rfl) ?_
          have hk := h.1
          replace h := h.2
          obtain ⟨r17, hr17, h⟩ := h
          refine gg_get (v := .ref r17) (ci := 6) (C := RX6) (T := TX6) (N := 32) hx hb hts (fun _ h => List.mem_cons_of_mem _ (List.mem_append_right _ (h))) hown hK hG (kc_7 hk) rfl 26 (by decide) (hts (.fieldLink RX6 38 "FourStonesModel" "figureOf" "[I") (List.mem_of_getElem? (i := 4) rfl)) (fun _ h9 => h9) (congrArg (fun z => some (va_rf z)) hr17) dX6_weighs_60 ?_
          refine lv_iload_n hx hb dX6_weighs_63 rfl (lv_at hl 1 rfl) ?_
          have hk := h.1
          replace h := h.2
          have hi := h.1
          replace h := h.2
          refine gg_iald hx hb hK hG hk hi dX6_weighs_64 ?_
          refine lv_aload_n hx hb dX6_weighs_65 rfl (lv_at hl 0 rfl) ?_
          have hk := h.1
          replace h := h.2
          refine gg_get (ci := 6) (C := RX6) (T := TX6) (N := 32) hx hb hts (fun _ h => List.mem_cons_of_mem _ (List.mem_append_right _ (h))) hown hK hG (kc_7 hk) rfl 7 (by decide) (hts (.fieldLink RX6 80 "FourStonesModel" "right" "I") (List.mem_of_getElem? (i := 5) rfl)) (fun _ h9 => h9) rfl dX6_weighs_66 ?_
          refine lv_aload_n hx hb dX6_weighs_69 rfl (lv_at hl 0 rfl) ?_
          have hk := h.1
          replace h := h.2
          refine gg_get (ci := 6) (C := RX6) (T := TX6) (N := 32) hx hb hts (fun _ h => List.mem_cons_of_mem _ (List.mem_append_right _ (h))) hown hK hG (kc_7 hk) rfl 8 (by decide) (hts (.fieldLink RX6 83 "FourStonesModel" "left" "I") (List.mem_of_getElem? (i := 6) rfl)) (fun _ h9 => h9) rfl dX6_weighs_70 ?_
          refine gc_i (va_runS (As := [.int (gA S14 r16 (x1).toNatClampNeg), .int (gA S14 r17 (x1).toNatClampNeg), .int (gI S14 77 a0), .int (gI S14 78 a0)]) (rest := []) ⟨hx, hb, hml, hown, hts⟩ (c_X6_readBy l D κ A S14 (gA S14 r16 (x1).toNatClampNeg) (gA S14 r17 (x1).toNatClampNeg) (gI S14 77 a0) (gI S14 78 a0) _ h) (va_cwS 4 hts gX6_weighs_X6_readBy rfl rfl rfl (by decide +kernel) ⟨Nat.le_of_ble_eq_true rfl, Nat.le_of_ble_eq_true rfl⟩) (pg_S hK hX hG (pg_A hA hS)) rfl rfl hl.1 rfl (lv_room (Nat.le_of_ble_eq_true rfl)) dX6_weighs_73 ⟨Nat.le_of_ble_eq_true rfl, Nat.le_of_ble_eq_true rfl⟩) hS (fun z20 S19 H locs18 h hG hS => ?_)
          refine lv_goto (tgt := 81) hx hb dX6_weighs_76 rfl ?_
          exact W.iret hx hb hr (gr_i h hG hK hX hS) hS.2.2 dX6_weighs_81
      · replace h := h.2 hc
        refine lv_aload_n hx hb dX6_weighs_26 rfl (lv_at hl 0 rfl) ?_
        refine lv_iload_n hx hb dX6_weighs_27 rfl (lv_at hl 1 rfl) ?_
        have hk := h.1
        replace h := h.2
        refine gc_i (va_runV (As := [.int x1]) (rest := []) ⟨hx, hb, hml, hown, hts⟩ (c_X6_noScale l D κ A S8 a0 x1 _ h) (cwV 1 hts gX6_weighs_X6_noScale rfl rfl rfl (by decide +kernel) ⟨Nat.le_of_ble_eq_true rfl, Nat.le_of_ble_eq_true rfl⟩) (pg_V (q := (RX6, TX6, 32)) hK hX hG (pg_A hA hS) (kc_7 hk) rfl) rfl rfl hl.1 rfl (lv_room (Nat.le_of_ble_eq_true rfl)) dX6_weighs_28 ⟨Nat.le_of_ble_eq_true rfl, Nat.le_of_ble_eq_true rfl⟩) hS (fun z23 S22 H locs21 h hG hS => ?_)
        refine lv_ldc (v := (1000000000 : Int32)) hx hb hown (hts (.constant RX6 124 (1000000000)) (List.mem_of_getElem? (i := 2) rfl)) dX6_weighs_31 ?_
        refine lv_isub hx hb dX6_weighs_33 ?_
        exact W.iret hx hb hr (gr_i h hG hK hX hS) hS.2.2 dX6_weighs_34
    · replace h := h.2 hc
      refine lv_ldc (v := (-1000000001 : Int32)) hx hb hown (hts (.constant RX6 120 (-1000000001)) (List.mem_of_getElem? (i := 1) rfl)) dX6_weighs_15 ?_
      exact W.iret hx hb hr (gr_i h hG hK hX hS) hS.2.2 dX6_weighs_17
set_option maxHeartbeats 4000000 in
set_option maxRecDepth 100000 in
theorem c_X6_may (l : Launch) (D : va_G) (κ : Nat → ClassId) (A : Nat → Prop) (S : Hp) (a0 : Nat) (x1 : Int32) (x2 : Int32) (Q : Int32 → Hp → Prop) (h : wp_X6_may a0 x1 x2 S Q) : Met l yX6_may wsX6_may ({ frames := 3, cells := 0, slots := 0, locals := 144 } : Room) (PG D κ A S [.ref a0, .int x1, .int x2]) (va_Qi Q (BG D κ A) A) 0 0 A := by
  refine Met.ofW (cc := cX6_may) (maxL := 3) (ret := (some .int)) (by decide) rfl ?_
  intro p e s m args below meth c s₁ B hml hv
  obtain ⟨hargs, hA, hG, hK, hX⟩ := hv
  have hx := B.exec
  have hb := B.bytes
  have hr := B.returns
  have hts := atoms_spec (ws := wsX6_may) B.pre
  have hown : s.vm.findClass RX6 = some m.cls := findClass_of_methodNamed B.named
  have hlocks := B.notSynchronized
  subst hargs
  clear B
  have hS : va_S A s.heap s.heap [] := va_S.rf
  have hl := lv_entry ([.ref a0, .int x1, .int x2]) (n := 3) (Nat.le_of_ble_eq_true rfl)
  rw [lg_entry_eq]
  generalize (lg_sl ([.ref a0, .int x1, .int x2]) ++ List.replicate (3 - (lg_sl ([.ref a0, .int x1, .int x2])).length) Slot.unset).toArray = ls at hl ⊢
  have hl : lv_has ls 3 [(0, .ref a0), (1, .int x1), (2, .int x2)] := hl
  have hG : GG D κ A S s.heap := hG
  refine lv_iload_n hx hb dX6_may_0 rfl (lv_at hl 1 rfl) ?_
  refine gc_i (va_runS (As := [.int x1]) (rest := []) ⟨hx, hb, hml, hown, hts⟩ (c_X6_isShelf l D κ A S x1 _ h) (va_cwS 1 hts gX6_may_X6_isShelf rfl rfl rfl (by decide +kernel) ⟨Nat.le_of_ble_eq_true rfl, Nat.le_of_ble_eq_true rfl⟩) (pg_S hK hX hG (pg_A hA hS)) rfl rfl hl.1 rfl (lv_room (Nat.le_of_ble_eq_true rfl)) dX6_may_1 ⟨Nat.le_of_ble_eq_true rfl, Nat.le_of_ble_eq_true rfl⟩) hS (fun z3 S2 H locs1 h hG hS => ?_)
  refine lv_if_eq (tgt := 15) hx hb dX6_may_4 rfl (fun hc => ?_) (fun hc => ?_)
  · replace h := h.1 hc
    refine lv_iconst (v := (-1 : Int32)) hx hb dX6_may_15 (by decide) ?_
    exact W.iret hx hb hr (gr_i h hG hK hX hS) hS.2.2 dX6_may_16
  · replace h := h.2 hc
    refine lv_aload_n hx hb dX6_may_7 rfl (lv_at hl 0 rfl) ?_
    refine lv_iload_n hx hb dX6_may_8 rfl (lv_at hl 2 rfl) ?_
    have hk := h.1
    replace h := h.2
    refine gc_i (va_runV (As := [.int x2]) (rest := []) ⟨hx, hb, hml, hown, hts⟩ (c_X6_isLying l D κ A S2 a0 x2 _ h) (cwV 1 hts gX6_may_X6_isLying rfl rfl rfl (by decide +kernel) ⟨Nat.le_of_ble_eq_true rfl, Nat.le_of_ble_eq_true rfl⟩) (pg_V (q := (RX6, TX6, 32)) hK hX hG (pg_A hA hS) (kc_7 hk) rfl) rfl rfl hl.1 rfl (lv_room (Nat.le_of_ble_eq_true rfl)) dX6_may_9 ⟨Nat.le_of_ble_eq_true rfl, Nat.le_of_ble_eq_true rfl⟩) hS (fun z6 S5 H locs4 h hG hS => ?_)
    refine lv_if_ne (tgt := 17) hx hb dX6_may_12 rfl (fun hc => ?_) (fun hc => ?_)
    · replace h := h.1 hc
      refine lv_aload_n hx hb dX6_may_17 rfl (lv_at hl 0 rfl) ?_
      refine lv_iload_n hx hb dX6_may_18 rfl (lv_at hl 1 rfl) ?_
      have hk := h.1
      replace h := h.2
      refine gc_i (va_runV (As := [.int x1]) (rest := []) ⟨hx, hb, hml, hown, hts⟩ (c_X6_noScale l D κ A S5 a0 x1 _ h) (cwV 1 hts gX6_may_X6_noScale rfl rfl rfl (by decide +kernel) ⟨Nat.le_of_ble_eq_true rfl, Nat.le_of_ble_eq_true rfl⟩) (pg_V (q := (RX6, TX6, 32)) hK hX hG (pg_A hA hS) (kc_7 hk) rfl) rfl rfl hl.1 rfl (lv_room (Nat.le_of_ble_eq_true rfl)) dX6_may_19 ⟨Nat.le_of_ble_eq_true rfl, Nat.le_of_ble_eq_true rfl⟩) hS (fun z9 S8 H locs7 h hG hS => ?_)
      refine lv_if_eq (tgt := 31) hx hb dX6_may_22 rfl (fun hc => ?_) (fun hc => ?_)
      · replace h := h.1 hc
        refine lv_aload_n hx hb dX6_may_31 rfl (lv_at hl 0 rfl) ?_
        refine lv_iload_n hx hb dX6_may_32 rfl (lv_at hl 2 rfl) ?_
        have hk := h.1
        replace h := h.2
        refine gc_v (va_runV (As := [.int x2]) (rest := []) ⟨hx, hb, hml, hown, hts⟩ (c_X6_look l D κ A S8 a0 x2 _ h) (cwV 1 hts gX6_may_X6_look rfl rfl rfl (by decide +kernel) ⟨Nat.le_of_ble_eq_true rfl, Nat.le_of_ble_eq_true rfl⟩) (pg_V (q := (RX6, TX6, 32)) hK hX hG (pg_A hA hS) (kc_7 hk) rfl) rfl rfl hl.1 rfl (lv_room (Nat.le_of_ble_eq_true rfl)) dX6_may_33 ⟨Nat.le_of_ble_eq_true rfl, Nat.le_of_ble_eq_true rfl⟩) hS (fun S11 H locs10 h hG hS => ?_)
        refine lv_aload_n hx hb dX6_may_36 rfl (lv_at hl 0 rfl) ?_
        refine lv_aload_n hx hb dX6_may_37 rfl (lv_at hl 0 rfl) ?_
        have hk := h.1
        replace h := h.2
        obtain ⟨r12, hr12, h⟩ := h
        refine gg_get (v := .ref r12) (ci := 6) (C := RX6) (T := TX6) (N := 32) hx hb hts (fun _ h => List.mem_cons_of_mem _ (List.mem_append_right _ (h))) hown hK hG (kc_7 hk) rfl 25 (by decide) (hts (.fieldLink RX6 35 "FourStonesModel" "kindOf" "[I") (List.mem_of_getElem? (i := 1) rfl)) (fun _ h9 => h9) (congrArg (fun z => some (va_rf z)) hr12) dX6_may_38 ?_
        refine lv_iload_n hx hb dX6_may_41 rfl (lv_at hl 1 rfl) ?_
        have hk := h.1
        replace h := h.2
        have hi := h.1
        replace h := h.2
        refine gg_iald hx hb hK hG hk hi dX6_may_42 ?_
        have hk := h.1
        replace h := h.2
        refine gc_i (va_runV (As := [.int (gA S11 r12 (x1).toNatClampNeg)]) (rest := []) ⟨hx, hb, hml, hown, hts⟩ (c_X6_mayBe l D κ A S11 a0 (gA S11 r12 (x1).toNatClampNeg) _ h) (cwV 1 hts gX6_may_X6_mayBe rfl rfl rfl (by decide +kernel) ⟨Nat.le_of_ble_eq_true rfl, Nat.le_of_ble_eq_true rfl⟩) (pg_V (q := (RX6, TX6, 32)) hK hX hG (pg_A hA hS) (kc_7 hk) rfl) rfl rfl hl.1 rfl (lv_room (Nat.le_of_ble_eq_true rfl)) dX6_may_43 ⟨Nat.le_of_ble_eq_true rfl, Nat.le_of_ble_eq_true rfl⟩) hS (fun z15 S14 H locs13 h hG hS => ?_)
        refine lv_if_eq (tgt := 53) hx hb dX6_may_46 rfl (fun hc => ?_) (fun hc => ?_)
        · replace h := h.1 hc
          refine lv_iconst (v := (0 : Int32)) hx hb dX6_may_53 (by decide) ?_
          exact W.iret hx hb hr (gr_i h hG hK hX hS) hS.2.2 dX6_may_54
        · replace h := h.2 hc
          refine lv_iconst (v := (1 : Int32)) hx hb dX6_may_49 (by decide) ?_
          refine lv_goto (tgt := 54) hx hb dX6_may_50 rfl ?_
          exact W.iret hx hb hr (gr_i h hG hK hX hS) hS.2.2 dX6_may_54
      · replace h := h.2 hc
        refine lv_aload_n hx hb dX6_may_25 rfl (lv_at hl 0 rfl) ?_
        refine lv_iload_n hx hb dX6_may_26 rfl (lv_at hl 1 rfl) ?_
        have hk := h.1
        replace h := h.2
        refine gc_i (va_runV (As := [.int x1]) (rest := []) ⟨hx, hb, hml, hown, hts⟩ (c_X6_noScale l D κ A S8 a0 x1 _ h) (cwV 1 hts gX6_may_X6_noScale rfl rfl rfl (by decide +kernel) ⟨Nat.le_of_ble_eq_true rfl, Nat.le_of_ble_eq_true rfl⟩) (pg_V (q := (RX6, TX6, 32)) hK hX hG (pg_A hA hS) (kc_7 hk) rfl) rfl rfl hl.1 rfl (lv_room (Nat.le_of_ble_eq_true rfl)) dX6_may_27 ⟨Nat.le_of_ble_eq_true rfl, Nat.le_of_ble_eq_true rfl⟩) hS (fun z18 S17 H locs16 h hG hS => ?_)
        exact W.iret hx hb hr (gr_i h hG hK hX hS) hS.2.2 dX6_may_30
    · replace h := h.2 hc
      refine lv_iconst (v := (-1 : Int32)) hx hb dX6_may_15 (by decide) ?_
      exact W.iret hx hb hr (gr_i h hG hK hX hS) hS.2.2 dX6_may_16
set_option maxHeartbeats 4000000 in
set_option maxRecDepth 100000 in
theorem c_X6_ways (l : Launch) (D : va_G) (κ : Nat → ClassId) (A : Nat → Prop) (S : Hp) (a0 : Nat) (x1 : Int32) (x2 : Int32) (Q : Int32 → Hp → Prop) (h : wp_X6_ways a0 x1 x2 S Q) : Met l yX6_ways wsX6_ways ({ frames := 4, cells := 0, slots := 0, locals := 192 } : Room) (PG D κ A S [.ref a0, .int x1, .int x2]) (va_Qi Q (BG D κ A) A) 0 0 A := by
  refine Met.ofW (cc := cX6_ways) (maxL := 5) (ret := (some .int)) (by decide) rfl ?_
  intro p e s m args below meth c s₁ B hml hv
  obtain ⟨hargs, hA, hG, hK, hX⟩ := hv
  have hx := B.exec
  have hb := B.bytes
  have hr := B.returns
  have hts := atoms_spec (ws := wsX6_ways) B.pre
  have hown : s.vm.findClass RX6 = some m.cls := findClass_of_methodNamed B.named
  have hlocks := B.notSynchronized
  subst hargs
  clear B
  have hS : va_S A s.heap s.heap [] := va_S.rf
  have hl := lv_entry ([.ref a0, .int x1, .int x2]) (n := 5) (Nat.le_of_ble_eq_true rfl)
  rw [lg_entry_eq]
  generalize (lg_sl ([.ref a0, .int x1, .int x2]) ++ List.replicate (5 - (lg_sl ([.ref a0, .int x1, .int x2])).length) Slot.unset).toArray = ls at hl ⊢
  have hl : lv_has ls 5 [(0, .ref a0), (1, .int x1), (2, .int x2)] := hl
  have hG : GG D κ A S s.heap := hG
  have j_70 : ∀ (C41 : Nat × Int32 × Int32 × Int32 × Int32 × Hp → Prop) (hC41 : ∀ (v0 : Nat) (v1 : Int32) (v2 : Int32) (v3 : Int32) (v4 : Int32) (S : Hp) (ls : Array Slot) (H : Heap) (locs : List Loc), lv_has ls 5 [(0, .ref v0), (1, .int v1), (2, .int v2), (3, .int v3), (4, .int v4)] → GG D κ A S H → va_S A s.heap H locs → C41 (v0, v1, v2, v3, v4, S) → W p l e ({ frames := 4, cells := 0, slots := 0, locals := 192 } : Room) s m ([.ref a0, .int x1, .int x2] : List Value).toArray below meth c H locs 0 0 (MQ below (va_Qi Q (BG D κ A) A) ([.ref a0, .int x1, .int x2] : List Value).toArray s 0 0 A) (F0 m 41 ls [])) (v0 : Nat) (v1 : Int32) (v2 : Int32) (v4 : Int32) (w0 : Int32) (w1 : Int32) (S : Hp) (ls : Array Slot) (H : Heap) (locs : List Loc), lv_has ls 5 [(0, .ref v0), (1, .int v1), (2, .int v2), (4, .int v4)] → GG D κ A S H → va_S A s.heap H locs → J_X6_ways_70 C41 Q v0 v1 v2 v4 w0 w1 S → W p l e ({ frames := 4, cells := 0, slots := 0, locals := 192 } : Room) s m ([.ref a0, .int x1, .int x2] : List Value).toArray below meth c H locs 0 0 (MQ below (va_Qi Q (BG D κ A) A) ([.ref a0, .int x1, .int x2] : List Value).toArray s 0 0 A) (F0 m 70 ls [.int w1, .int w0]) := by
    intro C41 hC41 v0 v1 v2 v4 w0 w1 S ls H locs hl hG hS h
    unfold J_X6_ways_70 at h
    refine lv_iadd hx hb dX6_ways_70 ?_
    refine lv_topi (fun y1 ey1 => ?_)
    replace h := h y1 ey1
    refine lv_istore_n (lv' := [(3, .int y1), (0, .ref v0), (1, .int v1), (2, .int v2), (4, .int v4)]) hx hb dX6_ways_71 rfl hl (by decide) rfl (fun ls hl => ?_)
    obtain ⟨y2, ey2⟩ : ∃ z, z = v4 + (1 : Int32) := ⟨_, rfl⟩
    replace h := h y2 ey2
    refine lv_iinc (v := y2) (lv' := [(4, .int y2), (3, .int y1), (0, .ref v0), (1, .int v1), (2, .int v2)]) hx hb dX6_ways_72 hl (k := 4) rfl (by rw [ey2]; rfl) (by decide) rfl (fun ls hl => ?_)
    refine lv_goto (tgt := 41) hx hb dX6_ways_75 rfl ?_
    exact hC41 v0 v1 v2 y1 y2 S ls _ _ (lv_sub hl [2, 3, 4, 1, 0] rfl) hG hS h
  have k_41 : ∀  (n : Nat), ∀ (v0 : Nat) (v1 : Int32) (v2 : Int32) (v3 : Int32) (v4 : Int32) (S : Hp) (ls : Array Slot) (H : Heap) (locs : List Loc), lv_has ls 5 [(0, .ref v0), (1, .int v1), (2, .int v2), (3, .int v3), (4, .int v4)] → GG D κ A S H → va_S A s.heap H locs → it (L_X6_ways_41  Q) n (v0, v1, v2, v3, v4, S) → W p l e ({ frames := 4, cells := 0, slots := 0, locals := 192 } : Room) s m ([.ref a0, .int x1, .int x2] : List Value).toArray below meth c H locs 0 0 (MQ below (va_Qi Q (BG D κ A) A) ([.ref a0, .int x1, .int x2] : List Value).toArray s 0 0 A) (F0 m 41 ls []) := by
    intro  n
    induction n with
    | zero => intro v0 v1 v2 v3 v4 S ls H locs hl hG hS h; exact False.elim h
    | succ n hC41 =>
      intro v0 v1 v2 v3 v4 S ls H locs hl hG hS h
      replace h : L_X6_ways_41  Q (it (L_X6_ways_41  Q) n) (v0, v1, v2, v3, v4, S) := h
      simp only [L_X6_ways_41] at h
      refine lv_iload hx hb dX6_ways_41 (lv_at hl 4 rfl) ?_
      refine lv_aload_n hx hb dX6_ways_43 rfl (lv_at hl 0 rfl) ?_
      have hk := h.1
      replace h := h.2
      refine gg_get (ci := 6) (C := RX6) (T := TX6) (N := 32) hx hb hts (fun _ h => List.mem_cons_of_mem _ (List.mem_append_right _ (h))) hown hK hG (kc_7 hk) rfl 0 (by decide) (hts (.fieldLink RX6 57 "FourStonesModel" "stones" "I") (List.mem_of_getElem? (i := 1) rfl)) (fun _ h9 => h9) rfl dX6_ways_44 ?_
      refine gc_i (va_runS (As := [.int (gI S 70 v0)]) (rest := [.int v4]) ⟨hx, hb, hml, hown, hts⟩ (c_X6_power l D κ A S (gI S 70 v0) _ h) (va_cwS 1 hts gX6_ways_X6_power rfl rfl rfl (by decide +kernel) ⟨Nat.le_of_ble_eq_true rfl, Nat.le_of_ble_eq_true rfl⟩) (pg_S hK hX hG (pg_A hA hS)) rfl rfl hl.1 rfl (lv_room (Nat.le_of_ble_eq_true rfl)) dX6_ways_47 ⟨Nat.le_of_ble_eq_true rfl, Nat.le_of_ble_eq_true rfl⟩) hS (fun z3 S2 H locs1 h hG hS => ?_)
      refine lv_icmp_ge (tgt := 78) hx hb dX6_ways_50 rfl (fun hc => ?_) (fun hc => ?_)
      · replace h := h.1 hc
        refine lv_iload_n hx hb dX6_ways_78 rfl (lv_at hl 3 rfl) ?_
        exact W.iret hx hb hr (gr_i h hG hK hX hS) hS.2.2 dX6_ways_79
      · replace h := h.2 hc
        refine lv_iload_n hx hb dX6_ways_53 rfl (lv_at hl 3 rfl) ?_
        refine lv_aload_n hx hb dX6_ways_54 rfl (lv_at hl 0 rfl) ?_
        refine lv_iload_n hx hb dX6_ways_55 rfl (lv_at hl 1 rfl) ?_
        refine lv_iload hx hb dX6_ways_56 (lv_at hl 4 rfl) ?_
        refine lv_iload_n hx hb dX6_ways_58 rfl (lv_at hl 2 rfl) ?_
        have hk := h.1
        replace h := h.2
        refine gc_i (va_runV (As := [.int v1, .int v4, .int v2]) (rest := [.int v3]) ⟨hx, hb, hml, hown, hts⟩ (c_X6_isWeight l D κ A S2 v0 v1 v4 v2 _ h) (cwV 3 hts gX6_ways_X6_isWeight rfl rfl rfl (by decide +kernel) ⟨Nat.le_of_ble_eq_true rfl, Nat.le_of_ble_eq_true rfl⟩) (pg_V (q := (RX6, TX6, 32)) hK hX hG (pg_A hA hS) (kc_7 hk) rfl) rfl rfl hl.1 rfl (lv_room (Nat.le_of_ble_eq_true rfl)) dX6_ways_59 ⟨Nat.le_of_ble_eq_true rfl, Nat.le_of_ble_eq_true rfl⟩) hS (fun z6 S5 H locs4 h hG hS => ?_)
        refine lv_if_eq (tgt := 69) hx hb dX6_ways_62 rfl (fun hc => ?_) (fun hc => ?_)
        · replace h := h.1 hc
          refine lv_iconst (v := (0 : Int32)) hx hb dX6_ways_69 (by decide) ?_
          exact j_70 _ hC41 v0 v1 v2 v4 v3 (0 : Int32) S5 ls _ _ (lv_sub hl [0, 1, 2, 4] rfl) hG hS h
        · replace h := h.2 hc
          refine lv_iconst (v := (1 : Int32)) hx hb dX6_ways_65 (by decide) ?_
          refine lv_goto (tgt := 70) hx hb dX6_ways_66 rfl ?_
          exact j_70 _ hC41 v0 v1 v2 v4 v3 (1 : Int32) S5 ls _ _ (lv_sub hl [0, 1, 2, 4] rfl) hG hS h
  refine lv_iload_n hx hb dX6_ways_0 rfl (lv_at hl 1 rfl) ?_
  refine gc_i (va_runS (As := [.int x1]) (rest := []) ⟨hx, hb, hml, hown, hts⟩ (c_X6_isShelf l D κ A S x1 _ h) (va_cwS 1 hts gX6_ways_X6_isShelf rfl rfl rfl (by decide +kernel) ⟨Nat.le_of_ble_eq_true rfl, Nat.le_of_ble_eq_true rfl⟩) (pg_S hK hX hG (pg_A hA hS)) rfl rfl hl.1 rfl (lv_room (Nat.le_of_ble_eq_true rfl)) dX6_ways_1 ⟨Nat.le_of_ble_eq_true rfl, Nat.le_of_ble_eq_true rfl⟩) hS (fun z3 S2 H locs1 h hG hS => ?_)
  refine lv_if_eq (tgt := 20) hx hb dX6_ways_4 rfl (fun hc => ?_) (fun hc => ?_)
  · replace h := h.1 hc
    refine lv_iconst (v := (-1 : Int32)) hx hb dX6_ways_20 (by decide) ?_
    exact W.iret hx hb hr (gr_i h hG hK hX hS) hS.2.2 dX6_ways_21
  · replace h := h.2 hc
    refine lv_iload_n hx hb dX6_ways_7 rfl (lv_at hl 2 rfl) ?_
    refine lv_sipush (v := (-9999 : Int32)) hx hb dX6_ways_8 (by decide) ?_
    refine lv_sipush (v := (9999 : Int32)) hx hb dX6_ways_11 (by decide) ?_
    refine gc_i (va_runS (As := [.int x2, .int (-9999 : Int32), .int (9999 : Int32)]) (rest := []) ⟨hx, hb, hml, hown, hts⟩ (c_X6_isIn l D κ A S2 x2 (-9999 : Int32) (9999 : Int32) _ h) (va_cwS 3 hts gX6_ways_X6_isIn rfl rfl rfl (by decide +kernel) ⟨Nat.le_of_ble_eq_true rfl, Nat.le_of_ble_eq_true rfl⟩) (pg_S hK hX hG (pg_A hA hS)) rfl rfl hl.1 rfl (lv_room (Nat.le_of_ble_eq_true rfl)) dX6_ways_14 ⟨Nat.le_of_ble_eq_true rfl, Nat.le_of_ble_eq_true rfl⟩) hS (fun z6 S5 H locs4 h hG hS => ?_)
    refine lv_if_ne (tgt := 22) hx hb dX6_ways_17 rfl (fun hc => ?_) (fun hc => ?_)
    · replace h := h.1 hc
      refine lv_aload_n hx hb dX6_ways_22 rfl (lv_at hl 0 rfl) ?_
      refine lv_iload_n hx hb dX6_ways_23 rfl (lv_at hl 1 rfl) ?_
      have hk := h.1
      replace h := h.2
      refine gc_i (va_runV (As := [.int x1]) (rest := []) ⟨hx, hb, hml, hown, hts⟩ (c_X6_noScale l D κ A S5 a0 x1 _ h) (cwV 1 hts gX6_ways_X6_noScale rfl rfl rfl (by decide +kernel) ⟨Nat.le_of_ble_eq_true rfl, Nat.le_of_ble_eq_true rfl⟩) (pg_V (q := (RX6, TX6, 32)) hK hX hG (pg_A hA hS) (kc_7 hk) rfl) rfl rfl hl.1 rfl (lv_room (Nat.le_of_ble_eq_true rfl)) dX6_ways_24 ⟨Nat.le_of_ble_eq_true rfl, Nat.le_of_ble_eq_true rfl⟩) hS (fun z9 S8 H locs7 h hG hS => ?_)
      refine lv_if_eq (tgt := 36) hx hb dX6_ways_27 rfl (fun hc => ?_) (fun hc => ?_)
      · replace h := h.1 hc
        refine lv_iconst (v := (0 : Int32)) hx hb dX6_ways_36 (by decide) ?_
        refine lv_istore_n (lv' := [(3, .int (0 : Int32)), (0, .ref a0), (1, .int x1), (2, .int x2)]) hx hb dX6_ways_37 rfl hl (by decide) rfl (fun ls hl => ?_)
        refine lv_iconst (v := (0 : Int32)) hx hb dX6_ways_38 (by decide) ?_
        refine lv_istore (lv' := [(4, .int (0 : Int32)), (3, .int (0 : Int32)), (0, .ref a0), (1, .int x1), (2, .int x2)]) hx hb dX6_ways_39 hl (by decide) rfl (fun ls hl => ?_)
        obtain ⟨nn, h⟩ := h
        exact k_41  nn a0 x1 x2 (0 : Int32) (0 : Int32) S8 ls _ _ (lv_sub hl [2, 3, 4, 1, 0] rfl) hG hS h
      · replace h := h.2 hc
        refine lv_aload_n hx hb dX6_ways_30 rfl (lv_at hl 0 rfl) ?_
        refine lv_iload_n hx hb dX6_ways_31 rfl (lv_at hl 1 rfl) ?_
        have hk := h.1
        replace h := h.2
        refine gc_i (va_runV (As := [.int x1]) (rest := []) ⟨hx, hb, hml, hown, hts⟩ (c_X6_noScale l D κ A S8 a0 x1 _ h) (cwV 1 hts gX6_ways_X6_noScale rfl rfl rfl (by decide +kernel) ⟨Nat.le_of_ble_eq_true rfl, Nat.le_of_ble_eq_true rfl⟩) (pg_V (q := (RX6, TX6, 32)) hK hX hG (pg_A hA hS) (kc_7 hk) rfl) rfl rfl hl.1 rfl (lv_room (Nat.le_of_ble_eq_true rfl)) dX6_ways_32 ⟨Nat.le_of_ble_eq_true rfl, Nat.le_of_ble_eq_true rfl⟩) hS (fun z12 S11 H locs10 h hG hS => ?_)
        exact W.iret hx hb hr (gr_i h hG hK hX hS) hS.2.2 dX6_ways_35
    · replace h := h.2 hc
      refine lv_iconst (v := (-1 : Int32)) hx hb dX6_ways_20 (by decide) ?_
      exact W.iret hx hb hr (gr_i h hG hK hX hS) hS.2.2 dX6_ways_21
set_option maxHeartbeats 4000000 in
set_option maxRecDepth 100000 in
theorem c_X6_first (l : Launch) (D : va_G) (κ : Nat → ClassId) (A : Nat → Prop) (S : Hp) (a0 : Nat) (x1 : Int32) (x2 : Int32) (Q : Int32 → Hp → Prop) (h : wp_X6_first a0 x1 x2 S Q) : Met l yX6_first wsX6_first ({ frames := 4, cells := 0, slots := 0, locals := 192 } : Room) (PG D κ A S [.ref a0, .int x1, .int x2]) (va_Qi Q (BG D κ A) A) 0 0 A := by
  refine Met.ofW (cc := cX6_first) (maxL := 4) (ret := (some .int)) (by decide) rfl ?_
  intro p e s m args below meth c s₁ B hml hv
  obtain ⟨hargs, hA, hG, hK, hX⟩ := hv
  have hx := B.exec
  have hb := B.bytes
  have hr := B.returns
  have hts := atoms_spec (ws := wsX6_first) B.pre
  have hown : s.vm.findClass RX6 = some m.cls := findClass_of_methodNamed B.named
  have hlocks := B.notSynchronized
  subst hargs
  clear B
  have hS : va_S A s.heap s.heap [] := va_S.rf
  have hl := lv_entry ([.ref a0, .int x1, .int x2]) (n := 4) (Nat.le_of_ble_eq_true rfl)
  rw [lg_entry_eq]
  generalize (lg_sl ([.ref a0, .int x1, .int x2]) ++ List.replicate (4 - (lg_sl ([.ref a0, .int x1, .int x2])).length) Slot.unset).toArray = ls at hl ⊢
  have hl : lv_has ls 4 [(0, .ref a0), (1, .int x1), (2, .int x2)] := hl
  have hG : GG D κ A S s.heap := hG
  have k_38 : ∀  (n : Nat), ∀ (v0 : Nat) (v1 : Int32) (v2 : Int32) (v3 : Int32) (S : Hp) (ls : Array Slot) (H : Heap) (locs : List Loc), lv_has ls 4 [(0, .ref v0), (1, .int v1), (2, .int v2), (3, .int v3)] → GG D κ A S H → va_S A s.heap H locs → it (L_X6_first_38  Q) n (v0, v1, v2, v3, S) → W p l e ({ frames := 4, cells := 0, slots := 0, locals := 192 } : Room) s m ([.ref a0, .int x1, .int x2] : List Value).toArray below meth c H locs 0 0 (MQ below (va_Qi Q (BG D κ A) A) ([.ref a0, .int x1, .int x2] : List Value).toArray s 0 0 A) (F0 m 38 ls []) := by
    intro  n
    induction n with
    | zero => intro v0 v1 v2 v3 S ls H locs hl hG hS h; exact False.elim h
    | succ n hC38 =>
      intro v0 v1 v2 v3 S ls H locs hl hG hS h
      replace h : L_X6_first_38  Q (it (L_X6_first_38  Q) n) (v0, v1, v2, v3, S) := h
      simp only [L_X6_first_38] at h
      refine lv_iload_n hx hb dX6_first_38 rfl (lv_at hl 3 rfl) ?_
      refine lv_aload_n hx hb dX6_first_39 rfl (lv_at hl 0 rfl) ?_
      have hk := h.1
      replace h := h.2
      refine gg_get (ci := 6) (C := RX6) (T := TX6) (N := 32) hx hb hts (fun _ h => List.mem_cons_of_mem _ (List.mem_append_right _ (h))) hown hK hG (kc_7 hk) rfl 0 (by decide) (hts (.fieldLink RX6 57 "FourStonesModel" "stones" "I") (List.mem_of_getElem? (i := 1) rfl)) (fun _ h9 => h9) rfl dX6_first_40 ?_
      refine gc_i (va_runS (As := [.int (gI S 70 v0)]) (rest := [.int v3]) ⟨hx, hb, hml, hown, hts⟩ (c_X6_power l D κ A S (gI S 70 v0) _ h) (va_cwS 1 hts gX6_first_X6_power rfl rfl rfl (by decide +kernel) ⟨Nat.le_of_ble_eq_true rfl, Nat.le_of_ble_eq_true rfl⟩) (pg_S hK hX hG (pg_A hA hS)) rfl rfl hl.1 rfl (lv_room (Nat.le_of_ble_eq_true rfl)) dX6_first_43 ⟨Nat.le_of_ble_eq_true rfl, Nat.le_of_ble_eq_true rfl⟩) hS (fun z3 S2 H locs1 h hG hS => ?_)
      refine lv_icmp_ge (tgt := 67) hx hb dX6_first_46 rfl (fun hc => ?_) (fun hc => ?_)
      · replace h := h.1 hc
        refine lv_bipush (v := (-4 : Int32)) hx hb dX6_first_67 (by decide) ?_
        exact W.iret hx hb hr (gr_i h hG hK hX hS) hS.2.2 dX6_first_69
      · replace h := h.2 hc
        refine lv_aload_n hx hb dX6_first_49 rfl (lv_at hl 0 rfl) ?_
        refine lv_iload_n hx hb dX6_first_50 rfl (lv_at hl 1 rfl) ?_
        refine lv_iload_n hx hb dX6_first_51 rfl (lv_at hl 3 rfl) ?_
        refine lv_iload_n hx hb dX6_first_52 rfl (lv_at hl 2 rfl) ?_
        have hk := h.1
        replace h := h.2
        refine gc_i (va_runV (As := [.int v1, .int v3, .int v2]) (rest := []) ⟨hx, hb, hml, hown, hts⟩ (c_X6_isWeight l D κ A S2 v0 v1 v3 v2 _ h) (cwV 3 hts gX6_first_X6_isWeight rfl rfl rfl (by decide +kernel) ⟨Nat.le_of_ble_eq_true rfl, Nat.le_of_ble_eq_true rfl⟩) (pg_V (q := (RX6, TX6, 32)) hK hX hG (pg_A hA hS) (kc_7 hk) rfl) rfl rfl hl.1 rfl (lv_room (Nat.le_of_ble_eq_true rfl)) dX6_first_53 ⟨Nat.le_of_ble_eq_true rfl, Nat.le_of_ble_eq_true rfl⟩) hS (fun z6 S5 H locs4 h hG hS => ?_)
        refine lv_if_eq (tgt := 61) hx hb dX6_first_56 rfl (fun hc => ?_) (fun hc => ?_)
        · replace h := h.1 hc
          obtain ⟨y7, ey7⟩ : ∃ z, z = v3 + (1 : Int32) := ⟨_, rfl⟩
          replace h := h y7 ey7
          refine lv_iinc (v := y7) (lv' := [(3, .int y7), (0, .ref v0), (1, .int v1), (2, .int v2)]) hx hb dX6_first_61 hl (k := 3) rfl (by rw [ey7]; rfl) (by decide) rfl (fun ls hl => ?_)
          refine lv_goto (tgt := 38) hx hb dX6_first_64 rfl ?_
          exact hC38 v0 v1 v2 y7 S5 ls _ _ (lv_sub hl [1, 2, 3, 0] rfl) hG hS h
        · replace h := h.2 hc
          refine lv_iload_n hx hb dX6_first_59 rfl (lv_at hl 3 rfl) ?_
          exact W.iret hx hb hr (gr_i h hG hK hX hS) hS.2.2 dX6_first_60
  refine lv_iload_n hx hb dX6_first_0 rfl (lv_at hl 1 rfl) ?_
  refine gc_i (va_runS (As := [.int x1]) (rest := []) ⟨hx, hb, hml, hown, hts⟩ (c_X6_isShelf l D κ A S x1 _ h) (va_cwS 1 hts gX6_first_X6_isShelf rfl rfl rfl (by decide +kernel) ⟨Nat.le_of_ble_eq_true rfl, Nat.le_of_ble_eq_true rfl⟩) (pg_S hK hX hG (pg_A hA hS)) rfl rfl hl.1 rfl (lv_room (Nat.le_of_ble_eq_true rfl)) dX6_first_1 ⟨Nat.le_of_ble_eq_true rfl, Nat.le_of_ble_eq_true rfl⟩) hS (fun z3 S2 H locs1 h hG hS => ?_)
  refine lv_if_eq (tgt := 20) hx hb dX6_first_4 rfl (fun hc => ?_) (fun hc => ?_)
  · replace h := h.1 hc
    refine lv_iconst (v := (-1 : Int32)) hx hb dX6_first_20 (by decide) ?_
    exact W.iret hx hb hr (gr_i h hG hK hX hS) hS.2.2 dX6_first_21
  · replace h := h.2 hc
    refine lv_iload_n hx hb dX6_first_7 rfl (lv_at hl 2 rfl) ?_
    refine lv_sipush (v := (-9999 : Int32)) hx hb dX6_first_8 (by decide) ?_
    refine lv_sipush (v := (9999 : Int32)) hx hb dX6_first_11 (by decide) ?_
    refine gc_i (va_runS (As := [.int x2, .int (-9999 : Int32), .int (9999 : Int32)]) (rest := []) ⟨hx, hb, hml, hown, hts⟩ (c_X6_isIn l D κ A S2 x2 (-9999 : Int32) (9999 : Int32) _ h) (va_cwS 3 hts gX6_first_X6_isIn rfl rfl rfl (by decide +kernel) ⟨Nat.le_of_ble_eq_true rfl, Nat.le_of_ble_eq_true rfl⟩) (pg_S hK hX hG (pg_A hA hS)) rfl rfl hl.1 rfl (lv_room (Nat.le_of_ble_eq_true rfl)) dX6_first_14 ⟨Nat.le_of_ble_eq_true rfl, Nat.le_of_ble_eq_true rfl⟩) hS (fun z6 S5 H locs4 h hG hS => ?_)
    refine lv_if_ne (tgt := 22) hx hb dX6_first_17 rfl (fun hc => ?_) (fun hc => ?_)
    · replace h := h.1 hc
      refine lv_aload_n hx hb dX6_first_22 rfl (lv_at hl 0 rfl) ?_
      refine lv_iload_n hx hb dX6_first_23 rfl (lv_at hl 1 rfl) ?_
      have hk := h.1
      replace h := h.2
      refine gc_i (va_runV (As := [.int x1]) (rest := []) ⟨hx, hb, hml, hown, hts⟩ (c_X6_noScale l D κ A S5 a0 x1 _ h) (cwV 1 hts gX6_first_X6_noScale rfl rfl rfl (by decide +kernel) ⟨Nat.le_of_ble_eq_true rfl, Nat.le_of_ble_eq_true rfl⟩) (pg_V (q := (RX6, TX6, 32)) hK hX hG (pg_A hA hS) (kc_7 hk) rfl) rfl rfl hl.1 rfl (lv_room (Nat.le_of_ble_eq_true rfl)) dX6_first_24 ⟨Nat.le_of_ble_eq_true rfl, Nat.le_of_ble_eq_true rfl⟩) hS (fun z9 S8 H locs7 h hG hS => ?_)
      refine lv_if_eq (tgt := 36) hx hb dX6_first_27 rfl (fun hc => ?_) (fun hc => ?_)
      · replace h := h.1 hc
        refine lv_iconst (v := (0 : Int32)) hx hb dX6_first_36 (by decide) ?_
        refine lv_istore_n (lv' := [(3, .int (0 : Int32)), (0, .ref a0), (1, .int x1), (2, .int x2)]) hx hb dX6_first_37 rfl hl (by decide) rfl (fun ls hl => ?_)
        obtain ⟨nn, h⟩ := h
        exact k_38  nn a0 x1 x2 (0 : Int32) S8 ls _ _ (lv_sub hl [1, 2, 3, 0] rfl) hG hS h
      · replace h := h.2 hc
        refine lv_aload_n hx hb dX6_first_30 rfl (lv_at hl 0 rfl) ?_
        refine lv_iload_n hx hb dX6_first_31 rfl (lv_at hl 1 rfl) ?_
        have hk := h.1
        replace h := h.2
        refine gc_i (va_runV (As := [.int x1]) (rest := []) ⟨hx, hb, hml, hown, hts⟩ (c_X6_noScale l D κ A S8 a0 x1 _ h) (cwV 1 hts gX6_first_X6_noScale rfl rfl rfl (by decide +kernel) ⟨Nat.le_of_ble_eq_true rfl, Nat.le_of_ble_eq_true rfl⟩) (pg_V (q := (RX6, TX6, 32)) hK hX hG (pg_A hA hS) (kc_7 hk) rfl) rfl rfl hl.1 rfl (lv_room (Nat.le_of_ble_eq_true rfl)) dX6_first_32 ⟨Nat.le_of_ble_eq_true rfl, Nat.le_of_ble_eq_true rfl⟩) hS (fun z12 S11 H locs10 h hG hS => ?_)
        exact W.iret hx hb hr (gr_i h hG hK hX hS) hS.2.2 dX6_first_35
    · replace h := h.2 hc
      refine lv_iconst (v := (-1 : Int32)) hx hb dX6_first_20 (by decide) ?_
      exact W.iret hx hb hr (gr_i h hG hK hX hS) hS.2.2 dX6_first_21
set_option maxHeartbeats 4000000 in
set_option maxRecDepth 100000 in
theorem c_X6_lifts (l : Launch) (D : va_G) (κ : Nat → ClassId) (A : Nat → Prop) (S : Hp) (a0 : Nat) (x1 : Int32) (x2 : Int32) (x3 : Int32) (Q : Int32 → Hp → Prop) (h : wp_X6_lifts a0 x1 x2 x3 S Q) : Met l yX6_lifts wsX6_lifts ({ frames := 4, cells := 0, slots := 0, locals := 192 } : Room) (PG D κ A S [.ref a0, .int x1, .int x2, .int x3]) (va_Qi Q (BG D κ A) A) 0 0 A := by
  refine Met.ofW (cc := cX6_lifts) (maxL := 7) (ret := (some .int)) (by decide) rfl ?_
  intro p e s m args below meth c s₁ B hml hv
  obtain ⟨hargs, hA, hG, hK, hX⟩ := hv
  have hx := B.exec
  have hb := B.bytes
  have hr := B.returns
  have hts := atoms_spec (ws := wsX6_lifts) B.pre
  have hown : s.vm.findClass RX6 = some m.cls := findClass_of_methodNamed B.named
  have hlocks := B.notSynchronized
  subst hargs
  clear B
  have hS : va_S A s.heap s.heap [] := va_S.rf
  have hl := lv_entry ([.ref a0, .int x1, .int x2, .int x3]) (n := 7) (Nat.le_of_ble_eq_true rfl)
  rw [lg_entry_eq]
  generalize (lg_sl ([.ref a0, .int x1, .int x2, .int x3]) ++ List.replicate (7 - (lg_sl ([.ref a0, .int x1, .int x2, .int x3])).length) Slot.unset).toArray = ls at hl ⊢
  have hl : lv_has ls 7 [(0, .ref a0), (1, .int x1), (2, .int x2), (3, .int x3)] := hl
  have hG : GG D κ A S s.heap := hG
  have j_115 : ∀ (C56 : Nat × Int32 × Int32 × Int32 × Int32 × Int32 × Int32 × Hp → Prop) (hC56 : ∀ (v0 : Nat) (v1 : Int32) (v2 : Int32) (v3 : Int32) (v4 : Int32) (v5 : Int32) (v6 : Int32) (S : Hp) (ls : Array Slot) (H : Heap) (locs : List Loc), lv_has ls 7 [(0, .ref v0), (1, .int v1), (2, .int v2), (3, .int v3), (4, .int v4), (5, .int v5), (6, .int v6)] → GG D κ A S H → va_S A s.heap H locs → C56 (v0, v1, v2, v3, v4, v5, v6, S) → W p l e ({ frames := 4, cells := 0, slots := 0, locals := 192 } : Room) s m ([.ref a0, .int x1, .int x2, .int x3] : List Value).toArray below meth c H locs 0 0 (MQ below (va_Qi Q (BG D κ A) A) ([.ref a0, .int x1, .int x2, .int x3] : List Value).toArray s 0 0 A) (F0 m 56 ls [])) (v0 : Nat) (v1 : Int32) (v2 : Int32) (v3 : Int32) (v4 : Int32) (v5 : Int32) (v6 : Int32) (S : Hp) (ls : Array Slot) (H : Heap) (locs : List Loc), lv_has ls 7 [(0, .ref v0), (1, .int v1), (2, .int v2), (3, .int v3), (4, .int v4), (5, .int v5), (6, .int v6)] → GG D κ A S H → va_S A s.heap H locs → J_X6_lifts_115 C56 Q v0 v1 v2 v3 v4 v5 v6 S → W p l e ({ frames := 4, cells := 0, slots := 0, locals := 192 } : Room) s m ([.ref a0, .int x1, .int x2, .int x3] : List Value).toArray below meth c H locs 0 0 (MQ below (va_Qi Q (BG D κ A) A) ([.ref a0, .int x1, .int x2, .int x3] : List Value).toArray s 0 0 A) (F0 m 115 ls []) := by
    intro C56 hC56 v0 v1 v2 v3 v4 v5 v6 S ls H locs hl hG hS h
    unfold J_X6_lifts_115 at h
    obtain ⟨y1, ey1⟩ : ∃ z, z = v6 + (1 : Int32) := ⟨_, rfl⟩
    replace h := h y1 ey1
    refine lv_iinc (v := y1) (lv' := [(6, .int y1), (0, .ref v0), (1, .int v1), (2, .int v2), (3, .int v3), (4, .int v4), (5, .int v5)]) hx hb dX6_lifts_115 hl (k := 6) rfl (by rw [ey1]; rfl) (by decide) rfl (fun ls hl => ?_)
    refine lv_goto (tgt := 56) hx hb dX6_lifts_118 rfl ?_
    exact hC56 v0 v1 v2 v3 v4 v5 y1 S ls _ _ (lv_sub hl [1, 2, 3, 4, 5, 6, 0] rfl) hG hS h
  have j_100 : ∀ (C56 : Nat × Int32 × Int32 × Int32 × Int32 × Int32 × Int32 × Hp → Prop) (hC56 : ∀ (v0 : Nat) (v1 : Int32) (v2 : Int32) (v3 : Int32) (v4 : Int32) (v5 : Int32) (v6 : Int32) (S : Hp) (ls : Array Slot) (H : Heap) (locs : List Loc), lv_has ls 7 [(0, .ref v0), (1, .int v1), (2, .int v2), (3, .int v3), (4, .int v4), (5, .int v5), (6, .int v6)] → GG D κ A S H → va_S A s.heap H locs → C56 (v0, v1, v2, v3, v4, v5, v6, S) → W p l e ({ frames := 4, cells := 0, slots := 0, locals := 192 } : Room) s m ([.ref a0, .int x1, .int x2, .int x3] : List Value).toArray below meth c H locs 0 0 (MQ below (va_Qi Q (BG D κ A) A) ([.ref a0, .int x1, .int x2, .int x3] : List Value).toArray s 0 0 A) (F0 m 56 ls [])) (v0 : Nat) (v1 : Int32) (v2 : Int32) (v3 : Int32) (v6 : Int32) (S : Hp) (ls : Array Slot) (H : Heap) (locs : List Loc), lv_has ls 7 [(0, .ref v0), (1, .int v1), (2, .int v2), (3, .int v3), (6, .int v6)] → GG D κ A S H → va_S A s.heap H locs → J_X6_lifts_100 C56 Q v0 v1 v2 v3 v6 S → W p l e ({ frames := 4, cells := 0, slots := 0, locals := 192 } : Room) s m ([.ref a0, .int x1, .int x2, .int x3] : List Value).toArray below meth c H locs 0 0 (MQ below (va_Qi Q (BG D κ A) A) ([.ref a0, .int x1, .int x2, .int x3] : List Value).toArray s 0 0 A) (F0 m 100 ls []) := by
    intro C56 hC56 v0 v1 v2 v3 v6 S ls H locs hl hG hS h
    unfold J_X6_lifts_100 at h
    refine lv_aload_n hx hb dX6_lifts_100 rfl (lv_at hl 0 rfl) ?_
    have hk := h.1
    replace h := h.2
    refine gg_get (ci := 6) (C := RX6) (T := TX6) (N := 32) hx hb hts (fun _ h => List.mem_cons_of_mem _ (List.mem_append_right _ (h))) hown hK hG (kc_7 hk) rfl 9 (by decide) (hts (.fieldLink RX6 86 "FourStonesModel" "rights" "I") (List.mem_of_getElem? (i := 2) rfl)) (fun _ h9 => h9) rfl dX6_lifts_101 ?_
    refine lv_aload_n hx hb dX6_lifts_104 rfl (lv_at hl 0 rfl) ?_
    have hk := h.1
    replace h := h.2
    refine gg_get (ci := 6) (C := RX6) (T := TX6) (N := 32) hx hb hts (fun _ h => List.mem_cons_of_mem _ (List.mem_append_right _ (h))) hown hK hG (kc_7 hk) rfl 10 (by decide) (hts (.fieldLink RX6 89 "FourStonesModel" "lefts" "I") (List.mem_of_getElem? (i := 3) rfl)) (fun _ h9 => h9) rfl dX6_lifts_105 ?_
    refine lv_iadd hx hb dX6_lifts_108 ?_
    refine lv_topi (fun y1 ey1 => ?_)
    replace h := h y1 ey1
    refine lv_istore (lv' := [(4, .int y1), (0, .ref v0), (1, .int v1), (2, .int v2), (3, .int v3), (6, .int v6)]) hx hb dX6_lifts_109 hl (by decide) rfl (fun ls hl => ?_)
    refine lv_iload hx hb dX6_lifts_111 (lv_at hl 5 rfl) ?_
    refine lv_istore (lv' := [(5, .int v6), (4, .int y1), (0, .ref v0), (1, .int v1), (2, .int v2), (3, .int v3), (6, .int v6)]) hx hb dX6_lifts_113 hl (by decide) rfl (fun ls hl => ?_)
    exact j_115 _ hC56 v0 v1 v2 v3 y1 v6 v6 S ls _ _ (lv_sub hl [2, 3, 4, 5, 1, 0, 6] rfl) hG hS h
  have k_56 : ∀  (n : Nat), ∀ (v0 : Nat) (v1 : Int32) (v2 : Int32) (v3 : Int32) (v4 : Int32) (v5 : Int32) (v6 : Int32) (S : Hp) (ls : Array Slot) (H : Heap) (locs : List Loc), lv_has ls 7 [(0, .ref v0), (1, .int v1), (2, .int v2), (3, .int v3), (4, .int v4), (5, .int v5), (6, .int v6)] → GG D κ A S H → va_S A s.heap H locs → it (L_X6_lifts_56  Q) n (v0, v1, v2, v3, v4, v5, v6, S) → W p l e ({ frames := 4, cells := 0, slots := 0, locals := 192 } : Room) s m ([.ref a0, .int x1, .int x2, .int x3] : List Value).toArray below meth c H locs 0 0 (MQ below (va_Qi Q (BG D κ A) A) ([.ref a0, .int x1, .int x2, .int x3] : List Value).toArray s 0 0 A) (F0 m 56 ls []) := by
    intro  n
    induction n with
    | zero => intro v0 v1 v2 v3 v4 v5 v6 S ls H locs hl hG hS h; exact False.elim h
    | succ n hC56 =>
      intro v0 v1 v2 v3 v4 v5 v6 S ls H locs hl hG hS h
      replace h : L_X6_lifts_56  Q (it (L_X6_lifts_56  Q) n) (v0, v1, v2, v3, v4, v5, v6, S) := h
      simp only [L_X6_lifts_56] at h
      refine lv_iload hx hb dX6_lifts_56 (lv_at hl 6 rfl) ?_
      refine lv_aload_n hx hb dX6_lifts_58 rfl (lv_at hl 0 rfl) ?_
      have hk := h.1
      replace h := h.2
      refine gg_get (ci := 6) (C := RX6) (T := TX6) (N := 32) hx hb hts (fun _ h => List.mem_cons_of_mem _ (List.mem_append_right _ (h))) hown hK hG (kc_7 hk) rfl 0 (by decide) (hts (.fieldLink RX6 57 "FourStonesModel" "stones" "I") (List.mem_of_getElem? (i := 1) rfl)) (fun _ h9 => h9) rfl dX6_lifts_59 ?_
      refine gc_i (va_runS (As := [.int (gI S 70 v0)]) (rest := [.int v6]) ⟨hx, hb, hml, hown, hts⟩ (c_X6_power l D κ A S (gI S 70 v0) _ h) (va_cwS 1 hts gX6_lifts_X6_power rfl rfl rfl (by decide +kernel) ⟨Nat.le_of_ble_eq_true rfl, Nat.le_of_ble_eq_true rfl⟩) (pg_S hK hX hG (pg_A hA hS)) rfl rfl hl.1 rfl (lv_room (Nat.le_of_ble_eq_true rfl)) dX6_lifts_62 ⟨Nat.le_of_ble_eq_true rfl, Nat.le_of_ble_eq_true rfl⟩) hS (fun z3 S2 H locs1 h hG hS => ?_)
      refine lv_icmp_ge (tgt := 121) hx hb dX6_lifts_65 rfl (fun hc => ?_) (fun hc => ?_)
      · replace h := h.1 hc
        refine lv_iload_n hx hb dX6_lifts_121 rfl (lv_at hl 3 rfl) ?_
        refine lv_if_ne (tgt := 130) hx hb dX6_lifts_122 rfl (fun hc => ?_) (fun hc => ?_)
        · replace h := h.1 hc
          refine lv_iload hx hb dX6_lifts_130 (lv_at hl 5 rfl) ?_
          exact W.iret hx hb hr (gr_i h hG hK hX hS) hS.2.2 dX6_lifts_132
        · replace h := h.2 hc
          refine lv_iload hx hb dX6_lifts_125 (lv_at hl 4 rfl) ?_
          refine lv_goto (tgt := 132) hx hb dX6_lifts_127 rfl ?_
          exact W.iret hx hb hr (gr_i h hG hK hX hS) hS.2.2 dX6_lifts_132
      · replace h := h.2 hc
        refine lv_aload_n hx hb dX6_lifts_68 rfl (lv_at hl 0 rfl) ?_
        refine lv_iload_n hx hb dX6_lifts_69 rfl (lv_at hl 1 rfl) ?_
        refine lv_iload hx hb dX6_lifts_70 (lv_at hl 6 rfl) ?_
        refine lv_iload_n hx hb dX6_lifts_72 rfl (lv_at hl 2 rfl) ?_
        have hk := h.1
        replace h := h.2
        refine gc_i (va_runV (As := [.int v1, .int v6, .int v2]) (rest := []) ⟨hx, hb, hml, hown, hts⟩ (c_X6_isWeight l D κ A S2 v0 v1 v6 v2 _ h) (cwV 3 hts gX6_lifts_X6_isWeight rfl rfl rfl (by decide +kernel) ⟨Nat.le_of_ble_eq_true rfl, Nat.le_of_ble_eq_true rfl⟩) (pg_V (q := (RX6, TX6, 32)) hK hX hG (pg_A hA hS) (kc_7 hk) rfl) rfl rfl hl.1 rfl (lv_room (Nat.le_of_ble_eq_true rfl)) dX6_lifts_73 ⟨Nat.le_of_ble_eq_true rfl, Nat.le_of_ble_eq_true rfl⟩) hS (fun z6 S5 H locs4 h hG hS => ?_)
        refine lv_if_eq (tgt := 115) hx hb dX6_lifts_76 rfl (fun hc => ?_) (fun hc => ?_)
        · replace h := h.1 hc
          exact j_115 _ hC56 v0 v1 v2 v3 v4 v5 v6 S5 ls _ _ (lv_sub hl [0, 1, 2, 3, 4, 5, 6] rfl) hG hS h
        · replace h := h.2 hc
          refine lv_iload hx hb dX6_lifts_79 (lv_at hl 5 rfl) ?_
          refine lv_bipush (v := (-4 : Int32)) hx hb dX6_lifts_81 (by decide) ?_
          refine lv_icmp_eq (tgt := 100) hx hb dX6_lifts_83 rfl (fun hc => ?_) (fun hc => ?_)
          · replace h := h.1 hc
            exact j_100 _ hC56 v0 v1 v2 v3 v6 S5 ls _ _ (lv_sub hl [0, 1, 2, 3, 6] rfl) hG hS h
          · replace h := h.2 hc
            refine lv_aload_n hx hb dX6_lifts_86 rfl (lv_at hl 0 rfl) ?_
            have hk := h.1
            replace h := h.2
            refine gg_get (ci := 6) (C := RX6) (T := TX6) (N := 32) hx hb hts (fun _ h => List.mem_cons_of_mem _ (List.mem_append_right _ (h))) hown hK hG (kc_7 hk) rfl 9 (by decide) (hts (.fieldLink RX6 86 "FourStonesModel" "rights" "I") (List.mem_of_getElem? (i := 2) rfl)) (fun _ h9 => h9) rfl dX6_lifts_87 ?_
            refine lv_aload_n hx hb dX6_lifts_90 rfl (lv_at hl 0 rfl) ?_
            have hk := h.1
            replace h := h.2
            refine gg_get (ci := 6) (C := RX6) (T := TX6) (N := 32) hx hb hts (fun _ h => List.mem_cons_of_mem _ (List.mem_append_right _ (h))) hown hK hG (kc_7 hk) rfl 10 (by decide) (hts (.fieldLink RX6 89 "FourStonesModel" "lefts" "I") (List.mem_of_getElem? (i := 3) rfl)) (fun _ h9 => h9) rfl dX6_lifts_91 ?_
            refine lv_iadd hx hb dX6_lifts_94 ?_
            refine lv_iload hx hb dX6_lifts_95 (lv_at hl 4 rfl) ?_
            refine lv_icmp_ge (tgt := 115) hx hb dX6_lifts_97 rfl (fun hc => ?_) (fun hc => ?_)
            · replace h := h.1 hc
              exact j_115 _ hC56 v0 v1 v2 v3 v4 v5 v6 S5 ls _ _ (lv_sub hl [0, 1, 2, 3, 4, 5, 6] rfl) hG hS h
            · replace h := h.2 hc
              exact j_100 _ hC56 v0 v1 v2 v3 v6 S5 ls _ _ (lv_sub hl [0, 1, 2, 3, 6] rfl) hG hS h
  refine lv_iload_n hx hb dX6_lifts_0 rfl (lv_at hl 1 rfl) ?_
  refine gc_i (va_runS (As := [.int x1]) (rest := []) ⟨hx, hb, hml, hown, hts⟩ (c_X6_isShelf l D κ A S x1 _ h) (va_cwS 1 hts gX6_lifts_X6_isShelf rfl rfl rfl (by decide +kernel) ⟨Nat.le_of_ble_eq_true rfl, Nat.le_of_ble_eq_true rfl⟩) (pg_S hK hX hG (pg_A hA hS)) rfl rfl hl.1 rfl (lv_room (Nat.le_of_ble_eq_true rfl)) dX6_lifts_1 ⟨Nat.le_of_ble_eq_true rfl, Nat.le_of_ble_eq_true rfl⟩) hS (fun z3 S2 H locs1 h hG hS => ?_)
  refine lv_if_eq (tgt := 29) hx hb dX6_lifts_4 rfl (fun hc => ?_) (fun hc => ?_)
  · replace h := h.1 hc
    refine lv_iconst (v := (-1 : Int32)) hx hb dX6_lifts_29 (by decide) ?_
    exact W.iret hx hb hr (gr_i h hG hK hX hS) hS.2.2 dX6_lifts_30
  · replace h := h.2 hc
    refine lv_iload_n hx hb dX6_lifts_7 rfl (lv_at hl 2 rfl) ?_
    refine lv_sipush (v := (-9999 : Int32)) hx hb dX6_lifts_8 (by decide) ?_
    refine lv_sipush (v := (9999 : Int32)) hx hb dX6_lifts_11 (by decide) ?_
    refine gc_i (va_runS (As := [.int x2, .int (-9999 : Int32), .int (9999 : Int32)]) (rest := []) ⟨hx, hb, hml, hown, hts⟩ (c_X6_isIn l D κ A S2 x2 (-9999 : Int32) (9999 : Int32) _ h) (va_cwS 3 hts gX6_lifts_X6_isIn rfl rfl rfl (by decide +kernel) ⟨Nat.le_of_ble_eq_true rfl, Nat.le_of_ble_eq_true rfl⟩) (pg_S hK hX hG (pg_A hA hS)) rfl rfl hl.1 rfl (lv_room (Nat.le_of_ble_eq_true rfl)) dX6_lifts_14 ⟨Nat.le_of_ble_eq_true rfl, Nat.le_of_ble_eq_true rfl⟩) hS (fun z6 S5 H locs4 h hG hS => ?_)
    refine lv_if_eq (tgt := 29) hx hb dX6_lifts_17 rfl (fun hc => ?_) (fun hc => ?_)
    · replace h := h.1 hc
      refine lv_iconst (v := (-1 : Int32)) hx hb dX6_lifts_29 (by decide) ?_
      exact W.iret hx hb hr (gr_i h hG hK hX hS) hS.2.2 dX6_lifts_30
    · replace h := h.2 hc
      refine lv_iload_n hx hb dX6_lifts_20 rfl (lv_at hl 3 rfl) ?_
      refine lv_iconst (v := (0 : Int32)) hx hb dX6_lifts_21 (by decide) ?_
      refine lv_iconst (v := (1 : Int32)) hx hb dX6_lifts_22 (by decide) ?_
      refine gc_i (va_runS (As := [.int x3, .int (0 : Int32), .int (1 : Int32)]) (rest := []) ⟨hx, hb, hml, hown, hts⟩ (c_X6_isIn l D κ A S5 x3 (0 : Int32) (1 : Int32) _ h) (va_cwS 3 hts gX6_lifts_X6_isIn rfl rfl rfl (by decide +kernel) ⟨Nat.le_of_ble_eq_true rfl, Nat.le_of_ble_eq_true rfl⟩) (pg_S hK hX hG (pg_A hA hS)) rfl rfl hl.1 rfl (lv_room (Nat.le_of_ble_eq_true rfl)) dX6_lifts_23 ⟨Nat.le_of_ble_eq_true rfl, Nat.le_of_ble_eq_true rfl⟩) hS (fun z9 S8 H locs7 h hG hS => ?_)
      refine lv_if_ne (tgt := 31) hx hb dX6_lifts_26 rfl (fun hc => ?_) (fun hc => ?_)
      · replace h := h.1 hc
        refine lv_aload_n hx hb dX6_lifts_31 rfl (lv_at hl 0 rfl) ?_
        refine lv_iload_n hx hb dX6_lifts_32 rfl (lv_at hl 1 rfl) ?_
        have hk := h.1
        replace h := h.2
        refine gc_i (va_runV (As := [.int x1]) (rest := []) ⟨hx, hb, hml, hown, hts⟩ (c_X6_noScale l D κ A S8 a0 x1 _ h) (cwV 1 hts gX6_lifts_X6_noScale rfl rfl rfl (by decide +kernel) ⟨Nat.le_of_ble_eq_true rfl, Nat.le_of_ble_eq_true rfl⟩) (pg_V (q := (RX6, TX6, 32)) hK hX hG (pg_A hA hS) (kc_7 hk) rfl) rfl rfl hl.1 rfl (lv_room (Nat.le_of_ble_eq_true rfl)) dX6_lifts_33 ⟨Nat.le_of_ble_eq_true rfl, Nat.le_of_ble_eq_true rfl⟩) hS (fun z12 S11 H locs10 h hG hS => ?_)
        refine lv_if_eq (tgt := 45) hx hb dX6_lifts_36 rfl (fun hc => ?_) (fun hc => ?_)
        · replace h := h.1 hc
          refine lv_bipush (v := (-4 : Int32)) hx hb dX6_lifts_45 (by decide) ?_
          refine lv_istore (lv' := [(4, .int (-4 : Int32)), (0, .ref a0), (1, .int x1), (2, .int x2), (3, .int x3)]) hx hb dX6_lifts_47 hl (by decide) rfl (fun ls hl => ?_)
          refine lv_bipush (v := (-4 : Int32)) hx hb dX6_lifts_49 (by decide) ?_
          refine lv_istore (lv' := [(5, .int (-4 : Int32)), (4, .int (-4 : Int32)), (0, .ref a0), (1, .int x1), (2, .int x2), (3, .int x3)]) hx hb dX6_lifts_51 hl (by decide) rfl (fun ls hl => ?_)
          refine lv_iconst (v := (0 : Int32)) hx hb dX6_lifts_53 (by decide) ?_
          refine lv_istore (lv' := [(6, .int (0 : Int32)), (5, .int (-4 : Int32)), (4, .int (-4 : Int32)), (0, .ref a0), (1, .int x1), (2, .int x2), (3, .int x3)]) hx hb dX6_lifts_54 hl (by decide) rfl (fun ls hl => ?_)
          obtain ⟨nn, h⟩ := h
          exact k_56  nn a0 x1 x2 x3 (-4 : Int32) (-4 : Int32) (0 : Int32) S11 ls _ _ (lv_sub hl [3, 4, 5, 6, 2, 1, 0] rfl) hG hS h
        · replace h := h.2 hc
          refine lv_aload_n hx hb dX6_lifts_39 rfl (lv_at hl 0 rfl) ?_
          refine lv_iload_n hx hb dX6_lifts_40 rfl (lv_at hl 1 rfl) ?_
          have hk := h.1
          replace h := h.2
          refine gc_i (va_runV (As := [.int x1]) (rest := []) ⟨hx, hb, hml, hown, hts⟩ (c_X6_noScale l D κ A S11 a0 x1 _ h) (cwV 1 hts gX6_lifts_X6_noScale rfl rfl rfl (by decide +kernel) ⟨Nat.le_of_ble_eq_true rfl, Nat.le_of_ble_eq_true rfl⟩) (pg_V (q := (RX6, TX6, 32)) hK hX hG (pg_A hA hS) (kc_7 hk) rfl) rfl rfl hl.1 rfl (lv_room (Nat.le_of_ble_eq_true rfl)) dX6_lifts_41 ⟨Nat.le_of_ble_eq_true rfl, Nat.le_of_ble_eq_true rfl⟩) hS (fun z15 S14 H locs13 h hG hS => ?_)
          exact W.iret hx hb hr (gr_i h hG hK hX hS) hS.2.2 dX6_lifts_44
      · replace h := h.2 hc
        refine lv_iconst (v := (-1 : Int32)) hx hb dX6_lifts_29 (by decide) ?_
        exact W.iret hx hb hr (gr_i h hG hK hX hS) hS.2.2 dX6_lifts_30
set_option maxHeartbeats 4000000 in
set_option maxRecDepth 100000 in
theorem c_X6_have (l : Launch) (D : va_G) (κ : Nat → ClassId) (A : Nat → Prop) (S : Hp) (a0 : Nat) (x1 : Int32) (x2 : Int32) (Q : Hp → Prop) (h : wp_X6_have a0 x1 x2 S Q) : Met l yX6_have wsX6_have ({ frames := 3, cells := 0, slots := 0, locals := 144 } : Room) (PG D κ A S [.ref a0, .int x1, .int x2]) (va_Qv Q (BG D κ A) A) 0 0 A := by
  refine Met.ofW (cc := cX6_have) (maxL := 5) (ret := none) (by decide) rfl ?_
  intro p e s m args below meth c s₁ B hml hv
  obtain ⟨hargs, hA, hG, hK, hX⟩ := hv
  have hx := B.exec
  have hb := B.bytes
  have hr := B.returns
  have hts := atoms_spec (ws := wsX6_have) B.pre
  have hown : s.vm.findClass RX6 = some m.cls := findClass_of_methodNamed B.named
  have hlocks := B.notSynchronized
  subst hargs
  clear B
  have hS : va_S A s.heap s.heap [] := va_S.rf
  have hl := lv_entry ([.ref a0, .int x1, .int x2]) (n := 5) (Nat.le_of_ble_eq_true rfl)
  rw [lg_entry_eq]
  generalize (lg_sl ([.ref a0, .int x1, .int x2]) ++ List.replicate (5 - (lg_sl ([.ref a0, .int x1, .int x2])).length) Slot.unset).toArray = ls at hl ⊢
  have hl : lv_has ls 5 [(0, .ref a0), (1, .int x1), (2, .int x2)] := hl
  have hG : GG D κ A S s.heap := hG
  have j_109 : ∀ (C24 : Nat × Int32 × Int32 × Int32 × Hp → Prop) (hC24 : ∀ (v0 : Nat) (v1 : Int32) (v2 : Int32) (v3 : Int32) (S : Hp) (ls : Array Slot) (H : Heap) (locs : List Loc), lv_has ls 5 [(0, .ref v0), (1, .int v1), (2, .int v2), (3, .int v3)] → GG D κ A S H → va_S A s.heap H locs → C24 (v0, v1, v2, v3, S) → W p l e ({ frames := 3, cells := 0, slots := 0, locals := 144 } : Room) s m ([.ref a0, .int x1, .int x2] : List Value).toArray below meth c H locs 0 0 (MQ below (va_Qv Q (BG D κ A) A) ([.ref a0, .int x1, .int x2] : List Value).toArray s 0 0 A) (F0 m 24 ls [])) (v0 : Nat) (v1 : Int32) (v2 : Int32) (v3 : Int32) (S : Hp) (ls : Array Slot) (H : Heap) (locs : List Loc), lv_has ls 5 [(0, .ref v0), (1, .int v1), (2, .int v2), (3, .int v3)] → GG D κ A S H → va_S A s.heap H locs → J_X6_have_109 C24 Q v0 v1 v2 v3 S → W p l e ({ frames := 3, cells := 0, slots := 0, locals := 144 } : Room) s m ([.ref a0, .int x1, .int x2] : List Value).toArray below meth c H locs 0 0 (MQ below (va_Qv Q (BG D κ A) A) ([.ref a0, .int x1, .int x2] : List Value).toArray s 0 0 A) (F0 m 109 ls []) := by
    intro C24 hC24 v0 v1 v2 v3 S ls H locs hl hG hS h
    unfold J_X6_have_109 at h
    obtain ⟨y1, ey1⟩ : ∃ z, z = v3 + (1 : Int32) := ⟨_, rfl⟩
    replace h := h y1 ey1
    refine lv_iinc (v := y1) (lv' := [(3, .int y1), (0, .ref v0), (1, .int v1), (2, .int v2)]) hx hb dX6_have_109 hl (k := 3) rfl (by rw [ey1]; rfl) (by decide) rfl (fun ls hl => ?_)
    refine lv_goto (tgt := 24) hx hb dX6_have_112 rfl ?_
    exact hC24 v0 v1 v2 y1 S ls _ _ (lv_sub hl [1, 2, 3, 0] rfl) hG hS h
  have k_24 : ∀  (n : Nat), ∀ (v0 : Nat) (v1 : Int32) (v2 : Int32) (v3 : Int32) (S : Hp) (ls : Array Slot) (H : Heap) (locs : List Loc), lv_has ls 5 [(0, .ref v0), (1, .int v1), (2, .int v2), (3, .int v3)] → GG D κ A S H → va_S A s.heap H locs → it (L_X6_have_24  Q) n (v0, v1, v2, v3, S) → W p l e ({ frames := 3, cells := 0, slots := 0, locals := 144 } : Room) s m ([.ref a0, .int x1, .int x2] : List Value).toArray below meth c H locs 0 0 (MQ below (va_Qv Q (BG D κ A) A) ([.ref a0, .int x1, .int x2] : List Value).toArray s 0 0 A) (F0 m 24 ls []) := by
    intro  n
    induction n with
    | zero => intro v0 v1 v2 v3 S ls H locs hl hG hS h; exact False.elim h
    | succ n hC24 =>
      intro v0 v1 v2 v3 S ls H locs hl hG hS h
      replace h : L_X6_have_24  Q (it (L_X6_have_24  Q) n) (v0, v1, v2, v3, S) := h
      simp only [L_X6_have_24] at h
      refine lv_iload_n hx hb dX6_have_24 rfl (lv_at hl 3 rfl) ?_
      refine lv_aload_n hx hb dX6_have_25 rfl (lv_at hl 0 rfl) ?_
      have hk := h.1
      replace h := h.2
      refine gg_get (ci := 6) (C := RX6) (T := TX6) (N := 32) hx hb hts (fun _ h => List.mem_cons_of_mem _ (List.mem_append_right _ (h))) hown hK hG (kc_7 hk) rfl 0 (by decide) (hts (.fieldLink RX6 57 "FourStonesModel" "stones" "I") (List.mem_of_getElem? (i := 2) rfl)) (fun _ h9 => h9) rfl dX6_have_26 ?_
      refine gc_i (va_runS (As := [.int (gI S 70 v0)]) (rest := [.int v3]) ⟨hx, hb, hml, hown, hts⟩ (c_X6_power l D κ A S (gI S 70 v0) _ h) (va_cwS 1 hts gX6_have_X6_power rfl rfl rfl (by decide +kernel) ⟨Nat.le_of_ble_eq_true rfl, Nat.le_of_ble_eq_true rfl⟩) (pg_S hK hX hG (pg_A hA hS)) rfl rfl hl.1 rfl (lv_room (Nat.le_of_ble_eq_true rfl)) dX6_have_29 ⟨Nat.le_of_ble_eq_true rfl, Nat.le_of_ble_eq_true rfl⟩) hS (fun z3 S2 H locs1 h hG hS => ?_)
      refine lv_icmp_ge (tgt := 115) hx hb dX6_have_32 rfl (fun hc => ?_) (fun hc => ?_)
      · replace h := h.1 hc
        exact W.vret hx hb hr (gr_v h hG hK hX hS) hS.2.2 dX6_have_115
      · replace h := h.2 hc
        refine lv_aload_n hx hb dX6_have_35 rfl (lv_at hl 0 rfl) ?_
        refine lv_iload_n hx hb dX6_have_36 rfl (lv_at hl 3 rfl) ?_
        have hk := h.1
        replace h := h.2
        refine gc_v (va_runV (As := [.int v3]) (rest := []) ⟨hx, hb, hml, hown, hts⟩ (c_X6_look l D κ A S2 v0 v3 _ h) (cwV 1 hts gX6_have_X6_look rfl rfl rfl (by decide +kernel) ⟨Nat.le_of_ble_eq_true rfl, Nat.le_of_ble_eq_true rfl⟩) (pg_V (q := (RX6, TX6, 32)) hK hX hG (pg_A hA hS) (kc_7 hk) rfl) rfl rfl hl.1 rfl (lv_room (Nat.le_of_ble_eq_true rfl)) dX6_have_37 ⟨Nat.le_of_ble_eq_true rfl, Nat.le_of_ble_eq_true rfl⟩) hS (fun S5 H locs4 h hG hS => ?_)
        refine lv_aload_n hx hb dX6_have_40 rfl (lv_at hl 0 rfl) ?_
        have hk := h.1
        replace h := h.2
        obtain ⟨r6, hr6, h⟩ := h
        refine gg_get (v := .ref r6) (ci := 6) (C := RX6) (T := TX6) (N := 32) hx hb hts (fun _ h => List.mem_cons_of_mem _ (List.mem_append_right _ (h))) hown hK hG (kc_7 hk) rfl 25 (by decide) (hts (.fieldLink RX6 35 "FourStonesModel" "kindOf" "[I") (List.mem_of_getElem? (i := 3) rfl)) (fun _ h9 => h9) (congrArg (fun z => some (va_rf z)) hr6) dX6_have_41 ?_
        refine lv_iload_n hx hb dX6_have_44 rfl (lv_at hl 1 rfl) ?_
        have hk := h.1
        replace h := h.2
        have hi := h.1
        replace h := h.2
        refine gg_iald hx hb hK hG hk hi dX6_have_45 ?_
        refine lv_aload_n hx hb dX6_have_46 rfl (lv_at hl 0 rfl) ?_
        have hk := h.1
        replace h := h.2
        obtain ⟨r7, hr7, h⟩ := h
        refine gg_get (v := .ref r7) (ci := 6) (C := RX6) (T := TX6) (N := 32) hx hb hts (fun _ h => List.mem_cons_of_mem _ (List.mem_append_right _ (h))) hown hK hG (kc_7 hk) rfl 26 (by decide) (hts (.fieldLink RX6 38 "FourStonesModel" "figureOf" "[I") (List.mem_of_getElem? (i := 4) rfl)) (fun _ h9 => h9) (congrArg (fun z => some (va_rf z)) hr7) dX6_have_47 ?_
        refine lv_iload_n hx hb dX6_have_50 rfl (lv_at hl 1 rfl) ?_
        have hk := h.1
        replace h := h.2
        have hi := h.1
        replace h := h.2
        refine gg_iald hx hb hK hG hk hi dX6_have_51 ?_
        refine lv_aload_n hx hb dX6_have_52 rfl (lv_at hl 0 rfl) ?_
        have hk := h.1
        replace h := h.2
        refine gg_get (ci := 6) (C := RX6) (T := TX6) (N := 32) hx hb hts (fun _ h => List.mem_cons_of_mem _ (List.mem_append_right _ (h))) hown hK hG (kc_7 hk) rfl 7 (by decide) (hts (.fieldLink RX6 80 "FourStonesModel" "right" "I") (List.mem_of_getElem? (i := 5) rfl)) (fun _ h9 => h9) rfl dX6_have_53 ?_
        refine lv_aload_n hx hb dX6_have_56 rfl (lv_at hl 0 rfl) ?_
        have hk := h.1
        replace h := h.2
        refine gg_get (ci := 6) (C := RX6) (T := TX6) (N := 32) hx hb hts (fun _ h => List.mem_cons_of_mem _ (List.mem_append_right _ (h))) hown hK hG (kc_7 hk) rfl 8 (by decide) (hts (.fieldLink RX6 83 "FourStonesModel" "left" "I") (List.mem_of_getElem? (i := 6) rfl)) (fun _ h9 => h9) rfl dX6_have_57 ?_
        refine gc_i (va_runS (As := [.int (gA S5 r6 (v1).toNatClampNeg), .int (gA S5 r7 (v1).toNatClampNeg), .int (gI S5 77 v0), .int (gI S5 78 v0)]) (rest := []) ⟨hx, hb, hml, hown, hts⟩ (c_X6_readBy l D κ A S5 (gA S5 r6 (v1).toNatClampNeg) (gA S5 r7 (v1).toNatClampNeg) (gI S5 77 v0) (gI S5 78 v0) _ h) (va_cwS 4 hts gX6_have_X6_readBy rfl rfl rfl (by decide +kernel) ⟨Nat.le_of_ble_eq_true rfl, Nat.le_of_ble_eq_true rfl⟩) (pg_S hK hX hG (pg_A hA hS)) rfl rfl hl.1 rfl (lv_room (Nat.le_of_ble_eq_true rfl)) dX6_have_60 ⟨Nat.le_of_ble_eq_true rfl, Nat.le_of_ble_eq_true rfl⟩) hS (fun z10 S9 H locs8 h hG hS => ?_)
        refine lv_istore (lv' := [(4, .int z10), (0, .ref v0), (1, .int v1), (2, .int v2), (3, .int v3)]) hx hb dX6_have_63 hl (by decide) rfl (fun ls hl => ?_)
        refine lv_aload_n hx hb dX6_have_65 rfl (lv_at hl 1 rfl) ?_
        refine lv_aload_n hx hb dX6_have_66 rfl (lv_at hl 1 rfl) ?_
        have hk := h.1
        replace h := h.2
        obtain ⟨r11, hr11, h⟩ := h
        refine gg_get (v := .ref r11) (ci := 6) (C := RX6) (T := TX6) (N := 32) hx hb hts (fun _ h => List.mem_cons_of_mem _ (List.mem_append_right _ (h))) hown hK hG (kc_7 hk) rfl 25 (by decide) (hts (.fieldLink RX6 35 "FourStonesModel" "kindOf" "[I") (List.mem_of_getElem? (i := 3) rfl)) (fun _ h9 => h9) (congrArg (fun z => some (va_rf z)) hr11) dX6_have_67 ?_
        refine lv_iload_n hx hb dX6_have_70 rfl (lv_at hl 2 rfl) ?_
        have hk := h.1
        replace h := h.2
        have hi := h.1
        replace h := h.2
        refine gg_iald hx hb hK hG hk hi dX6_have_71 ?_
        have hk := h.1
        replace h := h.2
        refine gc_i (va_runV (As := [.int (gA S9 r11 (v1).toNatClampNeg)]) (rest := []) ⟨hx, hb, hml, hown, hts⟩ (c_X6_mayBe l D κ A S9 v0 (gA S9 r11 (v1).toNatClampNeg) _ h) (cwV 1 hts gX6_have_X6_mayBe rfl rfl rfl (by decide +kernel) ⟨Nat.le_of_ble_eq_true rfl, Nat.le_of_ble_eq_true rfl⟩) (pg_V (q := (RX6, TX6, 32)) hK hX hG (pg_A hA hS) (kc_7 hk) rfl) rfl rfl hl.1 rfl (lv_room (Nat.le_of_ble_eq_true rfl)) dX6_have_72 ⟨Nat.le_of_ble_eq_true rfl, Nat.le_of_ble_eq_true rfl⟩) hS (fun z14 S13 H locs12 h hG hS => ?_)
        refine lv_if_eq (tgt := 109) hx hb dX6_have_75 rfl (fun hc => ?_) (fun hc => ?_)
        · replace h := h.1 hc
          exact j_109 _ hC24 v0 v1 v2 v3 S13 ls _ _ (lv_sub hl [1, 2, 3, 4] rfl) hG hS h
        · replace h := h.2 hc
          refine lv_aload_n hx hb dX6_have_78 rfl (lv_at hl 1 rfl) ?_
          have hk := h.1
          replace h := h.2
          refine gg_get (ci := 6) (C := RX6) (T := TX6) (N := 32) hx hb hts (fun _ h => List.mem_cons_of_mem _ (List.mem_append_right _ (h))) hown hK hG (kc_7 hk) rfl 12 (by decide) (hts (.fieldLink RX6 95 "FourStonesModel" "used" "I") (List.mem_of_getElem? (i := 7) rfl)) (fun _ h9 => h9) rfl dX6_have_79 ?_
          refine lv_iload_n hx hb dX6_have_82 rfl (lv_at hl 3 rfl) ?_
          refine lv_iconst (v := (-1 : Int32)) hx hb dX6_have_83 (by decide) ?_
          refine lv_ixor hx hb dX6_have_84 ?_
          refine lv_iand hx hb dX6_have_85 ?_
          refine lv_if_ne (tgt := 109) hx hb dX6_have_86 rfl (fun hc => ?_) (fun hc => ?_)
          · replace h := h.1 hc
            exact j_109 _ hC24 v0 v1 v2 v3 S13 ls _ _ (lv_sub hl [1, 2, 3, 4] rfl) hG hS h
          · replace h := h.2 hc
            refine lv_iload hx hb dX6_have_89 (lv_at hl 0 rfl) ?_
            refine lv_iconst (v := (1 : Int32)) hx hb dX6_have_91 (by decide) ?_
            refine lv_sipush (v := (999 : Int32)) hx hb dX6_have_92 (by decide) ?_
            refine gc_i (va_runS (As := [.int z10, .int (1 : Int32), .int (999 : Int32)]) (rest := []) ⟨hx, hb, hml, hown, hts⟩ (c_X6_isIn l D κ A S13 z10 (1 : Int32) (999 : Int32) _ h) (va_cwS 3 hts gX6_have_X6_isIn rfl rfl rfl (by decide +kernel) ⟨Nat.le_of_ble_eq_true rfl, Nat.le_of_ble_eq_true rfl⟩) (pg_S hK hX hG (pg_A hA hS)) rfl rfl hl.1 rfl (lv_room (Nat.le_of_ble_eq_true rfl)) dX6_have_95 ⟨Nat.le_of_ble_eq_true rfl, Nat.le_of_ble_eq_true rfl⟩) hS (fun z17 S16 H locs15 h hG hS => ?_)
            refine lv_if_eq (tgt := 109) hx hb dX6_have_98 rfl (fun hc => ?_) (fun hc => ?_)
            · replace h := h.1 hc
              exact j_109 _ hC24 v0 v1 v2 v3 S16 ls _ _ (lv_sub hl [1, 2, 3, 4] rfl) hG hS h
            · replace h := h.2 hc
              refine lv_aload_n hx hb dX6_have_101 rfl (lv_at hl 1 rfl) ?_
              have hk := h.1
              replace h := h.2
              obtain ⟨r18, hr18, h⟩ := h
              refine gg_get (v := .ref r18) (ci := 6) (C := RX6) (T := TX6) (N := 32) hx hb hts (fun _ h => List.mem_cons_of_mem _ (List.mem_append_right _ (h))) hown hK hG (kc_7 hk) rfl 13 (by decide) (hts (.fieldLink RX6 22 "FourStonesModel" "had" "[Z") (List.mem_of_getElem? (i := 1) rfl)) (fun _ h9 => h9) (congrArg (fun z => some (va_rf z)) hr18) dX6_have_102 ?_
              refine lv_iload hx hb dX6_have_105 (lv_at hl 0 rfl) ?_
              refine lv_iconst (v := (1 : Int32)) hx hb dX6_have_107 (by decide) ?_
              have hk := h.1
              replace h := h.2
              have hi := h.1
              replace h := h.2
              obtain ⟨S19, eS19⟩ : ∃ z, z = sA S16 r18 (z10).toNatClampNeg (vp_nar .boolean (1 : Int32)) := ⟨_, rfl⟩
              replace h := h S19 eS19
              refine gg_zast hx hb hK hG hS hk hi dX6_have_108 (fun H locs20 hG hS => ?_)
              rw [← eS19] at hG
              exact j_109 _ hC24 v0 v1 v2 v3 S19 ls _ _ (lv_sub hl [1, 2, 3, 4] rfl) hG hS h
  have k_2 : ∀  (n : Nat), ∀ (v0 : Nat) (v1 : Int32) (v2 : Int32) (v3 : Int32) (S : Hp) (ls : Array Slot) (H : Heap) (locs : List Loc), lv_has ls 5 [(0, .ref v0), (1, .int v1), (2, .int v2), (3, .int v3)] → GG D κ A S H → va_S A s.heap H locs → it (L_X6_have_2  Q) n (v0, v1, v2, v3, S) → W p l e ({ frames := 3, cells := 0, slots := 0, locals := 144 } : Room) s m ([.ref a0, .int x1, .int x2] : List Value).toArray below meth c H locs 0 0 (MQ below (va_Qv Q (BG D κ A) A) ([.ref a0, .int x1, .int x2] : List Value).toArray s 0 0 A) (F0 m 2 ls []) := by
    intro  n
    induction n with
    | zero => intro v0 v1 v2 v3 S ls H locs hl hG hS h; exact False.elim h
    | succ n hC2 =>
      intro v0 v1 v2 v3 S ls H locs hl hG hS h
      replace h : L_X6_have_2  Q (it (L_X6_have_2  Q) n) (v0, v1, v2, v3, S) := h
      simp only [L_X6_have_2] at h
      refine lv_iload_n hx hb dX6_have_2 rfl (lv_at hl 3 rfl) ?_
      refine lv_sipush (v := (1000 : Int32)) hx hb dX6_have_3 (by decide) ?_
      refine lv_icmp_gt (tgt := 22) hx hb dX6_have_6 rfl (fun hc => ?_) (fun hc => ?_)
      · replace h := h.1 hc
        refine lv_iconst (v := (0 : Int32)) hx hb dX6_have_22 (by decide) ?_
        refine lv_istore_n (lv' := [(3, .int (0 : Int32)), (0, .ref v0), (1, .int v1), (2, .int v2)]) hx hb dX6_have_23 rfl hl (by decide) rfl (fun ls hl => ?_)
        obtain ⟨nn, h⟩ := h
        exact k_24  nn v0 v1 v2 (0 : Int32) S ls _ _ (lv_sub hl [1, 2, 3, 0] rfl) hG hS h
      · replace h := h.2 hc
        refine lv_aload_n hx hb dX6_have_9 rfl (lv_at hl 0 rfl) ?_
        have hk := h.1
        replace h := h.2
        obtain ⟨r1, hr1, h⟩ := h
        refine gg_get (v := .ref r1) (ci := 6) (C := RX6) (T := TX6) (N := 32) hx hb hts (fun _ h => List.mem_cons_of_mem _ (List.mem_append_right _ (h))) hown hK hG (kc_7 hk) rfl 13 (by decide) (hts (.fieldLink RX6 22 "FourStonesModel" "had" "[Z") (List.mem_of_getElem? (i := 1) rfl)) (fun _ h9 => h9) (congrArg (fun z => some (va_rf z)) hr1) dX6_have_10 ?_
        refine lv_iload_n hx hb dX6_have_13 rfl (lv_at hl 3 rfl) ?_
        refine lv_iconst (v := (0 : Int32)) hx hb dX6_have_14 (by decide) ?_
        have hk := h.1
        replace h := h.2
        have hi := h.1
        replace h := h.2
        obtain ⟨S2, eS2⟩ : ∃ z, z = sA S r1 (v3).toNatClampNeg (vp_nar .boolean (0 : Int32)) := ⟨_, rfl⟩
        replace h := h S2 eS2
        refine gg_zast hx hb hK hG hS hk hi dX6_have_15 (fun H locs3 hG hS => ?_)
        rw [← eS2] at hG
        obtain ⟨y4, ey4⟩ : ∃ z, z = v3 + (1 : Int32) := ⟨_, rfl⟩
        replace h := h y4 ey4
        refine lv_iinc (v := y4) (lv' := [(3, .int y4), (0, .ref v0), (1, .int v1), (2, .int v2)]) hx hb dX6_have_16 hl (k := 3) rfl (by rw [ey4]; rfl) (by decide) rfl (fun ls hl => ?_)
        refine lv_goto (tgt := 2) hx hb dX6_have_19 rfl ?_
        exact hC2 v0 v1 v2 y4 S2 ls _ _ (lv_sub hl [1, 2, 3, 0] rfl) hG hS h
  refine lv_iconst (v := (0 : Int32)) hx hb dX6_have_0 (by decide) ?_
  refine lv_istore_n (lv' := [(3, .int (0 : Int32)), (0, .ref a0), (1, .int x1), (2, .int x2)]) hx hb dX6_have_1 rfl hl (by decide) rfl (fun ls hl => ?_)
  obtain ⟨nn, h⟩ := h
  exact k_2  nn a0 x1 x2 (0 : Int32) S ls _ _ (lv_sub hl [1, 2, 3, 0] rfl) hG hS h
set_option maxHeartbeats 4000000 in
set_option maxRecDepth 100000 in
theorem c_X6_reached (l : Launch) (D : va_G) (κ : Nat → ClassId) (A : Nat → Prop) (S : Hp) (a0 : Nat) (Q : Int32 → Hp → Prop) (h : wp_X6_reached a0 S Q) : Met l yX6_reached wsX6_reached ({ frames := 1, cells := 0, slots := 0, locals := 48 } : Room) (PG D κ A S [.ref a0]) (va_Qi Q (BG D κ A) A) 0 0 A := by
  refine Met.ofW (cc := cX6_reached) (maxL := 2) (ret := (some .int)) (by decide) rfl ?_
  intro p e s m args below meth c s₁ B hml hv
  obtain ⟨hargs, hA, hG, hK, hX⟩ := hv
  have hx := B.exec
  have hb := B.bytes
  have hr := B.returns
  have hts := atoms_spec (ws := wsX6_reached) B.pre
  have hown : s.vm.findClass RX6 = some m.cls := findClass_of_methodNamed B.named
  have hlocks := B.notSynchronized
  subst hargs
  clear B
  have hS : va_S A s.heap s.heap [] := va_S.rf
  have hl := lv_entry ([.ref a0]) (n := 2) (Nat.le_of_ble_eq_true rfl)
  rw [lg_entry_eq]
  generalize (lg_sl ([.ref a0]) ++ List.replicate (2 - (lg_sl ([.ref a0])).length) Slot.unset).toArray = ls at hl ⊢
  have hl : lv_has ls 2 [(0, .ref a0)] := hl
  have hG : GG D κ A S s.heap := hG
  have k_2 : ∀  (n : Nat), ∀ (v0 : Nat) (v1 : Int32) (S : Hp) (ls : Array Slot) (H : Heap) (locs : List Loc), lv_has ls 2 [(0, .ref v0), (1, .int v1)] → GG D κ A S H → va_S A s.heap H locs → it (L_X6_reached_2  Q) n (v0, v1, S) → W p l e ({ frames := 1, cells := 0, slots := 0, locals := 48 } : Room) s m ([.ref a0] : List Value).toArray below meth c H locs 0 0 (MQ below (va_Qi Q (BG D κ A) A) ([.ref a0] : List Value).toArray s 0 0 A) (F0 m 2 ls []) := by
    intro  n
    induction n with
    | zero => intro v0 v1 S ls H locs hl hG hS h; exact False.elim h
    | succ n hC2 =>
      intro v0 v1 S ls H locs hl hG hS h
      replace h : L_X6_reached_2  Q (it (L_X6_reached_2  Q) n) (v0, v1, S) := h
      simp only [L_X6_reached_2] at h
      refine lv_aload_n hx hb dX6_reached_2 rfl (lv_at hl 0 rfl) ?_
      have hk := h.1
      replace h := h.2
      obtain ⟨r1, hr1, h⟩ := h
      refine gg_get (v := .ref r1) (ci := 6) (C := RX6) (T := TX6) (N := 32) hx hb hts (fun _ h => List.mem_cons_of_mem _ (List.mem_append_right _ (h))) hown hK hG (kc_7 hk) rfl 13 (by decide) (hts (.fieldLink RX6 22 "FourStonesModel" "had" "[Z") (List.mem_of_getElem? (i := 1) rfl)) (fun _ h9 => h9) (congrArg (fun z => some (va_rf z)) hr1) dX6_reached_3 ?_
      refine lv_iload_n hx hb dX6_reached_6 rfl (lv_at hl 1 rfl) ?_
      refine lv_iconst (v := (1 : Int32)) hx hb dX6_reached_7 (by decide) ?_
      refine lv_iadd hx hb dX6_reached_8 ?_
      have hk := h.1
      replace h := h.2
      have hi := h.1
      replace h := h.2
      refine gg_zald hx hb hK hG hk hi dX6_reached_9 ?_
      refine lv_if_eq (tgt := 19) hx hb dX6_reached_10 rfl (fun hc => ?_) (fun hc => ?_)
      · replace h := h.1 hc
        refine lv_iload_n hx hb dX6_reached_19 rfl (lv_at hl 1 rfl) ?_
        exact W.iret hx hb hr (gr_i h hG hK hX hS) hS.2.2 dX6_reached_20
      · replace h := h.2 hc
        obtain ⟨y2, ey2⟩ : ∃ z, z = v1 + (1 : Int32) := ⟨_, rfl⟩
        replace h := h y2 ey2
        refine lv_iinc (v := y2) (lv' := [(1, .int y2), (0, .ref v0)]) hx hb dX6_reached_13 hl (k := 1) rfl (by rw [ey2]; rfl) (by decide) rfl (fun ls hl => ?_)
        refine lv_goto (tgt := 2) hx hb dX6_reached_16 rfl ?_
        exact hC2 v0 y2 S ls _ _ (lv_sub hl [1, 0] rfl) hG hS h
  refine lv_iconst (v := (0 : Int32)) hx hb dX6_reached_0 (by decide) ?_
  refine lv_istore_n (lv' := [(1, .int (0 : Int32)), (0, .ref a0)]) hx hb dX6_reached_1 rfl hl (by decide) rfl (fun ls hl => ?_)
  obtain ⟨nn, h⟩ := h
  exact k_2  nn a0 (0 : Int32) S ls _ _ (lv_sub hl [1, 0] rfl) hG hS h
