/-! methods that throw: what a throw asks of the state, and the contracts -/
abbrev nUOE : String := "java/lang/UnsupportedOperationException"
abbrev nIAE : String := "java/lang/IllegalArgumentException"
abbrev nISE : String := "java/lang/IllegalStateException"
abbrev nRTE : String := "java/lang/RuntimeException"
abbrev nEXC : String := "java/lang/Exception"
def xD (y : MethodName) (U : State) : Prop := (Cond.declares y).before #[] U = true
theorem xD.use {A : Array Value} {y : MethodName} {U : State} (h : xD y U) : (Cond.declares y).before A U = true := va_any rfl h
theorem xD.of {A : Array Value} {y : MethodName} {U : State} (h : (Cond.declares y).before A U = true) : xD y U := va_any rfl h
theorem xD.moved {y : MethodName} {u U : State} (hvm : u.vm.Alike U.vm) (h : xD y u) : xD y U := by
  have h1 : (Cond.declares y).before #[] (u.setVm U.vm) = true := by
    rw [Cond.declares_setVm hvm]
    exact h
  have e := Cond.onTables_vm (A := #[]) (A' := #[]) (U := u) (U' := U) U.vm (Cond.declares y) rfl
  have hU : U.setVm U.vm = U := rfl
  rw [hU] at e
  unfold xD
  rw [← e]
  exact h1
def xC (C T : String) (U : State) : Prop := (Cond.castable C T).before #[] U = true
theorem xC.use {A : Array Value} {C T : String} {U : State} (h : xC C T U) : (Cond.castable C T).before A U = true := va_any rfl h
theorem xC.of {A : Array Value} {C T : String} {U : State} (h : (Cond.castable C T).before A U = true) : xC C T U := va_any rfl h
theorem xC.moved {C T : String} {u U : State} (hvm : u.vm.Alike U.vm) (h : xC C T u) : xC C T U := by
  have h1 : (Cond.castable C T).before #[] (u.setVm U.vm) = true := by
    rw [Cond.castable_setVm hvm]
    exact h
  have e := Cond.onTables_vm (A := #[]) (A' := #[]) (U := u) (U' := U) U.vm (Cond.castable C T) rfl
  have hU : U.setVm U.vm = U := rfl
  rw [hU] at e
  unfold xC
  rw [← e]
  exact h1
abbrev yI (X : String) : MethodName := ⟨X, "<init>", "()V"⟩
abbrev yS (X : String) : MethodName := ⟨X, "<init>", "(Ljava/lang/String;)V"⟩
def EN (U : State) : Prop := (va_Nc nIAE nUOE U ∧ va_Nc nISE nUOE U ∧ va_Nc nISE nIAE U) ∧ (xC nUOE nUOE U ∧ xC nIAE nIAE U ∧ xC nISE nISE U) ∧ (xD (yI nRTE) U ∧ xD (yI nEXC) U ∧ xD (yI Bundle.tN) U) ∧ (xD (yS nRTE) U ∧ xD (yS nEXC) U ∧ xD (yS Bundle.tN) U) ∧ (∃ sa, vk_R RX5 235 "no such shelf" sa U) ∧ ∃ sa, vk_R RX5 242 "no row, or no such place" sa U
def EV (A : Nat → Prop) (U : State) : Prop := (vx_Zq Bundle.tN "UNASSIGNED_STACK" Bundle.steD A U U.heap ∧ vx_Zq Bundle.tN "SUPPRESSED_SENTINEL" Bundle.listD A U U.heap) ∧ EN U
theorem EN.mv {u U : State} (hvm : u.vm.Alike U.vm) (hk : ∀ k tx sa, vk_R RX5 k tx sa u → vk_R RX5 k tx sa U) (h : EN u) : EN U := by
  obtain ⟨⟨a1, a2, a3⟩, ⟨b1, b2, b3⟩, ⟨c1, c2, c3⟩, ⟨d1, d2, d3⟩, ⟨s1, e1⟩, s2, e2⟩ := h
  exact ⟨⟨a1.moved hvm, a2.moved hvm, a3.moved hvm⟩, ⟨b1.moved hvm, b2.moved hvm, b3.moved hvm⟩, ⟨c1.moved hvm, c2.moved hvm, c3.moved hvm⟩, ⟨d1.moved hvm, d2.moved hvm, d3.moved hvm⟩, ⟨s1, hk _ _ _ e1⟩, s2, hk _ _ _ e2⟩
theorem EN.warm {s U : State} (hW : s.WarmedH U.vm) (h : EN s) : EN U := h.mv hW.alike (fun _ _ _ z => vk_R.warm hW z)
theorem EN.same {u U : State} (e : u.vm = U.vm) (h : EN u) : EN U := h.mv (by rw [e]; exact Vm.Alike.refl _) (fun _ _ _ z => vk_R.same e.symm z)
theorem EV.at' {A : Nat → Prop} {s : State} {H : Heap} {locs : List Loc} (h : EV A s) (hS : va_S A s.heap H locs) {U : State} (hU : U.heap = H) (hW : s.WarmedH U.vm) : EV A U :=
  ⟨⟨by rw [hU]; exact vx_Zq.moved hW.alike (h.1.1.kept hS.2.1), by rw [hU]; exact vx_Zq.moved hW.alike (h.1.2.kept hS.2.1)⟩, EN.warm hW h.2⟩
theorem EV.narrow {A B : Nat → Prop} {U : State} (h : EV A U) (hAB : ∀ q, B q → A q) : EV B U := ⟨⟨h.1.1.narrow hAB, h.1.2.narrow hAB⟩, h.2⟩
/-- a contract's start, where it may throw -/
def PE (D : va_G) (κ : Nat → ClassId) (A : Nat → Prop) (S : Hp) (av : List Value) : Array Value → State → Prop := va_Pc av (fun U => ((∀ q, U.heap.size ≤ q → A q) ∧ BG D κ A S U) ∧ EV A U)
theorem pe_blind {D : va_G} {κ : Nat → ClassId} {A : Nat → Prop} {S : Hp} {av : List Value} : FrameBlind (PE D κ A S av) := fun a U g mk q => by
  obtain ⟨q0, ⟨q1, q2, q3, q4⟩, ⟨z1, z2⟩, z3⟩ := q
  exact ⟨q0, ⟨q1, q2, KK.moved (u := U) (U := U.calling g mk a) (Vm.Alike.refl U.vm) q3, XX.same (u := U) (U := U.calling g mk a) rfl q4⟩, ⟨vx_Zq.moved (u := U) (U := U.calling g mk a) (Vm.Alike.refl U.vm) z1, vx_Zq.moved (u := U) (U := U.calling g mk a) (Vm.Alike.refl U.vm) z2⟩, EN.same (u := U) (U := U.calling g mk a) rfl z3⟩
theorem pe_V {D : va_G} {κ : Nat → ClassId} {A : Nat → Prop} {S : Hp} {s : State} {H : Heap} {As : List Value} {b ci : Nat} {fs : List Value} {q : vw_C} (hK : KK D κ s) (hX : XX s) (hG : GG D κ A S H) (hA : ∀ q, H.size ≤ q → A q) (hE : ∀ U : State, U.heap = H → s.WarmedH U.vm → EV A U) (he : cO κ S b = some (.inr (ci, fs))) (hc : vwCl[ci]? = some q) : PreV s H q.1 b (PE D κ A S (.ref b :: As)) As :=
  ⟨pe_blind, va_recv hK (hG.P he) hc rfl (q0 := 0), fun U hU hW => ⟨rfl, ⟨by rw [hU]; exact hA, by rw [hU]; exact hG, KK.moved hW.alike hK, XX.warm hW hX⟩, hE U hU hW⟩⟩
abbrev XE (D : va_G) (κ : Nat → ClassId) (A : Nat → Prop) (X : String → Hp → Prop) : String → State → State → Prop := vx_X (fun _ : Hp => True) (fun E u t => GG D κ A u t.heap ∧ X E u) A
theorem GG.kept {D : va_G} {κ : Nat → ClassId} {A : Nat → Prop} {S : Hp} {H H1 : Heap} (h : GG D κ A S H) (hq : ∀ q : Nat, q < H.size → H1[q]? = H[q]?) : GG D κ A S H1 := fun a e he => ⟨(h a e he).1.kept (hq a (h a e he).1.lt), (h a e he).2⟩
/-- what is thrown here: the world stays -/
theorem xe_of {D : va_G} {κ : Nat → ClassId} {A : Nat → Prop} {S : Hp} {s : State} {H : Heap} {locs : List Loc} {X : String → Hp → Prop} {E : String} (hG : GG D κ A S H) (hS : va_S A s.heap H locs) (hX : X E S) : ∀ t : State, s.vm.Alike t.vm → H.size ≤ t.heap.size → (∀ q : Nat, q < H.size → t.heap[q]? = H[q]?) → XE D κ A X E s t :=
  fun t _ hz hq => ⟨S, trivial, ⟨hG.kept hq, hX⟩, Nat.le_trans hS.1 hz, fun q h1 h2 => (hq q (Nat.lt_of_lt_of_le h1 hS.1)).trans (hS.2.1 q h1 h2)⟩
def wp_X2_fail (a0 : Nat) (S : Hp) (Q : Hp → Prop) (X : String → Hp → Prop) : Prop :=
  (kd S a0 = 3) ∧ ((gI S 20 a0 = 5 → Q S) ∧ (¬ gI S 20 a0 = 5 → ((gI S 21 a0 = 0 → Q S) ∧ (¬ gI S 21 a0 = 0 → ((gI S 20 a0 = 7 → X nUOE S) ∧ (¬ gI S 20 a0 = 7 → ((gI S 20 a0 = 6 → X nIAE S) ∧ (¬ gI S 20 a0 = 6 → X nISE S))))))))
set_option maxHeartbeats 4000000 in
set_option maxRecDepth 100000 in
theorem c_X2_fail (l : Launch) (hnt : l.stackTraces = false) (D : va_G) (κ : Nat → ClassId) (A : Nat → Prop) (S : Hp) (a0 : Nat) (Q : Hp → Prop) (X : String → Hp → Prop) (h : wp_X2_fail a0 S Q X) : vx_Met l yX2_fail wsX2_fail ({ frames := 10, cells := 1, slots := 6, locals := 200 } : Room) (PE D κ A S [.ref a0]) (va_Qv Q (BG D κ A) A) (XE D κ A X) 1 6 A := by
  refine vx_ofW (cc := cX2_fail) (maxL := 1) (ret := none) (by decide) rfl ?_
  intro p e s m args below meth c s₁ B hml htab hv
  obtain ⟨hargs, ⟨hA, hG, hK, hX⟩, hE⟩ := hv
  have hx := B.exec
  have hb := B.bytes
  have hr := B.returns
  have hts := atoms_spec (ws := wsX2_fail) B.pre
  have hown : s.vm.findClass RX2 = some m.cls := findClass_of_methodNamed B.named
  have hlocks := B.notSynchronized
  subst hargs
  clear B
  have hS : va_S A s.heap s.heap [] := va_S.rf
  have hl := lv_entry ([.ref a0]) (n := 1) (Nat.le_of_ble_eq_true rfl)
  rw [lg_entry_eq]
  generalize (lg_sl ([.ref a0]) ++ List.replicate (1 - (lg_sl ([.ref a0])).length) Slot.unset).toArray = ls at hl ⊢
  have hl : lv_has ls 1 [(0, .ref a0)] := hl
  have hG : GG D κ A S s.heap := hG
  have hin : ∀ w ∈ wsX20, w ∈ wsX2_fail := fun _ h => List.mem_cons_of_mem _ (List.mem_append_left _ (List.mem_append_left _ (List.mem_append_left _ (List.mem_append_right _ h))))
  have hk := h.1
  replace h := h.2
  have hret : Q S → ∀ {pc : Nat} {ls : Array Slot}, decode cX2_fail pc = .ok (.return_, 1) → W p l e ({ frames := 10, cells := 1, slots := 6, locals := 200 } : Room) s m (#[Value.ref a0]) below meth c s.heap [] 0 0 (vx_MQ below (va_Qv Q (BG D κ A) A) (XE D κ A X) (#[Value.ref a0]) s 1 6 A) (F0 m pc ls []) := fun hq {pc ls} hd => by
    refine vx_ret (W.widen (k := 1) (n := 6) (by decide) (by decide) ?_)
    exact W.vret hx hb hr (gr_v hq hG hK hX hS) hS.2.2 hd
  refine lv_aload_n hx hb dX2_fail_0 rfl (lv_at hl 0 rfl) ?_
  refine gg_get (ci := 2) (C := RX2) (T := TX2) (N := 2) hx hb hts hin hown hK hG (kc_3 hk) rfl 0 (by decide) (hts (.fieldLink RX2 9 "FourStones$Scale" "kind" "I") (by decide +kernel)) (fun _ h9 => h9) rfl dX2_fail_1 ?_
  refine lv_iconst (v := (5 : Int32)) hx hb dX2_fail_4 (by decide) ?_
  refine lv_icmp_eq (tgt := 15) hx hb dX2_fail_5 rfl (fun hc => ?_) (fun hc => ?_)
  · exact hret (h.1 hc) dX2_fail_15
  · replace h := h.2 hc
    refine lv_aload_n hx hb dX2_fail_8 rfl (lv_at hl 0 rfl) ?_
    refine gg_get (ci := 2) (C := RX2) (T := TX2) (N := 2) hx hb hts hin hown hK hG (kc_3 hk) rfl 1 (by decide) (hts (.fieldLink RX2 15 "FourStones$Scale" "figure" "I") (by decide +kernel)) (fun _ h9 => h9) rfl dX2_fail_9 ?_
    refine lv_if_ne (tgt := 16) hx hb dX2_fail_12 rfl (fun hc2 => ?_) (fun hc2 => ?_)
    · replace h := h.2 hc2
      refine lv_aload_n hx hb dX2_fail_16 rfl (lv_at hl 0 rfl) ?_
      refine gg_get (ci := 2) (C := RX2) (T := TX2) (N := 2) hx hb hts hin hown hK hG (kc_3 hk) rfl 0 (by decide) (hts (.fieldLink RX2 9 "FourStones$Scale" "kind" "I") (by decide +kernel)) (fun _ h9 => h9) rfl dX2_fail_17 ?_
      refine lv_bipush (v := (7 : Int32)) hx hb dX2_fail_20 (by decide) ?_
      refine lv_icmp_ne (tgt := 33) hx hb dX2_fail_22 rfl (fun hc3 => ?_) (fun hc3 => ?_)
      · replace h := h.2 hc3
        refine lv_aload_n hx hb dX2_fail_33 rfl (lv_at hl 0 rfl) ?_
        refine gg_get (ci := 2) (C := RX2) (T := TX2) (N := 2) hx hb hts hin hown hK hG (kc_3 hk) rfl 0 (by decide) (hts (.fieldLink RX2 9 "FourStones$Scale" "kind" "I") (by decide +kernel)) (fun _ h9 => h9) rfl dX2_fail_34 ?_
        refine lv_bipush (v := (6 : Int32)) hx hb dX2_fail_37 (by decide) ?_
        refine lv_icmp_ne (tgt := 50) hx hb dX2_fail_39 rfl (fun hc4 => ?_) (fun hc4 => ?_)
        · replace h := h.2 hc4
          exact vx_throw0 (cls := nISE) (names := [nRTE, nEXC]) (ik := 58) (ic := 60) (A := A) hx hb hnt hown (by decide) (by decide) (hts _ (by decide +kernel)) (hts _ (by decide +kernel)) (vx_hat (B := [Cond.declares (yI nRTE), Cond.declares (yI nEXC), Cond.declares (yI Bundle.tN), Cond.castable nISE nISE]) (fun w hw => hts w (List.mem_cons_of_mem _ (List.mem_append_right _ hw))) (by decide +kernel) (vx_c hE.2.2.2.1.1.use (vx_c hE.2.2.2.1.2.1.use (vx_c hE.2.2.2.1.2.2.use (vx_c hE.2.2.1.2.2.use vx_n))))) (by decide +kernel) hE.1.1 hE.1.2 hS (by rw [hl.1, hml]) dX2_fail_50 dX2_fail_53 dX2_fail_54 dX2_fail_57 (fun x hx => (htab x hx).elim) (by decide) (by decide) (by decide) (by decide) hlocks (xe_of hG hS h) hS.2.2 (by decide) (by decide)
        · replace h := h.1 hc4
          exact vx_throw0 (cls := nIAE) (names := [nRTE, nEXC]) (ik := 55) (ic := 57) (A := A) hx hb hnt hown (by decide) (by decide) (hts _ (by decide +kernel)) (hts _ (by decide +kernel)) (vx_hat (B := [Cond.declares (yI nRTE), Cond.declares (yI nEXC), Cond.declares (yI Bundle.tN), Cond.castable nIAE nIAE]) (fun w hw => hts w (List.mem_cons_of_mem _ (List.mem_append_left _ (List.mem_append_right _ hw)))) (by decide +kernel) (vx_c hE.2.2.2.1.1.use (vx_c hE.2.2.2.1.2.1.use (vx_c hE.2.2.2.1.2.2.use (vx_c hE.2.2.1.2.1.use vx_n))))) (by decide +kernel) hE.1.1 hE.1.2 hS (by rw [hl.1, hml]) dX2_fail_42 dX2_fail_45 dX2_fail_46 dX2_fail_49 (fun x hx => (htab x hx).elim) (by decide) (by decide) (by decide) (by decide) hlocks (xe_of hG hS h) hS.2.2 (by decide) (by decide)
      · replace h := h.1 hc3
        exact vx_throw0 (cls := nUOE) (names := [nRTE, nEXC]) (ik := 52) (ic := 54) (A := A) hx hb hnt hown (by decide) (by decide) (hts _ (by decide +kernel)) (hts _ (by decide +kernel)) (vx_hat (B := [Cond.declares (yI nRTE), Cond.declares (yI nEXC), Cond.declares (yI Bundle.tN), Cond.castable nUOE nUOE]) (fun w hw => hts w (List.mem_cons_of_mem _ (List.mem_append_left _ (List.mem_append_left _ (List.mem_append_right _ hw))))) (by decide +kernel) (vx_c hE.2.2.2.1.1.use (vx_c hE.2.2.2.1.2.1.use (vx_c hE.2.2.2.1.2.2.use (vx_c hE.2.2.1.1.use vx_n))))) (by decide +kernel) hE.1.1 hE.1.2 hS (by rw [hl.1, hml]) dX2_fail_25 dX2_fail_28 dX2_fail_29 dX2_fail_32 (fun x hx => (htab x hx).elim) (by decide) (by decide) (by decide) (by decide) hlocks (xe_of hG hS h) hS.2.2 (by decide) (by decide)
    · exact hret (h.1 hc2) dX2_fail_15
def wp_X5_toss (a0 : Nat) (x1 : Int32) (S : Hp) (Q : Int32 → Hp → Prop) : Prop :=
  wp_X5_isShelf x1 S (fun z2 S1 =>
    ((¬ z2 = 0 →
      (kd S1 a0 = 6) ∧
      ∃ r3, gR S1 56 a0 = some r3 ∧
      (kd S1 r3 = 10 ∨ kd S1 r3 = 11) ∧
      (vp_in x1 (ln S1 r3)) ∧
      ((gQ S1 r3 (x1).toNatClampNeg = none →
        (kd S1 a0 = 6) ∧
        wp_X5_notHeld a0 x1 S1 (fun z6 S5 =>
          Q z6 S5))
      ∧ (∀ r4, gQ S1 r3 (x1).toNatClampNeg = some r4 →
        (kd S1 r4 = 3) ∧
        wp_X2_fail r4 S1 (fun S2 => Q (-15 : Int32) S2) (fun E S2 =>
          (E = nUOE ∧ kd S2 r4 = 3 ∧ wp_X2_price r4 S2 (fun z S3 => Q ((200 : Int32) + z) S3)) ∨
          (E = nIAE ∧ kd S2 r4 = 3 ∧ Q ((100 : Int32) + gI S2 21 r4) S2) ∨
          (E = nISE ∧ kd S2 r4 = 3 ∧ Q (gI S2 21 r4) S2)))))
    ∧ (z2 = 0 →
      Q (-1 : Int32) S1)))
set_option maxHeartbeats 4000000 in
set_option maxRecDepth 100000 in
theorem c_X5_toss (l : Launch) (hnt : l.stackTraces = false) (D : va_G) (κ : Nat → ClassId) (A : Nat → Prop) (S : Hp) (a0 : Nat) (x1 : Int32) (Q : Int32 → Hp → Prop) (h : wp_X5_toss a0 x1 S Q) : Met l yX5_toss wsX5_toss ({ frames := 12, cells := 1, slots := 6, locals := 300 } : Room) (PE D κ A S [.ref a0, .int x1]) (va_Qi Q (BG D κ A) A) 1 6 A := by
  refine va_MetW (cc := cX5_toss) (maxL := 4) (ret := some .int) (hh := [(26, 32, 33, 266), (26, 32, 43, 233), (26, 32, 52, 240)]) (by decide) rfl ?_
  intro p e s m args below meth c s₁ B hml hv
  obtain ⟨hargs, ⟨hA, hG, hK, hX⟩, hE⟩ := hv
  have hx := B.exec
  have hb := B.bytes
  have hr := B.returns
  have hts := atoms_spec (ws := wsX5_toss) B.pre
  have htab := vx_table (x := yX5_toss) B (hts _ List.mem_cons_self)
  have hown : s.vm.findClass RX5 = some m.cls := findClass_of_methodNamed B.named
  have hlocks := B.notSynchronized
  subst hargs
  clear B
  have hS : va_S A s.heap s.heap [] := va_S.rf
  have hl := lv_entry ([.ref a0, .int x1]) (n := 4) (Nat.le_of_ble_eq_true rfl)
  rw [lg_entry_eq]
  generalize (lg_sl ([.ref a0, .int x1]) ++ List.replicate (4 - (lg_sl ([.ref a0, .int x1])).length) Slot.unset).toArray = ls at hl ⊢
  have hl : lv_has ls 4 [(0, .ref a0), (1, .int x1)] := hl
  have hG : GG D κ A S s.heap := hG
  have hin5 : ∀ w ∈ wsX50, w ∈ wsX5_toss := fun _ h => List.mem_cons_of_mem _ (List.mem_append_left _ (List.mem_append_left _ (List.mem_append_left _ (List.mem_append_left _ (List.mem_append_right _ h)))))
  have hin2 : ∀ w ∈ wsX20, w ∈ wsX5_toss := fun _ h => List.mem_cons_of_mem _ (List.mem_append_left _ (List.mem_append_left _ (List.mem_append_left _ (List.mem_append_right _ h))))
  refine lv_iload_n hx hb dX5_toss_0 rfl (lv_at hl 1 rfl) ?_
  refine gc_i (va_runS (As := [.int x1]) (rest := []) ⟨hx, hb, hml, hown, hts⟩ (c_X5_isShelf l D κ A S x1 _ h) (va_cwS 1 hts gX5_toss_X5_isShelf rfl rfl rfl (by decide +kernel) ⟨Nat.le_of_ble_eq_true rfl, Nat.le_of_ble_eq_true rfl⟩) (pg_S hK hX hG (pg_A hA hS)) rfl rfl hl.1 rfl (lv_room (Nat.le_of_ble_eq_true rfl)) dX5_toss_1 ⟨Nat.le_of_ble_eq_true rfl, Nat.le_of_ble_eq_true rfl⟩) hS (fun z3 S2 H locs1 h hG hS => ?_)
  refine lv_if_ne (tgt := 9) hx hb dX5_toss_4 rfl (fun hc => ?_) (fun hc => ?_)
  · replace h := h.1 hc
    refine lv_aload_n hx hb dX5_toss_9 rfl (lv_at hl 0 rfl) ?_
    have hk := h.1
    replace h := h.2
    obtain ⟨r4, hr4, h⟩ := h
    refine gg_get (v := .ref r4) (ci := 5) (C := RX5) (T := TX5) (N := 13) hx hb hts hin5 hown hK hG (kc_6 hk) rfl 6 (by decide) (hts (.fieldLink RX5 34 "FourStones" "scales" "[LFourStones$Scale;") (by decide +kernel)) (fun _ h9 => h9) (congrArg (fun z => some (va_rf z)) hr4) dX5_toss_10 ?_
    refine lv_iload_n hx hb dX5_toss_13 rfl (lv_at hl 1 rfl) ?_
    have hk := h.1
    replace h := h.2
    have hi := h.1
    replace h := h.2
    refine gg_aldq hx hb hK hG hk hi dX5_toss_14 (fun hc => ?_) (fun r5 hc => ?_)
    · replace h := h.1 hc
      refine lv_astore_nN (lv' := [(2, .null), (0, .ref a0), (1, .int x1)]) hx hb dX5_toss_15 rfl hl (by decide) rfl (fun ls hl => ?_)
      refine lv_aload_nN hx hb dX5_toss_16 rfl (lv_at hl 0 rfl) ?_
      refine lv_ifnonnullN hx hb dX5_toss_17 ?_
      refine lv_aload_n hx hb dX5_toss_20 rfl (lv_at hl 1 rfl) ?_
      refine lv_iload_n hx hb dX5_toss_21 rfl (lv_at hl 2 rfl) ?_
      have hk := h.1
      replace h := h.2
      refine gc_i (va_runV (As := [.int x1]) (rest := []) ⟨hx, hb, hml, hown, hts⟩ (c_X5_notHeld l D κ A S2 a0 x1 _ h) (cwV 1 hts gX5_toss_X5_notHeld rfl rfl rfl (by decide +kernel) ⟨Nat.le_of_ble_eq_true rfl, Nat.le_of_ble_eq_true rfl⟩) (pg_V (q := (RX5, TX5, 13)) hK hX hG (pg_A hA hS) (kc_6 hk) rfl) rfl rfl hl.1 rfl (lv_room (Nat.le_of_ble_eq_true rfl)) dX5_toss_22 ⟨Nat.le_of_ble_eq_true rfl, Nat.le_of_ble_eq_true rfl⟩) hS (fun z8 S7 H locs6 h hG hS => ?_)
      refine W.widen (k := 1) (n := 6) (by omega) (by omega) ?_
      exact W.iret hx hb hr (gr_i h hG hK hX hS) hS.2.2 dX5_toss_25
    · replace h := h.2 r5 hc
      refine lv_astore_n (lv' := [(2, .ref r5), (0, .ref a0), (1, .int x1)]) hx hb dX5_toss_15 rfl hl (by decide) rfl (fun ls hl => ?_)
      refine lv_aload_n hx hb dX5_toss_16 rfl (lv_at hl 0 rfl) ?_
      refine lv_ifnonnull (tgt := 26) hx hb dX5_toss_17 rfl ?_
      refine lv_aload_n hx hb dX5_toss_26 rfl (lv_at hl 0 rfl) ?_
      have hk := h.1
      replace h := h.2
      refine vx_callv (vx_runV (As := []) (rest := []) ⟨hx, hb, hml, hown, hts⟩ (c_X2_fail l hnt D κ A S2 r5 _ _ h) (cwV 0 hts gX5_toss_X2_fail rfl rfl rfl (by decide +kernel) ⟨Nat.le_of_ble_eq_true rfl, Nat.le_of_ble_eq_true rfl⟩) (pe_V (q := (RX2, TX2, 2)) hK hX hG (pg_A hA hS) (fun U hU hW => hE.at' hS hU hW) (kc_3 hk) rfl) rfl rfl hl.1 rfl (lv_room (Nat.le_of_ble_eq_true rfl)) dX5_toss_27 ⟨Nat.le_of_ble_eq_true rfl, Nat.le_of_ble_eq_true rfl⟩) hS (fun _ _ h => h) (fun _ h => h) (fun _ _ h => h) (fun E ce q9 S7 t H1 locs7 eH _ _ hBX _ _ hS hce hcv hcl => ?_) (fun S7 t H1 locs7 eH _ hq hB _ _ hS => ?_)
      · have hG : GG D κ A S7 H1 := eH ▸ hBX.1
        have h := hBX.2
        rcases h with ⟨rfl, hk, h⟩ | ⟨rfl, hk, h⟩ | ⟨rfl, hk, h⟩
        · refine vx_catch (name := nUOE) hown [] ⟨26, 32, 33, 266⟩ [⟨26, 32, 43, 233⟩, ⟨26, 32, 52, 240⟩] htab (fun z hz => nomatch hz) (by decide) (by decide) (hts (.classLink RX5 266 nUOE) (by decide +kernel)) hE.2.2.1.1.use hce hcv hcl ?_
          refine lv_astore_n (lv' := [(3, .ref q9), (2, .ref r5), (0, .ref a0), (1, .int x1)]) hx hb dX5_toss_33 rfl hl (by decide) rfl (fun ls hl => ?_)
          refine lv_sipush (v := (200 : Int32)) hx hb dX5_toss_34 (by decide) ?_
          refine lv_aload_n hx hb dX5_toss_37 rfl (lv_at hl 1 rfl) ?_
          refine gc_i (va_runV (As := []) (rest := [.int 200]) ⟨hx, hb, hml, hown, hts⟩ (c_X2_price l D κ A S7 r5 _ h) (cwV 0 hts gX5_toss_X2_price rfl rfl rfl (by decide +kernel) ⟨Nat.le_of_ble_eq_true rfl, Nat.le_of_ble_eq_true rfl⟩) (pg_V (q := (RX2, TX2, 2)) hK hX hG (pg_A hA hS) (kc_3 hk) rfl) rfl rfl hl.1 rfl (lv_room (Nat.le_of_ble_eq_true rfl)) dX5_toss_38 ⟨Nat.le_of_ble_eq_true rfl, Nat.le_of_ble_eq_true rfl⟩) hS (fun z11 S10 H locs9 h hG hS => ?_)
          refine lv_iadd hx hb dX5_toss_41 ?_
          exact W.iret hx hb hr (gr_i h hG hK hX hS) hS.2.2 dX5_toss_42
        · refine vx_catch (name := nIAE) hown [⟨26, 32, 33, 266⟩] ⟨26, 32, 43, 233⟩ [⟨26, 32, 52, 240⟩] htab (fun z hz => ?_) (by decide) (by decide) (hts (.classLink RX5 233 nIAE) (by decide +kernel)) hE.2.2.1.2.1.use hce hcv hcl ?_
          · cases List.mem_singleton.mp hz
            exact Or.inr ⟨by decide, nUOE, hts (.classLink RX5 266 nUOE) (by decide +kernel), hE.2.1.1⟩
          refine lv_astore_n (lv' := [(3, .ref q9), (2, .ref r5), (0, .ref a0), (1, .int x1)]) hx hb dX5_toss_43 rfl hl (by decide) rfl (fun ls hl => ?_)
          refine lv_bipush (v := (100 : Int32)) hx hb dX5_toss_44 (by decide) ?_
          refine lv_aload_n hx hb dX5_toss_46 rfl (lv_at hl 1 rfl) ?_
          refine gg_get (ci := 2) (C := RX2) (T := TX2) (N := 2) hx hb hts hin2 hown hK hG (kc_3 hk) rfl 1 (by decide) (hts (.fieldLink RX5 268 "FourStones$Scale" "figure" "I") (by decide +kernel)) (fun _ h9 => h9) rfl dX5_toss_47 ?_
          refine lv_iadd hx hb dX5_toss_50 ?_
          exact W.iret hx hb hr (gr_i h hG hK hX hS) hS.2.2 dX5_toss_51
        · refine vx_catch (name := nISE) hown [⟨26, 32, 33, 266⟩, ⟨26, 32, 43, 233⟩] ⟨26, 32, 52, 240⟩ [] htab (fun z hz => ?_) (by decide) (by decide) (hts (.classLink RX5 240 nISE) (by decide +kernel)) hE.2.2.1.2.2.use hce hcv hcl ?_
          · rcases List.mem_cons.mp hz with hz | hz
            · cases hz
              exact Or.inr ⟨by decide, nUOE, hts (.classLink RX5 266 nUOE) (by decide +kernel), hE.2.1.2.1⟩
            · cases List.mem_singleton.mp hz
              exact Or.inr ⟨by decide, nIAE, hts (.classLink RX5 233 nIAE) (by decide +kernel), hE.2.1.2.2⟩
          refine lv_astore_n (lv' := [(3, .ref q9), (2, .ref r5), (0, .ref a0), (1, .int x1)]) hx hb dX5_toss_52 rfl hl (by decide) rfl (fun ls hl => ?_)
          refine lv_aload_n hx hb dX5_toss_53 rfl (lv_at hl 1 rfl) ?_
          refine gg_get (ci := 2) (C := RX2) (T := TX2) (N := 2) hx hb hts hin2 hown hK hG (kc_3 hk) rfl 1 (by decide) (hts (.fieldLink RX5 268 "FourStones$Scale" "figure" "I") (by decide +kernel)) (fun _ h9 => h9) rfl dX5_toss_54 ?_
          exact W.iret hx hb hr (gr_i h hG hK hX hS) hS.2.2 dX5_toss_57
      · have hG : GG D κ A S7 H1 := eH ▸ hB.1
        refine lv_bipush (v := (-15 : Int32)) hx hb dX5_toss_30 (by decide) ?_
        exact W.iret hx hb hr (gr_i hq hG hK hX hS) hS.2.2 dX5_toss_32
  · replace h := h.2 hc
    refine lv_iconst (v := (-1 : Int32)) hx hb dX5_toss_7 (by decide) ?_
    refine W.widen (k := 1) (n := 6) (by omega) (by omega) ?_
    exact W.iret hx hb hr (gr_i h hG hK hX hS) hS.2.2 dX5_toss_8
def wp_X5_element (a0 : Nat) (x1 x2 : Int32) (S : Hp) (Q : Int64 → Hp → Prop) (X : String → Hp → Prop) : Prop :=
  wp_X5_isShelf x1 S (fun z2 S1 =>
    ((¬ z2 = 0 →
      (kd S1 a0 = 6) ∧
      ∃ r3, gR S1 57 a0 = some r3 ∧
      (kd S1 r3 = 10 ∨ kd S1 r3 = 11) ∧
      (vp_in x1 (ln S1 r3)) ∧
      ((gQ S1 r3 (x1).toNatClampNeg = none → X nISE S1)
      ∧ (∀ r4, gQ S1 r3 (x1).toNatClampNeg = some r4 →
        (kd S1 r4 = 2) ∧
        wp_X1_isPlace r4 x2 S1 (fun z8 S7 =>
          ((¬ z8 = 0 →
            (kd S7 r4 = 2) ∧
            ∃ r9, gR S7 11 r4 = some r9 ∧
            (kd S7 r9 = 8) ∧
            (vp_in x2 (ln S7 r9)) ∧
            Q ((gA S7 r9 (x2).toNatClampNeg)).toInt64 S7)
          ∧ (z8 = 0 → X nISE S7))))))
    ∧ (z2 = 0 →
      X nIAE S1)))
set_option maxHeartbeats 4000000 in
set_option maxRecDepth 100000 in
theorem c_X5_element (l : Launch) (hnt : l.stackTraces = false) (D : va_G) (κ : Nat → ClassId) (A : Nat → Prop) (S : Hp) (a0 : Nat) (x1 x2 : Int32) (Q : Int64 → Hp → Prop) (X : String → Hp → Prop) (h : wp_X5_element a0 x1 x2 S Q X) : vx_Met l yX5_element wsX5_element ({ frames := 10, cells := 1, slots := 6, locals := 260 } : Room) (PE D κ A S [.ref a0, .int x1, .int x2]) (va_Ql Q (BG D κ A) A) (XE D κ A X) 1 6 A := by
  refine vx_ofW (cc := cX5_element) (maxL := 4) (ret := some .long) (by decide) rfl ?_
  intro p e s m args below meth c s₁ B hml htab hv
  obtain ⟨hargs, ⟨hA, hG, hK, hX⟩, hE⟩ := hv
  have hx := B.exec
  have hb := B.bytes
  have hr := B.returns
  have hts := atoms_spec (ws := wsX5_element) B.pre
  have hown : s.vm.findClass RX5 = some m.cls := findClass_of_methodNamed B.named
  have hlocks := B.notSynchronized
  subst hargs
  clear B
  have hS : va_S A s.heap s.heap [] := va_S.rf
  have hl := lv_entry ([.ref a0, .int x1, .int x2]) (n := 4) (Nat.le_of_ble_eq_true rfl)
  rw [lg_entry_eq]
  generalize (lg_sl ([.ref a0, .int x1, .int x2]) ++ List.replicate (4 - (lg_sl ([.ref a0, .int x1, .int x2])).length) Slot.unset).toArray = ls at hl ⊢
  have hl : lv_has ls 4 [(0, .ref a0), (1, .int x1), (2, .int x2)] := hl
  have hG : GG D κ A S s.heap := hG
  obtain ⟨sa1, hs1⟩ := hE.2.2.2.2.2.1
  obtain ⟨sa2, hs2⟩ := hE.2.2.2.2.2.2
  have hin5 : ∀ w ∈ wsX50, w ∈ wsX5_element := fun _ h => List.mem_cons_of_mem _ (List.mem_append_left _ (List.mem_append_left _ (List.mem_append_left _ (List.mem_append_right _ h))))
  have hin1 : ∀ w ∈ wsX10, w ∈ wsX5_element := fun _ h => List.mem_cons_of_mem _ (List.mem_append_left _ (List.mem_append_left _ (List.mem_append_right _ h)))
  have hF1 : ∀ w ∈ (vx_atS RX5 237 nIAE [nRTE, nEXC]), w.before (#[Value.ref a0, Value.int x1, Value.int x2]) s = true := vx_hat (B := [Cond.declares (yS nRTE), Cond.declares (yS nEXC), Cond.declares (yS Bundle.tN), Cond.castable nIAE nIAE]) (fun w hw => hts w (List.mem_cons_of_mem _ (List.mem_append_left _ (List.mem_append_right _ hw)))) (by decide +kernel) (vx_c hE.2.2.2.2.1.1.use (vx_c hE.2.2.2.2.1.2.1.use (vx_c hE.2.2.2.2.1.2.2.use (vx_c hE.2.2.1.2.1.use vx_n))))
  have hF2 : ∀ w ∈ (vx_atS RX5 244 nISE [nRTE, nEXC]), w.before (#[Value.ref a0, Value.int x1, Value.int x2]) s = true := vx_hat (B := [Cond.declares (yS nRTE), Cond.declares (yS nEXC), Cond.declares (yS Bundle.tN), Cond.castable nISE nISE]) (fun w hw => hts w (List.mem_cons_of_mem _ (List.mem_append_right _ hw))) (by decide +kernel) (vx_c hE.2.2.2.2.1.1.use (vx_c hE.2.2.2.2.1.2.1.use (vx_c hE.2.2.2.2.1.2.2.use (vx_c hE.2.2.1.2.2.use vx_n))))
  refine lv_iload_n hx hb dX5_element_0 rfl (lv_at hl 1 rfl) ?_
  refine gc_i (va_runS (As := [.int x1]) (rest := []) ⟨hx, hb, hml, hown, hts⟩ (c_X5_isShelf l D κ A S x1 _ h) (va_cwS 1 hts gX5_element_X5_isShelf rfl rfl rfl (by decide +kernel) ⟨Nat.le_of_ble_eq_true rfl, Nat.le_of_ble_eq_true rfl⟩) (pg_S hK hX hG (pg_A hA hS)) rfl rfl hl.1 rfl (lv_room (Nat.le_of_ble_eq_true rfl)) dX5_element_1 ⟨Nat.le_of_ble_eq_true rfl, Nat.le_of_ble_eq_true rfl⟩) hS (fun z3 S2 H locs1 h hG hS => ?_)
  refine lv_if_ne (tgt := 17) hx hb dX5_element_4 rfl (fun hc => ?_) (fun hc => ?_)
  · replace h := h.1 hc
    refine lv_aload_n hx hb dX5_element_17 rfl (lv_at hl 0 rfl) ?_
    have hk := h.1
    replace h := h.2
    obtain ⟨r4, hr4, h⟩ := h
    refine gg_get (v := .ref r4) (ci := 5) (C := RX5) (T := TX5) (N := 13) hx hb hts hin5 hown hK hG (kc_6 hk) rfl 7 (by decide) (hts (.fieldLink RX5 40 "FourStones" "rows" "[LFourStones$Row;") (by decide +kernel)) (fun _ h9 => h9) (congrArg (fun z => some (va_rf z)) hr4) dX5_element_18 ?_
    refine lv_iload_n hx hb dX5_element_21 rfl (lv_at hl 1 rfl) ?_
    have hk := h.1
    replace h := h.2
    have hi := h.1
    replace h := h.2
    refine gg_aldq hx hb hK hG hk hi dX5_element_22 (fun hc => ?_) (fun r5 hc => ?_)
    · replace h := h.1 hc
      refine lv_astore_nN (lv' := [(3, .null), (0, .ref a0), (1, .int x1), (2, .int x2)]) hx hb dX5_element_23 rfl hl (by decide) rfl (fun ls hl => ?_)
      refine lv_aload_nN hx hb dX5_element_24 rfl (lv_at hl 0 rfl) ?_
      refine lv_ifnullN (tgt := 36) hx hb dX5_element_25 rfl ?_
      exact vx_throwS (cls := nISE) (text := "no row, or no such place") (names := [nRTE, nEXC]) (ik := 240) (is := 242) (ic := 244) (sa := sa2) (A := A) hx hb hnt hown (by decide) (by decide) (hts _ (by decide +kernel)) (hts _ (by decide +kernel)) hs2 hF2 (by decide +kernel) hE.1.1 hE.1.2 hS (by rw [hl.1, hml]) dX5_element_36 dX5_element_39 dX5_element_40 dX5_element_42 dX5_element_45 (fun x hx => (htab x hx).elim) (by decide) (by decide) (by decide) (by decide) hlocks (xe_of hG hS h) hS.2.2 (by decide) (by decide)
    · replace h := h.2 r5 hc
      refine lv_astore_n (lv' := [(3, .ref r5), (0, .ref a0), (1, .int x1), (2, .int x2)]) hx hb dX5_element_23 rfl hl (by decide) rfl (fun ls hl => ?_)
      refine lv_aload_n hx hb dX5_element_24 rfl (lv_at hl 0 rfl) ?_
      refine lv_ifnull hx hb dX5_element_25 ?_
      refine lv_aload_n hx hb dX5_element_28 rfl (lv_at hl 0 rfl) ?_
      refine lv_iload_n hx hb dX5_element_29 rfl (lv_at hl 3 rfl) ?_
      have hk := h.1
      replace h := h.2
      refine gc_i (va_runV (As := [.int x2]) (rest := []) ⟨hx, hb, hml, hown, hts⟩ (c_X1_isPlace l D κ A S2 r5 x2 _ h) (cwV 1 hts gX5_element_X1_isPlace rfl rfl rfl (by decide +kernel) ⟨Nat.le_of_ble_eq_true rfl, Nat.le_of_ble_eq_true rfl⟩) (pg_V (q := (RX1, TX1, 2)) hK hX hG (pg_A hA hS) (kc_2 hk) rfl) rfl rfl hl.1 rfl (lv_room (Nat.le_of_ble_eq_true rfl)) dX5_element_30 ⟨Nat.le_of_ble_eq_true rfl, Nat.le_of_ble_eq_true rfl⟩) hS (fun z11 S10 H locs9 h hG hS => ?_)
      refine lv_if_ne (tgt := 46) hx hb dX5_element_33 rfl (fun hc => ?_) (fun hc => ?_)
      · replace h := h.1 hc
        refine lv_aload_n hx hb dX5_element_46 rfl (lv_at hl 0 rfl) ?_
        have hk := h.1
        replace h := h.2
        obtain ⟨r9, hr9, h⟩ := h
        refine gg_get (v := .ref r9) (ci := 1) (C := RX1) (T := TX1) (N := 2) hx hb hts hin1 hown hK hG (kc_2 hk) rfl 1 (by decide) (hts (.fieldLink RX5 209 "FourStones$Row" "cells" "[I") (by decide +kernel)) (fun _ h9 => h9) (congrArg (fun z => some (va_rf z)) hr9) dX5_element_47 ?_
        refine lv_iload_n hx hb dX5_element_50 rfl (lv_at hl 3 rfl) ?_
        have hk := h.1
        replace h := h.2
        have hi := h.1
        replace h := h.2
        refine gg_iald hx hb hK hG hk hi dX5_element_51 ?_
        refine lv_i2l (v := ((gA S10 r9 (x2).toNatClampNeg)).toInt64) hx hb dX5_element_52 rfl ?_
        refine vx_ret (W.widen (k := 1) (n := 6) (by decide) (by decide) ?_)
        exact W.lret hx hb hr (gr_l h hG hK hX hS) hS.2.2 dX5_element_53
      · replace h := h.2 hc
        exact vx_throwS (cls := nISE) (text := "no row, or no such place") (names := [nRTE, nEXC]) (ik := 240) (is := 242) (ic := 244) (sa := sa2) (A := A) hx hb hnt hown (by decide) (by decide) (hts _ (by decide +kernel)) (hts _ (by decide +kernel)) hs2 hF2 (by decide +kernel) hE.1.1 hE.1.2 hS (by rw [hl.1, hml]) dX5_element_36 dX5_element_39 dX5_element_40 dX5_element_42 dX5_element_45 (fun x hx => (htab x hx).elim) (by decide) (by decide) (by decide) (by decide) hlocks (xe_of hG hS h) hS.2.2 (by decide) (by decide)
  · replace h := h.2 hc
    exact vx_throwS (cls := nIAE) (text := "no such shelf") (names := [nRTE, nEXC]) (ik := 233) (is := 235) (ic := 237) (sa := sa1) (A := A) hx hb hnt hown (by decide) (by decide) (hts _ (by decide +kernel)) (hts _ (by decide +kernel)) hs1 hF1 (by decide +kernel) hE.1.1 hE.1.2 hS (by rw [hl.1, hml]) dX5_element_7 dX5_element_10 dX5_element_11 dX5_element_13 dX5_element_16 (fun x hx => (htab x hx).elim) (by decide) (by decide) (by decide) (by decide) hlocks (xe_of hG hS h) hS.2.2 (by decide) (by decide)
/-- the reader's own cell: a long[1] -/
def OW (D : va_G) (cL : ClassId) (out : Nat) (f : Nat → Int64) (H : Heap) : Prop := va_P D vwCl [(out, .inl (cL, 1, .inr (.inl f)))] H
def OKL (D : va_G) (cL : ClassId) (U : State) : Prop := va_K D vwCl [(cL, .long)] U
theorem OW.lt {D : va_G} {cL : ClassId} {out : Nat} {f : Nat → Int64} {H : Heap} (h : OW D cL out f H) : out < H.size := (h 0 _ rfl).lt
theorem OW.kept {D : va_G} {cL : ClassId} {out : Nat} {f : Nat → Int64} {H H1 : Heap} (h : OW D cL out f H) (hq : H1[out]? = H[out]?) : OW D cL out f H1 := va_P.kept h (fun k x hx => by
  cases k with
  | zero =>
    cases hx
    exact hq
  | succ n => cases hx)
theorem GG.off {D : va_G} {κ : Nat → ClassId} {A : Nat → Prop} {S : Hp} {H H1 : Heap} {out : Nat} (h : GG D κ A S H) (hno : ¬ A out) (hq : ∀ q : Nat, q ≠ out → H1[q]? = H[q]?) : GG D κ A S H1 := fun a e he => ⟨(h a e he).1.kept (hq a (fun z => hno (z ▸ (h a e he).2))), (h a e he).2⟩
abbrev HpO := Hp × (Nat → Int64)
def BL (D : va_G) (κ : Nat → ClassId) (A : Nat → Prop) (cL : ClassId) (out : Nat) (u : HpO) (U : State) : Prop := BG D κ A u.1 U ∧ OW D cL out u.2 U.heap ∧ OKL D cL U
def PL (D : va_G) (κ : Nat → ClassId) (A : Nat → Prop) (S : Hp) (cL : ClassId) (out : Nat) (f : Nat → Int64) (av : List Value) : Array Value → State → Prop := va_Pc av (fun U => ((((∀ q, U.heap.size ≤ q → A q) ∧ BG D κ A S U) ∧ EV A U) ∧ ¬ A out) ∧ OW D cL out f U.heap ∧ OKL D cL U)
theorem pl_blind {D : va_G} {κ : Nat → ClassId} {A : Nat → Prop} {S : Hp} {cL : ClassId} {out : Nat} {f : Nat → Int64} {av : List Value} : FrameBlind (PL D κ A S cL out f av) := fun a U g mk q => by
  obtain ⟨q0, ⟨⟨⟨q1, q2, q3, q4⟩, ⟨z1, z2⟩, z3⟩, n1⟩, o1, o2⟩ := q
  exact ⟨q0, ⟨⟨⟨q1, q2, KK.moved (u := U) (U := U.calling g mk a) (Vm.Alike.refl U.vm) q3, XX.same (u := U) (U := U.calling g mk a) rfl q4⟩, ⟨vx_Zq.moved (u := U) (U := U.calling g mk a) (Vm.Alike.refl U.vm) z1, vx_Zq.moved (u := U) (U := U.calling g mk a) (Vm.Alike.refl U.vm) z2⟩, EN.same (u := U) (U := U.calling g mk a) rfl z3⟩, n1⟩, o1, va_K.moved (u := U) (U := U.calling g mk a) (Vm.Alike.refl U.vm) o2⟩
theorem pl_S {D : va_G} {κ : Nat → ClassId} {A : Nat → Prop} {S : Hp} {s : State} {H : Heap} {cL : ClassId} {out : Nat} {f : Nat → Int64} {As : List Value} (hK : KK D κ s) (hX : XX s) (hG : GG D κ A S H) (hA : ∀ q, H.size ≤ q → A q) (hE : ∀ U : State, U.heap = H → s.WarmedH U.vm → EV A U) (hno : ¬ A out) (hO : OW D cL out f H) (hKo : OKL D cL s) : PreS s H (PL D κ A S cL out f As) As :=
  ⟨pl_blind, fun U hU hW => ⟨rfl, ⟨⟨⟨by rw [hU]; exact hA, by rw [hU]; exact hG, KK.moved hW.alike hK, XX.warm hW hX⟩, hE U hU hW⟩, hno⟩, by rw [hU]; exact hO, va_K.moved hW.alike hKo⟩⟩
section GLAST
variable {p : Program} {l : Launch} {e : Env} {R : Room} {s : State} {m : MethodId} {args : Array Value} {below : List Frame} {meth : Method} {c : Code} {H : Heap} {locs : List Loc} {cells slots : Nat} {Q : State → Prop}
variable {cc : ByteArray} {pc : Nat} {ls : Array Slot} {rest : List Value} {D : va_G} {κ : Nat → ClassId} {A : Nat → Prop} {S : Hp} {H0 : Heap}
theorem gl_last (hexec : p.tables.exec = Jvm.exec) (hb : c.code = cc) {cL : ClassId} {out : Nat} {f : Nat → Int64} (hK : OKL D cL s) (hP : OW D cL out f H) (hS : va_S A H0 H locs) (hAo : A out) {x : Int64} (hdg : decode cc pc = .ok (.lastore, 1))
    (kk : ∀ (H1 : Heap) (locs1 : List Loc), OW D cL out (vp_updL f 0 x) H1 → (∀ q : Nat, q ≠ out → H1[q]? = H[q]?) → va_S A H0 H1 locs1 → W p l e R s m args below meth c H1 locs1 cells slots Q (F0 m (pc + 1) ls rest)) : W p l e R s m args below meth c H locs cells slots Q (F0 m pc ls (.long x :: .int 0 :: .ref out :: rest)) := by
  have hin : vp_in (0 : Int32) 1 := by
    unfold vp_in
    decide
  have z0 : (0 : Int32).toNatClampNeg = 0 := by decide
  refine W.last hexec hb (hP 0 _ rfl) ((hK.2 0 _ rfl).1 1 (fun j => .long (f j))) (fun q => by cases q) (by show ¬ ((0 : Int32) < 0 ∨ (arrV _ _ _).slots.size ≤ _); rw [arrV_size]; exact hin) rfl rfl hdg fun H1 e z oq => ?_
  refine kk H1 _ (fun k x hx => ?_) oq (hS.put z oq hAo)
  cases k with
  | succ n => cases hx
  | zero =>
    cases hx
    show H1[out]? = some (vp_cell _ _)
    rw [e]
    rw [vp_cell_l, vp_cell_l, arrV_store]
    congr 2
    funext q
    rw [z0]
    by_cases hq : q = 0
    · subst hq
      simp [updV, vp_updL]
    · simp [updV, vp_updL, hq]
end GLAST
theorem gr_o {D : va_G} {κ : Nat → ClassId} {A A1 : Nat → Prop} {s : State} {H : Heap} {locs : List Loc} {args : Array Value} {cL : ClassId} {out : Nat} {f : Nat → Int64} {Qp : Int32 → HpO → Prop} {S : Hp} {r : Int32} (h : Qp r (S, f)) (hG : GG D κ A S H) (hK : KK D κ s) (hX : XX s) (hO : OW D cL out f H) (hKo : OKL D cL s) (hS : va_S A1 s.heap H locs) : ∀ t : State, t.heap = H → s.WarmedH t.vm → va_Qi Qp (BL D κ A cL out) A1 args s (.returned (some (.int r))) t :=
  fun t ht hW => ⟨⟨r, (S, f), rfl, h, ⟨by rw [ht]; exact hG, KK.moved hW.alike hK, XX.warm hW hX⟩, by rw [ht]; exact hO, va_K.moved hW.alike hKo⟩, hS.F ht⟩
def wp_L_element (a0 : Nat) (x1 x2 : Int32) (S : Hp) (f : Nat → Int64) (Q : Int32 → Hp → (Nat → Int64) → Prop) : Prop :=
  kd S a0 = 6 ∧ wp_X5_element a0 x1 x2 S (fun r S1 => Q (0 : Int32) S1 (vp_updL f 0 r)) (fun E S1 => (E = nIAE ∧ Q (1 : Int32) S1 f) ∨ (E = nISE ∧ Q (2 : Int32) S1 f))
set_option maxHeartbeats 4000000 in
set_option maxRecDepth 100000 in
theorem c_L_element (l : Launch) (hnt : l.stackTraces = false) (D : va_G) (κ : Nat → ClassId) (A : Nat → Prop) (S : Hp) (a0 : Nat) (x1 x2 : Int32) (cL : ClassId) (out : Nat) (f : Nat → Int64) (Q : Int32 → Hp → (Nat → Int64) → Prop) (h : wp_L_element a0 x1 x2 S f Q) : Met l yL_element wsL_element ({ frames := 12, cells := 1, slots := 6, locals := 320 } : Room) (PL D κ A S cL out f [.ref a0, .int x1, .int x2, .ref out]) (va_Qi (fun r u => Q r u.1 u.2) (BL D κ A cL out) (fun q => A q ∨ q = out)) 1 6 (fun q => A q ∨ q = out) := by
  refine va_MetW (cc := cL_element) (maxL := 5) (ret := some .int) (hh := [(0, 9, 12, 13), (0, 9, 16, 15)]) (by decide) rfl ?_
  intro p e s m args below meth c s₁ B hml hv
  obtain ⟨hargs, ⟨⟨⟨hA, hG, hK, hX⟩, hE⟩, hno⟩, hO, hKo⟩ := hv
  have hx := B.exec
  have hb := B.bytes
  have hr := B.returns
  have hts := atoms_spec (ws := wsL_element) B.pre
  have htab := vx_table (x := yL_element) B (hts _ List.mem_cons_self)
  have hown : s.vm.findClass RL = some m.cls := findClass_of_methodNamed B.named
  have hlocks := B.notSynchronized
  subst hargs
  clear B
  have hS : va_S (fun q => A q ∨ q = out) s.heap s.heap [] := va_S.rf
  have hl := lv_entry ([.ref a0, .int x1, .int x2, .ref out]) (n := 5) (Nat.le_of_ble_eq_true rfl)
  rw [lg_entry_eq]
  generalize (lg_sl ([.ref a0, .int x1, .int x2, .ref out]) ++ List.replicate (5 - (lg_sl ([.ref a0, .int x1, .int x2, .ref out])).length) Slot.unset).toArray = ls at hl ⊢
  have hl : lv_has ls 5 [(0, .ref a0), (1, .int x1), (2, .int x2), (3, .ref out)] := hl
  have hG : GG D κ A S s.heap := hG
  refine lv_aload_n hx hb dL_element_0 rfl (lv_at hl 3 rfl) ?_
  refine lv_iconst (v := (0 : Int32)) hx hb dL_element_1 (by decide) ?_
  refine lv_aload_n hx hb dL_element_2 rfl (lv_at hl 0 rfl) ?_
  refine lv_iload_n hx hb dL_element_3 rfl (lv_at hl 1 rfl) ?_
  refine lv_iload_n hx hb dL_element_4 rfl (lv_at hl 2 rfl) ?_
  refine vx_calll (vx_runV (As := [.int x1, .int x2]) (rest := [.int 0, .ref out]) ⟨hx, hb, hml, hown, hts⟩ (c_X5_element l hnt D κ A S a0 x1 x2 _ _ h.2) (cwV 2 hts gL_element_X5_element rfl rfl rfl (by decide +kernel) ⟨Nat.le_of_ble_eq_true rfl, Nat.le_of_ble_eq_true rfl⟩) (pe_V (q := (RX5, TX5, 13)) hK hX hG hA (fun U hU hW => hE.at' va_S.rf hU hW) (kc_6 h.1) rfl) rfl rfl hl.1 rfl (lv_room (Nat.le_of_ble_eq_true rfl)) dL_element_5 ⟨Nat.le_of_ble_eq_true rfl, Nat.le_of_ble_eq_true rfl⟩) hS (fun _ _ h => Or.inl h) (fun _ h => Or.inl h) (fun _ _ h => Or.inl h) (fun E ce q9 S7 t H1 locs7 eH _ _ hBX _ hU hS hce hcv hcl => ?_) (fun r S7 t H1 locs7 eH _ hq hB _ hU hS => ?_)
  · have hG : GG D κ A S7 H1 := eH ▸ hBX.1
    have hO : OW D cL out f H1 := hO.kept (hU out hO.lt hno)
    have h := hBX.2
    rcases h with ⟨rfl, h⟩ | ⟨rfl, h⟩
    · refine vx_catch (name := nIAE) hown [] ⟨0, 9, 12, 13⟩ [⟨0, 9, 16, 15⟩] htab (fun z hz => nomatch hz) (by decide) (by decide) (hts (.classLink RL 13 nIAE) (by decide +kernel)) hE.2.2.1.2.1.use hce hcv hcl ?_
      refine lv_astore (lv' := [(4, .ref q9), (0, .ref a0), (1, .int x1), (2, .int x2), (3, .ref out)]) hx hb dL_element_12 hl (by decide) rfl (fun ls hl => ?_)
      refine lv_iconst (v := (1 : Int32)) hx hb dL_element_14 (by decide) ?_
      exact W.iret hx hb hr (gr_o h hG hK hX hO hKo hS) hS.2.2 dL_element_15
    · refine vx_catch (name := nISE) hown [⟨0, 9, 12, 13⟩] ⟨0, 9, 16, 15⟩ [] htab (fun z hz => ?_) (by decide) (by decide) (hts (.classLink RL 15 nISE) (by decide +kernel)) hE.2.2.1.2.2.use hce hcv hcl ?_
      · cases List.mem_singleton.mp hz
        exact Or.inr ⟨by decide, nIAE, hts (.classLink RL 13 nIAE) (by decide +kernel), hE.2.1.2.2⟩
      refine lv_astore (lv' := [(4, .ref q9), (0, .ref a0), (1, .int x1), (2, .int x2), (3, .ref out)]) hx hb dL_element_16 hl (by decide) rfl (fun ls hl => ?_)
      refine lv_iconst (v := (2 : Int32)) hx hb dL_element_18 (by decide) ?_
      exact W.iret hx hb hr (gr_o h hG hK hX hO hKo hS) hS.2.2 dL_element_19
  · have hG : GG D κ A S7 H1 := eH ▸ hB.1
    have hO : OW D cL out f H1 := hO.kept (hU out hO.lt hno)
    refine gl_last hx hb hKo hO hS (Or.inr rfl) dL_element_8 (fun H2 locs2 hO oq hS => ?_)
    have hG : GG D κ A S7 H2 := hG.off hno oq
    refine lv_goto (tgt := 20) hx hb dL_element_9 rfl ?_
    refine lv_iconst (v := (0 : Int32)) hx hb dL_element_20 (by decide) ?_
    exact W.iret hx hb hr (gr_o hq hG hK hX hO hKo hS) hS.2.2 dL_element_21
