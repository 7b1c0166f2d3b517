/-! methods that throw: what a throw asks of the state, and the contracts -/
abbrev nUOE : String := "java/lang/UnsupportedOperationException"
abbrev nIAE : String := "java/lang/IllegalArgumentException"
abbrev nISE : String := "java/lang/IllegalStateException"
abbrev nRTE : String := "java/lang/RuntimeException"
abbrev nEXC : String := "java/lang/Exception"
def xD (y : MethodName) (U : State) : Prop := (Cond.declares y).before #[] U = true
theorem xD.use {A : Array Value} {y : MethodName} {U : State} (h : xD y U) : (Cond.declares y).before A U = true := va_any rfl h
theorem xD.of {A : Array Value} {y : MethodName} {U : State} (h : (Cond.declares y).before A U = true) : xD y U := va_any rfl h
theorem xD.moved {y : MethodName} {u U : State} (hvm : u.vm.Alike U.vm) (h : xD y u) : xD y U := by
  have h1 : (Cond.declares y).before #[] (u.setVm U.vm) = true := by
    rw [Cond.declares_setVm hvm]
    exact h
  have e := Cond.onTables_vm (A := #[]) (A' := #[]) (U := u) (U' := U) U.vm (Cond.declares y) rfl
  have hU : U.setVm U.vm = U := rfl
  rw [hU] at e
  unfold xD
  rw [← e]
  exact h1
def xC (C T : String) (U : State) : Prop := (Cond.castable C T).before #[] U = true
theorem xC.use {A : Array Value} {C T : String} {U : State} (h : xC C T U) : (Cond.castable C T).before A U = true := va_any rfl h
theorem xC.of {A : Array Value} {C T : String} {U : State} (h : (Cond.castable C T).before A U = true) : xC C T U := va_any rfl h
theorem xC.moved {C T : String} {u U : State} (hvm : u.vm.Alike U.vm) (h : xC C T u) : xC C T U := by
  have h1 : (Cond.castable C T).before #[] (u.setVm U.vm) = true := by
    rw [Cond.castable_setVm hvm]
    exact h
  have e := Cond.onTables_vm (A := #[]) (A' := #[]) (U := u) (U' := U) U.vm (Cond.castable C T) rfl
  have hU : U.setVm U.vm = U := rfl
  rw [hU] at e
  unfold xC
  rw [← e]
  exact h1
abbrev yI (X : String) : MethodName := ⟨X, "<init>", "()V"⟩
abbrev yS (X : String) : MethodName := ⟨X, "<init>", "(Ljava/lang/String;)V"⟩
def EN (U : State) : Prop := (va_Nc nIAE nUOE U ∧ va_Nc nISE nUOE U ∧ va_Nc nISE nIAE U) ∧ (xC nUOE nUOE U ∧ xC nIAE nIAE U ∧ xC nISE nISE U) ∧ (xD (yI nRTE) U ∧ xD (yI nEXC) U ∧ xD (yI Bundle.tN) U) ∧ (xD (yS nRTE) U ∧ xD (yS nEXC) U ∧ xD (yS Bundle.tN) U) ∧ (∃ sa, vk_R RX5 235 "no such shelf" sa U) ∧ ∃ sa, vk_R RX5 242 "no row, or no such place" sa U
def EV (A : Nat → Prop) (U : State) : Prop := (vx_Zq Bundle.tN "UNASSIGNED_STACK" Bundle.steD A U U.heap ∧ vx_Zq Bundle.tN "SUPPRESSED_SENTINEL" Bundle.listD A U U.heap) ∧ EN U
theorem EN.mv {u U : State} (hvm : u.vm.Alike U.vm) (hk : ∀ k tx sa, vk_R RX5 k tx sa u → vk_R RX5 k tx sa U) (h : EN u) : EN U := by
  obtain ⟨⟨a1, a2, a3⟩, ⟨b1, b2, b3⟩, ⟨c1, c2, c3⟩, ⟨d1, d2, d3⟩, ⟨s1, e1⟩, s2, e2⟩ := h
  exact ⟨⟨a1.moved hvm, a2.moved hvm, a3.moved hvm⟩, ⟨b1.moved hvm, b2.moved hvm, b3.moved hvm⟩, ⟨c1.moved hvm, c2.moved hvm, c3.moved hvm⟩, ⟨d1.moved hvm, d2.moved hvm, d3.moved hvm⟩, ⟨s1, hk _ _ _ e1⟩, s2, hk _ _ _ e2⟩
theorem EN.warm {s U : State} (hW : s.WarmedH U.vm) (h : EN s) : EN U := h.mv hW.alike (fun _ _ _ z => vk_R.warm hW z)
theorem EN.same {u U : State} (e : u.vm = U.vm) (h : EN u) : EN U := h.mv (by rw [e]; exact Vm.Alike.refl _) (fun _ _ _ z => vk_R.same e.symm z)
theorem EV.at' {A : Nat → Prop} {s : State} {H : Heap} {locs : List Loc} (h : EV A s) (hS : va_S A s.heap H locs) {U : State} (hU : U.heap = H) (hW : s.WarmedH U.vm) : EV A U :=
  ⟨⟨by rw [hU]; exact vx_Zq.moved hW.alike (h.1.1.kept hS.2.1), by rw [hU]; exact vx_Zq.moved hW.alike (h.1.2.kept hS.2.1)⟩, EN.warm hW h.2⟩
theorem EV.narrow {A B : Nat → Prop} {U : State} (h : EV A U) (hAB : ∀ q, B q → A q) : EV B U := ⟨⟨h.1.1.narrow hAB, h.1.2.narrow hAB⟩, h.2⟩
/-- a contract's start, where it may throw -/
def PE (D : va_G) (κ : Nat → ClassId) (A : Nat → Prop) (S : Hp) (av : List Value) : Array Value → State → Prop := va_Pc av (fun U => ((∀ q, U.heap.size ≤ q → A q) ∧ BG D κ A S U) ∧ EV A U)
theorem pe_blind {D : va_G} {κ : Nat → ClassId} {A : Nat → Prop} {S : Hp} {av : List Value} : FrameBlind (PE D κ A S av) := fun a U g mk q => by
  obtain ⟨q0, ⟨q1, q2, q3, q4⟩, ⟨z1, z2⟩, z3⟩ := q
  exact ⟨q0, ⟨q1, q2, KK.moved (u := U) (U := U.calling g mk a) (Vm.Alike.refl U.vm) q3, XX.same (u := U) (U := U.calling g mk a) rfl q4⟩, ⟨vx_Zq.moved (u := U) (U := U.calling g mk a) (Vm.Alike.refl U.vm) z1, vx_Zq.moved (u := U) (U := U.calling g mk a) (Vm.Alike.refl U.vm) z2⟩, EN.same (u := U) (U := U.calling g mk a) rfl z3⟩
theorem pe_V {D : va_G} {κ : Nat → ClassId} {A : Nat → Prop} {S : Hp} {s : State} {H : Heap} {As : List Value} {b ci : Nat} {fs : List Value} {q : vw_C} (hK : KK D κ s) (hX : XX s) (hG : GG D κ A S H) (hA : ∀ q, H.size ≤ q → A q) (hE : ∀ U : State, U.heap = H → s.WarmedH U.vm → EV A U) (he : cO κ S b = some (.inr (ci, fs))) (hc : vwCl[ci]? = some q) : PreV s H q.1 b (PE D κ A S (.ref b :: As)) As :=
  ⟨pe_blind, va_recv hK (hG.P he) hc rfl (q0 := 0), fun U hU hW => ⟨rfl, ⟨by rw [hU]; exact hA, by rw [hU]; exact hG, KK.moved hW.alike hK, XX.warm hW hX⟩, hE U hU hW⟩⟩
def XE (D : va_G) (κ : Nat → ClassId) (A : Nat → Prop) (X : String → Hp → Prop) : String → State → State → Prop := vx_X (fun _ : Hp => True) (fun E u t => GG D κ A u t.heap ∧ X E u) A
theorem GG.kept {D : va_G} {κ : Nat → ClassId} {A : Nat → Prop} {S : Hp} {H H1 : Heap} (h : GG D κ A S H) (hq : ∀ q : Nat, q < H.size → H1[q]? = H[q]?) : GG D κ A S H1 := fun a e he => ⟨(h a e he).1.kept (hq a (h a e he).1.lt), (h a e he).2⟩
/-- what is thrown here: the world stays -/
theorem xe_of {D : va_G} {κ : Nat → ClassId} {A : Nat → Prop} {S : Hp} {s : State} {H : Heap} {locs : List Loc} {X : String → Hp → Prop} {E : String} (hG : GG D κ A S H) (hS : va_S A s.heap H locs) (hX : X E S) : ∀ t : State, s.vm.Alike t.vm → H.size ≤ t.heap.size → (∀ q : Nat, q < H.size → t.heap[q]? = H[q]?) → XE D κ A X E s t :=
  fun t _ hz hq => ⟨S, trivial, ⟨hG.kept hq, hX⟩, Nat.le_trans hS.1 hz, fun q h1 h2 => (hq q (Nat.lt_of_lt_of_le h1 hS.1)).trans (hS.2.1 q h1 h2)⟩
def wp_X2_fail (a0 : Nat) (S : Hp) (Q : Hp → Prop) (X : String → Hp → Prop) : Prop :=
  (kd S a0 = 3) ∧ ((gI S 20 a0 = 5 → Q S) ∧ (¬ gI S 20 a0 = 5 → ((gI S 21 a0 = 0 → Q S) ∧ (¬ gI S 21 a0 = 0 → ((gI S 20 a0 = 7 → X nUOE S) ∧ (¬ gI S 20 a0 = 7 → ((gI S 20 a0 = 6 → X nIAE S) ∧ (¬ gI S 20 a0 = 6 → X nISE S))))))))
set_option maxHeartbeats 4000000 in
set_option maxRecDepth 100000 in
theorem c_X2_fail (l : Launch) (hnt : l.stackTraces = false) (D : va_G) (κ : Nat → ClassId) (A : Nat → Prop) (S : Hp) (a0 : Nat) (Q : Hp → Prop) (X : String → Hp → Prop) (h : wp_X2_fail a0 S Q X) : vx_Met l yX2_fail wsX2_fail ({ frames := 10, cells := 1, slots := 6, locals := 200 } : Room) (PE D κ A S [.ref a0]) (va_Qv Q (BG D κ A) A) (XE D κ A X) 1 6 A := by
  refine vx_ofW (cc := cX2_fail) (maxL := 1) (ret := none) (by decide) rfl ?_
  intro p e s m args below meth c s₁ B hml htab hv
  obtain ⟨hargs, ⟨hA, hG, hK, hX⟩, hE⟩ := hv
  have hx := B.exec
  have hb := B.bytes
  have hr := B.returns
  have hts := atoms_spec (ws := wsX2_fail) B.pre
  have hown : s.vm.findClass RX2 = some m.cls := findClass_of_methodNamed B.named
  have hlocks := B.notSynchronized
  subst hargs
  clear B
  have hS : va_S A s.heap s.heap [] := va_S.rf
  have hl := lv_entry ([.ref a0]) (n := 1) (Nat.le_of_ble_eq_true rfl)
  rw [lg_entry_eq]
  generalize (lg_sl ([.ref a0]) ++ List.replicate (1 - (lg_sl ([.ref a0])).length) Slot.unset).toArray = ls at hl ⊢
  have hl : lv_has ls 1 [(0, .ref a0)] := hl
  have hG : GG D κ A S s.heap := hG
  have hin : ∀ w ∈ wsX20, w ∈ wsX2_fail := fun _ h => List.mem_cons_of_mem _ (List.mem_append_left _ (List.mem_append_left _ (List.mem_append_left _ (List.mem_append_right _ h))))
  have hk := h.1
  replace h := h.2
  have hret : Q S → ∀ {pc : Nat} {ls : Array Slot}, decode cX2_fail pc = .ok (.return_, 1) → W p l e ({ frames := 10, cells := 1, slots := 6, locals := 200 } : Room) s m (#[Value.ref a0]) below meth c s.heap [] 0 0 (vx_MQ below (va_Qv Q (BG D κ A) A) (XE D κ A X) (#[Value.ref a0]) s 1 6 A) (F0 m pc ls []) := fun hq {pc ls} hd => by
    refine vx_ret (W.widen (k := 1) (n := 6) (by decide) (by decide) ?_)
    exact W.vret hx hb hr (gr_v hq hG hK hX hS) hS.2.2 hd
  refine lv_aload_n hx hb dX2_fail_0 rfl (lv_at hl 0 rfl) ?_
  refine gg_get (ci := 2) (C := RX2) (T := TX2) (N := 2) hx hb hts hin hown hK hG (kc_3 hk) rfl 0 (by decide) (hts (.fieldLink RX2 9 "FourStones$Scale" "kind" "I") (by decide +kernel)) (fun _ h9 => h9) rfl dX2_fail_1 ?_
  refine lv_iconst (v := (5 : Int32)) hx hb dX2_fail_4 (by decide) ?_
  refine lv_icmp_eq (tgt := 15) hx hb dX2_fail_5 rfl (fun hc => ?_) (fun hc => ?_)
  · exact hret (h.1 hc) dX2_fail_15
  · replace h := h.2 hc
    refine lv_aload_n hx hb dX2_fail_8 rfl (lv_at hl 0 rfl) ?_
    refine gg_get (ci := 2) (C := RX2) (T := TX2) (N := 2) hx hb hts hin hown hK hG (kc_3 hk) rfl 1 (by decide) (hts (.fieldLink RX2 15 "FourStones$Scale" "figure" "I") (by decide +kernel)) (fun _ h9 => h9) rfl dX2_fail_9 ?_
    refine lv_if_ne (tgt := 16) hx hb dX2_fail_12 rfl (fun hc2 => ?_) (fun hc2 => ?_)
    · replace h := h.2 hc2
      refine lv_aload_n hx hb dX2_fail_16 rfl (lv_at hl 0 rfl) ?_
      refine gg_get (ci := 2) (C := RX2) (T := TX2) (N := 2) hx hb hts hin hown hK hG (kc_3 hk) rfl 0 (by decide) (hts (.fieldLink RX2 9 "FourStones$Scale" "kind" "I") (by decide +kernel)) (fun _ h9 => h9) rfl dX2_fail_17 ?_
      refine lv_bipush (v := (7 : Int32)) hx hb dX2_fail_20 (by decide) ?_
      refine lv_icmp_ne (tgt := 33) hx hb dX2_fail_22 rfl (fun hc3 => ?_) (fun hc3 => ?_)
      · replace h := h.2 hc3
        refine lv_aload_n hx hb dX2_fail_33 rfl (lv_at hl 0 rfl) ?_
        refine gg_get (ci := 2) (C := RX2) (T := TX2) (N := 2) hx hb hts hin hown hK hG (kc_3 hk) rfl 0 (by decide) (hts (.fieldLink RX2 9 "FourStones$Scale" "kind" "I") (by decide +kernel)) (fun _ h9 => h9) rfl dX2_fail_34 ?_
        refine lv_bipush (v := (6 : Int32)) hx hb dX2_fail_37 (by decide) ?_
        refine lv_icmp_ne (tgt := 50) hx hb dX2_fail_39 rfl (fun hc4 => ?_) (fun hc4 => ?_)
        · replace h := h.2 hc4
          exact vx_throw0 (cls := nISE) (names := [nRTE, nEXC]) (ik := 58) (ic := 60) (A := A) hx hb hnt hown (by decide) (by decide) (hts _ (by decide +kernel)) (hts _ (by decide +kernel)) (vx_hat (B := [Cond.declares (yI nRTE), Cond.declares (yI nEXC), Cond.declares (yI Bundle.tN), Cond.castable nISE nISE]) (fun w hw => hts w (List.mem_cons_of_mem _ (List.mem_append_right _ hw))) (by decide +kernel) (vx_c hE.2.2.2.1.1.use (vx_c hE.2.2.2.1.2.1.use (vx_c hE.2.2.2.1.2.2.use (vx_c hE.2.2.1.2.2.use vx_n))))) (by decide +kernel) hE.1.1 hE.1.2 hS (by rw [hl.1, hml]) dX2_fail_50 dX2_fail_53 dX2_fail_54 dX2_fail_57 (fun x hx => (htab x hx).elim) (by decide) (by decide) (by decide) (by decide) hlocks (xe_of hG hS h) hS.2.2 (by decide) (by decide)
        · replace h := h.1 hc4
          exact vx_throw0 (cls := nIAE) (names := [nRTE, nEXC]) (ik := 55) (ic := 57) (A := A) hx hb hnt hown (by decide) (by decide) (hts _ (by decide +kernel)) (hts _ (by decide +kernel)) (vx_hat (B := [Cond.declares (yI nRTE), Cond.declares (yI nEXC), Cond.declares (yI Bundle.tN), Cond.castable nIAE nIAE]) (fun w hw => hts w (List.mem_cons_of_mem _ (List.mem_append_left _ (List.mem_append_right _ hw)))) (by decide +kernel) (vx_c hE.2.2.2.1.1.use (vx_c hE.2.2.2.1.2.1.use (vx_c hE.2.2.2.1.2.2.use (vx_c hE.2.2.1.2.1.use vx_n))))) (by decide +kernel) hE.1.1 hE.1.2 hS (by rw [hl.1, hml]) dX2_fail_42 dX2_fail_45 dX2_fail_46 dX2_fail_49 (fun x hx => (htab x hx).elim) (by decide) (by decide) (by decide) (by decide) hlocks (xe_of hG hS h) hS.2.2 (by decide) (by decide)
      · replace h := h.1 hc3
        exact vx_throw0 (cls := nUOE) (names := [nRTE, nEXC]) (ik := 52) (ic := 54) (A := A) hx hb hnt hown (by decide) (by decide) (hts _ (by decide +kernel)) (hts _ (by decide +kernel)) (vx_hat (B := [Cond.declares (yI nRTE), Cond.declares (yI nEXC), Cond.declares (yI Bundle.tN), Cond.castable nUOE nUOE]) (fun w hw => hts w (List.mem_cons_of_mem _ (List.mem_append_left _ (List.mem_append_left _ (List.mem_append_right _ hw))))) (by decide +kernel) (vx_c hE.2.2.2.1.1.use (vx_c hE.2.2.2.1.2.1.use (vx_c hE.2.2.2.1.2.2.use (vx_c hE.2.2.1.1.use vx_n))))) (by decide +kernel) hE.1.1 hE.1.2 hS (by rw [hl.1, hml]) dX2_fail_25 dX2_fail_28 dX2_fail_29 dX2_fail_32 (fun x hx => (htab x hx).elim) (by decide) (by decide) (by decide) (by decide) hlocks (xe_of hG hS h) hS.2.2 (by decide) (by decide)
    · exact hret (h.1 hc2) dX2_fail_15
