/-! THE CLAIM OUT OF ONE WALK OF THE LAW'S BODY. Your part is whole_start (and what it stands on); all else here is the same for every law, but numbers. -/
def R_law : String := "FourStonesLaw"
def lw_P (b : Addr) (xs : List Int32) (args : Array Value) (s : State) : Prop := args = #[.ref b] ∧ s.IntsAt b xs ∧ xs.length ≤ 3072 ∧ (Jvm.Cond.and given_1 narrow_1).before args s = true
def lw_Q (_ : Array Value) (s : State) (o : Outcome) (t : State) : Prop := o = .returned (some (.int 1)) ∧ Framed s o t [] 601024 7293034
def lw_Z (below : List Frame) (a : Array Value) (s : State) : State → Prop := fun t => ∃ o, t.status = .running ∧ Ended t below o ∧ lw_Q a s o t
/-- the law's own end, with 1 on the stack, nothing written that was there before, its room as the claim has it -/
theorem lw_ret {p : Program} {l : Launch} {e : Env} {s : State} {m : MethodId} {below : List Frame} {meth : Method} {c : Code} {b : Nat} (hx : p.tables.exec = Jvm.exec) (hb : c.code = code) (hr : meth.sig.returnType = ret) (hlocks : meth.locks = false) {pc : Nat} {H : Heap} {ls : Array Slot} (hdg : decode code pc = .ok (.ireturn, 1)) : W p l e room_1 s m #[Value.ref b] below meth c H [] 601024 7293034 (lw_Z below #[Value.ref b] s) (F0 m pc ls [.int 1]) := by
  intro T hT X
  obtain ⟨fs, hret, hrun, hended, hW, hframe⟩ := X.leave (v := some (.int 1)) (hlocks := hlocks) (fun h => by rw [hr] at h; cases h)
  have hmeth' : T.vm.method? m = some meth := X.method'
  refine ⟨T.setFrames fs, ?_, .returned (some (.int 1)), hrun, hended, rfl, ⟨_, rfl⟩, hW, hframe⟩
  jvm_step X.here [X.here.top, hx, hb, hdg, hmeth', hr, ret, narrow_b1]
  (try refine ⟨rfl, ?_⟩); (try refine ⟨rfl, ?_⟩)
  first | (intro acts; rw [hret _ acts rfl rfl rfl]) | rw [hret _ _ rfl rfl rfl]
  exact Steps.refl _
/-- what holds at the law's entry: the machine, the code, the tables' words (any of lw_tbl by 'hts w (by decide +kernel)'), the script of L ints xs at the cell b, what the Statement gives of the start (any of its parts by flat_of_before) -/
def lw_At (p : Program) (s : State) (m : MethodId) (meth : Method) (c : Code) (b L : Nat) (xs : Nat → Int32) : Prop :=
  p.tables.exec = Jvm.exec ∧ c.code = code ∧ meth.sig.returnType = ret ∧ c.maxLocals = 8 ∧ s.vm.findClass R_law = some m.cls ∧ (∀ w ∈ lw_tbl, w.before #[Value.ref b] s = true) ∧ va_X b L xs s s.heap ∧ b < s.heap.size ∧ meth.locks = false ∧ (Jvm.Cond.and given_1 narrow_1).before #[Value.ref b] s = true

/-! the law: two worlds side by side, and the reader's own cell -/
def RA (κ : Nat → ClassId) (h0 out : Nat) (S : Hp) : Nat → Prop := fun q => h0 ≤ q ∧ cO κ S q = none ∧ q ≠ out
def W2 (D : va_G) (κ : Nat → ClassId) (cL : ClassId) (h0 out : Nat) (f : Nat → Int64) (S1 S2 : Hp) (H : Heap) : Prop := GG D κ (RA κ h0 out S2) S1 H ∧ GG D κ (RA κ h0 out S1) S2 H ∧ OW D cL out f H ∧ h0 ≤ out
section LWB
variable {D : va_G} {κ : Nat → ClassId} {cL : ClassId} {h0 out : Nat} {f f1 : Nat → Int64} {S1 S2 S3 : Hp} {H H1 : Heap}
theorem RA.free (hG : GG D κ (RA κ h0 out S1) S2 H) (hz : h0 ≤ H.size) (ho : OW D cL out f H) : ∀ q, H.size ≤ q → RA κ h0 out S2 q := fun q hq => by
  refine ⟨Nat.le_trans hz hq, ?_, fun e => ?_⟩
  · cases e : cO κ S2 q with
    | none => rfl
    | some z => exact absurd (hG q z e).1.lt (Nat.not_lt.mpr hq)
  · have := ho.lt
    omega
theorem W2.A1 (h : W2 D κ cL h0 out f S1 S2 H) (hz : h0 ≤ H.size) : ∀ q, H.size ≤ q → RA κ h0 out S2 q := RA.free h.2.1 hz h.2.2.1
theorem W2.A2 (h : W2 D κ cL h0 out f S1 S2 H) (hz : h0 ≤ H.size) : ∀ q, H.size ≤ q → RA κ h0 out S1 q := RA.free h.1 hz h.2.2.1
theorem RA.other (h2 : GG D κ (RA κ h0 out S1) S2 H) (hG : GG D κ (RA κ h0 out S2) S3 H1) (hk : ∀ q : Nat, q < H.size → ¬ (RA κ h0 out S2 q ∨ q = out) → H1[q]? = H[q]?) : GG D κ (RA κ h0 out S3) S2 H1 := fun q e he => by
  obtain ⟨a1, a2, a3, a4⟩ := h2 q e he
  refine ⟨a1.kept (hk q a1.lt (fun z => z.elim (fun z => ?_) a4)), a2, ?_, a4⟩
  · rw [z.2.1] at he
    cases he
  · cases e9 : cO κ S3 q with
    | none => rfl
    | some z =>
      have := (hG q z e9).2.2.1
      rw [he] at this
      cases this
theorem W2.one (h : W2 D κ cL h0 out f S1 S2 H) (hG : GG D κ (RA κ h0 out S2) S3 H1) (hk : ∀ q : Nat, q < H.size → ¬ RA κ h0 out S2 q → H1[q]? = H[q]?) : W2 D κ cL h0 out f S3 S2 H1 :=
  ⟨hG, RA.other h.2.1 hG (fun q h1 h2 => hk q h1 (fun z => h2 (Or.inl z))), h.2.2.1.kept (hk out h.2.2.1.lt (fun z => z.2.2 rfl)), h.2.2.2⟩
theorem W2.two (h : W2 D κ cL h0 out f S1 S2 H) (hG : GG D κ (RA κ h0 out S1) S3 H1) (hk : ∀ q : Nat, q < H.size → ¬ RA κ h0 out S1 q → H1[q]? = H[q]?) : W2 D κ cL h0 out f S1 S3 H1 :=
  ⟨RA.other h.1 hG (fun q h1 h2 => hk q h1 (fun z => h2 (Or.inl z))), hG, h.2.2.1.kept (hk out h.2.2.1.lt (fun z => z.2.2 rfl)), h.2.2.2⟩
theorem W2.onef (h : W2 D κ cL h0 out f S1 S2 H) (hG : GG D κ (RA κ h0 out S2) S3 H1) (hk : ∀ q : Nat, q < H.size → ¬ (RA κ h0 out S2 q ∨ q = out) → H1[q]? = H[q]?) (ho : OW D cL out f1 H1) : W2 D κ cL h0 out f1 S3 S2 H1 :=
  ⟨hG, RA.other h.2.1 hG hk, ho, h.2.2.2⟩
end LWB
section LWC
variable {p : Program} {l : Launch} {e : Env} {R : Room} {s : State} {m : MethodId} {args : Array Value} {below : List Frame} {meth : Method} {c : Code} {H : Heap} {locs : List Loc} {cells slots : Nat} {Q : State → Prop}
variable {pc mc ms : Nat} {ls : Array Slot} {rest st0 : List Value} {D : va_G} {κ : Nat → ClassId} {cL : ClassId} {out : Nat} {f : Nat → Int64} {S1 S2 : Hp} {a : Array Value}
theorem lw_c1 {post : Int32 → Hp → Prop} (hr : va_Run p l e R s m args below meth c H locs cells slots mc ms (F0 m pc ls st0) rest (va_Qi post (BG D κ (RA κ s.heap.size out S2)) (RA κ s.heap.size out S2) a) (RA κ s.heap.size out S2)) (hW : W2 D κ cL s.heap.size out f S1 S2 H) (hS : va_S (fun q => s.heap.size ≤ q) s.heap H locs)
    (kk : ∀ (r : Int32) (S3 : Hp) (H1 : Heap) (locs1 : List Loc), post r S3 → W2 D κ cL s.heap.size out f S3 S2 H1 → va_S (fun q => s.heap.size ≤ q) s.heap H1 locs1 → W p l e R s m args below meth c H1 locs1 (cells + mc) (slots + ms) Q (F0 m (pc + 3) ls (.int r :: rest))) : W p l e R s m args below meth c H locs cells slots Q (F0 m pc ls st0) :=
  va_calli hr hS (fun q _ h => h.1) (fun q h => h.1) (fun r u t H1 locs1 ht _ hp hB _ hk hS1 => kk r u H1 locs1 hp (hW.one (ht ▸ hB.1) hk) hS1)
theorem lw_c2 {post : Int32 → Hp → Prop} (hr : va_Run p l e R s m args below meth c H locs cells slots mc ms (F0 m pc ls st0) rest (va_Qi post (BG D κ (RA κ s.heap.size out S1)) (RA κ s.heap.size out S1) a) (RA κ s.heap.size out S1)) (hW : W2 D κ cL s.heap.size out f S1 S2 H) (hS : va_S (fun q => s.heap.size ≤ q) s.heap H locs)
    (kk : ∀ (r : Int32) (S3 : Hp) (H1 : Heap) (locs1 : List Loc), post r S3 → W2 D κ cL s.heap.size out f S1 S3 H1 → va_S (fun q => s.heap.size ≤ q) s.heap H1 locs1 → W p l e R s m args below meth c H1 locs1 (cells + mc) (slots + ms) Q (F0 m (pc + 3) ls (.int r :: rest))) : W p l e R s m args below meth c H locs cells slots Q (F0 m pc ls st0) :=
  va_calli hr hS (fun q _ h => h.1) (fun q h => h.1) (fun r u t H1 locs1 ht _ hp hB _ hk hS1 => kk r u H1 locs1 hp (hW.two (ht ▸ hB.1) hk) hS1)
theorem lw_l2 {post : Int64 → Hp → Prop} (hr : va_Run p l e R s m args below meth c H locs cells slots mc ms (F0 m pc ls st0) rest (va_Ql post (BG D κ (RA κ s.heap.size out S1)) (RA κ s.heap.size out S1) a) (RA κ s.heap.size out S1)) (hW : W2 D κ cL s.heap.size out f S1 S2 H) (hS : va_S (fun q => s.heap.size ≤ q) s.heap H locs)
    (kk : ∀ (r : Int64) (S3 : Hp) (H1 : Heap) (locs1 : List Loc), post r S3 → W2 D κ cL s.heap.size out f S1 S3 H1 → va_S (fun q => s.heap.size ≤ q) s.heap H1 locs1 → W p l e R s m args below meth c H1 locs1 (cells + mc) (slots + ms) Q (F0 m (pc + 3) ls (.long r :: rest))) : W p l e R s m args below meth c H locs cells slots Q (F0 m pc ls st0) :=
  va_calll hr hS (fun q _ h => h.1) (fun q h => h.1) (fun r u t H1 locs1 ht _ hp hB _ hk hS1 => kk r u H1 locs1 hp (hW.two (ht ▸ hB.1) hk) hS1)
/-- one number of the script -/
theorem lw_arg (hx : p.tables.exec = Jvm.exec) (hb : c.code = cL_law) {b L : Nat} {xs : Nat → Int32} (hscr : va_X b L xs s s.heap) (hbl : b < s.heap.size) (hS : va_S (fun q => s.heap.size ≤ q) s.heap H locs) (hL : L ≤ 3072) {i : Nat} (hi : i + 6 ≤ L) (h4 : ls[4]? = some (.val (.int (nI i)))) (h0 : ls[0]? = some (.val (.ref b))) (j : Nat) (hj : j < 6) {n : Int} (hn : Int32.ofInt n = nI j)
    (d1 : decode cL_law pc = .ok (.aload_n 0, 1)) (d2 : decode cL_law (pc + 1) = .ok (.iload 4, 2)) (d3 : decode cL_law (pc + 3) = .ok (.iconst n, 1)) (d4 : decode cL_law (pc + 4) = .ok (.iadd, 1)) (d5 : decode cL_law (pc + 5) = .ok (.iaload, 1))
    (k : W p l e R s m args below meth c H locs cells slots Q (F0 m (pc + 6) ls (.int (xs (nI (i + j)).toNatClampNeg) :: rest))) : W p l e R s m args below meth c H locs cells slots Q (F0 m pc ls rest) := by
  refine lv_aload_n hx hb d1 rfl h0 ?_
  refine lv_iload hx hb d2 h4 ?_
  refine lv_iconst hx hb d3 hn ?_
  refine lv_iadd hx hb d4 ?_
  rw [nI_add]
  exact va_sld hx hb hscr hbl (Nat.not_le.mpr hbl) hS (vp_in_nI (by omega) (by omega)) d5 k
end LWC
theorem lw_cmp (x : Int64) : lg_cmp x x = 0 := by
  unfold lg_cmp
  simp
/-- what stands while the law runs -/
def lwC (p : Program) (l : Launch) (s : State) (m : MethodId) (c : Code) (b L : Nat) (xs : Nat → Int32) (D : va_G) (κ : Nat → ClassId) (cL : ClassId) : Prop := p.tables.exec = Jvm.exec ∧ c.code = cL_law ∧ c.maxLocals = 8 ∧ s.vm.findClass RL = some m.cls ∧ (∀ w ∈ wsL_law, w.before #[Value.ref b] s = true) ∧ va_X b L xs s s.heap ∧ b < s.heap.size ∧ KK D κ s ∧ XX s ∧ OKL D cL s ∧ EV (fun q => s.heap.size ≤ q) s ∧ l.stackTraces = false ∧ L ≤ 3072
def lwS (D : va_G) (κ : Nat → ClassId) (cL : ClassId) (s : State) (x y out : Nat) (a b : Nat → Nat) (v : AS) (S1 S2 : Hp) (f : Nat → Int64) (H : Heap) (locs : List Loc) : Prop := a 0 = x ∧ b 0 = y ∧ XI a v S1 ∧ MI b v S2 ∧ W2 D κ cL s.heap.size out f S1 S2 H ∧ va_S (fun q => s.heap.size ≤ q) s.heap H locs

