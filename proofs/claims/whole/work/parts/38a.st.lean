/-! THE CLAIM OUT OF ONE WALK OF THE LAW'S BODY. Your part is whole_start (and what it stands on); all else here is the same for every law, but numbers. -/
def R_law : String := "FewChangesLaw"
def lw_P (b : Addr) (xs : List Int32) (args : Array Value) (s : State) : Prop := args = #[.ref b] ∧ s.IntsAt b xs ∧ xs.length ≤ 3072 ∧ (Jvm.Cond.and given_1 narrow_1).before args s = true
def lw_Q (_ : Array Value) (s : State) (o : Outcome) (t : State) : Prop := o = .returned (some (.int 1)) ∧ Framed s o t [] 663606 7105287
def lw_Z (below : List Frame) (a : Array Value) (s : State) : State → Prop := fun t => ∃ o, t.status = .running ∧ Ended t below o ∧ lw_Q a s o t
/-- the law's own end, with 1 on the stack, nothing written that was there before, its room as the claim has it -/
theorem lw_ret {p : Program} {l : Launch} {e : Env} {s : State} {m : MethodId} {below : List Frame} {meth : Method} {c : Code} {b : Nat} (hx : p.tables.exec = Jvm.exec) (hb : c.code = code) (hr : meth.sig.returnType = ret) (hlocks : meth.locks = false) {pc : Nat} {H : Heap} {ls : Array Slot} (hdg : decode code pc = .ok (.ireturn, 1)) : W p l e room_1 s m #[Value.ref b] below meth c H [] 663606 7105287 (lw_Z below #[Value.ref b] s) (F0 m pc ls [.int 1]) := by
  intro T hT X
  obtain ⟨fs, hret, hrun, hended, hW, hframe⟩ := X.leave (v := some (.int 1)) (hlocks := hlocks) (fun h => by rw [hr] at h; cases h)
  have hmeth' : T.vm.method? m = some meth := X.method'
  refine ⟨T.setFrames fs, ?_, .returned (some (.int 1)), hrun, hended, rfl, ⟨_, rfl⟩, hW, hframe⟩
  jvm_step X.here [X.here.top, hx, hb, hdg, hmeth', hr, ret, narrow_b1]
  (try refine ⟨rfl, ?_⟩); (try refine ⟨rfl, ?_⟩)
  first | (intro acts; rw [hret _ acts rfl rfl rfl]) | rw [hret _ _ rfl rfl rfl]
  exact Steps.refl _
/-- what holds at the law's entry: the machine, the code, the tables' words (any of lw_tbl by 'hts w (by decide +kernel)'), the script of L ints xs at the cell b, what the Statement gives of the start (any of its parts by flat_of_before) -/
def lw_At (p : Program) (s : State) (m : MethodId) (meth : Method) (c : Code) (b L : Nat) (xs : Nat → Int32) : Prop :=
  p.tables.exec = Jvm.exec ∧ c.code = code ∧ meth.sig.returnType = ret ∧ c.maxLocals = 7 ∧ s.vm.findClass R_law = some m.cls ∧ (∀ w ∈ lw_tbl, w.before #[Value.ref b] s = true) ∧ va_X b L xs s s.heap ∧ b < s.heap.size ∧ meth.locks = false ∧ (Jvm.Cond.and given_1 narrow_1).before #[Value.ref b] s = true
theorem lw_flags {l : Launch} (h : l.flags = flags0) : l.stackTraces = false := by
  unfold Launch.stackTraces
  rw [h]
  decide
theorem lw_N {args : Array Value} {s : State} (h : ∀ w ∈ lw_tbl, w.before args s = true) : fw_N s := by
  intro w hw
  have hm : ∀ w ∈ gn, w ∈ lw_tbl := by decide +kernel
  have h1 := h w (hm w hw)
  simp only [gn, List.mem_cons, List.not_mem_nil, or_false] at hw
  rcases hw with rfl | rfl | rfl | rfl | rfl | rfl | rfl | rfl | rfl | rfl | rfl <;> exact va_Nw.of rfl h1
theorem lw_C {args : Array Value} {s : State} (h : ∀ w ∈ flatC (Jvm.Cond.and given_1 narrow_1), w.before args s = true) : fw_C s := by
  intro q hq
  have hm : ∀ q ∈ nc, Cond.not (.castable q.1 q.2) ∈ flatC (Jvm.Cond.and given_1 narrow_1) := by decide +kernel
  exact va_Nc.of (h _ (hm q hq))
theorem lw_X {args : Array Value} {s : State} {A : Nat → Prop} (h : ∀ w ∈ lw_tbl, w.before args s = true) (hf : ∀ w ∈ flatC (Jvm.Cond.and given_1 narrow_1), w.before args s = true) (hA : ∀ a : Nat, a < s.heap.size → ¬ A a) : fw_X A s s.heap := by
  refine ⟨vx_Zqof (h _ (by decide +kernel)) (h _ (by decide +kernel)) (hf _ (by decide +kernel)) hA, vx_Zqof (h _ (by decide +kernel)) (h _ (by decide +kernel)) (hf _ (by decide +kernel)) hA, ?_⟩
  have h1 : ∀ q ∈ gs, Cond.stringRef R_F q.1 q.2 ∈ lw_tbl := by decide +kernel
  have h2 : ∀ q ∈ gs, Cond.exactly (Term.string R_F q.1) "java/lang/String" ∈ flatC (Jvm.Cond.and given_1 narrow_1) := by decide +kernel
  intro q hq
  obtain ⟨a, c, cell, k, h3, -⟩ := Cond.exactly_spec (hf _ (h2 q hq))
  exact ⟨a, vk_R.of (h _ (h1 q hq)) h3⟩
theorem fw_preSN {s : State} {H : Heap} {D : va_G} {A : Nat → Prop} {ws : va_W} {tys : List (ClassId × FieldType)} {As : List Value} {wc : va_W} {tc : List (ClassId × FieldType)} (hP : va_P D cls_ ws H) (hK : va_K D cls_ tys s) (hD : va_D A ws) (hN : fw_N s) (hO : va_AO "FewChanges$Plan" s) (is it : List Nat) (hn : va_nd is = true) (hC : is.map (fun i => ws[i]?) = wc.map some) (hT : it.filterMap (fun i => tys[i]?) = tc) : PreS s H (fw_Pn D As wc tc H.size) As := by
  refine ⟨fw_Pn_blind, fun U hU hW => ?_⟩
  obtain ⟨h0, h1, h2, h3, h4, h5⟩ := (fw_preS (As := As) hP hK hD hN is it hn hC hT).2 U hU hW
  exact ⟨h0, h1, h2, h3, h4, h5, va_AO.moved hW.alike hO⟩
