-- throwing: what must hold for it
def gs : List (Nat × String) := [(49, "there are 8 orders"), (60, "grade or due minute"), (76, "no such order or unit"), (82, "there are 6 heats"), (87, "length, units or minute"), (99, "the heat does not fit"), (116, "no such unit"), (121, "there are 10 stops"), (123, "minutes of the stop"), (132, "now or freeze"), (143, "no such heat or unit"), (149, "the heat is frozen"), (151, "minute"), (157, "the heat does not fit there"), (162, "no such heat or order"), (167, "another grade, or its own order"), (170, "nodes"), (190, "no such what"), (196, "there was no run"), (206, "no such heat or what"), (222, "no such copy"), (224, "the copy was not kept"), (232, "there is nothing to undo")]
def fw_X (A : Nat → Prop) (U : State) (H : Heap) : Prop := vx_Zq Bundle.tN "UNASSIGNED_STACK" Bundle.steD A U H ∧ vx_Zq Bundle.tN "SUPPRESSED_SENTINEL" Bundle.listD A U H ∧ ∀ q ∈ gs, ∃ sa, vk_R R_F q.1 q.2 sa U
theorem fw_X.narrow {A B : Nat → Prop} {U : State} {H : Heap} (h : fw_X A U H) (hAB : ∀ q, B q → A q) : fw_X B U H := ⟨h.1.narrow hAB, h.2.1.narrow hAB, h.2.2⟩
theorem fw_X.kept {A : Nat → Prop} {U : State} {H H1 : Heap} (h : fw_X A U H) (hq : ∀ a : Nat, a < H.size → ¬ A a → H1[a]? = H[a]?) : fw_X A U H1 := ⟨h.1.kept hq, h.2.1.kept hq, h.2.2⟩
theorem fw_X.warm {A : Nat → Prop} {s U : State} {H : Heap} (hW : s.WarmedH U.vm) (h : fw_X A s H) : fw_X A U H := ⟨h.1.moved hW.alike, h.2.1.moved hW.alike, fun q hq => by
  obtain ⟨sa, h1⟩ := h.2.2 q hq
  exact ⟨sa, h1.warm hW⟩⟩
theorem fw_X.calling {A : Nat → Prop} {U : State} {H : Heap} (h : fw_X A U H) (g : JFrame) (mk : MethodId) (a : Array Value) : fw_X A (U.calling g mk a) H := ⟨h.1.moved (u := U) (U := U.calling g mk a) (Vm.Alike.refl U.vm), h.2.1.moved (u := U) (U := U.calling g mk a) (Vm.Alike.refl U.vm), fun q hq => by
  obtain ⟨sa, h1⟩ := h.2.2 q hq
  exact ⟨sa, h1.same rfl⟩⟩
def fw_Px (D : va_G) (av : List Value) (ws : va_W) (tys : List (ClassId × FieldType)) (sz : Nat) : Array Value → State → Prop := va_Pc av (fun U => U.heap.size = sz ∧ va_P D cls_ ws U.heap ∧ va_K D cls_ tys U ∧ va_D (fun _ => True) ws ∧ fw_N U ∧ fw_X (va_A ws sz) U U.heap)
theorem fw_Px_blind {D : va_G} {av : List Value} {ws : va_W} {tys : List (ClassId × FieldType)} {sz : Nat} : FrameBlind (fw_Px D av ws tys sz) := by
  intro a U g mk h
  obtain ⟨h0, h1, h2, h3, h4, h5, h6⟩ := h
  exact ⟨h0, h1, h2, va_K.moved (u := U) (U := U.calling g mk a) (Vm.Alike.refl U.vm) h3, h4, h5.calling g mk a, h6.calling g mk a⟩
def fw_nms : List String := ["java/lang/RuntimeException", "java/lang/Exception"]
def fw_Ex (E : String) (ik ic : Nat) : Prop := Bundle.fit E = true ∧ (∀ w ∈ (vx_atS R_F ic E fw_nms).filter goodWord, w ∈ gw) ∧ (∀ w ∈ (vx_atS R_F ic E fw_nms).filter (fun w => !goodWord w), w ∈ gn) ∧ (∀ w ∈ Cond.classLink R_F ik E :: Cond.initialized E :: vx_atS R_F ic E fw_nms, vx_ot w = true) ∧ Cond.classLink R_F ik E ∈ gw ∧ Cond.initialized E ∈ gw
theorem fw_E1 : fw_Ex "java/lang/IllegalStateException" 47 51 := ⟨by decide +kernel, by decide +kernel, by decide +kernel, by decide +kernel, by decide +kernel, by decide +kernel⟩
theorem fw_E2 : fw_Ex "java/lang/IllegalArgumentException" 58 62 := ⟨by decide +kernel, by decide +kernel, by decide +kernel, by decide +kernel, by decide +kernel, by decide +kernel⟩
theorem fw_E3 : fw_Ex "java/lang/IndexOutOfBoundsException" 74 78 := ⟨by decide +kernel, by decide +kernel, by decide +kernel, by decide +kernel, by decide +kernel, by decide +kernel⟩
theorem fw_E4 : fw_Ex "java/lang/UnsupportedOperationException" 97 101 := ⟨by decide +kernel, by decide +kernel, by decide +kernel, by decide +kernel, by decide +kernel, by decide +kernel⟩
/-- the end by an exception: which one, the world as it was -/
def fw_XC (D : va_G) (W0 : va_W) (px : String → Prop) (A : Nat → Prop) : String → State → State → Prop := fun E st t => px E ∧ va_P D cls_ W0 t.heap ∧ va_F A st t
theorem fw_throw {p : Program} {l : Launch} {e : Env} {R : Room} {s : State} {m : MethodId} {args : Array Value} {below : List Frame} {meth : Method} {c : Code} {cc : ByteArray} {pc : Nat} {ls : Array Slot} {rest : List Value} {D : va_G} {A : Nat → Prop} {W0 : va_W} {px : String → Prop} {Qc : Array Value → State → Outcome → State → Prop} {E text : String} {ik is ic : Nat}
    (hx : p.tables.exec = Jvm.exec) (hb : c.code = cc) (hlt : l.stackTraces = false) (hown : s.vm.findClass R_F = some m.cls) (hts : ∀ w ∈ gw, w.before args s = true) (hN : fw_N s) (hX : fw_X A s s.heap) (hstr : (is, text) ∈ gs) (hE : fw_Ex E ik ic) (hP : va_P D cls_ W0 s.heap) (hsize : ls.size = c.maxLocals)
    (d0 : decode cc pc = .ok (.new ik, 3)) (d3 : decode cc (pc + 3) = .ok (.dup, 1)) (d4 : decode cc (pc + 4) = .ok (.ldc is, 2)) (d6 : decode cc (pc + 6) = .ok (.invokespecial ic, 3)) (d9 : decode cc (pc + 9) = .ok (.athrow, 1)) (htb : ∀ x ∈ c.exceptionTable.toList, False)
    (hRf : 5 < R.frames) (hRl : (rest.map fun v => v.category).sum + 82 ≤ R.locals) (hRc : 1 ≤ R.cells) (hRs : 6 ≤ R.slots) (hlocks : meth.locks = false) (hpx : px E) :
    W p l e R s m args below meth c s.heap [] 0 0 (vx_MQ below Qc (fw_XC D W0 px A) args s 1 6 A) (F0 m pc ls rest) := by
  obtain ⟨h1, h2, h3, h4, h5, h6⟩ := hE
  obtain ⟨sa, hsa⟩ := hX.2.2 _ hstr
  refine vx_throwS (names := fw_nms) (A := A) hx hb hlt hown h1 (by decide) (hts _ h5) (hts _ h6) hsa (vx_hat (fun w hw => hts w (h2 w hw)) h3 (fun w hw => ?_)) h4 hX.1 hX.2.1 va_S.rf hsize d0 d3 d4 d6 d9 (fun x hx => (htb x hx).elim) hRf hRl (by omega) (by omega) hlocks (fun t _ hz hk => ⟨hpx, fun k q hq => (hP k q hq).kept (hk q.1 (hP k q hq).lt), hz, fun q hq _ => hk q hq⟩) (fun z hz => nomatch hz) (Nat.le_refl _) (Nat.le_refl _)
  have hg := hN w hw
  simp only [gn, List.mem_cons, List.not_mem_nil, or_false] at hw
  rcases hw with rfl | rfl | rfl | rfl | rfl | rfl | rfl | rfl | rfl | rfl | rfl <;> exact va_Nw.use rfl hg
theorem fw_ofX {l : Launch} {D : va_G} {y : MethodName} {cc : ByteArray} {maxL : Nat} {ret : Option FieldType} {rm : Room} {av : List Value} {W0 : va_W} {T0 : List (ClassId × FieldType)} {sz mc ms : Nat} {Qc : (Nat → Prop) → Array Value → State → Outcome → State → Prop} {XC : (Nat → Prop) → String → State → State → Prop} (hy : plainName y.cls = true) (hlen : (lg_sl av).length ≤ maxL)
    (body : ∀ (p : Program) (e : Env) (s : State) (m : MethodId) (below : List Frame) (meth : Method) (c : Code) (A : Nat → Prop) (ls : Array Slot), p.tables.exec = Jvm.exec → c.code = cc → meth.sig.returnType = ret → (∀ w ∈ gw, w.before av.toArray s = true) → s.vm.findClass y.cls = some m.cls → meth.locks = false → (∀ x ∈ c.exceptionTable.toList, False) → c.maxLocals = maxL → s.heap.size = sz → va_P D cls_ W0 s.heap → va_K D cls_ T0 s → va_D A W0 → fw_N s → fw_X A s s.heap → (∀ q, s.heap.size ≤ q → A q) → va_S A s.heap s.heap [] → lv_has ls maxL (lv_args 0 av) → W p l e rm s m av.toArray below meth c s.heap [] 0 0 (vx_MQ below (Qc A) (XC A) av.toArray s mc ms A) (F0 m 0 ls [])) : vx_Met l y (Cond.code y cc maxL ret :: gw) rm (fw_Px D av W0 T0 sz) (Qc (va_A W0 sz)) (XC (va_A W0 sz)) mc ms (va_A W0 sz) := by
  refine vx_ofW (cc := cc) (maxL := maxL) (ret := ret) hy rfl ?_
  intro p e s m args below meth c s₁ B hml htb hv
  obtain ⟨rfl, hsz, hP, hK, hD, hN, hX⟩ := hv
  have hts := atoms_spec (ws := Cond.code y cc maxL ret :: gw) B.pre
  have hl := lv_entry av (n := maxL) hlen
  rw [lg_entry_eq]
  subst hsz
  exact body p e s m below meth c (va_A W0 s.heap.size) _ B.exec B.bytes B.returns (fun w h => hts w (List.mem_cons_of_mem _ h)) (findClass_of_methodNamed B.named) B.notSynchronized htb hml rfl hP hK hD.self hN hX (fun q h => Or.inr h) va_S.rf hl
-- a body's states named: the post world out of a choice
def fw_QX {S : Type} (post : S → Prop) (r : S → Option Value) (D : va_G) (w1 : S → va_W) (A : Nat → Prop) : Array Value → State → Outcome → State → Prop := fun _ st o t => (∃ u : S, post u ∧ o = .returned (r u) ∧ va_P D cls_ (w1 u) t.heap) ∧ va_F A st t
