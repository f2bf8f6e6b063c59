section
-- ===== PART A: goes FIRST, ahead of the names: the tables' words, and 'selects' of the private methods out of them =====
/-- a private method of a class that the tables say can be made, by its rows of tables_1 -/
def lw_okq (q : MethodName × Nat) : Prop := (q.1.cls ≠ "java/lang/invoke/MethodHandle" ∧ q.1.cls ≠ "java/lang/invoke/VarHandle") ∧ Cond.instantiable q.1.cls q.2 ∈ tables_1 ∧ Cond.privateMethod q.1 ∈ tables_1 ∧ Cond.instanceMethod q.1 ∈ tables_1
theorem lw_p0 : lw_okq (⟨"java/lang/Throwable", "fillInStackTrace", "(I)Ljava/lang/Throwable;"⟩, 6) := ⟨⟨by decide +kernel, by decide +kernel⟩, List.mem_of_getElem? (i := 243) (by decide +kernel), List.mem_of_getElem? (i := 241) (by decide +kernel), List.mem_of_getElem? (i := 242) (by decide +kernel)⟩
theorem lw_p1 : lw_okq (⟨"FewChanges", "isOrder", "(I)Z"⟩, 7) := ⟨⟨by decide +kernel, by decide +kernel⟩, List.mem_of_getElem? (i := 16) (by decide +kernel), List.mem_of_getElem? (i := 305) (by decide +kernel), List.mem_of_getElem? (i := 306) (by decide +kernel)⟩
theorem lw_p2 : lw_okq (⟨"FewChanges", "forgetCopiesAndUndo", "()V"⟩, 7) := ⟨⟨by decide +kernel, by decide +kernel⟩, List.mem_of_getElem? (i := 16) (by decide +kernel), List.mem_of_getElem? (i := 367) (by decide +kernel), List.mem_of_getElem? (i := 368) (by decide +kernel)⟩
theorem lw_p3 : lw_okq (⟨"FewChanges", "isHeat", "(I)Z"⟩, 7) := ⟨⟨by decide +kernel, by decide +kernel⟩, List.mem_of_getElem? (i := 16) (by decide +kernel), List.mem_of_getElem? (i := 400) (by decide +kernel), List.mem_of_getElem? (i := 401) (by decide +kernel)⟩
theorem lw_p4 : lw_okq (⟨"FewChanges", "rememberForUndo", "()V"⟩, 7) := ⟨⟨by decide +kernel, by decide +kernel⟩, List.mem_of_getElem? (i := 16) (by decide +kernel), List.mem_of_getElem? (i := 418) (by decide +kernel), List.mem_of_getElem? (i := 419) (by decide +kernel)⟩
theorem lw_p5 : lw_okq (⟨"FewChanges$Search", "looseHeats", "()I"⟩, 13) := ⟨⟨by decide +kernel, by decide +kernel⟩, List.mem_of_getElem? (i := 99) (by decide +kernel), List.mem_of_getElem? (i := 450) (by decide +kernel), List.mem_of_getElem? (i := 451) (by decide +kernel)⟩
theorem lw_p6 : lw_okq (⟨"FewChanges$Search", "searchRound", "(I)V"⟩, 13) := ⟨⟨by decide +kernel, by decide +kernel⟩, List.mem_of_getElem? (i := 99) (by decide +kernel), List.mem_of_getElem? (i := 461) (by decide +kernel), List.mem_of_getElem? (i := 462) (by decide +kernel)⟩
theorem lw_p7 : lw_okq (⟨"FewChanges$Search", "searchSet", "(I)V"⟩, 13) := ⟨⟨by decide +kernel, by decide +kernel⟩, List.mem_of_getElem? (i := 99) (by decide +kernel), List.mem_of_getElem? (i := 465) (by decide +kernel), List.mem_of_getElem? (i := 466) (by decide +kernel)⟩
theorem lw_p8 : lw_okq (⟨"FewChanges$Search", "canOthersStay", "()Z"⟩, 13) := ⟨⟨by decide +kernel, by decide +kernel⟩, List.mem_of_getElem? (i := 99) (by decide +kernel), List.mem_of_getElem? (i := 469) (by decide +kernel), List.mem_of_getElem? (i := 470) (by decide +kernel)⟩
theorem lw_p9 : lw_okq (⟨"FewChanges$Search", "isInSet", "(I)Z"⟩, 13) := ⟨⟨by decide +kernel, by decide +kernel⟩, List.mem_of_getElem? (i := 99) (by decide +kernel), List.mem_of_getElem? (i := 473) (by decide +kernel), List.mem_of_getElem? (i := 474) (by decide +kernel)⟩
theorem lw_p10 : lw_okq (⟨"FewChanges$Search", "costOfOthers", "()I"⟩, 13) := ⟨⟨by decide +kernel, by decide +kernel⟩, List.mem_of_getElem? (i := 99) (by decide +kernel), List.mem_of_getElem? (i := 479) (by decide +kernel), List.mem_of_getElem? (i := 480) (by decide +kernel)⟩
theorem lw_p11 : lw_okq (⟨"FewChanges$Search", "placeFrom", "(II)V"⟩, 13) := ⟨⟨by decide +kernel, by decide +kernel⟩, List.mem_of_getElem? (i := 99) (by decide +kernel), List.mem_of_getElem? (i := 484) (by decide +kernel), List.mem_of_getElem? (i := 485) (by decide +kernel)⟩
theorem lw_p12 : lw_okq (⟨"FewChanges$Search", "tryUnit", "(III)V"⟩, 13) := ⟨⟨by decide +kernel, by decide +kernel⟩, List.mem_of_getElem? (i := 99) (by decide +kernel), List.mem_of_getElem? (i := 489) (by decide +kernel), List.mem_of_getElem? (i := 490) (by decide +kernel)⟩
theorem lw_p13 : lw_okq (⟨"FewChanges$Search", "tryPlace", "(IIII)V"⟩, 13) := ⟨⟨by decide +kernel, by decide +kernel⟩, List.mem_of_getElem? (i := 99) (by decide +kernel), List.mem_of_getElem? (i := 497) (by decide +kernel), List.mem_of_getElem? (i := 498) (by decide +kernel)⟩
theorem lw_p14 : lw_okq (⟨"FewChangesModel", "throwing", "(ZZZZ)Z"⟩, 23) := ⟨⟨by decide +kernel, by decide +kernel⟩, List.mem_of_getElem? (i := 570) (by decide +kernel), List.mem_of_getElem? (i := 657) (by decide +kernel), List.mem_of_getElem? (i := 658) (by decide +kernel)⟩
theorem lw_p15 : lw_okq (⟨"FewChangesModel", "fits", "(III)Z"⟩, 23) := ⟨⟨by decide +kernel, by decide +kernel⟩, List.mem_of_getElem? (i := 570) (by decide +kernel), List.mem_of_getElem? (i := 665) (by decide +kernel), List.mem_of_getElem? (i := 666) (by decide +kernel)⟩
def lw_privs_1 : List (MethodName × Nat) := [(⟨"java/lang/Throwable", "fillInStackTrace", "(I)Ljava/lang/Throwable;"⟩, 6), (⟨"FewChanges", "isOrder", "(I)Z"⟩, 7), (⟨"FewChanges", "forgetCopiesAndUndo", "()V"⟩, 7), (⟨"FewChanges", "isHeat", "(I)Z"⟩, 7), (⟨"FewChanges", "rememberForUndo", "()V"⟩, 7), (⟨"FewChanges$Search", "looseHeats", "()I"⟩, 13), (⟨"FewChanges$Search", "searchRound", "(I)V"⟩, 13), (⟨"FewChanges$Search", "searchSet", "(I)V"⟩, 13), (⟨"FewChanges$Search", "canOthersStay", "()Z"⟩, 13), (⟨"FewChanges$Search", "isInSet", "(I)Z"⟩, 13), (⟨"FewChanges$Search", "costOfOthers", "()I"⟩, 13), (⟨"FewChanges$Search", "placeFrom", "(II)V"⟩, 13), (⟨"FewChanges$Search", "tryUnit", "(III)V"⟩, 13), (⟨"FewChanges$Search", "tryPlace", "(IIII)V"⟩, 13), (⟨"FewChangesModel", "throwing", "(ZZZZ)Z"⟩, 23), (⟨"FewChangesModel", "fits", "(III)Z"⟩, 23)]
theorem lw_r1 : ∀ q ∈ lw_privs_1, lw_okq q := List.forall_mem_cons.mpr ⟨lw_p0, List.forall_mem_cons.mpr ⟨lw_p1, List.forall_mem_cons.mpr ⟨lw_p2, List.forall_mem_cons.mpr ⟨lw_p3, List.forall_mem_cons.mpr ⟨lw_p4, List.forall_mem_cons.mpr ⟨lw_p5, List.forall_mem_cons.mpr ⟨lw_p6, List.forall_mem_cons.mpr ⟨lw_p7, List.forall_mem_cons.mpr ⟨lw_p8, List.forall_mem_cons.mpr ⟨lw_p9, List.forall_mem_cons.mpr ⟨lw_p10, List.forall_mem_cons.mpr ⟨lw_p11, List.forall_mem_cons.mpr ⟨lw_p12, List.forall_mem_cons.mpr ⟨lw_p13, List.forall_mem_cons.mpr ⟨lw_p14, List.forall_mem_cons.mpr ⟨lw_p15, fun _ h => absurd h List.not_mem_nil⟩⟩⟩⟩⟩⟩⟩⟩⟩⟩⟩⟩⟩⟩⟩⟩
theorem lw_p16 : lw_okq (⟨"FewChangesModel", "isFree", "(III)Z"⟩, 23) := ⟨⟨by decide +kernel, by decide +kernel⟩, List.mem_of_getElem? (i := 570) (by decide +kernel), List.mem_of_getElem? (i := 669) (by decide +kernel), List.mem_of_getElem? (i := 670) (by decide +kernel)⟩
theorem lw_p17 : lw_okq (⟨"FewChangesModel", "meets", "(IIIII)Z"⟩, 23) := ⟨⟨by decide +kernel, by decide +kernel⟩, List.mem_of_getElem? (i := 570) (by decide +kernel), List.mem_of_getElem? (i := 673) (by decide +kernel), List.mem_of_getElem? (i := 674) (by decide +kernel)⟩
theorem lw_p18 : lw_okq (⟨"FewChangesModel", "isHeat", "(I)Z"⟩, 23) := ⟨⟨by decide +kernel, by decide +kernel⟩, List.mem_of_getElem? (i := 570) (by decide +kernel), List.mem_of_getElem? (i := 693) (by decide +kernel), List.mem_of_getElem? (i := 694) (by decide +kernel)⟩
theorem lw_p19 : lw_okq (⟨"FewChangesModel", "isFrozen", "(I)Z"⟩, 23) := ⟨⟨by decide +kernel, by decide +kernel⟩, List.mem_of_getElem? (i := 570) (by decide +kernel), List.mem_of_getElem? (i := 697) (by decide +kernel), List.mem_of_getElem? (i := 698) (by decide +kernel)⟩
theorem lw_p20 : lw_okq (⟨"FewChangesModel", "keepForUndo", "()V"⟩, 23) := ⟨⟨by decide +kernel, by decide +kernel⟩, List.mem_of_getElem? (i := 570) (by decide +kernel), List.mem_of_getElem? (i := 701) (by decide +kernel), List.mem_of_getElem? (i := 702) (by decide +kernel)⟩
theorem lw_p21 : lw_okq (⟨"FewChangesModel", "copy", "(II)V"⟩, 23) := ⟨⟨by decide +kernel, by decide +kernel⟩, List.mem_of_getElem? (i := 570) (by decide +kernel), List.mem_of_getElem? (i := 705) (by decide +kernel), List.mem_of_getElem? (i := 706) (by decide +kernel)⟩
theorem lw_p22 : lw_okq (⟨"FewChangesModel", "tries", "(II)Z"⟩, 23) := ⟨⟨by decide +kernel, by decide +kernel⟩, List.mem_of_getElem? (i := 570) (by decide +kernel), List.mem_of_getElem? (i := 721) (by decide +kernel), List.mem_of_getElem? (i := 722) (by decide +kernel)⟩
theorem lw_p23 : lw_okq (⟨"FewChangesModel", "fitsTried", "(III)Z"⟩, 23) := ⟨⟨by decide +kernel, by decide +kernel⟩, List.mem_of_getElem? (i := 570) (by decide +kernel), List.mem_of_getElem? (i := 725) (by decide +kernel), List.mem_of_getElem? (i := 726) (by decide +kernel)⟩
theorem lw_p24 : lw_okq (⟨"FewChangesModel", "costPlaced", "()I"⟩, 23) := ⟨⟨by decide +kernel, by decide +kernel⟩, List.mem_of_getElem? (i := 570) (by decide +kernel), List.mem_of_getElem? (i := 729) (by decide +kernel), List.mem_of_getElem? (i := 730) (by decide +kernel)⟩
theorem lw_p25 : lw_okq (⟨"FewChangesModel", "costOf", "(II)I"⟩, 23) := ⟨⟨by decide +kernel, by decide +kernel⟩, List.mem_of_getElem? (i := 570) (by decide +kernel), List.mem_of_getElem? (i := 733) (by decide +kernel), List.mem_of_getElem? (i := 734) (by decide +kernel)⟩
theorem lw_p26 : lw_okq (⟨"FewChangesModel", "found", "(I)V"⟩, 23) := ⟨⟨by decide +kernel, by decide +kernel⟩, List.mem_of_getElem? (i := 570) (by decide +kernel), List.mem_of_getElem? (i := 740) (by decide +kernel), List.mem_of_getElem? (i := 741) (by decide +kernel)⟩
theorem lw_p27 : lw_okq (⟨"FewChangesModel", "isOld", "(II)Z"⟩, 23) := ⟨⟨by decide +kernel, by decide +kernel⟩, List.mem_of_getElem? (i := 570) (by decide +kernel), List.mem_of_getElem? (i := 744) (by decide +kernel), List.mem_of_getElem? (i := 745) (by decide +kernel)⟩
theorem lw_p28 : lw_okq (⟨"FewChangesModel", "isKept", "(I)Z"⟩, 23) := ⟨⟨by decide +kernel, by decide +kernel⟩, List.mem_of_getElem? (i := 570) (by decide +kernel), List.mem_of_getElem? (i := 775) (by decide +kernel), List.mem_of_getElem? (i := 776) (by decide +kernel)⟩
def lw_privs_2 : List (MethodName × Nat) := [(⟨"FewChangesModel", "isFree", "(III)Z"⟩, 23), (⟨"FewChangesModel", "meets", "(IIIII)Z"⟩, 23), (⟨"FewChangesModel", "isHeat", "(I)Z"⟩, 23), (⟨"FewChangesModel", "isFrozen", "(I)Z"⟩, 23), (⟨"FewChangesModel", "keepForUndo", "()V"⟩, 23), (⟨"FewChangesModel", "copy", "(II)V"⟩, 23), (⟨"FewChangesModel", "tries", "(II)Z"⟩, 23), (⟨"FewChangesModel", "fitsTried", "(III)Z"⟩, 23), (⟨"FewChangesModel", "costPlaced", "()I"⟩, 23), (⟨"FewChangesModel", "costOf", "(II)I"⟩, 23), (⟨"FewChangesModel", "found", "(I)V"⟩, 23), (⟨"FewChangesModel", "isOld", "(II)Z"⟩, 23), (⟨"FewChangesModel", "isKept", "(I)Z"⟩, 23)]
theorem lw_r2 : ∀ q ∈ lw_privs_2, lw_okq q := List.forall_mem_cons.mpr ⟨lw_p16, List.forall_mem_cons.mpr ⟨lw_p17, List.forall_mem_cons.mpr ⟨lw_p18, List.forall_mem_cons.mpr ⟨lw_p19, List.forall_mem_cons.mpr ⟨lw_p20, List.forall_mem_cons.mpr ⟨lw_p21, List.forall_mem_cons.mpr ⟨lw_p22, List.forall_mem_cons.mpr ⟨lw_p23, List.forall_mem_cons.mpr ⟨lw_p24, List.forall_mem_cons.mpr ⟨lw_p25, List.forall_mem_cons.mpr ⟨lw_p26, List.forall_mem_cons.mpr ⟨lw_p27, List.forall_mem_cons.mpr ⟨lw_p28, fun _ h => absurd h List.not_mem_nil⟩⟩⟩⟩⟩⟩⟩⟩⟩⟩⟩⟩⟩
def lw_privs : List (MethodName × Nat) := lw_privs_1 ++ (lw_privs_2)
def lw_tbl : List Cond := k2_sels lw_privs ++ tables_1
theorem lw_privs_ok : ∀ q ∈ lw_privs, lw_okq q := by
  show ∀ q ∈ lw_privs_1 ++ (lw_privs_2), lw_okq q
  exact List.forall_mem_append.mpr ⟨lw_r1, lw_r2⟩
/-! ===== BEGIN words of one list among another's, by their places ===== -/
theorem goodIn_r {big : List Cond} (ws : List Cond) (ps : List Nat) (hp : ws = ps.filterMap (fun i => big[i]?)) (h : ws.all goodWord = true) : GoodIn big ws := by
  intro w hw
  have h1 := List.all_eq_true.mp h w hw
  rw [hp] at hw
  obtain ⟨i, -, hi⟩ := List.mem_filterMap.mp hw
  have hm : w ∈ big := by first | exact List.mem_of_getElem? hi | exact List.getElem?_mem hi
  exact ⟨hm, good_of_word h1⟩
theorem goodIn_app {big a b : List Cond} (ha : GoodIn big a) (hb : GoodIn big b) : GoodIn big (a ++ b) := fun w h => (List.mem_append.mp h).elim (ha w) (hb w)
theorem goodIn_ca {big a b : List Cond} {c : Cond} (ha : GoodIn big (c :: a)) (hb : GoodIn big b) : GoodIn big (c :: (a ++ b)) := fun w h => (List.mem_cons.mp h).elim (fun e => ha w (List.mem_cons.mpr (Or.inl e))) (fun h => (List.mem_append.mp h).elim (fun h => ha w (List.mem_cons.mpr (Or.inr h))) (hb w))
theorem goodIn_sub {big ws : List Cond} (hm : ∀ w ∈ ws, w ∈ big) (h : ws.all goodWord = true) : GoodIn big ws := fun w hw => ⟨hm w hw, good_of_word (List.all_eq_true.mp h w hw)⟩
/-! ===== END ===== -/

/-! ===== BEGIN exceptions that leave a method, and their catching by the caller (launches without stack traces) ===== -/
section VXA
/-! The laws vx_back, vx_callV, vx_callS, vx_callSW, vx_throw0, vx_throwS follow proofs of the library, with one case more: JvmDerived/Free/Laws.lean (Back.of_free), Shelf42/LK1.lean (callV, callS), Shelf/KitTraced.lean (throwNew0V, throwNewS). -/
/-- where a method has thrown q: the class by its name, the cell, what was written, the world -/
def vx_T (XC : String → State → State → Prop) (st : State) (q : Addr) (t : State) (mc ms : Nat) (free : Addr → Prop) : Prop :=
  ∃ (E : String) (ce : Cell) (L : List Loc), XC E st t ∧ t.heap[q]? = some ce ∧ ce.vm = .none ∧ st.vm.findClass E = some ce.cls ∧ st.WarmedH t.vm ∧ st.sameButNew ({ t with vm := st.vm } : State) L mc ms ∧ ∀ z ∈ L, free z.base
def vx_Q (Qc : Array Value → State → Outcome → State → Prop) (XC : String → State → State → Prop) (mc ms : Nat) (free : Addr → Prop) : Array Value → State → Outcome → State → Prop := fun a st o t =>
  (Qc a st o t ∧ ∃ L, FrameEnd st o t L mc ms ∧ ∀ q ∈ L, free q.base) ∨ ∃ q, o = .threw q ∧ vx_T XC st q t mc ms free
/-- a callee that returns or throws -/
def vx_Met (l : Launch) (y : MethodName) (ws : List Cond) (rm : Room) (Pc : Array Value → State → Prop) (Qc : Array Value → State → Outcome → State → Prop) (XC : String → State → State → Prop) (mc ms : Nat) (free : Addr → Prop) : Prop :=
  MetFree l y (headSpec ws rm) Pc (fun _ _ _ _ _ => True) (vx_Q Qc XC mc ms free)
def vx_Post (XC : String → State → State → Prop) (mc ms : Nat) (free : Addr → Prop) : Pt → Array Value → Addr → Pt → Prop := fun A a q B =>
  ∃ (g : JFrame) (mk : MethodId) (t : State) (L : List Loc) (E : String) (ce : Cell), B.U.heap = t.heap ∧ B.U.vm = t.vm ∧ XC E (A.U.calling g mk a) t ∧ t.heap[q]? = some ce ∧ ce.vm = .none ∧ A.U.vm.findClass E = some ce.cls ∧ B.locs = A.locs ++ L ∧ (∀ z ∈ L, free z.base) ∧ B.cells = A.cells + mc ∧ B.slots = A.slots + ms
def vx_Back (l : Launch) (R : Room) (p : Program) (e : Env) (below : List Frame) (s : State) (sargs : Array Value) (y : MethodName) (len W9 : Nat)
    (Pre : Pt → Array Value → Prop) (Post : Pt → Array Value → Option Value → Pt → Prop) (PostX : Pt → Array Value → Addr → Pt → Prop) : Prop :=
  ∀ (m : MethodId) (meth : Method) (c : Code) (A : Pt) (g : JFrame) (ig : Instr) (mk : MethodId) (a : Array Value),
    Stand p l e R s m sargs below meth c A.U A.locs A.cells A.slots → g.method = m → g.locals.size = c.maxLocals → decode c.code g.pc = .ok (ig, len) →
    2 * g.monitorRoom + (g.stack.map fun v => v.category).sum ≤ W9 → A.U.methodNamed? y = some mk → Pre A a →
    (∃ (v : Option Value) (B : Pt), Stand p l e R s m sargs below meth c B.U B.locs B.cells B.slots ∧ Post A a v B ∧
      Steps p.tables e below (doInvoke e (A.U.setTop g) [] mk a).1 (B.U.setTop { g with pc := g.pc + len, stack := v.toList ++ g.stack })) ∨
    (∃ (q : Addr) (B : Pt), Stand p l e R s m sargs below meth c B.U B.locs B.cells B.slots ∧ PostX A a q B ∧
      Steps p.tables e below (doInvoke e (A.U.setTop g) [] mk a).1 ((B.U.setTop g).pushFrame (.throwing q)))
section Payer
variable {l : Launch} {R : Room} {p : Program} {e : Env} {below : List Frame} {s : State} {sargs : Array Value} {y : MethodName} {len W9 : Nat}
theorem vx_back {ws : List Cond} {rm : Room} {Pc : Array Value → State → Prop} {Qc : Array Value → State → Outcome → State → Prop} {XC : String → State → State → Prop} {mc ms : Nat} {free : Addr → Prop} {bytes : ByteArray} {maxL : Nat} {ret : Option FieldType}
    (hM : vx_Met l y ws rm Pc Qc XC mc ms free) (hblind : FrameBlind Pc) (hrc : rm.cells = mc) (hrs : rm.slots = ms)
    (hframes : rm.frames + 1 ≤ R.frames) (hlocals : W9 + (maxL + 11) + rm.locals ≤ R.locals)
    (hws : ∀ w ∈ ws, ∀ a' U, s.WarmedH U.vm → w.before a' U = true) (hcode : Cond.code y bytes maxL ret ∈ ws) (hinit : ∀ a' U, s.WarmedH U.vm → (Cond.initialized y.cls).before a' U = true) :
    vx_Back l R p e below s sargs y len W9 (PreOf R mc ms Pc) (PostOf Qc mc ms free) (vx_Post XC mc ms free) := by
  intro m meth c A g ig mk a X hg hsize hdg hW hn hp
  have h1 : (headSpec ws rm).pre.before a A.U = true := atoms_intro fun w hw => hws w hw _ _ X.warmed
  have h2 : (Cond.code y bytes maxL ret).before a A.U = true := hws _ hcode _ _ X.warmed
  have h3 : (Cond.initialized y.cls).before a A.U = true := hinit _ _ X.warmed
  have h4 : A.cells + (headSpec ws rm).room.cells ≤ R.cells := by rw [show (headSpec ws rm).room.cells = mc from hrc]; exact hp.1
  have h5 : A.slots + (headSpec ws rm).room.slots ≤ R.slots := by rw [show (headSpec ws rm).room.slots = ms from hrs]; exact hp.2.1
  have hPc : Pc a (A.U.calling g mk a) := hblind _ _ _ _ hp.2.2
  obtain ⟨U, Ls, c0, s0⟩ := A
  dsimp only [Pt.U, Pt.locs, Pt.cells, Pt.slots] at h1 h2 h3 h4 h5 X hn hPc ⊢
  obtain ⟨methY, cY, hmY, hcY, -, hlY, -, -, -, -⟩ := Cond.code_spec hn h2
  obtain ⟨kY, hkY, -⟩ := className_of_methodNamed hn
  have hinitY : kY.init = .initialized := Cond.initialized_spec (findClass_of_methodNamed hn) hkY h3
  have h : At U g.method c below := by rw [hg]; exact X.here
  have hlocals9 : W9 + (maxL + 11) + (headSpec ws rm).room.locals ≤ R.locals := hlocals
  have happ : (headSpec ws rm).appliesLoose y e.platform (U.calling g mk a) = true :=
    Spec.appliesLoose_calling (g := g) h hdg hn hkY hinitY
      (X.room_calling (g := g) (R' := (headSpec ws rm).room) hsize hmY hcY hframes (by rw [hlY]; omega) h4 h5) h1
  obtain ⟨mid, hmid⟩ := h.above
  have hfr : (U.setTop g).frames = (.java g :: mid) ++ below := by rw [State.frames_setTop' g h.top, hmid]; rfl
  obtain ⟨o, s₂, hsteps, -, hend, hq⟩ := Steps.callFree hM p X.admits X.cas X.clock (acts := []) hfr happ hPc trivial
  have hq' : vx_Q Qc XC mc ms free a (U.calling g mk a) o s₂ := hq
  rw [State.frames_setTop' g h.top] at hend
  obtain ⟨g₀, hg0⟩ := Option.isSome_iff_exists.mp h.top
  obtain ⟨r, hr⟩ := State.topJava?_eq_some.mp hg0
  have hr' : (({ U with heap := s₂.heap, slotsUsed := s₂.slotsUsed } : State).setVm s₂.vm).frames = .java g₀ :: r := hr
  rcases hq' with ⟨hqc, L, hfe, hL⟩ | ⟨q, rfl, E, ce, L, hx, hce, hcv, hcl, hW₂, hsm, hL⟩
  · obtain ⟨⟨v, rfl⟩, hW₂, e2, q2, q3, q4, q5, q6⟩ := id hfe
    have e3 : s₂ = ({ (U.calling g mk a).setFrames s₂.frames with heap := s₂.heap, slotsUsed := s₂.slotsUsed } : State).setVm s₂.vm := by
      have : s₂ = ({ s₂ with vm := (U.calling g mk a).vm } : State).setVm s₂.vm := rfl
      rw [e2] at this
      exact this
    obtain ⟨c₂, i₂, len₂, hc₂, hd₂, hf₂⟩ := hend
    have hW' : U.WarmedH s₂.vm := hW₂
    have hcc : c₂ = c := by
      have h1 : s₂.code? g.method = U.code? g.method := by
        rw [State.code?_eq, State.code?_eq, hW'.alike.method?]
      exact Option.some.inj (hc₂.symm.trans (h1.trans h.code))
    subst hcc
    have hlen : len₂ = len := by rw [hdg] at hd₂; cases hd₂; rfl
    subst hlen
    have hs₂ : s₂ = (({ U with heap := s₂.heap, slotsUsed := s₂.slotsUsed } : State).setVm s₂.vm).setTop { g with pc := g.pc + len₂, stack := v.toList ++ g.stack } := by
      refine e3.trans ?_
      rw [hf₂, State.calling_eq h.top, State.setFrames_setFrames, State.setTop_of_frames _ hr', hr]
      rfl
    have hsame : U.sameButNew ({ U with heap := s₂.heap, slotsUsed := s₂.slotsUsed } : State) L mc ms := by
      refine ⟨?_, q2, q3, q4, q5, q6⟩
      obtain ⟨t, ht, -⟩ := State.frames_cons hr
      show ({ U with heap := s₂.heap, slotsUsed := s₂.slotsUsed } : State) = { U.setFrames U.frames with heap := s₂.heap, slotsUsed := s₂.slotsUsed }
      rw [State.setFrames_self ht]
    subst hg
    refine Or.inl ⟨v, ⟨(({ U with heap := s₂.heap, slotsUsed := s₂.slotsUsed } : State).setVm s₂.vm), Ls ++ L, c0 + mc, s0 + ms⟩,
      ⟨X.admits, X.cas, X.clock, X.frames, X.room, X.hears, X.method, X.code, (X.here.setHeapUsed s₂.heap s₂.slotsUsed).setVm hW'.alike, X.tail, State.WarmedH.trans X.warmed hW', X.limits, X.bytes, X.same.trans (hsame.setVm s.vm)⟩,
      ⟨g, mk, s₂, L, rfl, rfl, hqc, rfl, hL, rfl, rfl⟩, ?_⟩
    show Steps p.tables e below _ ((({ U with heap := s₂.heap, slotsUsed := s₂.slotsUsed } : State).setVm s₂.vm).setTop { g with pc := g.pc + len₂, stack := v.toList ++ g.stack })
    rw [← hs₂]
    exact hsteps
  · obtain ⟨e2, q2, q3, q4, q5, q6⟩ := id hsm
    have e3 : s₂ = ({ (U.calling g mk a).setFrames s₂.frames with heap := s₂.heap, slotsUsed := s₂.slotsUsed } : State).setVm s₂.vm := by
      have : s₂ = ({ s₂ with vm := (U.calling g mk a).vm } : State).setVm s₂.vm := rfl
      rw [e2] at this
      exact this
    have hf₂ : s₂.frames = .throwing q :: .java g :: U.frames.tail := hend
    have hW' : U.WarmedH s₂.vm := hW₂
    have hs₂ : s₂ = ((({ U with heap := s₂.heap, slotsUsed := s₂.slotsUsed } : State).setVm s₂.vm).setTop g).pushFrame (.throwing q) := by
      refine e3.trans ?_
      rw [hf₂, State.calling_eq h.top, State.setFrames_setFrames, State.pushFrame, State.frames_setTop _ hr', State.setTop_of_frames _ hr', State.setFrames_setFrames, hr]
      rfl
    have hsame : U.sameButNew ({ U with heap := s₂.heap, slotsUsed := s₂.slotsUsed } : State) L mc ms := by
      refine ⟨?_, q2, q3, q4, q5, q6⟩
      obtain ⟨t, ht, -⟩ := State.frames_cons hr
      show ({ U with heap := s₂.heap, slotsUsed := s₂.slotsUsed } : State) = { U.setFrames U.frames with heap := s₂.heap, slotsUsed := s₂.slotsUsed }
      rw [State.setFrames_self ht]
    subst hg
    refine Or.inr ⟨q, ⟨(({ U with heap := s₂.heap, slotsUsed := s₂.slotsUsed } : State).setVm s₂.vm), Ls ++ L, c0 + mc, s0 + ms⟩,
      ⟨X.admits, X.cas, X.clock, X.frames, X.room, X.hears, X.method, X.code, (X.here.setHeapUsed s₂.heap s₂.slotsUsed).setVm hW'.alike, X.tail, State.WarmedH.trans X.warmed hW', X.limits, X.bytes, X.same.trans (hsame.setVm s.vm)⟩,
      ⟨g, mk, s₂, L, E, ce, rfl, rfl, hx, hce, hcv, hcl, rfl, hL, rfl, rfl⟩, ?_⟩
    show Steps p.tables e below _ (((({ U with heap := s₂.heap, slotsUsed := s₂.slotsUsed } : State).setVm s₂.vm).setTop g).pushFrame (.throwing q))
    rw [← hs₂]
    exact hsteps
end Payer
section Calls
variable {p : Program} {l : Launch} {e : Env} {R : Room} {s : State} {m : MethodId} {args : Array Value} {below : List Frame} {meth : Method} {c : Code} {T : State} {locs : List Loc} {cells slots : Nat}
theorem vx_callV (X : Stand p l e R s m args below meth c T locs cells slots) (hexec : p.tables.exec = Jvm.exec) {own C : String} {index : Nat} {y : MethodName} {bytes : ByteArray} {maxL : Nat} {ret : Option FieldType}
    (hown : s.vm.findClass own = some m.cls) (hlink : (Cond.methodLink own index y).before args s = true) (hinst : (Cond.instanceMethod y).before args s = true) (hsel : (Cond.selects C y y).before args s = true)
    (hcode : (Cond.code y bytes maxL ret).before args s = true) (hy : y.cls ≠ "java/lang/invoke/MethodHandle" ∧ y.cls ≠ "java/lang/invoke/VarHandle")
    {W9 : Nat} {Pre : Pt → Array Value → Prop} {Post : Pt → Array Value → Option Value → Pt → Prop} {PostX : Pt → Array Value → Addr → Pt → Prop} (hK : vx_Back l R p e below s args y 3 W9 Pre Post PostX)
    {b : Addr} {cellB : Cell} (hcell : T.heap[b]? = some cellB) (hobj : cellB.vm.isStatics = false) (hcls : s.vm.findClass C = some cellB.cls)
    {g : JFrame} (hg : g.method = m) (hsize : g.locals.size = c.maxLocals) {argsL rest : List Value} (hlen : ∀ sig, parseMethodDescriptor y.desc = some sig → argsL.length = sig.parameters.length)
    (hstack : g.stack = argsL.reverse ++ .ref b :: rest) (hW : 2 * g.monitorRoom + (rest.map fun v => v.category).sum ≤ W9) (hdg : decode c.code g.pc = .ok (.invokevirtual index, 3))
    (hpre : ∀ vm₁, s.WarmedH vm₁ → Pre ⟨T.setVm vm₁, locs, cells, slots⟩ (Value.ref b :: argsL).toArray) :
    (∃ (v : Option Value) (vm₁ : Vm) (B : Pt), s.WarmedH vm₁ ∧ Stand p l e R s m args below meth c B.U B.locs B.cells B.slots ∧ Post ⟨T.setVm vm₁, locs, cells, slots⟩ (Value.ref b :: argsL).toArray v B ∧
      ∀ target, Steps p.tables e below (B.U.setTop { g with pc := g.pc + 3, stack := v.toList ++ rest }) target → Steps p.tables e below (T.setTop g) target) ∨
    (∃ (q : Addr) (vm₁ : Vm) (B : Pt), s.WarmedH vm₁ ∧ Stand p l e R s m args below meth c B.U B.locs B.cells B.slots ∧ PostX ⟨T.setVm vm₁, locs, cells, slots⟩ (Value.ref b :: argsL).toArray q B ∧
      Steps p.tables e below (T.setTop g) ((B.U.setTop { g with stack := rest }).pushFrame (.throwing q))) := by
  obtain ⟨mk, methM, hnamed, hmethM, hstM, habM⟩ := Cond.instanceMethod_spec hinst
  obtain ⟨methM', cM, hmethM', -, -, -, -, -, -, hsigM⟩ := Cond.code_spec hnamed hcode
  cases hmethM.symm.trans hmethM'
  obtain ⟨c2, r2, m2, q1, q2, q3, q4, kP, hkP, hkPi⟩ := Cond.selects_spec hsel
  cases hcls.symm.trans q1
  cases (State.methodFound?_of_named hnamed hy).symm.trans q2
  cases hnamed.symm.trans q3
  have hselP : selectMethod e.platform s.vm cellB.cls mk = .method mk := by rw [Launch.admits_selectMethod X.admits]; exact q4
  obtain ⟨vm₁, X₁, hstep₁⟩ := X.invokevirtual hexec hown hlink hnamed hmethM hstM hkP hkPi hy (a := b) (cell := cellB) hcell
    (fun z h => by rw [h] at hobj; cases hobj) hselP hmethM habM hkP hkPi (g := g) hg (argsL := argsL) (rest := rest) (hlen _ hsigM) hstack hdg
  rcases hK m meth c ⟨T.setVm vm₁, locs, cells, slots⟩ { g with stack := rest } (.invokevirtual index) mk (Value.ref b :: argsL).toArray X₁ hg hsize hdg hW (X₁.named hnamed) (hpre vm₁ X₁.warmed) with ⟨v, B, X', hpost, hsteps⟩ | ⟨q, B, X', hpost, hsteps⟩
  · exact Or.inl ⟨v, vm₁, B, X₁.warmed, X', hpost, fun target h => hstep₁ _ fun acts => by rw [doInvoke_state]; exact hsteps.trans h⟩
  · exact Or.inr ⟨q, vm₁, B, X₁.warmed, X', hpost, hstep₁ _ fun acts => by rw [doInvoke_state]; exact hsteps⟩
theorem vx_callS (X : Stand p l e R s m args below meth c T locs cells slots) (hexec : p.tables.exec = Jvm.exec) {own : String} {index : Nat} {y : MethodName} {bytes : ByteArray} {maxL : Nat} {ret : Option FieldType}
    (hown : s.vm.findClass own = some m.cls) (hlink : (Cond.methodLink own index y).before args s = true) (hstat : (Cond.static y).before args s = true) (hinit : (Cond.initialized y.cls).before args s = true)
    (hcode : (Cond.code y bytes maxL ret).before args s = true) (hy : y.cls ≠ "java/lang/invoke/MethodHandle" ∧ y.cls ≠ "java/lang/invoke/VarHandle")
    {W9 : Nat} {Pre : Pt → Array Value → Prop} {Post : Pt → Array Value → Option Value → Pt → Prop} {PostX : Pt → Array Value → Addr → Pt → Prop} (hK : vx_Back l R p e below s args y 3 W9 Pre Post PostX)
    {g : JFrame} (hg : g.method = m) (hsize : g.locals.size = c.maxLocals) {argsL rest : List Value} (hlen : ∀ sig, parseMethodDescriptor y.desc = some sig → argsL.length = sig.parameters.length)
    (hstack : g.stack = argsL.reverse ++ rest) (hW : 2 * g.monitorRoom + (rest.map fun v => v.category).sum ≤ W9) (hdg : decode c.code g.pc = .ok (.invokestatic index, 3))
    (hpre : ∀ vm₁, s.WarmedH vm₁ → Pre ⟨T.setVm vm₁, locs, cells, slots⟩ argsL.toArray) :
    (∃ (v : Option Value) (vm₁ : Vm) (B : Pt), s.WarmedH vm₁ ∧ Stand p l e R s m args below meth c B.U B.locs B.cells B.slots ∧ Post ⟨T.setVm vm₁, locs, cells, slots⟩ argsL.toArray v B ∧
      ∀ target, Steps p.tables e below (B.U.setTop { g with pc := g.pc + 3, stack := v.toList ++ rest }) target → Steps p.tables e below (T.setTop g) target) ∨
    (∃ (q : Addr) (vm₁ : Vm) (B : Pt), s.WarmedH vm₁ ∧ Stand p l e R s m args below meth c B.U B.locs B.cells B.slots ∧ PostX ⟨T.setVm vm₁, locs, cells, slots⟩ argsL.toArray q B ∧
      Steps p.tables e below (T.setTop g) ((B.U.setTop { g with stack := rest }).pushFrame (.throwing q))) := by
  obtain ⟨mk, hnamed⟩ := Cond.code_named hcode
  obtain ⟨methM, cM, hmethM, -, -, -, -, -, -, hsigM⟩ := Cond.code_spec hnamed hcode
  have hstatic : methM.isStatic = true := Cond.static_spec hnamed hmethM hstat
  obtain ⟨kP, hkP, -⟩ := className_of_methodNamed hnamed
  have hinitP : kP.init = .initialized := Cond.initialized_spec (findClass_of_methodNamed hnamed) hkP hinit
  obtain ⟨vm₁, X₁, hstep₁⟩ := X.invokestatic hexec hown hlink hnamed hmethM hstatic hkP hinitP hy (g := g) hg (argsL := argsL) (rest := rest) (hlen _ hsigM) hstack hdg
  rcases hK m meth c ⟨T.setVm vm₁, locs, cells, slots⟩ { g with stack := rest } (.invokestatic index) mk argsL.toArray X₁ hg hsize hdg hW (X₁.named hnamed) (hpre vm₁ X₁.warmed) with ⟨v, B, X', hpost, hsteps⟩ | ⟨q, B, X', hpost, hsteps⟩
  · exact Or.inl ⟨v, vm₁, B, X₁.warmed, X', hpost, fun target h => hstep₁ _ fun acts => by rw [doInvoke_state]; exact hsteps.trans h⟩
  · exact Or.inr ⟨q, vm₁, B, X₁.warmed, X', hpost, hstep₁ _ fun acts => by rw [doInvoke_state]; exact hsteps⟩
end Calls
theorem vx_cls {s : State} {T : State} {vm₁ : Vm} {E : String} {k : ClassId} (hW : s.WarmedH vm₁) (h : (T.setVm vm₁).vm.findClass E = some k) : s.vm.findClass E = some k := by
  have h1 : vm₁.findClass E = some k := h
  rw [hW.alike.findClass] at h1
  exact h1
/-- the method's frame g, with q thrown over it -/
def vx_W (p : Program) (l : Launch) (e : Env) (R : Room) (s : State) (m : MethodId) (args : Array Value) (below : List Frame) (meth : Method) (c : Code) (H : Heap) (locs : List Loc) (cells slots : Nat) (Q : State → Prop) (g : JFrame) (q : Addr) : Prop :=
  ∀ T : State, T.heap = H → Stand p l e R s m args below meth c T locs cells slots → ∃ t, Steps p.tables e below ((T.setTop g).pushFrame (.throwing q)) t ∧ Q t
def vx_Run (p : Program) (l : Launch) (e : Env) (R : Room) (s : State) (m : MethodId) (args : Array Value) (below : List Frame) (meth : Method) (c : Code) (H : Heap) (locs : List Loc) (cells slots mc ms : Nat) (g : JFrame) (rest : List Value) (Qa : State → Outcome → State → Prop) (XC : String → State → State → Prop) (free : Addr → Prop) : Prop :=
  ∀ T : State, T.heap = H → Stand p l e R s m args below meth c T locs cells slots →
    (∃ (v : Option Value) (st₀ t T' : State) (L : List Loc), st₀.heap = H ∧ Stand p l e R s m args below meth c T' (locs ++ L) (cells + mc) (slots + ms) ∧ (∀ q ∈ L, free q.base) ∧ T'.heap = t.heap ∧ T'.vm = t.vm ∧ Qa st₀ (.returned v) t ∧
      Goes p e below T g T' { g with pc := g.pc + 3, stack := v.toList ++ rest }) ∨
    (∃ (q : Addr) (st₀ t T' : State) (L : List Loc) (E : String) (ce : Cell), st₀.heap = H ∧ Stand p l e R s m args below meth c T' (locs ++ L) (cells + mc) (slots + ms) ∧ (∀ z ∈ L, free z.base) ∧ T'.heap = t.heap ∧ T'.vm = t.vm ∧ XC E st₀ t ∧ t.heap[q]? = some ce ∧ ce.vm = .none ∧ s.vm.findClass E = some ce.cls ∧
      Steps p.tables e below (T.setTop g) ((T'.setTop { g with stack := rest }).pushFrame (.throwing q)))
def vx_X {S : Type} (px : S → Prop) (B : String → S → State → Prop) (A : Nat → Prop) : String → State → State → Prop := fun E st t => ∃ u : S, px u ∧ B E u t ∧ va_F A st t
section Runs
variable {p : Program} {l : Launch} {e : Env} {R : Room} {s : State} {m : MethodId} {args : Array Value} {below : List Frame} {meth : Method} {c : Code} {H : Heap} {locs : List Loc} {cells slots : Nat}
variable {y : MethodName} {bytes cc : ByteArray} {maxL nL mc ms n index : Nat} {ret : Option FieldType} {ws : List Cond} {rm : Room} {Pc : Array Value → State → Prop} {Qc : Array Value → State → Outcome → State → Prop} {XC : String → State → State → Prop} {free : Addr → Prop} {Ts : List Cond} {own C : String} {b : Addr} {As rest : List Value} {g : JFrame}
theorem vx_callBack (cb : CallB R s args own index y bytes maxL ret ws rm mc ms n) (hM : vx_Met l y ws rm Pc Qc XC mc ms free) (hbl : FrameBlind Pc) : vx_Back l R p e below s args y 3 8 (PreOf R mc ms Pc) (PostOf Qc mc ms free) (vx_Post XC mc ms free) := by
  obtain ⟨hrc, hrs, hfr, hlo, hws, hcw, -, hini, -⟩ := cb
  exact vx_back (bytes := bytes) (maxL := maxL) (ret := ret) hM hbl hrc hrs hfr hlo hws hcw (fun a' U hW => word_at hW (Or.inl (by first | rfl | simp [Cond.onTables, Cond.keeps, Cond.steady])) hini)
theorem vx_runV (S : CallFix p m c cc nL s args Ts own) (hM : vx_Met l y ws rm Pc Qc XC mc ms free) (cw : CallW R s args own C index y bytes maxL ret ws rm mc ms n) (hp : PreV s H C b Pc As)
    (hg : g.method = m) (hn : As.length = n) (hsize : g.locals.size = nL) (hstack : g.stack = As.reverse ++ .ref b :: rest) (hW : 2 * g.monitorRoom + (rest.map fun v => v.category).sum ≤ 8) (hdg : decode cc g.pc = .ok (.invokevirtual index, 3)) (hf : cells + mc ≤ R.cells ∧ slots + ms ≤ R.slots) :
    vx_Run p l e R s m args below meth c H locs cells slots mc ms g rest (Qc (Value.ref b :: As).toArray) XC free := by
  have hK : vx_Back l R p e below s args y 3 8 (PreOf R mc ms Pc) (PostOf Qc mc ms free) (vx_Post XC mc ms free) := vx_callBack cw.1 hM hp.1
  obtain ⟨⟨-, -, -, -, -, -, hcode, -, hy, hlen, hl⟩, hin, hse⟩ := cw
  obtain ⟨hx, hb, hml, ho, -⟩ := S
  obtain ⟨-, ⟨cellB, hcB, hoB, hclB⟩, hPc⟩ := hp
  intro T hT X
  rcases vx_callV X hx (C := C) (bytes := bytes) (maxL := maxL) (ret := ret) ho hl hin hse hcode hy hK (by rw [hT]; exact hcB) hoB hclB hg (hsize.trans hml.symm) (argsL := As) (rest := rest) (fun sig h => hn.trans (hlen sig h)) hstack hW (by rw [hb]; exact hdg)
    (fun vm₁ hW₁ => ⟨hf.1, hf.2, hPc (T.setVm vm₁) hT hW₁⟩) with ⟨v, vm₁, ⟨U', l2, c2, s2⟩, hW₁, X', ⟨g', mk, t, L, e1, e2, hq, h1, hL, h2, h3⟩, st⟩ | ⟨q, vm₁, ⟨U', l2, c2, s2⟩, hW₁, X', ⟨g', mk, t, L, E, ce, e1, e2, hq, hce, hcv, hcl, h1, hL, h2, h3⟩, st⟩
  · dsimp only [Pt.U, Pt.locs, Pt.cells, Pt.slots] at X' e1 e2 h1 h2 h3 st
    subst h1; subst h2; subst h3
    exact Or.inl ⟨v, (T.setVm vm₁).calling g' mk (Value.ref b :: As).toArray, t, U', L, hT, X', hL, e1, e2, hq, st⟩
  · dsimp only [Pt.U, Pt.locs, Pt.cells, Pt.slots] at X' e1 e2 h1 h2 h3 st hcl
    subst h1; subst h2; subst h3
    exact Or.inr ⟨q, (T.setVm vm₁).calling g' mk (Value.ref b :: As).toArray, t, U', L, E, ce, hT, X', hL, e1, e2, hq, hce, hcv, vx_cls hW₁ hcl, st⟩
theorem vx_runS (S : CallFix p m c cc nL s args Ts own) (hM : vx_Met l y ws rm Pc Qc XC mc ms free) (cw : CallB R s args own index y bytes maxL ret ws rm mc ms n ∧ (Cond.static y).before args s = true) (hp : PreS s H Pc As)
    (hg : g.method = m) (hn : As.length = n) (hsize : g.locals.size = nL) (hstack : g.stack = As.reverse ++ rest) (hW : 2 * g.monitorRoom + (rest.map fun v => v.category).sum ≤ 8) (hdg : decode cc g.pc = .ok (.invokestatic index, 3)) (hf : cells + mc ≤ R.cells ∧ slots + ms ≤ R.slots) :
    vx_Run p l e R s m args below meth c H locs cells slots mc ms g rest (Qc As.toArray) XC free := by
  have hK : vx_Back l R p e below s args y 3 8 (PreOf R mc ms Pc) (PostOf Qc mc ms free) (vx_Post XC mc ms free) := vx_callBack cw.1 hM hp.1
  obtain ⟨⟨-, -, -, -, -, -, hcode, hini, hy, hlen, hl⟩, hstt⟩ := cw
  obtain ⟨hx, hb, hml, ho, -⟩ := S
  intro T hT X
  rcases vx_callS X hx (bytes := bytes) (maxL := maxL) (ret := ret) ho hl hstt hini hcode hy hK hg (hsize.trans hml.symm) (argsL := As) (rest := rest) (fun sig h => hn.trans (hlen sig h)) hstack hW (by rw [hb]; exact hdg)
    (fun vm₁ hW₁ => ⟨hf.1, hf.2, hp.2 (T.setVm vm₁) hT hW₁⟩) with ⟨v, vm₁, ⟨U', l2, c2, s2⟩, hW₁, X', ⟨g', mk, t, L, e1, e2, hq, h1, hL, h2, h3⟩, st⟩ | ⟨q, vm₁, ⟨U', l2, c2, s2⟩, hW₁, X', ⟨g', mk, t, L, E, ce, e1, e2, hq, hce, hcv, hcl, h1, hL, h2, h3⟩, st⟩
  · dsimp only [Pt.U, Pt.locs, Pt.cells, Pt.slots] at X' e1 e2 h1 h2 h3 st
    subst h1; subst h2; subst h3
    exact Or.inl ⟨v, (T.setVm vm₁).calling g' mk As.toArray, t, U', L, hT, X', hL, e1, e2, hq, st⟩
  · dsimp only [Pt.U, Pt.locs, Pt.cells, Pt.slots] at X' e1 e2 h1 h2 h3 st hcl
    subst h1; subst h2; subst h3
    exact Or.inr ⟨q, (T.setVm vm₁).calling g' mk As.toArray, t, U', L, E, ce, hT, X', hL, e1, e2, hq, hce, hcv, vx_cls hW₁ hcl, st⟩
end Runs
section Rows
variable {p : Program} {l : Launch} {e : Env} {R : Room} {s : State} {m : MethodId} {args : Array Value} {below : List Frame} {meth : Method} {c : Code} {H : Heap} {locs : List Loc} {cells slots : Nat} {Q : State → Prop}
variable {mc ms : Nat} {free : Addr → Prop} {A0 A1 : Nat → Prop} {H0 : Heap} {a : Array Value} {pc : Nat} {ls : Array Slot} {st0 rest : List Value}
theorem vx_keep {st₀ t T' : State} {L : List Loc} (h0 : st₀.heap = H) (e1 : T'.heap = t.heap) (hS : va_S A0 H0 H locs) (hA : ∀ q, q < H.size → A1 q → A0 q) (hf : ∀ q, free q → A0 q) (hL : ∀ q ∈ L, free q.base) (hF : va_F A1 st₀ t) :
    H.size ≤ T'.heap.size ∧ (∀ q : Nat, q < H.size → ¬ A1 q → T'.heap[q]? = H[q]?) ∧ va_S A0 H0 T'.heap (locs ++ L) := by
  obtain ⟨hz, hk⟩ := hF
  rw [h0] at hz hk
  exact ⟨by rw [e1]; exact hz, fun q h1 h2 => by rw [e1]; exact hk q h1 h2,
    ⟨Nat.le_trans hS.1 (by rw [e1]; exact hz), fun q h1 h2 => by rw [e1, hk q (Nat.lt_of_lt_of_le h1 hS.1) (fun z => h2 (hA q (Nat.lt_of_lt_of_le h1 hS.1) z))]; exact hS.2.1 q h1 h2, fun q hq => by
      rcases List.mem_append.mp hq with h | h
      · exact hS.2.2 q h
      · exact hf _ (hL q h)⟩⟩
theorem vx_calli {S SX : Type} {post : Int32 → S → Prop} {px : SX → Prop} {B : S → State → Prop} {BX : String → SX → State → Prop} {AX : Nat → Prop} (hr : vx_Run p l e R s m args below meth c H locs cells slots mc ms (F0 m pc ls st0) rest (va_Qi post B A1 a) (vx_X px BX AX) free) (hS : va_S A0 H0 H locs) (hA : ∀ q, q < H.size → A1 q → A0 q) (hf : ∀ q, free q → A0 q) (hAX : ∀ q, q < H.size → AX q → A0 q)
    (kx : ∀ (E : String) (ce : Cell) (q9 : Addr) (u : SX) (t : State) (H1 : Heap) (locs1 : List Loc), t.heap = H1 → s.vm.Alike t.vm → px u → BX E u t → H.size ≤ H1.size → (∀ q : Nat, q < H.size → ¬ AX q → H1[q]? = H[q]?) → va_S A0 H0 H1 locs1 → H1[q9]? = some ce → ce.vm = .none → s.vm.findClass E = some ce.cls → vx_W p l e R s m args below meth c H1 locs1 (cells + mc) (slots + ms) Q (F0 m pc ls rest) q9)
    (kk : ∀ (r : Int32) (u : S) (t : State) (H1 : Heap) (locs1 : List Loc), t.heap = H1 → s.vm.Alike t.vm → post r u → B u t → H.size ≤ H1.size → (∀ q : Nat, q < H.size → ¬ A1 q → H1[q]? = H[q]?) → va_S A0 H0 H1 locs1 → W p l e R s m args below meth c H1 locs1 (cells + mc) (slots + ms) Q (F0 m (pc + 3) ls (.int r :: rest))) : W p l e R s m args below meth c H locs cells slots Q (F0 m pc ls st0) := by
  intro T hT X
  rcases hr T hT X with ⟨v, st₀, t, T', L, h0, X', hL, e1, e2, ⟨⟨r, u, hv, hp, hb⟩, hF⟩, st⟩ | ⟨q, st₀, t, T', L, E, ce, h0, X', hL, e1, e2, ⟨u, hp, hb, hF⟩, hce, hcv, hcl, st⟩
  · cases hv
    obtain ⟨k1, k2, k3⟩ := vx_keep h0 e1 hS hA hf hL hF
    obtain ⟨t2, a1, b1⟩ := kk r u t T'.heap (locs ++ L) e1.symm (by rw [← e2]; exact X'.warmed.alike) hp hb k1 k2 k3 T' rfl X'
    exact ⟨t2, st t2 a1, b1⟩
  · obtain ⟨k1, k2, k3⟩ := vx_keep h0 e1 hS hAX hf hL hF
    obtain ⟨t2, a1, b1⟩ := kx E ce q u t T'.heap (locs ++ L) e1.symm (by rw [← e2]; exact X'.warmed.alike) hp hb k1 k2 k3 (by rw [e1]; exact hce) hcv hcl T' rfl X'
    exact ⟨t2, st.trans a1, b1⟩
theorem vx_calll {S SX : Type} {post : Int64 → S → Prop} {px : SX → Prop} {B : S → State → Prop} {BX : String → SX → State → Prop} {AX : Nat → Prop} (hr : vx_Run p l e R s m args below meth c H locs cells slots mc ms (F0 m pc ls st0) rest (va_Ql post B A1 a) (vx_X px BX AX) free) (hS : va_S A0 H0 H locs) (hA : ∀ q, q < H.size → A1 q → A0 q) (hf : ∀ q, free q → A0 q) (hAX : ∀ q, q < H.size → AX q → A0 q)
    (kx : ∀ (E : String) (ce : Cell) (q9 : Addr) (u : SX) (t : State) (H1 : Heap) (locs1 : List Loc), t.heap = H1 → s.vm.Alike t.vm → px u → BX E u t → H.size ≤ H1.size → (∀ q : Nat, q < H.size → ¬ AX q → H1[q]? = H[q]?) → va_S A0 H0 H1 locs1 → H1[q9]? = some ce → ce.vm = .none → s.vm.findClass E = some ce.cls → vx_W p l e R s m args below meth c H1 locs1 (cells + mc) (slots + ms) Q (F0 m pc ls rest) q9)
    (kk : ∀ (r : Int64) (u : S) (t : State) (H1 : Heap) (locs1 : List Loc), t.heap = H1 → s.vm.Alike t.vm → post r u → B u t → H.size ≤ H1.size → (∀ q : Nat, q < H.size → ¬ A1 q → H1[q]? = H[q]?) → va_S A0 H0 H1 locs1 → W p l e R s m args below meth c H1 locs1 (cells + mc) (slots + ms) Q (F0 m (pc + 3) ls (.long r :: rest))) : W p l e R s m args below meth c H locs cells slots Q (F0 m pc ls st0) := by
  intro T hT X
  rcases hr T hT X with ⟨v, st₀, t, T', L, h0, X', hL, e1, e2, ⟨⟨r, u, hv, hp, hb⟩, hF⟩, st⟩ | ⟨q, st₀, t, T', L, E, ce, h0, X', hL, e1, e2, ⟨u, hp, hb, hF⟩, hce, hcv, hcl, st⟩
  · cases hv
    obtain ⟨k1, k2, k3⟩ := vx_keep h0 e1 hS hA hf hL hF
    obtain ⟨t2, a1, b1⟩ := kk r u t T'.heap (locs ++ L) e1.symm (by rw [← e2]; exact X'.warmed.alike) hp hb k1 k2 k3 T' rfl X'
    exact ⟨t2, st t2 a1, b1⟩
  · obtain ⟨k1, k2, k3⟩ := vx_keep h0 e1 hS hAX hf hL hF
    obtain ⟨t2, a1, b1⟩ := kx E ce q u t T'.heap (locs ++ L) e1.symm (by rw [← e2]; exact X'.warmed.alike) hp hb k1 k2 k3 (by rw [e1]; exact hce) hcv hcl T' rfl X'
    exact ⟨t2, st.trans a1, b1⟩
theorem vx_callf {S SX : Type} {post : UInt32 → S → Prop} {px : SX → Prop} {B : S → State → Prop} {BX : String → SX → State → Prop} {AX : Nat → Prop} (hr : vx_Run p l e R s m args below meth c H locs cells slots mc ms (F0 m pc ls st0) rest (va_Qf post B A1 a) (vx_X px BX AX) free) (hS : va_S A0 H0 H locs) (hA : ∀ q, q < H.size → A1 q → A0 q) (hf : ∀ q, free q → A0 q) (hAX : ∀ q, q < H.size → AX q → A0 q)
    (kx : ∀ (E : String) (ce : Cell) (q9 : Addr) (u : SX) (t : State) (H1 : Heap) (locs1 : List Loc), t.heap = H1 → s.vm.Alike t.vm → px u → BX E u t → H.size ≤ H1.size → (∀ q : Nat, q < H.size → ¬ AX q → H1[q]? = H[q]?) → va_S A0 H0 H1 locs1 → H1[q9]? = some ce → ce.vm = .none → s.vm.findClass E = some ce.cls → vx_W p l e R s m args below meth c H1 locs1 (cells + mc) (slots + ms) Q (F0 m pc ls rest) q9)
    (kk : ∀ (r : UInt32) (u : S) (t : State) (H1 : Heap) (locs1 : List Loc), t.heap = H1 → s.vm.Alike t.vm → post r u → B u t → H.size ≤ H1.size → (∀ q : Nat, q < H.size → ¬ A1 q → H1[q]? = H[q]?) → va_S A0 H0 H1 locs1 → W p l e R s m args below meth c H1 locs1 (cells + mc) (slots + ms) Q (F0 m (pc + 3) ls (.float r :: rest))) : W p l e R s m args below meth c H locs cells slots Q (F0 m pc ls st0) := by
  intro T hT X
  rcases hr T hT X with ⟨v, st₀, t, T', L, h0, X', hL, e1, e2, ⟨⟨r, u, hv, hp, hb⟩, hF⟩, st⟩ | ⟨q, st₀, t, T', L, E, ce, h0, X', hL, e1, e2, ⟨u, hp, hb, hF⟩, hce, hcv, hcl, st⟩
  · cases hv
    obtain ⟨k1, k2, k3⟩ := vx_keep h0 e1 hS hA hf hL hF
    obtain ⟨t2, a1, b1⟩ := kk r u t T'.heap (locs ++ L) e1.symm (by rw [← e2]; exact X'.warmed.alike) hp hb k1 k2 k3 T' rfl X'
    exact ⟨t2, st t2 a1, b1⟩
  · obtain ⟨k1, k2, k3⟩ := vx_keep h0 e1 hS hAX hf hL hF
    obtain ⟨t2, a1, b1⟩ := kx E ce q u t T'.heap (locs ++ L) e1.symm (by rw [← e2]; exact X'.warmed.alike) hp hb k1 k2 k3 (by rw [e1]; exact hce) hcv hcl T' rfl X'
    exact ⟨t2, st.trans a1, b1⟩
theorem vx_calld {S SX : Type} {post : UInt64 → S → Prop} {px : SX → Prop} {B : S → State → Prop} {BX : String → SX → State → Prop} {AX : Nat → Prop} (hr : vx_Run p l e R s m args below meth c H locs cells slots mc ms (F0 m pc ls st0) rest (va_Qd post B A1 a) (vx_X px BX AX) free) (hS : va_S A0 H0 H locs) (hA : ∀ q, q < H.size → A1 q → A0 q) (hf : ∀ q, free q → A0 q) (hAX : ∀ q, q < H.size → AX q → A0 q)
    (kx : ∀ (E : String) (ce : Cell) (q9 : Addr) (u : SX) (t : State) (H1 : Heap) (locs1 : List Loc), t.heap = H1 → s.vm.Alike t.vm → px u → BX E u t → H.size ≤ H1.size → (∀ q : Nat, q < H.size → ¬ AX q → H1[q]? = H[q]?) → va_S A0 H0 H1 locs1 → H1[q9]? = some ce → ce.vm = .none → s.vm.findClass E = some ce.cls → vx_W p l e R s m args below meth c H1 locs1 (cells + mc) (slots + ms) Q (F0 m pc ls rest) q9)
    (kk : ∀ (r : UInt64) (u : S) (t : State) (H1 : Heap) (locs1 : List Loc), t.heap = H1 → s.vm.Alike t.vm → post r u → B u t → H.size ≤ H1.size → (∀ q : Nat, q < H.size → ¬ A1 q → H1[q]? = H[q]?) → va_S A0 H0 H1 locs1 → W p l e R s m args below meth c H1 locs1 (cells + mc) (slots + ms) Q (F0 m (pc + 3) ls (.double r :: rest))) : W p l e R s m args below meth c H locs cells slots Q (F0 m pc ls st0) := by
  intro T hT X
  rcases hr T hT X with ⟨v, st₀, t, T', L, h0, X', hL, e1, e2, ⟨⟨r, u, hv, hp, hb⟩, hF⟩, st⟩ | ⟨q, st₀, t, T', L, E, ce, h0, X', hL, e1, e2, ⟨u, hp, hb, hF⟩, hce, hcv, hcl, st⟩
  · cases hv
    obtain ⟨k1, k2, k3⟩ := vx_keep h0 e1 hS hA hf hL hF
    obtain ⟨t2, a1, b1⟩ := kk r u t T'.heap (locs ++ L) e1.symm (by rw [← e2]; exact X'.warmed.alike) hp hb k1 k2 k3 T' rfl X'
    exact ⟨t2, st t2 a1, b1⟩
  · obtain ⟨k1, k2, k3⟩ := vx_keep h0 e1 hS hAX hf hL hF
    obtain ⟨t2, a1, b1⟩ := kx E ce q u t T'.heap (locs ++ L) e1.symm (by rw [← e2]; exact X'.warmed.alike) hp hb k1 k2 k3 (by rw [e1]; exact hce) hcv hcl T' rfl X'
    exact ⟨t2, st.trans a1, b1⟩
theorem vx_callv {S SX : Type} {post : S → Prop} {px : SX → Prop} {B : S → State → Prop} {BX : String → SX → State → Prop} {AX : Nat → Prop} (hr : vx_Run p l e R s m args below meth c H locs cells slots mc ms (F0 m pc ls st0) rest (va_Qv post B A1 a) (vx_X px BX AX) free) (hS : va_S A0 H0 H locs) (hA : ∀ q, q < H.size → A1 q → A0 q) (hf : ∀ q, free q → A0 q) (hAX : ∀ q, q < H.size → AX q → A0 q)
    (kx : ∀ (E : String) (ce : Cell) (q9 : Addr) (u : SX) (t : State) (H1 : Heap) (locs1 : List Loc), t.heap = H1 → s.vm.Alike t.vm → px u → BX E u t → H.size ≤ H1.size → (∀ q : Nat, q < H.size → ¬ AX q → H1[q]? = H[q]?) → va_S A0 H0 H1 locs1 → H1[q9]? = some ce → ce.vm = .none → s.vm.findClass E = some ce.cls → vx_W p l e R s m args below meth c H1 locs1 (cells + mc) (slots + ms) Q (F0 m pc ls rest) q9)
    (kk : ∀ (u : S) (t : State) (H1 : Heap) (locs1 : List Loc), t.heap = H1 → s.vm.Alike t.vm → post u → B u t → H.size ≤ H1.size → (∀ q : Nat, q < H.size → ¬ A1 q → H1[q]? = H[q]?) → va_S A0 H0 H1 locs1 → W p l e R s m args below meth c H1 locs1 (cells + mc) (slots + ms) Q (F0 m (pc + 3) ls (rest))) : W p l e R s m args below meth c H locs cells slots Q (F0 m pc ls st0) := by
  intro T hT X
  rcases hr T hT X with ⟨v, st₀, t, T', L, h0, X', hL, e1, e2, ⟨⟨u, hv, hp, hb⟩, hF⟩, st⟩ | ⟨q, st₀, t, T', L, E, ce, h0, X', hL, e1, e2, ⟨u, hp, hb, hF⟩, hce, hcv, hcl, st⟩
  · cases hv
    obtain ⟨k1, k2, k3⟩ := vx_keep h0 e1 hS hA hf hL hF
    obtain ⟨t2, a1, b1⟩ := kk u t T'.heap (locs ++ L) e1.symm (by rw [← e2]; exact X'.warmed.alike) hp hb k1 k2 k3 T' rfl X'
    exact ⟨t2, st t2 a1, b1⟩
  · obtain ⟨k1, k2, k3⟩ := vx_keep h0 e1 hS hAX hf hL hF
    obtain ⟨t2, a1, b1⟩ := kx E ce q u t T'.heap (locs ++ L) e1.symm (by rw [← e2]; exact X'.warmed.alike) hp hb k1 k2 k3 (by rw [e1]; exact hce) hcv hcl T' rfl X'
    exact ⟨t2, st.trans a1, b1⟩
/-- caught by the row x of this method's table; the rows ahead don't take it -/
theorem vx_catch {own name : String} {E : String} {ce : Cell} {q : Addr} (hown : s.vm.findClass own = some m.cls) (pre : List ExceptionTableEntry) (x : ExceptionTableEntry) (suf : List ExceptionTableEntry) (hsplit : c.exceptionTable.toList = pre ++ x :: suf)
    (hpass : ∀ z ∈ pre, covers z pc = false ∨ (z.catchType ≠ 0 ∧ ∃ nm : String, (Cond.classLink own z.catchType nm).before args s = true ∧ va_Nc E nm s)) (hx : covers x pc = true) (h0 : x.catchType ≠ 0)
    (hlink : (Cond.classLink own x.catchType name).before args s = true) (hcast : (Cond.castable E name).before args s = true) (hcell : H[q]? = some ce) (hv : ce.vm = .none) (hcl : s.vm.findClass E = some ce.cls)
    (kk : W p l e R s m args below meth c H locs cells slots Q (F0 m x.handlerPc ls [.ref q])) : vx_W p l e R s m args below meth c H locs cells slots Q (F0 m pc ls rest) q := by
  intro T hT X
  have hpl : e.platform.magicAccessors = ({} : Platform).magicAccessors := by rw [X.admits.platform]
  obtain ⟨c3, c4, hc3, hc4, hasg⟩ := Cond.castable_spec hcast
  cases Option.some.inj (hc3.symm.trans hcl)
  obtain ⟨c5, hc5, hcl5⟩ := Cond.classLink_spec hown hlink e.platform hpl
  cases Option.some.inj (hc4.symm.trans hc5)
  obtain ⟨vm', X', st⟩ := X.thenCaughtThrough q (g := F0 m pc ls rest) rfl (Steps.refl _) (by rw [hT]; exact hcell) (by rw [hv]; rfl) (by obtain ⟨k9, h9, -⟩ := Vm.findClass_spec hcl; exact ⟨k9, h9⟩) pre x suf hsplit
    (fun z hz => by
      rcases hpass z hz with h | ⟨hz0, nm, hl1, hn1⟩
      · exact Or.inl h
      · obtain ⟨c6, hc6, hcl6⟩ := Cond.classLink_spec hown hl1 e.platform hpl
        obtain ⟨a8, b8, h1, h2, h3⟩ := hn1
        cases Option.some.inj (h1.symm.trans hcl)
        cases Option.some.inj (h2.symm.trans hc6)
        exact Or.inr ⟨hz0, _, hcl6, h3⟩) hx (Or.inr ⟨h0, c4, hcl5, hasg⟩)
  obtain ⟨t, a1, b1⟩ := kk (T.setVm vm') hT X'
  exact ⟨t, st.trans a1, b1⟩
end Rows
section Ends
variable {p : Program} {l : Launch} {e : Env} {R : Room} {s : State} {m : MethodId} {args : Array Value} {below : List Frame} {meth : Method} {c : Code} {H : Heap} {locs : List Loc} {cells slots : Nat} {Q : State → Prop}
variable {mc ms : Nat} {free : Addr → Prop} {A0 A1 : Nat → Prop} {H0 : Heap} {a : Array Value} {ls : Array Slot} {st0 rest : List Value}
variable {Qc : Array Value → State → Outcome → State → Prop} {XC : String → State → State → Prop}
/-- what a body that may throw owes at its end -/
def vx_MQ (below : List Frame) (Qc : Array Value → State → Outcome → State → Prop) (XC : String → State → State → Prop) (a : Array Value) (s : State) (mc ms : Nat) (free : Addr → Prop) : State → Prop := fun t =>
  ∃ o, t.status = .running ∧ Ended t below o ∧ vx_Q Qc XC mc ms free a s o t
theorem vx_ret {g : JFrame} {mc ms : Nat} (k : W p l e R s m args below meth c H locs cells slots (MQ below Qc args s mc ms free) g) : W p l e R s m args below meth c H locs cells slots (vx_MQ below Qc XC args s mc ms free) g := by
  intro T hT X
  obtain ⟨t, a1, o, b1, b2, b3, b4⟩ := k T hT X
  exact ⟨t, a1, o, b1, b2, Or.inl ⟨b3, b4⟩⟩
/-- not caught here: it goes on to the caller -/
theorem vx_widen {g : JFrame} {q : Addr} {k n : Nat} (h1 : cells ≤ k) (h2 : slots ≤ n) (kk : vx_W p l e R s m args below meth c H locs k n Q g q) : vx_W p l e R s m args below meth c H locs cells slots Q g q := fun T hT X => kk T hT (stand_widen X h1 h2)
theorem vx_out {pc : Nat} {E : String} {ce : Cell} {q : Addr} {mc ms : Nat} (hout : ∀ x ∈ c.exceptionTable.toList, covers x pc = false) (hlocks : meth.locks = false) (hcell : H[q]? = some ce) (hv : ce.vm = .none) (hcl : s.vm.findClass E = some ce.cls)
    (hx : ∀ t : State, t.heap = H → s.vm.Alike t.vm → XC E s t) (hf : ∀ z ∈ locs, free z.base) (hc : cells ≤ mc) (hs : slots ≤ ms) :
    vx_W p l e R s m args below meth c H locs cells slots (vx_MQ below Qc XC args s mc ms free) (F0 m pc ls rest) q := by
  intro T hT X
  obtain ⟨st1, hrun, hend, hW, hsm⟩ := X.leaveThrown q (g := F0 m pc ls rest) rfl rfl rfl hout hlocks
  have hcell9 : (T.setFrames (.throwing q :: below)).heap[q]? = some ce := by
    show T.heap[q]? = some ce
    rw [hT]; exact hcell
  exact ⟨_, st1, .threw q, hrun, hend, Or.inr ⟨q, rfl, E, ce, locs, hx _ hT hW.alike, hcell9, hv, hcl, hW, hsm.mono hc hs, hf⟩⟩
theorem vx_frame {U : State} {k n : Nat} (h : s.sameButNew ({ U with vm := s.vm } : State) locs k n) : s.heap.size ≤ U.heap.size ∧ ∀ q : Nat, q < s.heap.size → (∀ z ∈ locs, z.base ≠ q) → U.heap[q]? = s.heap[q]? := by
  obtain ⟨-, h2, -, -, -, h6⟩ := h
  refine ⟨h2, fun q hq hz => ?_⟩
  obtain ⟨c9, e1, e2, e3, e4⟩ := h6 q _ (Array.getElem?_eq_getElem hq)
  have hs : c9.slots = (s.heap[q]).slots := Array.ext_getElem? fun i => e4 i fun hm => hz _ hm rfl
  have h9 : c9 = s.heap[q] := by
    rw [hs] at e2
    exact e2
  have e5 : U.heap[q]? = some c9 := e1
  rw [e5, h9, Array.getElem?_eq_getElem hq]
/-- the words of a throw but the four that speak of the heap -/
def vx_no (w : Cond) : Bool := decide (w ≠ .isRef (.static Bundle.tN "UNASSIGNED_STACK" Bundle.steD)) && decide (w ≠ .isRef (.static Bundle.tN "SUPPRESSED_SENTINEL" Bundle.listD)) && decide (w ≠ .laysStatic Bundle.tN "UNASSIGNED_STACK" Bundle.steD) && decide (w ≠ .laysStatic Bundle.tN "SUPPRESSED_SENTINEL" Bundle.listD)
def vx_at0 (own : String) (ic : Nat) (X : String) (names : List String) : List Cond := (Bundle.ownAtoms0 own ic X names).filter vx_no
def vx_atS (own : String) (ic : Nat) (X : String) (names : List String) : List Cond := (Bundle.ownAtoms own ic X names).filter vx_no
/-- a word that the tables alone decide, or a good one -/
def vx_ot (w : Cond) : Bool := w.onTables || goodWord w
theorem vx_ot_at {args a' : Array Value} {s U : State} {w : Cond} (hW : s.WarmedH U.vm) (hvm : s.vm = U.vm) (hg : vx_ot w = true) (h : w.before args s = true) : w.before a' U = true := by
  simp only [vx_ot, Bool.or_eq_true] at hg
  rcases hg with hg | hg
  · exact va_tabs hg hvm h
  · exact word_at hW (good_of_word hg) h
/-- a list's words: the good ones out of the method's own list, the others by premises of their own -/
theorem vx_hat {args : Array Value} {s : State} {L B : List Cond} (h1 : ∀ w ∈ L.filter goodWord, w.before args s = true) (h2 : ∀ w ∈ L.filter (fun w => !goodWord w), w ∈ B) (h3 : ∀ w ∈ B, w.before args s = true) : ∀ w ∈ L, w.before args s = true := by
  intro w hw
  by_cases g : goodWord w = true
  · exact h1 w (List.mem_filter.mpr ⟨hw, g⟩)
  · refine h3 w (h2 w (List.mem_filter.mpr ⟨hw, ?_⟩))
    show (!goodWord w) = true
    cases hgw : goodWord w
    · rfl
    · exact absurd hgw g
theorem vx_c {args : Array Value} {s : State} {w : Cond} {B : List Cond} (h : w.before args s = true) (t : ∀ w ∈ B, w.before args s = true) : ∀ w' ∈ w :: B, w'.before args s = true := fun w' h' => (List.mem_cons.mp h').elim (fun e => by rw [e]; exact h) (t w')
theorem vx_n {args : Array Value} {s : State} : ∀ w ∈ ([] : List Cond), w.before args s = true := fun _ h => nomatch h
theorem vx_own {args : Array Value} {s : State} {L : List Cond} (h1 : ∀ w ∈ L.filter vx_no, w.before args s = true)
    (hU : (Cond.isRef (.static Bundle.tN "UNASSIGNED_STACK" Bundle.steD)).before args s = true) (hN : (Cond.isRef (.static Bundle.tN "SUPPRESSED_SENTINEL" Bundle.listD)).before args s = true)
    (lU : (Cond.laysStatic Bundle.tN "UNASSIGNED_STACK" Bundle.steD).before args s = true) (lN : (Cond.laysStatic Bundle.tN "SUPPRESSED_SENTINEL" Bundle.listD).before args s = true) : ∀ w ∈ L, w.before args s = true := by
  intro w hw
  by_cases e1 : w = .isRef (.static Bundle.tN "UNASSIGNED_STACK" Bundle.steD)
  · rw [e1]; exact hU
  · by_cases e2 : w = .isRef (.static Bundle.tN "SUPPRESSED_SENTINEL" Bundle.listD)
    · rw [e2]; exact hN
    · by_cases e3 : w = .laysStatic Bundle.tN "UNASSIGNED_STACK" Bundle.steD
      · rw [e3]; exact lU
      · by_cases e4 : w = .laysStatic Bundle.tN "SUPPRESSED_SENTINEL" Bundle.listD
        · rw [e4]; exact lN
        · exact h1 w (List.mem_filter.mpr ⟨hw, by unfold vx_no; rw [decide_eq_true e1, decide_eq_true e2, decide_eq_true e3, decide_eq_true e4]; rfl⟩)
/-- where a static field lies, its class's statics cell in H -/
def vx_L (C n d : String) (A : Nat → Prop) (U : State) (H : Heap) : Prop := ∃ (c : ClassId) (k : Class) (i : Nat) (f : Field) (a : Nat) (cell : Cell), U.vm.findClass C = some c ∧ U.fieldFound? C n d = some (c, k, i, f) ∧ f.isStatic = true ∧ k.statics = some a ∧ H[a]? = some cell ∧ cell.vm.isStatics = true ∧ cell.cls = c ∧ f.slot < cell.slots.size ∧ k.staticTypes[f.slot]? = some f.type ∧ ¬ A a
theorem vx_L.moved {C n d : String} {A : Nat → Prop} {u U : State} {H : Heap} (hvm : u.vm.Alike U.vm) (h : vx_L C n d A u H) : vx_L C n d A U H := by
  obtain ⟨c, k, i, f, a, cell, h1, h2, h3, h4, h5, h6, h7, h8, h9, h10⟩ := h
  obtain ⟨k', hi', he⟩ := State.fieldFound?_setVm hvm h2
  exact ⟨c, k', i, f, a, cell, by rw [hvm.findClass]; exact h1, hi', h3, by rw [he]; exact h4, h5, h6, h7, h8, by rw [he]; exact h9, h10⟩
theorem vx_L.kept {C n d : String} {A : Nat → Prop} {U : State} {H H1 : Heap} (h : vx_L C n d A U H) (hq : ∀ a : Nat, a < H.size → ¬ A a → H1[a]? = H[a]?) : vx_L C n d A U H1 := by
  obtain ⟨c, k, i, f, a, cell, h1, h2, h3, h4, h5, h6, h7, h8, h9, h10⟩ := h
  exact ⟨c, k, i, f, a, cell, h1, h2, h3, h4, by rw [hq a (Array.getElem?_eq_some_iff.mp h5).1 h10]; exact h5, h6, h7, h8, h9, h10⟩
theorem vx_L.narrow {C n d : String} {A B : Nat → Prop} {U : State} {H : Heap} (h : vx_L C n d A U H) (hAB : ∀ q, B q → A q) : vx_L C n d B U H := by
  obtain ⟨c, k, i, f, a, cell, h1, h2, h3, h4, h5, h6, h7, h8, h9, h10⟩ := h
  exact ⟨c, k, i, f, a, cell, h1, h2, h3, h4, h5, h6, h7, h8, h9, fun z => h10 (hAB _ z)⟩
theorem vx_L.word {C n d : String} {A : Nat → Prop} {s : State} {args : Array Value} (h : vx_L C n d A s s.heap) : (Cond.laysStatic C n d).before args s = true := by
  obtain ⟨c, k, i, f, a, cell, h1, h2, h3, h4, h5, h6, h7, h8, h9, -⟩ := h
  show (Cond.laysStatic C n d).holds args s none s [] = true
  exact Cond.laysStatic_of h1 h2 h3 h4 h5 h6 h7 h8 h9
/-- .. and what it holds: null or some reference -/
def vx_Zq (C n d : String) (A : Nat → Prop) (U : State) (H : Heap) : Prop := va_Zq C n d A U H ∧ vx_L C n d A U H
theorem vx_Zq.moved {C n d : String} {A : Nat → Prop} {u U : State} {H : Heap} (hvm : u.vm.Alike U.vm) (h : vx_Zq C n d A u H) : vx_Zq C n d A U H := ⟨va_Zq.moved hvm h.1, vx_L.moved hvm h.2⟩
theorem vx_Zq.kept {C n d : String} {A : Nat → Prop} {U : State} {H H1 : Heap} (h : vx_Zq C n d A U H) (hq : ∀ a : Nat, a < H.size → ¬ A a → H1[a]? = H[a]?) : vx_Zq C n d A U H1 := ⟨va_Zq.kept h.1 hq, vx_L.kept h.2 hq⟩
theorem vx_Zq.narrow {C n d : String} {A B : Nat → Prop} {U : State} {H : Heap} (h : vx_Zq C n d A U H) (hAB : ∀ q, B q → A q) : vx_Zq C n d B U H := ⟨va_Zq.narrow h.1 hAB, vx_L.narrow h.2 hAB⟩
theorem vx_Zqof {args : Array Value} {s : State} {C n d : String} {A : Nat → Prop} (hl : (Cond.laysStatic C n d).before args s = true) (hini : (Cond.initialized C).before args s = true) (h : (Cond.isRef (.static C n d)).before args s = true) (hA : ∀ a : Nat, a < s.heap.size → ¬ A a) : vx_Zq C n d A s s.heap := by
  refine ⟨va_Zqof hl hini h hA, ?_⟩
  obtain ⟨c, k, i, f, a, cell, h1, h2, h3, h4, h5, h6, h7, h8, h9⟩ := Cond.laysStatic_spec hl
  exact ⟨c, k, i, f, a, cell, h1, h2, h3, h4, h5, h6, h7, h8, h9, hA a (Array.getElem?_eq_some_iff.mp h5).1⟩
theorem vx_isRef {C n d : String} {v : Value} {A : Nat → Prop} {s : State} {args : Array Value} (h : va_Z C n d v A s s.heap) (hv : v.isRef = true) : (Cond.isRef (.static C n d)).before args s = true := by
  obtain ⟨cf, kf, fi, f, a, cell, h1, h2, h3, h4, h5, h6, h7, -⟩ := h
  have he : (Term.static C n d).eval args s none [] s = some v := by
    simp [Term.eval, State.fieldNamed?, h1, h2, h4, h5, h6, h7]
  simp only [Cond.before, Cond.holds, Cond.value, he]
  cases v <;> simp_all [Value.isRef]
theorem vx_isRefq {C n d : String} {A : Nat → Prop} {s : State} {args : Array Value} (h : va_Zq C n d A s s.heap) : (Cond.isRef (.static C n d)).before args s = true := by
  rcases h with h | ⟨t, h⟩
  · exact vx_isRef h rfl
  · exact vx_isRef h rfl
/-- the same frame, seen from here: as if the method were called anew in this heap -/
theorem vx_rebase {T : State} (X : Stand p l e R s m args below meth c T locs cells slots) {R' : Room} (hf : R'.frames ≤ R.frames) (hl : R'.locals ≤ R.locals) (hc : cells + R'.cells ≤ R.cells) (hs : slots + R'.slots ≤ R.slots) :
    Stand p l e R' ((T.setVm s.vm).setFrames (.invoking m args :: below)) m args below meth c T [] 0 0 := by
  have htop : (T.setVm s.vm).topJava?.isSome := X.here.top
  have hF : ((T.setVm s.vm).setFrames (.invoking m args :: below)).frames = .invoking m args :: below := State.frames_setFrames _ (State.cur_lt_of_top htop)
  obtain ⟨g₀, hg0⟩ := Option.isSome_iff_exists.mp htop
  obtain ⟨r, hr⟩ := State.topJava?_eq_some.mp hg0
  have hl9 : e.platform.stackLimits (T.setVm s.vm).me = e.platform.stackLimits s.me := X.limits
  have hb9 : (T.setVm s.vm).me.stackBytes = s.me.stackBytes := X.bytes
  refine ⟨X.admits, X.cas, X.clock, hF, ?_, X.hears, X.method, X.code, X.here, X.tail, X.warmed, ?_, ?_, ?_⟩
  · have h := X.room
    have hU : ((T.setVm s.vm).setFrames (.invoking m args :: below)).localsInUse = s.localsInUse := by
      rw [State.localsInUse_invoking hF (meth := meth) (c := c) X.method X.code, State.localsInUse_invoking X.frames X.method X.code]
    simp only [State.hasRoom, Bool.and_eq_true, decide_eq_true_eq] at h ⊢
    obtain ⟨⟨⟨⟨h1, h2, h3, h4, h5, h6⟩, h7⟩, h8⟩, h9⟩ := h
    rw [X.frames, List.length_cons] at h2 h3
    have q1 := X.heapSize
    have q2 := X.used
    simp only [hF, hU, List.length_cons, State.stackLimits_setFrames, State.stackBytes_setFrames, hl9, hb9]
    refine ⟨⟨⟨⟨by omega, by omega, by omega, by omega, by omega, h6⟩, ?_⟩, ?_⟩, X.book⟩
    · show T.heap.size + R'.cells ≤ e.platform.maxCells
      omega
    · show T.slotsUsed + R'.slots ≤ e.platform.maxSlots
      omega
  · rw [State.stackLimits_setFrames]; rfl
  · rw [State.stackBytes_setFrames]; rfl
  · refine ⟨?_, Nat.le_refl _, Nat.le_refl _, ?_, ?_, fun a c9 h9 => ⟨c9, h9, rfl, rfl, fun _ _ => rfl⟩⟩
    · obtain ⟨t, ht, -⟩ := State.frames_cons hr
      show T.setVm s.vm = { ((T.setVm s.vm).setFrames (.invoking m args :: below)).setFrames (T.setVm s.vm).frames with heap := T.heap, slotsUsed := T.slotsUsed }
      rw [State.setFrames_setFrames, State.setFrames_self ht]
      rfl
    · show T.slotsUsed = T.slotsUsed + ((T.heap.toList.drop T.heap.size).map (·.slots.size)).sum
      rw [List.drop_eq_nil_of_le (Nat.le_of_eq Array.length_toList)]
      rfl
    · show ((T.heap.toList.drop T.heap.size).map (·.slots.size)).sum ≤ 0
      rw [List.drop_eq_nil_of_le (Nat.le_of_eq Array.length_toList)]
      exact Nat.le_refl _
/-- 'throw new E()': new; dup; invokespecial; athrow -/
theorem vx_throw0 {cc : ByteArray} {pc : Nat} (hexec : p.tables.exec = Jvm.exec) (hb : c.code = cc) (hl : l.stackTraces = false) {own cls : String} {names : List String} {ik ic mc ms : Nat} {A : Nat → Prop}
    (hown : s.vm.findClass own = some m.cls) (hcls : Bundle.fit cls = true) (hnames : ∀ n ∈ names, Bundle.fit n = true)
    (hk : (Cond.classLink own ik cls).before args s = true) (hini : (Cond.initialized cls).before args s = true) (hat : ∀ w ∈ vx_at0 own ic cls names, w.before args s = true)
    (hgood : ∀ w ∈ Cond.classLink own ik cls :: Cond.initialized cls :: vx_at0 own ic cls names, vx_ot w = true)
    (hU : vx_Zq Bundle.tN "UNASSIGNED_STACK" Bundle.steD A s s.heap) (hN : vx_Zq Bundle.tN "SUPPRESSED_SENTINEL" Bundle.listD A s s.heap) (hS : va_S A s.heap H locs) (hsize : ls.size = c.maxLocals)
    (d0 : decode cc pc = .ok (.new ik, 3)) (d3 : decode cc (pc + 3) = .ok (.dup, 1)) (d4 : decode cc (pc + 4) = .ok (.invokespecial ic, 3)) (d7 : decode cc (pc + 7) = .ok (.athrow, 1))
    (hout : ∀ x ∈ c.exceptionTable.toList, covers x (pc + 7) = false)
    (hRframes : names.length + 3 < R.frames) (hRlocals : (rest.map fun v => v.category).sum + (13 * (names.length + 1) + 42) ≤ R.locals) (hRcells : cells + 1 ≤ R.cells) (hRslots : slots + 6 ≤ R.slots) (hlocks : meth.locks = false)
    (hx : ∀ t : State, s.vm.Alike t.vm → H.size ≤ t.heap.size → (∀ q : Nat, q < H.size → t.heap[q]? = H[q]?) → XC cls s t)
    (hf : ∀ z ∈ locs, free z.base) (hc : cells + 1 ≤ mc) (hs : slots + 6 ≤ ms) :
    W p l e R s m args below meth c H locs cells slots (vx_MQ below Qc XC args s mc ms free) (F0 m pc ls rest) := by
  intro T hT X
  have htr : e.platform.stackTraces = false := (show e.platform.stackTraces = l.stackTraces by rw [X.admits.platform]).trans hl
  have Y := vx_rebase X (R' := { frames := R.frames, locals := R.locals, cells := 1, slots := 6 }) (Nat.le_refl _) (Nat.le_refl _) hRcells hRslots
  obtain ⟨s', hA⟩ : ∃ z, z = (T.setVm s.vm).setFrames (.invoking m args :: below) := ⟨_, rfl⟩
  rw [← hA] at Y
  have hvm : s'.vm = s.vm := by rw [hA]; rfl
  have hhp : s'.heap = H := by rw [hA]; exact hT
  have hW0 : s.WarmedH s'.vm := by rw [hvm]; exact State.WarmedH.refl s
  have hat' : ∀ w ∈ vx_at0 own ic cls names, w.before args s' = true := fun w hw => vx_ot_at hW0 hvm.symm (hgood w (List.mem_cons_of_mem _ (List.mem_cons_of_mem _ hw))) (hat w hw)
  have hk' : (Cond.classLink own ik cls).before args s' = true := vx_ot_at hW0 hvm.symm (hgood _ List.mem_cons_self) hk
  have hini' : (Cond.initialized cls).before args s' = true := vx_ot_at hW0 hvm.symm (hgood _ (List.mem_cons_of_mem _ List.mem_cons_self)) hini
  have hU' : vx_Zq Bundle.tN "UNASSIGNED_STACK" Bundle.steD A s' s'.heap := by rw [hhp]; exact vx_Zq.moved hW0.alike (hU.kept hS.2.1)
  have hN' : vx_Zq Bundle.tN "SUPPRESSED_SENTINEL" Bundle.listD A s' s'.heap := by rw [hhp]; exact vx_Zq.moved hW0.alike (hN.kept hS.2.1)
  have h : ∀ w ∈ Bundle.ownAtoms0 own ic cls names, w.before args s' = true := vx_own hat' (vx_isRefq hU'.1) (vx_isRefq hN'.1) hU'.2.word hN'.2.word
  have hown' : s'.vm.findClass own = some m.cls := by rw [hvm]; exact hown
  have hins : (Cond.instantiable cls 6).before args s' = true := h _ (by simp [Bundle.ownAtoms0])
  obtain ⟨vm₁, cX, kX, hfX, hkX, -, -, X₁, st1⟩ := Y.newCold hexec (own := own) (C := cls) (index := ik) (n := 6) hown' hk' hins hini'
    (g := F0 m pc ls rest) rfl (by rw [hb]; exact d0) (Nat.le_refl _) (Nat.le_refl _)
  generalize hT1 : (T.setVm vm₁).pushCell { cls := cX, slots := kX.instanceTypes.map defaultValue, vm := .none } = T1 at X₁ st1
  have hcat : (Value.ref T.heap.size).category = 1 := rfl
  have hcellA : T1.heap[T.heap.size]? = some (freshCell cX kX) := by rw [← hT1]; exact State.heap_pushCell_size _ _
  have d3' : decode c.code (pc + 3) = .ok (.dup, 1) := by rw [hb]; exact d3
  obtain ⟨U, hsteps, hrun, hend, hW, hsame, ce, hce, hO⟩ := X₁.ctorThrow0 hexec htr (own := own) (cls := cls) (names := names) (ic := ic) hown' hcls hnames h (fun x hx => nomatch hx) hfX hkX hcellA (by rw [hhp, hT]; exact Nat.le_refl _)
    (g := { method := m, pc := pc + 4, locals := ls, stack := .ref T.heap.size :: .ref T.heap.size :: rest, locked := none }) rfl hsize rfl rfl (rest := rest) rfl
    (by rw [hb]; exact d4) (by rw [hb]; exact d7) hout hRframes (by simp only [List.map_cons, List.sum_cons, hcat]; omega) hlocks
  obtain ⟨f1, f2⟩ := vx_frame hsame
  rw [hhp] at f1 f2
  have hWs : s.WarmedH U.vm := State.WarmedH.trans hW0 hW
  have hcl : s.vm.findClass cls = some ce.cls := by
    have h9 := hO.cls
    rw [hvm] at h9
    exact h9
  have hall : s.sameButNew ({ U with vm := s.vm } : State) locs mc ms := by
    subst hA
    obtain ⟨e1, e2⟩ := hsame
    rw [State.setFrames_setFrames] at e1
    have h2 : (T.setVm s.vm).sameButNew ({ U with vm := s.vm } : State) [] (0 + 1) (0 + 6) := ⟨e1, e2⟩
    have h3 := X.same.trans h2
    rw [List.append_nil] at h3
    exact h3.mono hc hs
  refine ⟨U, ?_, .threw T.heap.size, hrun, hend, Or.inr ⟨T.heap.size, rfl, cls, ce, locs, hx U hWs.alike f1 (fun q hq => f2 q hq (fun z hz => nomatch hz)), hce, hO.vm, hcl, hWs, hall, hf⟩⟩
  refine st1 _ ?_
  show Steps p.tables e below (T1.setTop { method := m, pc := pc + 3, locals := ls, stack := .ref T.heap.size :: rest, locked := none }) _
  jvm_step X₁.here [X₁.here.top, hexec, d3', Value.category]
  exact hsteps
/-- 'throw new E("text")': new; dup; ldc; invokespecial; athrow -/
theorem vx_throwS {cc : ByteArray} {pc : Nat} (hexec : p.tables.exec = Jvm.exec) (hb : c.code = cc) (hl : l.stackTraces = false) {own cls text : String} {names : List String} {ik is ic mc ms sa : Nat} {A : Nat → Prop}
    (hown : s.vm.findClass own = some m.cls) (hcls : Bundle.fit cls = true) (hnames : ∀ n ∈ names, Bundle.fit n = true)
    (hk : (Cond.classLink own ik cls).before args s = true) (hini : (Cond.initialized cls).before args s = true) (hstr : vk_R own is text sa s) (hat : ∀ w ∈ vx_atS own ic cls names, w.before args s = true)
    (hgood : ∀ w ∈ Cond.classLink own ik cls :: Cond.initialized cls :: vx_atS own ic cls names, vx_ot w = true)
    (hU : vx_Zq Bundle.tN "UNASSIGNED_STACK" Bundle.steD A s s.heap) (hN : vx_Zq Bundle.tN "SUPPRESSED_SENTINEL" Bundle.listD A s s.heap) (hS : va_S A s.heap H locs) (hsize : ls.size = c.maxLocals)
    (d0 : decode cc pc = .ok (.new ik, 3)) (d3 : decode cc (pc + 3) = .ok (.dup, 1)) (d4 : decode cc (pc + 4) = .ok (.ldc is, 2)) (d6 : decode cc (pc + 6) = .ok (.invokespecial ic, 3)) (d9 : decode cc (pc + 9) = .ok (.athrow, 1))
    (hout : ∀ x ∈ c.exceptionTable.toList, covers x (pc + 9) = false)
    (hRframes : names.length + 3 < R.frames) (hRlocals : (rest.map fun v => v.category).sum + (13 * (names.length + 1) + 43) ≤ R.locals) (hRcells : cells + 1 ≤ R.cells) (hRslots : slots + 6 ≤ R.slots) (hlocks : meth.locks = false)
    (hx : ∀ t : State, s.vm.Alike t.vm → H.size ≤ t.heap.size → (∀ q : Nat, q < H.size → t.heap[q]? = H[q]?) → XC cls s t)
    (hf : ∀ z ∈ locs, free z.base) (hc : cells + 1 ≤ mc) (hs : slots + 6 ≤ ms) :
    W p l e R s m args below meth c H locs cells slots (vx_MQ below Qc XC args s mc ms free) (F0 m pc ls rest) := by
  intro T hT X
  have htr : e.platform.stackTraces = false := (show e.platform.stackTraces = l.stackTraces by rw [X.admits.platform]).trans hl
  have Y := vx_rebase X (R' := { frames := R.frames, locals := R.locals, cells := 1, slots := 6 }) (Nat.le_refl _) (Nat.le_refl _) hRcells hRslots
  obtain ⟨s', hA⟩ : ∃ z, z = (T.setVm s.vm).setFrames (.invoking m args :: below) := ⟨_, rfl⟩
  rw [← hA] at Y
  have hvm : s'.vm = s.vm := by rw [hA]; rfl
  have hhp : s'.heap = H := by rw [hA]; exact hT
  have hW0 : s.WarmedH s'.vm := by rw [hvm]; exact State.WarmedH.refl s
  have hat' : ∀ w ∈ vx_atS own ic cls names, w.before args s' = true := fun w hw => vx_ot_at hW0 hvm.symm (hgood w (List.mem_cons_of_mem _ (List.mem_cons_of_mem _ hw))) (hat w hw)
  have hk' : (Cond.classLink own ik cls).before args s' = true := vx_ot_at hW0 hvm.symm (hgood _ List.mem_cons_self) hk
  have hini' : (Cond.initialized cls).before args s' = true := vx_ot_at hW0 hvm.symm (hgood _ (List.mem_cons_of_mem _ List.mem_cons_self)) hini
  have hU' : vx_Zq Bundle.tN "UNASSIGNED_STACK" Bundle.steD A s' s'.heap := by rw [hhp]; exact vx_Zq.moved hW0.alike (hU.kept hS.2.1)
  have hN' : vx_Zq Bundle.tN "SUPPRESSED_SENTINEL" Bundle.listD A s' s'.heap := by rw [hhp]; exact vx_Zq.moved hW0.alike (hN.kept hS.2.1)
  have h : ∀ w ∈ Bundle.ownAtoms own ic cls names, w.before args s' = true := vx_own hat' (vx_isRefq hU'.1) (vx_isRefq hN'.1) hU'.2.word hN'.2.word
  have hown' : s'.vm.findClass own = some m.cls := by rw [hvm]; exact hown
  have hins : (Cond.instantiable cls 6).before args s' = true := h _ (by simp [Bundle.ownAtoms])
  obtain ⟨vm₁, cX, kX, hfX, hkX, -, -, X₁, st1⟩ := Y.newCold hexec (own := own) (C := cls) (index := ik) (n := 6) hown' hk' hins hini'
    (g := F0 m pc ls rest) rfl (by rw [hb]; exact d0) (Nat.le_refl _) (Nat.le_refl _)
  generalize hT1 : (T.setVm vm₁).pushCell { cls := cX, slots := kX.instanceTypes.map defaultValue, vm := .none } = T1 at X₁ st1
  have hcat : (Value.ref T.heap.size).category = 1 := rfl
  have hcellA : T1.heap[T.heap.size]? = some (freshCell cX kX) := by rw [← hT1]; exact State.heap_pushCell_size _ _
  have d3' : decode c.code (pc + 3) = .ok (.dup, 1) := by rw [hb]; exact d3
  have d4' : decode c.code (pc + 4) = .ok (.ldc is, 2) := by rw [hb]; exact d4
  have hstr' : vk_R own is text sa s' := vk_R.warm hW0 hstr
  obtain ⟨U, hsteps, hrun, hend, hW, hsame, ce, hce, hO⟩ := X₁.ctorThrowS hexec htr (own := own) (cls := cls) (names := names) (ic := ic) hown' hcls hnames h (fun x hx => nomatch hx) hfX hkX hcellA (by rw [hhp, hT]; exact Nat.le_refl _) (msg := .ref sa) rfl
    (g := { method := m, pc := pc + 6, locals := ls, stack := .ref sa :: .ref T.heap.size :: .ref T.heap.size :: rest, locked := none }) rfl hsize rfl rfl (rest := rest) rfl
    (by rw [hb]; exact d6) (by rw [hb]; exact d9) hout hRframes (by simp only [List.map_cons, List.sum_cons, hcat]; omega) hlocks
  obtain ⟨f1, f2⟩ := vx_frame hsame
  rw [hhp] at f1 f2
  have hWs : s.WarmedH U.vm := State.WarmedH.trans hW0 hW
  have hcl : s.vm.findClass cls = some ce.cls := by
    have h9 := hO.cls
    rw [hvm] at h9
    exact h9
  have hall : s.sameButNew ({ U with vm := s.vm } : State) locs mc ms := by
    subst hA
    obtain ⟨e1, e2⟩ := hsame
    rw [State.setFrames_setFrames] at e1
    have h2 : (T.setVm s.vm).sameButNew ({ U with vm := s.vm } : State) [] (0 + 1) (0 + 6) := ⟨e1, e2⟩
    have h3 := X.same.trans h2
    rw [List.append_nil] at h3
    exact h3.mono hc hs
  refine ⟨U, ?_, .threw T.heap.size, hrun, hend, Or.inr ⟨T.heap.size, rfl, cls, ce, locs, hx U hWs.alike f1 (fun q hq => f2 q hq (fun z hz => nomatch hz)), hce, hO.vm, hcl, hWs, hall, hf⟩⟩
  refine st1 _ ?_
  show Steps p.tables e below (T1.setTop { method := m, pc := pc + 3, locals := ls, stack := .ref T.heap.size :: rest, locked := none }) _
  jvm_step X₁.here [X₁.here.top, hexec, d3', Value.category]
  exact X₁.ldcString hexec (own := own) (text := text) (index := is) (a := sa) hown' hstr'.1 hstr'.2
    (g := { method := m, pc := pc + 4, locals := ls, stack := .ref T.heap.size :: .ref T.heap.size :: rest, locked := none }) rfl d4' _ hsteps
/-- 'throw new E("text")', the text by a wide index -/
theorem vx_throwSW {cc : ByteArray} {pc : Nat} (hexec : p.tables.exec = Jvm.exec) (hb : c.code = cc) (hl : l.stackTraces = false) {own cls text : String} {names : List String} {ik is ic mc ms sa : Nat} {A : Nat → Prop}
    (hown : s.vm.findClass own = some m.cls) (hcls : Bundle.fit cls = true) (hnames : ∀ n ∈ names, Bundle.fit n = true)
    (hk : (Cond.classLink own ik cls).before args s = true) (hini : (Cond.initialized cls).before args s = true) (hstr : vk_R own is text sa s) (hat : ∀ w ∈ vx_atS own ic cls names, w.before args s = true)
    (hgood : ∀ w ∈ Cond.classLink own ik cls :: Cond.initialized cls :: vx_atS own ic cls names, vx_ot w = true)
    (hU : vx_Zq Bundle.tN "UNASSIGNED_STACK" Bundle.steD A s s.heap) (hN : vx_Zq Bundle.tN "SUPPRESSED_SENTINEL" Bundle.listD A s s.heap) (hS : va_S A s.heap H locs) (hsize : ls.size = c.maxLocals)
    (d0 : decode cc pc = .ok (.new ik, 3)) (d3 : decode cc (pc + 3) = .ok (.dup, 1)) (d4 : decode cc (pc + 4) = .ok (.ldc_w is, 3)) (d7 : decode cc (pc + 7) = .ok (.invokespecial ic, 3)) (d10 : decode cc (pc + 10) = .ok (.athrow, 1))
    (hout : ∀ x ∈ c.exceptionTable.toList, covers x (pc + 10) = false)
    (hRframes : names.length + 3 < R.frames) (hRlocals : (rest.map fun v => v.category).sum + (13 * (names.length + 1) + 43) ≤ R.locals) (hRcells : cells + 1 ≤ R.cells) (hRslots : slots + 6 ≤ R.slots) (hlocks : meth.locks = false)
    (hx : ∀ t : State, s.vm.Alike t.vm → H.size ≤ t.heap.size → (∀ q : Nat, q < H.size → t.heap[q]? = H[q]?) → XC cls s t)
    (hf : ∀ z ∈ locs, free z.base) (hc : cells + 1 ≤ mc) (hs : slots + 6 ≤ ms) :
    W p l e R s m args below meth c H locs cells slots (vx_MQ below Qc XC args s mc ms free) (F0 m pc ls rest) := by
  intro T hT X
  have htr : e.platform.stackTraces = false := (show e.platform.stackTraces = l.stackTraces by rw [X.admits.platform]).trans hl
  have Y := vx_rebase X (R' := { frames := R.frames, locals := R.locals, cells := 1, slots := 6 }) (Nat.le_refl _) (Nat.le_refl _) hRcells hRslots
  obtain ⟨s', hA⟩ : ∃ z, z = (T.setVm s.vm).setFrames (.invoking m args :: below) := ⟨_, rfl⟩
  rw [← hA] at Y
  have hvm : s'.vm = s.vm := by rw [hA]; rfl
  have hhp : s'.heap = H := by rw [hA]; exact hT
  have hW0 : s.WarmedH s'.vm := by rw [hvm]; exact State.WarmedH.refl s
  have hat' : ∀ w ∈ vx_atS own ic cls names, w.before args s' = true := fun w hw => vx_ot_at hW0 hvm.symm (hgood w (List.mem_cons_of_mem _ (List.mem_cons_of_mem _ hw))) (hat w hw)
  have hk' : (Cond.classLink own ik cls).before args s' = true := vx_ot_at hW0 hvm.symm (hgood _ List.mem_cons_self) hk
  have hini' : (Cond.initialized cls).before args s' = true := vx_ot_at hW0 hvm.symm (hgood _ (List.mem_cons_of_mem _ List.mem_cons_self)) hini
  have hU' : vx_Zq Bundle.tN "UNASSIGNED_STACK" Bundle.steD A s' s'.heap := by rw [hhp]; exact vx_Zq.moved hW0.alike (hU.kept hS.2.1)
  have hN' : vx_Zq Bundle.tN "SUPPRESSED_SENTINEL" Bundle.listD A s' s'.heap := by rw [hhp]; exact vx_Zq.moved hW0.alike (hN.kept hS.2.1)
  have h : ∀ w ∈ Bundle.ownAtoms own ic cls names, w.before args s' = true := vx_own hat' (vx_isRefq hU'.1) (vx_isRefq hN'.1) hU'.2.word hN'.2.word
  have hown' : s'.vm.findClass own = some m.cls := by rw [hvm]; exact hown
  have hins : (Cond.instantiable cls 6).before args s' = true := h _ (by simp [Bundle.ownAtoms])
  obtain ⟨vm₁, cX, kX, hfX, hkX, -, -, X₁, st1⟩ := Y.newCold hexec (own := own) (C := cls) (index := ik) (n := 6) hown' hk' hins hini'
    (g := F0 m pc ls rest) rfl (by rw [hb]; exact d0) (Nat.le_refl _) (Nat.le_refl _)
  generalize hT1 : (T.setVm vm₁).pushCell { cls := cX, slots := kX.instanceTypes.map defaultValue, vm := .none } = T1 at X₁ st1
  have hcat : (Value.ref T.heap.size).category = 1 := rfl
  have hcellA : T1.heap[T.heap.size]? = some (freshCell cX kX) := by rw [← hT1]; exact State.heap_pushCell_size _ _
  have d3' : decode c.code (pc + 3) = .ok (.dup, 1) := by rw [hb]; exact d3
  have d4' : decode c.code (pc + 4) = .ok (.ldc_w is, 3) := by rw [hb]; exact d4
  have hstr' : vk_R own is text sa s' := vk_R.warm hW0 hstr
  obtain ⟨U, hsteps, hrun, hend, hW, hsame, ce, hce, hO⟩ := X₁.ctorThrowS hexec htr (own := own) (cls := cls) (names := names) (ic := ic) hown' hcls hnames h (fun x hx => nomatch hx) hfX hkX hcellA (by rw [hhp, hT]; exact Nat.le_refl _) (msg := .ref sa) rfl
    (g := { method := m, pc := pc + 7, locals := ls, stack := .ref sa :: .ref T.heap.size :: .ref T.heap.size :: rest, locked := none }) rfl hsize rfl rfl (rest := rest) rfl
    (by rw [hb]; exact d7) (by rw [hb]; exact d10) hout hRframes (by simp only [List.map_cons, List.sum_cons, hcat]; omega) hlocks
  obtain ⟨f1, f2⟩ := vx_frame hsame
  rw [hhp] at f1 f2
  have hWs : s.WarmedH U.vm := State.WarmedH.trans hW0 hW
  have hcl : s.vm.findClass cls = some ce.cls := by
    have h9 := hO.cls
    rw [hvm] at h9
    exact h9
  have hall : s.sameButNew ({ U with vm := s.vm } : State) locs mc ms := by
    subst hA
    obtain ⟨e1, e2⟩ := hsame
    rw [State.setFrames_setFrames] at e1
    have h2 : (T.setVm s.vm).sameButNew ({ U with vm := s.vm } : State) [] (0 + 1) (0 + 6) := ⟨e1, e2⟩
    have h3 := X.same.trans h2
    rw [List.append_nil] at h3
    exact h3.mono hc hs
  refine ⟨U, ?_, .threw T.heap.size, hrun, hend, Or.inr ⟨T.heap.size, rfl, cls, ce, locs, hx U hWs.alike f1 (fun q hq => f2 q hq (fun z hz => nomatch hz)), hce, hO.vm, hcl, hWs, hall, hf⟩⟩
  refine st1 _ ?_
  show Steps p.tables e below (T1.setTop { method := m, pc := pc + 3, locals := ls, stack := .ref T.heap.size :: rest, locked := none }) _
  jvm_step X₁.here [X₁.here.top, hexec, d3', Value.category]
  exact X₁.ldcStringW hexec (own := own) (text := text) (index := is) (a := sa) hown' hstr'.1 hstr'.2
    (g := { method := m, pc := pc + 4, locals := ls, stack := .ref T.heap.size :: .ref T.heap.size :: rest, locked := none }) rfl d4' _ hsteps
end Ends
section Bodies
variable {l : Launch}
theorem vx_ofW {y : MethodName} {ws ws' : List Cond} {rm : Room} {Pc : Array Value → State → Prop} {Qc : Array Value → State → Outcome → State → Prop} {XC : String → State → State → Prop} {mc ms : Nat} {free : Addr → Prop} {cc : ByteArray} {maxL : Nat} {ret : Option FieldType}
    (hy : plainName y.cls = true) (hw : ws = Cond.code y cc maxL ret :: ws')
    (body : ∀ p e s m args below meth c s₁, BodyLoose p l y (headSpec ws rm) cc maxL ret e s m args below meth c s₁ → c.maxLocals = maxL → (∀ x ∈ c.exceptionTable.toList, False) → Pc args s →
      W p l e (headSpec ws rm).room s m args below meth c s.heap [] 0 0 (vx_MQ below Qc XC args s mc ms free) (entryFrame m args maxL)) : vx_Met l y ws rm Pc Qc XC mc ms free := by
  refine MetFree.of_bodyS (code := cc) (maxLocals := maxL) (ret := ret) hy ?_ ?_
  · intro args s m h hn
    obtain ⟨meth, c, h1, h2, h3, h4, h5, h6, -, -⟩ := Cond.code_spec hn (atoms_spec (ws := ws) h _ (by rw [hw]; exact List.mem_cons_self))
    exact ⟨meth, c, h1, h2, h3, h4, h5, h6⟩
  · intro p e s m args below meth c s₁ B hml hP _
    have hh0 : s₁.heap = s.heap := by rw [B.state]; rfl
    have ht : ∀ x ∈ c.exceptionTable.toList, False := by
      obtain ⟨meth9, c9, h1, h2, -, -, -, -, h7, -⟩ := Cond.code_spec B.named (atoms_spec (ws := ws) B.pre _ (by rw [hw]; exact List.mem_cons_self))
      cases Option.some.inj (h1.symm.trans B.method)
      cases Option.some.inj (h2.symm.trans (Stand.of_body B).code)
      intro x hx
      rw [Array.isEmpty_iff.mp h7] at hx
      cases hx
    obtain ⟨t, a1, o, b1, b2, b3⟩ := body p e s m args below meth c s₁ B hml ht hP s₁ hh0 (Stand.of_body B)
    exact ⟨t, o, a1, b1, b2, b3⟩
/-- the table of a body with handlers -/
theorem vx_table {p : Program} {x y : MethodName} {S : Spec} {cc bytes : ByteArray} {maxL maxL' : Nat} {ret ret' : Option FieldType} {e : Env} {s s₁ : State} {m : MethodId} {args : Array Value} {below : List Frame} {meth : Method} {c : Code} {hh : List (Nat × Nat × Nat × Nat)}
    (B : BodyLoose p l y S cc maxL ret e s m args below meth c s₁) (h : (Cond.codeWith y bytes maxL' ret' hh).before args s = true) : c.exceptionTable.toList = tableOf hh := by
  obtain ⟨m9, meth9, c9, hn9, h1, h2, -, -, h6, -⟩ := Cond.codeWith_spec h
  cases Option.some.inj (hn9.symm.trans B.named)
  cases Option.some.inj (h1.symm.trans B.method)
  cases Option.some.inj (h2.symm.trans (Stand.of_body B).code)
  rw [← h6, table_eq]
end Bodies
end VXA
/-! ===== END ===== -/
/-! ===== BEGIN a static call of a method with an exception table ===== -/
section VXS
variable {p : Program} {l : Launch} {e : Env} {R : Room} {s : State} {m : MethodId} {args : Array Value} {below : List Frame} {meth : Method} {c : Code} {T : State} {H : Heap} {locs : List Loc} {cells slots : Nat}
abbrev vx_CSW (R : Room) (s : State) (args : Array Value) (own : String) (index : Nat) (y : MethodName) (bytes : ByteArray) (maxL : Nat) (ret : Option FieldType) (hh : List (Nat × Nat × Nat × Nat)) (ws : List Cond) (rm : Room) (mc ms n : Nat) : Prop :=
  (rm.cells = mc ∧ rm.slots = ms ∧ rm.frames + 1 ≤ R.frames ∧ 8 + (maxL + 11) + rm.locals ≤ R.locals ∧ (∀ w ∈ ws, ∀ (a' : Array Value) (U : State), s.WarmedH U.vm → w.before a' U = true) ∧ Cond.codeWith y bytes maxL ret hh ∈ ws) ∧
  (Cond.codeWith y bytes maxL ret hh).before args s = true ∧ (Cond.initialized y.cls).before args s = true ∧ (y.cls ≠ "java/lang/invoke/MethodHandle" ∧ y.cls ≠ "java/lang/invoke/VarHandle") ∧
  (∀ sig, parseMethodDescriptor y.desc = some sig → n = sig.parameters.length) ∧ (Cond.methodLink own index y).before args s = true ∧ (Cond.static y).before args s = true
theorem vx_cwSW {own : String} {index maxL mc ms : Nat} {y : MethodName} {bytes : ByteArray} {ret : Option FieldType} {hh : List (Nat × Nat × Nat × Nat)} {Ts ws ws' : List Cond} {rm : Room} (n : Nat) (ht : ∀ w ∈ Ts, w.before args s = true) (hT : GoodIn Ts (va_wsS own index y ws)) (hw : ws = Cond.codeWith y bytes maxL ret hh :: ws') (hrc : rm.cells = mc) (hrs : rm.slots = ms)
    (hd : y.cls ≠ "java/lang/invoke/MethodHandle" ∧ y.cls ≠ "java/lang/invoke/VarHandle" ∧ (parseMethodDescriptor y.desc).map (fun d => d.parameters.length) = some n) (hR : rm.frames + 1 ≤ R.frames ∧ 8 + (maxL + 11) + rm.locals ≤ R.locals) :
    vx_CSW R s args own index y bytes maxL ret hh ws rm mc ms n := by
  have ok : ∀ w ∈ va_wsS own index y ws, w.before args s = true := fun w h => ht w (hT w h).1
  have hG : GoodIn Ts ws := fun w h => hT w (by unfold va_wsS; exact List.mem_append_right _ h)
  have hc : Cond.codeWith y bytes maxL ret hh ∈ ws := by rw [hw]; exact List.mem_cons_self
  refine ⟨⟨hrc, hrs, hR.1, hR.2, pay_in ht hG, hc⟩, ht _ (hG _ hc).1, ok _ (by simp [va_wsS]), ⟨hd.1, hd.2.1⟩, fun sig h => ?_, ok _ (by simp [va_wsS]), ok _ (by simp [va_wsS])⟩
  have h2 := hd.2.2
  rw [h] at h2
  exact (Option.some.inj h2).symm
theorem vx_callSW (X : Stand p l e R s m args below meth c T locs cells slots) (hexec : p.tables.exec = Jvm.exec) {own : String} {index : Nat} {y : MethodName} {bytes : ByteArray} {maxL : Nat} {ret : Option FieldType} {hh : List (Nat × Nat × Nat × Nat)}
    (hown : s.vm.findClass own = some m.cls) (hlink : (Cond.methodLink own index y).before args s = true) (hstat : (Cond.static y).before args s = true) (hinit : (Cond.initialized y.cls).before args s = true)
    (hcode : (Cond.codeWith y bytes maxL ret hh).before args s = true) (hy : y.cls ≠ "java/lang/invoke/MethodHandle" ∧ y.cls ≠ "java/lang/invoke/VarHandle")
    {W9 : Nat} {Pre : Pt → Array Value → Prop} {Post : Pt → Array Value → Option Value → Pt → Prop} (hK : Back l R p e below s args y 3 W9 Pre Post)
    {g : JFrame} (hg : g.method = m) (hsize : g.locals.size = c.maxLocals) {argsL rest : List Value} (hlen : ∀ sig, parseMethodDescriptor y.desc = some sig → argsL.length = sig.parameters.length)
    (hstack : g.stack = argsL.reverse ++ rest) (hW : 2 * g.monitorRoom + (rest.map fun v => v.category).sum ≤ W9) (hdg : decode c.code g.pc = .ok (.invokestatic index, 3))
    (hpre : ∀ vm₁, s.WarmedH vm₁ → Pre ⟨T.setVm vm₁, locs, cells, slots⟩ argsL.toArray) :
    ∃ (v : Option Value) (vm₁ : Vm) (B : Pt), s.WarmedH vm₁ ∧ Stand p l e R s m args below meth c B.U B.locs B.cells B.slots ∧ Post ⟨T.setVm vm₁, locs, cells, slots⟩ argsL.toArray v B ∧
      ∀ target, Steps p.tables e below (B.U.setTop { g with pc := g.pc + 3, stack := v.toList ++ rest }) target → Steps p.tables e below (T.setTop g) target := by
  obtain ⟨mk, methM, cM, hnamed, hmethM, -, -, -, -, -, -, hsigM⟩ := Cond.codeWith_spec hcode
  have hstatic : methM.isStatic = true := Cond.static_spec hnamed hmethM hstat
  obtain ⟨kP, hkP, -⟩ := className_of_methodNamed hnamed
  have hinitP : kP.init = .initialized := Cond.initialized_spec (findClass_of_methodNamed hnamed) hkP hinit
  obtain ⟨vm₁, X₁, hstep₁⟩ := X.invokestatic hexec hown hlink hnamed hmethM hstatic hkP hinitP hy (g := g) hg (argsL := argsL) (rest := rest) (hlen _ hsigM) hstack hdg
  obtain ⟨v, B, X', hpost, hsteps⟩ := hK m meth c ⟨T.setVm vm₁, locs, cells, slots⟩ { g with stack := rest } (.invokestatic index) mk argsL.toArray X₁ hg hsize hdg hW (X₁.named hnamed) (hpre vm₁ X₁.warmed)
  exact ⟨v, vm₁, B, X₁.warmed, X', hpost, fun target h => hstep₁ _ fun acts => by rw [doInvoke_state]; exact hsteps.trans h⟩
theorem vx_runSW {y : MethodName} {bytes cc : ByteArray} {maxL nL mc ms n index : Nat} {ret : Option FieldType} {hh : List (Nat × Nat × Nat × Nat)} {ws : List Cond} {rm : Room} {Pc : Array Value → State → Prop} {Qc : Array Value → State → Outcome → State → Prop} {free : Addr → Prop} {Ts : List Cond} {own : String} {As rest : List Value} {g : JFrame}
    (S : CallFix p m c cc nL s args Ts own) (hM : Met l y ws rm Pc Qc mc ms free) (cw : vx_CSW R s args own index y bytes maxL ret hh ws rm mc ms n) (hp : PreS s H Pc As)
    (hg : g.method = m) (hn : As.length = n) (hsize : g.locals.size = nL) (hstack : g.stack = As.reverse ++ rest) (hW : 2 * g.monitorRoom + (rest.map fun v => v.category).sum ≤ 8) (hdg : decode cc g.pc = .ok (.invokestatic index, 3)) (hf : cells + mc ≤ R.cells ∧ slots + ms ≤ R.slots) :
    va_Run p l e R s m args below meth c H locs cells slots mc ms g rest (Qc As.toArray) (free) := by
  obtain ⟨⟨hrc, hrs, hfr, hlo, hws, hcw⟩, hcode, hini, hy, hlen, hl, hstt⟩ := cw
  have hK : Back l R p e below s args y 3 8 (PreOf R mc ms Pc) (PostOf Qc mc ms free) := va_backW (hh := hh) (bytes := bytes) (maxL := maxL) (ret := ret) hM hp.1 hrc hrs hfr hlo hws hcw (fun a' U hW => word_at hW (Or.inl (by first | rfl | simp [Cond.onTables, Cond.keeps, Cond.steady])) hini)
  obtain ⟨hx, hb, hml, ho, -⟩ := S
  intro T hT X
  obtain ⟨v, vm₁, ⟨U', l2, c2, s2⟩, hW₁, X', ⟨g', mk, t, L, e1, e2, hq, h1, hL, h2, h3⟩, st⟩ := vx_callSW X hx (hh := hh) (bytes := bytes) (maxL := maxL) (ret := ret) ho hl hstt hini hcode hy hK hg (hsize.trans hml.symm) (argsL := As) (rest := rest) (fun sig h => hn.trans (hlen sig h)) hstack hW (by rw [hb]; exact hdg)
    (fun vm₁ hW₁ => ⟨hf.1, hf.2, hp.2 (T.setVm vm₁) hT hW₁⟩)
  dsimp only [Pt.U, Pt.locs, Pt.cells, Pt.slots] at X' e1 e2 h1 h2 h3 st
  subst h1; subst h2; subst h3
  exact ⟨v, (T.setVm vm₁).calling g' mk As.toArray, t, U', L, hT, X', hL, e1, e2, hq, st⟩
/-- not caught here, past rows that name other classes: it goes on to the caller -/
theorem vx_outP {p : Program} {l : Launch} {e : Env} {R : Room} {s : State} {m : MethodId} {args : Array Value} {below : List Frame} {meth : Method} {c : Code} {H : Heap} {locs : List Loc} {cells slots : Nat} {free : Addr → Prop} {ls : Array Slot} {rest : List Value} {Qc : Array Value → State → Outcome → State → Prop} {XC : String → State → State → Prop}
    {pc : Nat} {own E : String} {ce : Cell} {q : Addr} {mc ms : Nat} (hown : s.vm.findClass own = some m.cls) (hlocks : meth.locks = false)
    (hpass : ∀ z ∈ c.exceptionTable.toList, covers z pc = false ∨ (z.catchType ≠ 0 ∧ ∃ nm : String, (Cond.classLink own z.catchType nm).before args s = true ∧ va_Nc E nm s)) (hcell : H[q]? = some ce) (hv : ce.vm = .none) (hcl : s.vm.findClass E = some ce.cls)
    (hx : ∀ t : State, t.heap = H → s.vm.Alike t.vm → XC E s t) (hf : ∀ z ∈ locs, free z.base) (hc : cells ≤ mc) (hs : slots ≤ ms) :
    vx_W p l e R s m args below meth c H locs cells slots (vx_MQ below Qc XC args s mc ms free) (F0 m pc ls rest) q := by
  intro T hT X
  have hpl : e.platform.magicAccessors = ({} : Platform).magicAccessors := by rw [X.admits.platform]
  obtain ⟨vm', hW', X', st⟩ := X.outThrough hlocks q (g := F0 m pc ls rest) rfl rfl rfl (cell := ce) (by rw [hT]; exact hcell) (by rw [hv]; rfl)
    (by obtain ⟨k9, h9, -⟩ := Vm.findClass_spec hcl; exact ⟨k9, h9⟩) (fun z hz => by
      rcases hpass z hz with h | ⟨hz0, nm, hl1, hn1⟩
      · exact Or.inl h
      · obtain ⟨c6, hc6, hcl6⟩ := Cond.classLink_spec hown hl1 e.platform hpl
        obtain ⟨a8, b8, h1, h2, h3⟩ := hn1
        cases Option.some.inj (h1.symm.trans hcl)
        cases Option.some.inj (h2.symm.trans hc6)
        exact Or.inr ⟨hz0, _, hcl6, h3⟩)
  obtain ⟨g₀, hfr⟩ := X'.frames_eq
  have hcell9 : ((T.setVm vm').setFrames (.throwing q :: below)).heap[q]? = some ce := by
    show T.heap[q]? = some ce
    rw [hT]; exact hcell
  have hend : Ended ((T.setVm vm').setFrames (.throwing q :: below)) below (.threw q) := State.frames_setFrames _ (State.cur_lt_of_frames hfr)
  refine ⟨(T.setVm vm').setFrames (.throwing q :: below), ?_, .threw q, X'.here.running, hend, Or.inr ⟨q, rfl, E, ce, locs, hx _ hT (X'.ends _).1.alike, hcell9, hv, hcl, (X'.ends _).1, (X'.ends _).2.mono hc hs, hf⟩⟩
  rw [X.pushThrowing_eq]
  exact st
/-- a thing of a world lies in the heap -/
theorem vx_lt {D : va_G} {cl : List vw_C} {ws : va_W} {H1 : Heap} (h : va_P D cl ws H1) {k : Nat} {q : Nat × va_E} (hk : ws[k]? = some q) : q.1 < H1.size := (h k q hk).lt
end VXS
/-! ===== END ===== -/
/-! ===== BEGIN methods with a table of their own: called by a name, returning or throwing ===== -/
section VXH
/-! vx_backW, vx_callVX, vx_callSX, vx_callVW, vx_runVW, vx_runVX, vx_runSX, vx_ofWH follow the same proofs as their sisters above (Free/Laws.lean, Shelf42/LK1.lean); vx_outP calls Shelf42/NT130.lean (outThrough). -/
section
variable {l : Launch} {R : Room} {p : Program} {e : Env} {below : List Frame} {s : State} {sargs : Array Value} {y : MethodName} {len W9 : Nat}
theorem vx_backW {ws : List Cond} {rm : Room} {Pc : Array Value → State → Prop} {Qc : Array Value → State → Outcome → State → Prop} {XC : String → State → State → Prop} {mc ms : Nat} {free : Addr → Prop} {bytes : ByteArray} {maxL : Nat} {ret : Option FieldType} {hh : List (Nat × Nat × Nat × Nat)}
    (hM : vx_Met l y ws rm Pc Qc XC mc ms free) (hblind : FrameBlind Pc) (hrc : rm.cells = mc) (hrs : rm.slots = ms)
    (hframes : rm.frames + 1 ≤ R.frames) (hlocals : W9 + (maxL + 11) + rm.locals ≤ R.locals)
    (hws : ∀ w ∈ ws, ∀ a' U, s.WarmedH U.vm → w.before a' U = true) (hcode : Cond.codeWith y bytes maxL ret hh ∈ ws) (hinit : ∀ a' U, s.WarmedH U.vm → (Cond.initialized y.cls).before a' U = true) :
    vx_Back l R p e below s sargs y len W9 (PreOf R mc ms Pc) (PostOf Qc mc ms free) (vx_Post XC mc ms free) := by
  intro m meth c A g ig mk a X hg hsize hdg hW hn hp
  have h1 : (headSpec ws rm).pre.before a A.U = true := atoms_intro fun w hw => hws w hw _ _ X.warmed
  have h2 : (Cond.codeWith y bytes maxL ret hh).before a A.U = true := hws _ hcode _ _ X.warmed
  have h3 : (Cond.initialized y.cls).before a A.U = true := hinit _ _ X.warmed
  have h4 : A.cells + (headSpec ws rm).room.cells ≤ R.cells := by rw [show (headSpec ws rm).room.cells = mc from hrc]; exact hp.1
  have h5 : A.slots + (headSpec ws rm).room.slots ≤ R.slots := by rw [show (headSpec ws rm).room.slots = ms from hrs]; exact hp.2.1
  have hPc : Pc a (A.U.calling g mk a) := hblind _ _ _ _ hp.2.2
  obtain ⟨U, Ls, c0, s0⟩ := A
  dsimp only [Pt.U, Pt.locs, Pt.cells, Pt.slots] at h1 h2 h3 h4 h5 X hn hPc ⊢
  obtain ⟨m9, methY, cY, hn9, hmY, hcY, -, hlY, -⟩ := Cond.codeWith_spec h2
  cases Option.some.inj (hn9.symm.trans hn)
  obtain ⟨kY, hkY, -⟩ := className_of_methodNamed hn
  have hinitY : kY.init = .initialized := Cond.initialized_spec (findClass_of_methodNamed hn) hkY h3
  have h : At U g.method c below := by rw [hg]; exact X.here
  have hlocals9 : W9 + (maxL + 11) + (headSpec ws rm).room.locals ≤ R.locals := hlocals
  have happ : (headSpec ws rm).appliesLoose y e.platform (U.calling g mk a) = true :=
    Spec.appliesLoose_calling (g := g) h hdg hn hkY hinitY
      (X.room_calling (g := g) (R' := (headSpec ws rm).room) hsize hmY hcY hframes (by rw [hlY]; omega) h4 h5) h1
  obtain ⟨mid, hmid⟩ := h.above
  have hfr : (U.setTop g).frames = (.java g :: mid) ++ below := by rw [State.frames_setTop' g h.top, hmid]; rfl
  obtain ⟨o, s₂, hsteps, -, hend, hq⟩ := Steps.callFree hM p X.admits X.cas X.clock (acts := []) hfr happ hPc trivial
  have hq' : vx_Q Qc XC mc ms free a (U.calling g mk a) o s₂ := hq
  rw [State.frames_setTop' g h.top] at hend
  obtain ⟨g₀, hg0⟩ := Option.isSome_iff_exists.mp h.top
  obtain ⟨r, hr⟩ := State.topJava?_eq_some.mp hg0
  have hr' : (({ U with heap := s₂.heap, slotsUsed := s₂.slotsUsed } : State).setVm s₂.vm).frames = .java g₀ :: r := hr
  rcases hq' with ⟨hqc, L, hfe, hL⟩ | ⟨q, rfl, E, ce, L, hx, hce, hcv, hcl, hW₂, hsm, hL⟩
  · obtain ⟨⟨v, rfl⟩, hW₂, e2, q2, q3, q4, q5, q6⟩ := id hfe
    have e3 : s₂ = ({ (U.calling g mk a).setFrames s₂.frames with heap := s₂.heap, slotsUsed := s₂.slotsUsed } : State).setVm s₂.vm := by
      have : s₂ = ({ s₂ with vm := (U.calling g mk a).vm } : State).setVm s₂.vm := rfl
      rw [e2] at this
      exact this
    obtain ⟨c₂, i₂, len₂, hc₂, hd₂, hf₂⟩ := hend
    have hW' : U.WarmedH s₂.vm := hW₂
    have hcc : c₂ = c := by
      have h1 : s₂.code? g.method = U.code? g.method := by
        rw [State.code?_eq, State.code?_eq, hW'.alike.method?]
      exact Option.some.inj (hc₂.symm.trans (h1.trans h.code))
    subst hcc
    have hlen : len₂ = len := by rw [hdg] at hd₂; cases hd₂; rfl
    subst hlen
    have hs₂ : s₂ = (({ U with heap := s₂.heap, slotsUsed := s₂.slotsUsed } : State).setVm s₂.vm).setTop { g with pc := g.pc + len₂, stack := v.toList ++ g.stack } := by
      refine e3.trans ?_
      rw [hf₂, State.calling_eq h.top, State.setFrames_setFrames, State.setTop_of_frames _ hr', hr]
      rfl
    have hsame : U.sameButNew ({ U with heap := s₂.heap, slotsUsed := s₂.slotsUsed } : State) L mc ms := by
      refine ⟨?_, q2, q3, q4, q5, q6⟩
      obtain ⟨t, ht, -⟩ := State.frames_cons hr
      show ({ U with heap := s₂.heap, slotsUsed := s₂.slotsUsed } : State) = { U.setFrames U.frames with heap := s₂.heap, slotsUsed := s₂.slotsUsed }
      rw [State.setFrames_self ht]
    subst hg
    refine Or.inl ⟨v, ⟨(({ U with heap := s₂.heap, slotsUsed := s₂.slotsUsed } : State).setVm s₂.vm), Ls ++ L, c0 + mc, s0 + ms⟩,
      ⟨X.admits, X.cas, X.clock, X.frames, X.room, X.hears, X.method, X.code, (X.here.setHeapUsed s₂.heap s₂.slotsUsed).setVm hW'.alike, X.tail, State.WarmedH.trans X.warmed hW', X.limits, X.bytes, X.same.trans (hsame.setVm s.vm)⟩,
      ⟨g, mk, s₂, L, rfl, rfl, hqc, rfl, hL, rfl, rfl⟩, ?_⟩
    show Steps p.tables e below _ ((({ U with heap := s₂.heap, slotsUsed := s₂.slotsUsed } : State).setVm s₂.vm).setTop { g with pc := g.pc + len₂, stack := v.toList ++ g.stack })
    rw [← hs₂]
    exact hsteps
  · obtain ⟨e2, q2, q3, q4, q5, q6⟩ := id hsm
    have e3 : s₂ = ({ (U.calling g mk a).setFrames s₂.frames with heap := s₂.heap, slotsUsed := s₂.slotsUsed } : State).setVm s₂.vm := by
      have : s₂ = ({ s₂ with vm := (U.calling g mk a).vm } : State).setVm s₂.vm := rfl
      rw [e2] at this
      exact this
    have hf₂ : s₂.frames = .throwing q :: .java g :: U.frames.tail := hend
    have hW' : U.WarmedH s₂.vm := hW₂
    have hs₂ : s₂ = ((({ U with heap := s₂.heap, slotsUsed := s₂.slotsUsed } : State).setVm s₂.vm).setTop g).pushFrame (.throwing q) := by
      refine e3.trans ?_
      rw [hf₂, State.calling_eq h.top, State.setFrames_setFrames, State.pushFrame, State.frames_setTop _ hr', State.setTop_of_frames _ hr', State.setFrames_setFrames, hr]
      rfl
    have hsame : U.sameButNew ({ U with heap := s₂.heap, slotsUsed := s₂.slotsUsed } : State) L mc ms := by
      refine ⟨?_, q2, q3, q4, q5, q6⟩
      obtain ⟨t, ht, -⟩ := State.frames_cons hr
      show ({ U with heap := s₂.heap, slotsUsed := s₂.slotsUsed } : State) = { U.setFrames U.frames with heap := s₂.heap, slotsUsed := s₂.slotsUsed }
      rw [State.setFrames_self ht]
    subst hg
    refine Or.inr ⟨q, ⟨(({ U with heap := s₂.heap, slotsUsed := s₂.slotsUsed } : State).setVm s₂.vm), Ls ++ L, c0 + mc, s0 + ms⟩,
      ⟨X.admits, X.cas, X.clock, X.frames, X.room, X.hears, X.method, X.code, (X.here.setHeapUsed s₂.heap s₂.slotsUsed).setVm hW'.alike, X.tail, State.WarmedH.trans X.warmed hW', X.limits, X.bytes, X.same.trans (hsame.setVm s.vm)⟩,
      ⟨g, mk, s₂, L, E, ce, rfl, rfl, hx, hce, hcv, hcl, rfl, hL, rfl, rfl⟩, ?_⟩
    show Steps p.tables e below _ (((({ U with heap := s₂.heap, slotsUsed := s₂.slotsUsed } : State).setVm s₂.vm).setTop g).pushFrame (.throwing q))
    rw [← hs₂]
    exact hsteps
end
variable {p : Program} {l : Launch} {e : Env} {R : Room} {s : State} {m : MethodId} {args : Array Value} {below : List Frame} {meth : Method} {c : Code} {T : State} {H : Heap} {locs : List Loc} {cells slots : Nat}
theorem vx_callVX (X : Stand p l e R s m args below meth c T locs cells slots) (hexec : p.tables.exec = Jvm.exec) {own C : String} {index : Nat} {y : MethodName} {bytes : ByteArray} {maxL : Nat} {ret : Option FieldType} {hh : List (Nat × Nat × Nat × Nat)}
    (hown : s.vm.findClass own = some m.cls) (hlink : (Cond.methodLink own index y).before args s = true) (hinst : (Cond.instanceMethod y).before args s = true) (hsel : (Cond.selects C y y).before args s = true)
    (hcode : (Cond.codeWith y bytes maxL ret hh).before args s = true) (hy : y.cls ≠ "java/lang/invoke/MethodHandle" ∧ y.cls ≠ "java/lang/invoke/VarHandle")
    {W9 : Nat} {Pre : Pt → Array Value → Prop} {Post : Pt → Array Value → Option Value → Pt → Prop} {PostX : Pt → Array Value → Addr → Pt → Prop} (hK : vx_Back l R p e below s args y 3 W9 Pre Post PostX)
    {b : Addr} {cellB : Cell} (hcell : T.heap[b]? = some cellB) (hobj : cellB.vm.isStatics = false) (hcls : s.vm.findClass C = some cellB.cls)
    {g : JFrame} (hg : g.method = m) (hsize : g.locals.size = c.maxLocals) {argsL rest : List Value} (hlen : ∀ sig, parseMethodDescriptor y.desc = some sig → argsL.length = sig.parameters.length)
    (hstack : g.stack = argsL.reverse ++ .ref b :: rest) (hW : 2 * g.monitorRoom + (rest.map fun v => v.category).sum ≤ W9) (hdg : decode c.code g.pc = .ok (.invokevirtual index, 3))
    (hpre : ∀ vm₁, s.WarmedH vm₁ → Pre ⟨T.setVm vm₁, locs, cells, slots⟩ (Value.ref b :: argsL).toArray) :
    (∃ (v : Option Value) (vm₁ : Vm) (B : Pt), s.WarmedH vm₁ ∧ Stand p l e R s m args below meth c B.U B.locs B.cells B.slots ∧ Post ⟨T.setVm vm₁, locs, cells, slots⟩ (Value.ref b :: argsL).toArray v B ∧
      ∀ target, Steps p.tables e below (B.U.setTop { g with pc := g.pc + 3, stack := v.toList ++ rest }) target → Steps p.tables e below (T.setTop g) target) ∨
    (∃ (q : Addr) (vm₁ : Vm) (B : Pt), s.WarmedH vm₁ ∧ Stand p l e R s m args below meth c B.U B.locs B.cells B.slots ∧ PostX ⟨T.setVm vm₁, locs, cells, slots⟩ (Value.ref b :: argsL).toArray q B ∧
      Steps p.tables e below (T.setTop g) ((B.U.setTop { g with stack := rest }).pushFrame (.throwing q))) := by
  obtain ⟨mk, methM, hnamed, hmethM, hstM, habM⟩ := Cond.instanceMethod_spec hinst
  obtain ⟨m8, methM', cM, hn8, hmethM', -, -, -, -, -, -, hsigM⟩ := Cond.codeWith_spec hcode
  cases Option.some.inj (hn8.symm.trans hnamed)
  cases hmethM.symm.trans hmethM'
  obtain ⟨c2, r2, m2, q1, q2, q3, q4, kP, hkP, hkPi⟩ := Cond.selects_spec hsel
  cases hcls.symm.trans q1
  cases (State.methodFound?_of_named hnamed hy).symm.trans q2
  cases hnamed.symm.trans q3
  have hselP : selectMethod e.platform s.vm cellB.cls mk = .method mk := by rw [Launch.admits_selectMethod X.admits]; exact q4
  obtain ⟨vm₁, X₁, hstep₁⟩ := X.invokevirtual hexec hown hlink hnamed hmethM hstM hkP hkPi hy (a := b) (cell := cellB) hcell
    (fun z h => by rw [h] at hobj; cases hobj) hselP hmethM habM hkP hkPi (g := g) hg (argsL := argsL) (rest := rest) (hlen _ hsigM) hstack hdg
  rcases hK m meth c ⟨T.setVm vm₁, locs, cells, slots⟩ { g with stack := rest } (.invokevirtual index) mk (Value.ref b :: argsL).toArray X₁ hg hsize hdg hW (X₁.named hnamed) (hpre vm₁ X₁.warmed) with ⟨v, B, X', hpost, hsteps⟩ | ⟨q, B, X', hpost, hsteps⟩
  · exact Or.inl ⟨v, vm₁, B, X₁.warmed, X', hpost, fun target h => hstep₁ _ fun acts => by rw [doInvoke_state]; exact hsteps.trans h⟩
  · exact Or.inr ⟨q, vm₁, B, X₁.warmed, X', hpost, hstep₁ _ fun acts => by rw [doInvoke_state]; exact hsteps⟩
theorem vx_callSX (X : Stand p l e R s m args below meth c T locs cells slots) (hexec : p.tables.exec = Jvm.exec) {own : String} {index : Nat} {y : MethodName} {bytes : ByteArray} {maxL : Nat} {ret : Option FieldType} {hh : List (Nat × Nat × Nat × Nat)}
    (hown : s.vm.findClass own = some m.cls) (hlink : (Cond.methodLink own index y).before args s = true) (hstat : (Cond.static y).before args s = true) (hinit : (Cond.initialized y.cls).before args s = true)
    (hcode : (Cond.codeWith y bytes maxL ret hh).before args s = true) (hy : y.cls ≠ "java/lang/invoke/MethodHandle" ∧ y.cls ≠ "java/lang/invoke/VarHandle")
    {W9 : Nat} {Pre : Pt → Array Value → Prop} {Post : Pt → Array Value → Option Value → Pt → Prop} {PostX : Pt → Array Value → Addr → Pt → Prop} (hK : vx_Back l R p e below s args y 3 W9 Pre Post PostX)
    {g : JFrame} (hg : g.method = m) (hsize : g.locals.size = c.maxLocals) {argsL rest : List Value} (hlen : ∀ sig, parseMethodDescriptor y.desc = some sig → argsL.length = sig.parameters.length)
    (hstack : g.stack = argsL.reverse ++ rest) (hW : 2 * g.monitorRoom + (rest.map fun v => v.category).sum ≤ W9) (hdg : decode c.code g.pc = .ok (.invokestatic index, 3))
    (hpre : ∀ vm₁, s.WarmedH vm₁ → Pre ⟨T.setVm vm₁, locs, cells, slots⟩ argsL.toArray) :
    (∃ (v : Option Value) (vm₁ : Vm) (B : Pt), s.WarmedH vm₁ ∧ Stand p l e R s m args below meth c B.U B.locs B.cells B.slots ∧ Post ⟨T.setVm vm₁, locs, cells, slots⟩ argsL.toArray v B ∧
      ∀ target, Steps p.tables e below (B.U.setTop { g with pc := g.pc + 3, stack := v.toList ++ rest }) target → Steps p.tables e below (T.setTop g) target) ∨
    (∃ (q : Addr) (vm₁ : Vm) (B : Pt), s.WarmedH vm₁ ∧ Stand p l e R s m args below meth c B.U B.locs B.cells B.slots ∧ PostX ⟨T.setVm vm₁, locs, cells, slots⟩ argsL.toArray q B ∧
      Steps p.tables e below (T.setTop g) ((B.U.setTop { g with stack := rest }).pushFrame (.throwing q))) := by
  obtain ⟨mk, methM, cM, hnamed, hmethM, -, -, -, -, -, -, hsigM⟩ := Cond.codeWith_spec hcode
  have hstatic : methM.isStatic = true := Cond.static_spec hnamed hmethM hstat
  obtain ⟨kP, hkP, -⟩ := className_of_methodNamed hnamed
  have hinitP : kP.init = .initialized := Cond.initialized_spec (findClass_of_methodNamed hnamed) hkP hinit
  obtain ⟨vm₁, X₁, hstep₁⟩ := X.invokestatic hexec hown hlink hnamed hmethM hstatic hkP hinitP hy (g := g) hg (argsL := argsL) (rest := rest) (hlen _ hsigM) hstack hdg
  rcases hK m meth c ⟨T.setVm vm₁, locs, cells, slots⟩ { g with stack := rest } (.invokestatic index) mk argsL.toArray X₁ hg hsize hdg hW (X₁.named hnamed) (hpre vm₁ X₁.warmed) with ⟨v, B, X', hpost, hsteps⟩ | ⟨q, B, X', hpost, hsteps⟩
  · exact Or.inl ⟨v, vm₁, B, X₁.warmed, X', hpost, fun target h => hstep₁ _ fun acts => by rw [doInvoke_state]; exact hsteps.trans h⟩
  · exact Or.inr ⟨q, vm₁, B, X₁.warmed, X', hpost, hstep₁ _ fun acts => by rw [doInvoke_state]; exact hsteps⟩
theorem vx_callVW (X : Stand p l e R s m args below meth c T locs cells slots) (hexec : p.tables.exec = Jvm.exec) {own C : String} {index : Nat} {y : MethodName} {bytes : ByteArray} {maxL : Nat} {ret : Option FieldType} {hh : List (Nat × Nat × Nat × Nat)}
    (hown : s.vm.findClass own = some m.cls) (hlink : (Cond.methodLink own index y).before args s = true) (hinst : (Cond.instanceMethod y).before args s = true) (hsel : (Cond.selects C y y).before args s = true)
    (hcode : (Cond.codeWith y bytes maxL ret hh).before args s = true) (hy : y.cls ≠ "java/lang/invoke/MethodHandle" ∧ y.cls ≠ "java/lang/invoke/VarHandle")
    {W9 : Nat} {Pre : Pt → Array Value → Prop} {Post : Pt → Array Value → Option Value → Pt → Prop} (hK : Back l R p e below s args y 3 W9 Pre Post)
    {b : Addr} {cellB : Cell} (hcell : T.heap[b]? = some cellB) (hobj : cellB.vm.isStatics = false) (hcls : s.vm.findClass C = some cellB.cls)
    {g : JFrame} (hg : g.method = m) (hsize : g.locals.size = c.maxLocals) {argsL rest : List Value} (hlen : ∀ sig, parseMethodDescriptor y.desc = some sig → argsL.length = sig.parameters.length)
    (hstack : g.stack = argsL.reverse ++ .ref b :: rest) (hW : 2 * g.monitorRoom + (rest.map fun v => v.category).sum ≤ W9) (hdg : decode c.code g.pc = .ok (.invokevirtual index, 3))
    (hpre : ∀ vm₁, s.WarmedH vm₁ → Pre ⟨T.setVm vm₁, locs, cells, slots⟩ (Value.ref b :: argsL).toArray) :
    ∃ (v : Option Value) (vm₁ : Vm) (B : Pt), s.WarmedH vm₁ ∧ Stand p l e R s m args below meth c B.U B.locs B.cells B.slots ∧ Post ⟨T.setVm vm₁, locs, cells, slots⟩ (Value.ref b :: argsL).toArray v B ∧
      ∀ target, Steps p.tables e below (B.U.setTop { g with pc := g.pc + 3, stack := v.toList ++ rest }) target → Steps p.tables e below (T.setTop g) target := by
  obtain ⟨mk, methM, hnamed, hmethM, hstM, habM⟩ := Cond.instanceMethod_spec hinst
  obtain ⟨m8, methM', cM, hn8, hmethM', -, -, -, -, -, -, hsigM⟩ := Cond.codeWith_spec hcode
  cases Option.some.inj (hn8.symm.trans hnamed)
  cases hmethM.symm.trans hmethM'
  obtain ⟨c2, r2, m2, q1, q2, q3, q4, kP, hkP, hkPi⟩ := Cond.selects_spec hsel
  cases hcls.symm.trans q1
  cases (State.methodFound?_of_named hnamed hy).symm.trans q2
  cases hnamed.symm.trans q3
  have hselP : selectMethod e.platform s.vm cellB.cls mk = .method mk := by rw [Launch.admits_selectMethod X.admits]; exact q4
  obtain ⟨vm₁, X₁, hstep₁⟩ := X.invokevirtual hexec hown hlink hnamed hmethM hstM hkP hkPi hy (a := b) (cell := cellB) hcell
    (fun z h => by rw [h] at hobj; cases hobj) hselP hmethM habM hkP hkPi (g := g) hg (argsL := argsL) (rest := rest) (hlen _ hsigM) hstack hdg
  obtain ⟨v, B, X', hpost, hsteps⟩ := hK m meth c ⟨T.setVm vm₁, locs, cells, slots⟩ { g with stack := rest } (.invokevirtual index) mk (Value.ref b :: argsL).toArray X₁ hg hsize hdg hW (X₁.named hnamed) (hpre vm₁ X₁.warmed)
  exact ⟨v, vm₁, B, X₁.warmed, X', hpost, fun target h => hstep₁ _ fun acts => by rw [doInvoke_state]; exact hsteps.trans h⟩
abbrev vx_CVW (R : Room) (s : State) (args : Array Value) (own C : String) (index : Nat) (y : MethodName) (bytes : ByteArray) (maxL : Nat) (ret : Option FieldType) (hh : List (Nat × Nat × Nat × Nat)) (ws : List Cond) (rm : Room) (mc ms n : Nat) : Prop :=
  (rm.cells = mc ∧ rm.slots = ms ∧ rm.frames + 1 ≤ R.frames ∧ 8 + (maxL + 11) + rm.locals ≤ R.locals ∧ (∀ w ∈ ws, ∀ (a' : Array Value) (U : State), s.WarmedH U.vm → w.before a' U = true) ∧ Cond.codeWith y bytes maxL ret hh ∈ ws) ∧
  (Cond.codeWith y bytes maxL ret hh).before args s = true ∧ (Cond.initialized y.cls).before args s = true ∧ (y.cls ≠ "java/lang/invoke/MethodHandle" ∧ y.cls ≠ "java/lang/invoke/VarHandle") ∧
  (∀ sig, parseMethodDescriptor y.desc = some sig → n = sig.parameters.length) ∧ (Cond.methodLink own index y).before args s = true ∧ (Cond.instanceMethod y).before args s = true ∧ (Cond.selects C y y).before args s = true
theorem vx_cwVW {own C : String} {index maxL mc ms : Nat} {y : MethodName} {bytes : ByteArray} {ret : Option FieldType} {hh : List (Nat × Nat × Nat × Nat)} {Ts ws ws' : List Cond} {rm : Room} (n : Nat) (ht : ∀ w ∈ Ts, w.before args s = true) (hT : GoodIn Ts (wsV own index C y ws)) (hw : ws = Cond.codeWith y bytes maxL ret hh :: ws') (hrc : rm.cells = mc) (hrs : rm.slots = ms)
    (hd : y.cls = C ∧ y.cls ≠ "java/lang/invoke/MethodHandle" ∧ y.cls ≠ "java/lang/invoke/VarHandle" ∧ (parseMethodDescriptor y.desc).map (fun d => d.parameters.length) = some n) (hR : rm.frames + 1 ≤ R.frames ∧ 8 + (maxL + 11) + rm.locals ≤ R.locals) :
    vx_CVW R s args own C index y bytes maxL ret hh ws rm mc ms n := by
  obtain ⟨hC, hd⟩ := hd
  subst hC
  have ok : ∀ w ∈ wsV own index y.cls y ws, w.before args s = true := fun w h => ht w (hT w h).1
  have hG : GoodIn Ts ws := fun w h => hT w (by unfold wsV; exact List.mem_append_right _ h)
  have hc : Cond.codeWith y bytes maxL ret hh ∈ ws := by rw [hw]; exact List.mem_cons_self
  refine ⟨⟨hrc, hrs, hR.1, hR.2, pay_in ht hG, hc⟩, ht _ (hG _ hc).1, ok _ (by simp [wsV]), ⟨hd.1, hd.2.1⟩, fun sig h => ?_, ok _ (by simp [wsV]), ok _ (by simp [wsV]), ok _ (by simp [wsV])⟩
  have h2 := hd.2.2
  rw [h] at h2
  exact (Option.some.inj h2).symm
theorem vx_runVW {y : MethodName} {bytes cc : ByteArray} {maxL nL mc ms n index : Nat} {ret : Option FieldType} {hh : List (Nat × Nat × Nat × Nat)} {ws : List Cond} {rm : Room} {Pc : Array Value → State → Prop} {Qc : Array Value → State → Outcome → State → Prop} {free : Addr → Prop} {Ts : List Cond} {own C : String} {b : Addr} {As rest : List Value} {g : JFrame}
    (S : CallFix p m c cc nL s args Ts own) (hM : Met l y ws rm Pc Qc mc ms free) (cw : vx_CVW R s args own C index y bytes maxL ret hh ws rm mc ms n) (hp : PreV s H C b Pc As)
    (hg : g.method = m) (hn : As.length = n) (hsize : g.locals.size = nL) (hstack : g.stack = As.reverse ++ .ref b :: rest) (hW : 2 * g.monitorRoom + (rest.map fun v => v.category).sum ≤ 8) (hdg : decode cc g.pc = .ok (.invokevirtual index, 3)) (hf : cells + mc ≤ R.cells ∧ slots + ms ≤ R.slots) :
    va_Run p l e R s m args below meth c H locs cells slots mc ms g rest (Qc (Value.ref b :: As).toArray) free := by
  obtain ⟨⟨hrc, hrs, hfr, hlo, hws, hcw⟩, hcode, hini, hy, hlen, hl, hin, hse⟩ := cw
  have hK : Back l R p e below s args y 3 8 (PreOf R mc ms Pc) (PostOf Qc mc ms free) := va_backW (hh := hh) (bytes := bytes) (maxL := maxL) (ret := ret) hM hp.1 hrc hrs hfr hlo hws hcw (fun a' U hW => word_at hW (Or.inl (by first | rfl | simp [Cond.onTables, Cond.keeps, Cond.steady])) hini)
  obtain ⟨hx, hb, hml, ho, -⟩ := S
  obtain ⟨-, ⟨cellB, hcB, hoB, hclB⟩, hPc⟩ := hp
  intro T hT X
  obtain ⟨v, vm₁, ⟨U', l2, c2, s2⟩, hW₁, X', ⟨g', mk, t, L, e1, e2, hq, h1, hL, h2, h3⟩, st⟩ := vx_callVW X hx (C := C) (hh := hh) (bytes := bytes) (maxL := maxL) (ret := ret) ho hl hin hse hcode hy hK (by rw [hT]; exact hcB) hoB hclB hg (hsize.trans hml.symm) (argsL := As) (rest := rest) (fun sig h => hn.trans (hlen sig h)) hstack hW (by rw [hb]; exact hdg)
    (fun vm₁ hW₁ => ⟨hf.1, hf.2, hPc (T.setVm vm₁) hT hW₁⟩)
  dsimp only [Pt.U, Pt.locs, Pt.cells, Pt.slots] at X' e1 e2 h1 h2 h3 st
  subst h1; subst h2; subst h3
  exact ⟨v, (T.setVm vm₁).calling g' mk (Value.ref b :: As).toArray, t, U', L, hT, X', hL, e1, e2, hq, st⟩
section
variable {y : MethodName} {bytes cc : ByteArray} {maxL nL mc ms n index : Nat} {ret : Option FieldType} {ws : List Cond} {rm : Room} {Pc : Array Value → State → Prop} {Qc : Array Value → State → Outcome → State → Prop} {XC : String → State → State → Prop} {free : Addr → Prop} {Ts : List Cond} {own C : String} {b : Addr} {As rest : List Value} {g : JFrame}
theorem vx_runVX {hh : List (Nat × Nat × Nat × Nat)} (S : CallFix p m c cc nL s args Ts own) (hM : vx_Met l y ws rm Pc Qc XC mc ms free) (cw : vx_CVW R s args own C index y bytes maxL ret hh ws rm mc ms n) (hp : PreV s H C b Pc As)
    (hg : g.method = m) (hn : As.length = n) (hsize : g.locals.size = nL) (hstack : g.stack = As.reverse ++ .ref b :: rest) (hW : 2 * g.monitorRoom + (rest.map fun v => v.category).sum ≤ 8) (hdg : decode cc g.pc = .ok (.invokevirtual index, 3)) (hf : cells + mc ≤ R.cells ∧ slots + ms ≤ R.slots) :
    vx_Run p l e R s m args below meth c H locs cells slots mc ms g rest (Qc (Value.ref b :: As).toArray) XC free := by
  obtain ⟨⟨hrc, hrs, hfr, hlo, hws, hcw⟩, hcode, hini, hy, hlen, hl, hin, hse⟩ := cw
  have hK : vx_Back l R p e below s args y 3 8 (PreOf R mc ms Pc) (PostOf Qc mc ms free) (vx_Post XC mc ms free) := vx_backW (hh := hh) (bytes := bytes) (maxL := maxL) (ret := ret) hM hp.1 hrc hrs hfr hlo hws hcw (fun a' U hW => word_at hW (Or.inl (by first | rfl | simp [Cond.onTables, Cond.keeps, Cond.steady])) hini)
  obtain ⟨hx, hb, hml, ho, -⟩ := S
  obtain ⟨-, ⟨cellB, hcB, hoB, hclB⟩, hPc⟩ := hp
  intro T hT X
  rcases vx_callVX X hx (C := C) (hh := hh) (bytes := bytes) (maxL := maxL) (ret := ret) ho hl hin hse hcode hy hK (by rw [hT]; exact hcB) hoB hclB hg (hsize.trans hml.symm) (argsL := As) (rest := rest) (fun sig h => hn.trans (hlen sig h)) hstack hW (by rw [hb]; exact hdg)
    (fun vm₁ hW₁ => ⟨hf.1, hf.2, hPc (T.setVm vm₁) hT hW₁⟩) with ⟨v, vm₁, ⟨U', l2, c2, s2⟩, hW₁, X', ⟨g', mk, t, L, e1, e2, hq, h1, hL, h2, h3⟩, st⟩ | ⟨q, vm₁, ⟨U', l2, c2, s2⟩, hW₁, X', ⟨g', mk, t, L, E, ce, e1, e2, hq, hce, hcv, hcl, h1, hL, h2, h3⟩, st⟩
  · dsimp only [Pt.U, Pt.locs, Pt.cells, Pt.slots] at X' e1 e2 h1 h2 h3 st
    subst h1; subst h2; subst h3
    exact Or.inl ⟨v, (T.setVm vm₁).calling g' mk (Value.ref b :: As).toArray, t, U', L, hT, X', hL, e1, e2, hq, st⟩
  · dsimp only [Pt.U, Pt.locs, Pt.cells, Pt.slots] at X' e1 e2 h1 h2 h3 st hcl
    subst h1; subst h2; subst h3
    exact Or.inr ⟨q, (T.setVm vm₁).calling g' mk (Value.ref b :: As).toArray, t, U', L, E, ce, hT, X', hL, e1, e2, hq, hce, hcv, vx_cls hW₁ hcl, st⟩
theorem vx_runSX {hh : List (Nat × Nat × Nat × Nat)} (S : CallFix p m c cc nL s args Ts own) (hM : vx_Met l y ws rm Pc Qc XC mc ms free) (cw : vx_CSW R s args own index y bytes maxL ret hh ws rm mc ms n) (hp : PreS s H Pc As)
    (hg : g.method = m) (hn : As.length = n) (hsize : g.locals.size = nL) (hstack : g.stack = As.reverse ++ rest) (hW : 2 * g.monitorRoom + (rest.map fun v => v.category).sum ≤ 8) (hdg : decode cc g.pc = .ok (.invokestatic index, 3)) (hf : cells + mc ≤ R.cells ∧ slots + ms ≤ R.slots) :
    vx_Run p l e R s m args below meth c H locs cells slots mc ms g rest (Qc As.toArray) XC free := by
  obtain ⟨⟨hrc, hrs, hfr, hlo, hws, hcw⟩, hcode, hini, hy, hlen, hl, hstt⟩ := cw
  have hK : vx_Back l R p e below s args y 3 8 (PreOf R mc ms Pc) (PostOf Qc mc ms free) (vx_Post XC mc ms free) := vx_backW (hh := hh) (bytes := bytes) (maxL := maxL) (ret := ret) hM hp.1 hrc hrs hfr hlo hws hcw (fun a' U hW => word_at hW (Or.inl (by first | rfl | simp [Cond.onTables, Cond.keeps, Cond.steady])) hini)
  obtain ⟨hx, hb, hml, ho, -⟩ := S
  intro T hT X
  rcases vx_callSX X hx (hh := hh) (bytes := bytes) (maxL := maxL) (ret := ret) ho hl hstt hini hcode hy hK hg (hsize.trans hml.symm) (argsL := As) (rest := rest) (fun sig h => hn.trans (hlen sig h)) hstack hW (by rw [hb]; exact hdg)
    (fun vm₁ hW₁ => ⟨hf.1, hf.2, hp.2 (T.setVm vm₁) hT hW₁⟩) with ⟨v, vm₁, ⟨U', l2, c2, s2⟩, hW₁, X', ⟨g', mk, t, L, e1, e2, hq, h1, hL, h2, h3⟩, st⟩ | ⟨q, vm₁, ⟨U', l2, c2, s2⟩, hW₁, X', ⟨g', mk, t, L, E, ce, e1, e2, hq, hce, hcv, hcl, h1, hL, h2, h3⟩, st⟩
  · dsimp only [Pt.U, Pt.locs, Pt.cells, Pt.slots] at X' e1 e2 h1 h2 h3 st
    subst h1; subst h2; subst h3
    exact Or.inl ⟨v, (T.setVm vm₁).calling g' mk As.toArray, t, U', L, hT, X', hL, e1, e2, hq, st⟩
  · dsimp only [Pt.U, Pt.locs, Pt.cells, Pt.slots] at X' e1 e2 h1 h2 h3 st hcl
    subst h1; subst h2; subst h3
    exact Or.inr ⟨q, (T.setVm vm₁).calling g' mk As.toArray, t, U', L, E, ce, hT, X', hL, e1, e2, hq, hce, hcv, vx_cls hW₁ hcl, st⟩
end
end VXH
theorem vx_ofWH {l : Launch} {y : MethodName} {ws ws' : List Cond} {rm : Room} {Pc : Array Value → State → Prop} {Qc : Array Value → State → Outcome → State → Prop} {XC : String → State → State → Prop} {mc ms : Nat} {free : Addr → Prop} {cc : ByteArray} {maxL : Nat} {ret : Option FieldType} {hh : List (Nat × Nat × Nat × Nat)}
    (hy : plainName y.cls = true) (hw : ws = Cond.codeWith y cc maxL ret hh :: ws')
    (body : ∀ p e s m args below meth c s₁, BodyLoose p l y (headSpec ws rm) cc maxL ret e s m args below meth c s₁ → c.maxLocals = maxL → Pc args s →
      W p l e (headSpec ws rm).room s m args below meth c s.heap [] 0 0 (vx_MQ below Qc XC args s mc ms free) (entryFrame m args maxL)) : vx_Met l y ws rm Pc Qc XC mc ms free := by
  refine MetFree.of_bodyS (code := cc) (maxLocals := maxL) (ret := ret) hy ?_ ?_
  · intro args s m h hn
    obtain ⟨m9, meth, c, hn9, h1, h2, h3, h4, -, h5, h6, -⟩ := Cond.codeWith_spec (atoms_spec (ws := ws) h _ (by rw [hw]; exact List.mem_cons_self))
    cases hn.symm.trans hn9
    exact ⟨meth, c, h1, h2, h3, h4, h5, h6⟩
  · intro p e s m args below meth c s₁ B hml hP _
    have hh0 : s₁.heap = s.heap := by rw [B.state]; rfl
    obtain ⟨t, a1, o, b1, b2, b3⟩ := body p e s m args below meth c s₁ B hml hP s₁ hh0 (Stand.of_body B)
    exact ⟨t, o, a1, b1, b2, b3⟩
/-! ===== END ===== -/
end
section
def R_P : String := "FewChanges$Plan"
def R_S : String := "FewChanges$Shop"
def R_Q : String := "FewChanges$Search"
def R_F : String := "FewChanges"
def R_M : String := "FewChangesModel"
def R_L : String := "FewChangesLaw"
def R_I : String := "java/lang/Integer"
def T_P : u_T := fun k => match k with
  | 0 => ("FewChanges$Plan", "unit", "[I", true)
  | 1 => ("FewChanges$Plan", "minute", "[I", true)
  | _ => ("FewChanges$Plan", "order", "[I", true)
def t_P : Nat → FieldType := fun k => match k with
  | 0 => .array .int
  | 1 => .array .int
  | _ => .array .int
theorem n_P : ∀ a, a < 3 → ∀ b, b < 3 → a ≠ b → (T_P a).2.1 ≠ (T_P b).2.1 := by decide +kernel
theorem t_P_ok : ∀ k, k < 3 → parseFieldDescriptor (T_P k).2.2.1 = some (t_P k) := by decide +kernel
def T_S : u_T := fun k => match k with
  | 0 => ("FewChanges$Shop", "grade", "[I", true)
  | 1 => ("FewChanges$Shop", "due", "[I", true)
  | 2 => ("FewChanges$Shop", "orders", "I", false)
  | 3 => ("FewChanges$Shop", "length", "[I", true)
  | 4 => ("FewChanges$Shop", "units", "[I", true)
  | 5 => ("FewChanges$Shop", "heats", "I", false)
  | 6 => ("FewChanges$Shop", "stopped", "[J", true)
  | 7 => ("FewChanges$Shop", "stops", "I", false)
  | 8 => ("FewChanges$Shop", "now", "I", false)
  | _ => ("FewChanges$Shop", "freeze", "I", false)
def t_S : Nat → FieldType := fun k => match k with
  | 0 => .array .int
  | 1 => .array .int
  | 2 => .int
  | 3 => .array .int
  | 4 => .array .int
  | 5 => .int
  | 6 => .array .long
  | 7 => .int
  | 8 => .int
  | _ => .int
theorem n_S : ∀ a, a < 10 → ∀ b, b < 10 → a ≠ b → (T_S a).2.1 ≠ (T_S b).2.1 := by decide +kernel
theorem t_S_ok : ∀ k, k < 10 → parseFieldDescriptor (T_S k).2.2.1 = some (t_S k) := by decide +kernel
def T_Q : u_T := fun k => match k with
  | 0 => ("FewChanges$Search", "shop", "LFewChanges$Shop;", true)
  | 1 => ("FewChanges$Search", "old", "LFewChanges$Plan;", true)
  | 2 => ("FewChanges$Search", "trial", "LFewChanges$Plan;", true)
  | 3 => ("FewChanges$Search", "best", "LFewChanges$Plan;", true)
  | 4 => ("FewChanges$Search", "bestCost", "I", false)
  | 5 => ("FewChanges$Search", "taken", "[J", true)
  | 6 => ("FewChanges$Search", "set", "I", false)
  | 7 => ("FewChanges$Search", "nodesAllowed", "I", false)
  | 8 => ("FewChanges$Search", "wasRun", "Z", false)
  | 9 => ("FewChanges$Search", "spent", "Z", false)
  | 10 => ("FewChanges$Search", "nodes", "I", false)
  | 11 => ("FewChanges$Search", "round", "I", false)
  | _ => ("FewChanges$Search", "list", "I", false)
def t_Q : Nat → FieldType := fun k => match k with
  | 0 => .object "FewChanges$Shop"
  | 1 => .object "FewChanges$Plan"
  | 2 => .object "FewChanges$Plan"
  | 3 => .object "FewChanges$Plan"
  | 4 => .int
  | 5 => .array .long
  | 6 => .int
  | 7 => .int
  | 8 => .boolean
  | 9 => .boolean
  | 10 => .int
  | 11 => .int
  | _ => .int
theorem n_Q : ∀ a, a < 13 → ∀ b, b < 13 → a ≠ b → (T_Q a).2.1 ≠ (T_Q b).2.1 := by decide +kernel
theorem t_Q_ok : ∀ k, k < 13 → parseFieldDescriptor (T_Q k).2.2.1 = some (t_Q k) := by decide +kernel
def T_F : u_T := fun k => match k with
  | 0 => ("FewChanges", "shop", "LFewChanges$Shop;", true)
  | 1 => ("FewChanges", "plan", "LFewChanges$Plan;", true)
  | 2 => ("FewChanges", "before", "LFewChanges$Plan;", true)
  | 3 => ("FewChanges", "undoable", "Z", false)
  | 4 => ("FewChanges", "copies", "[LFewChanges$Plan;", true)
  | 5 => ("FewChanges", "kept", "[Z", true)
  | _ => ("FewChanges", "search", "LFewChanges$Search;", true)
def t_F : Nat → FieldType := fun k => match k with
  | 0 => .object "FewChanges$Shop"
  | 1 => .object "FewChanges$Plan"
  | 2 => .object "FewChanges$Plan"
  | 3 => .boolean
  | 4 => .array (.object "FewChanges$Plan")
  | 5 => .array .boolean
  | _ => .object "FewChanges$Search"
theorem n_F : ∀ a, a < 7 → ∀ b, b < 7 → a ≠ b → (T_F a).2.1 ≠ (T_F b).2.1 := by decide +kernel
theorem t_F_ok : ∀ k, k < 7 → parseFieldDescriptor (T_F k).2.2.1 = some (t_F k) := by decide +kernel
def T_M : u_T := fun k => match k with
  | 0 => ("FewChangesModel", "thrown", "I", false)
  | 1 => ("FewChangesModel", "orders", "I", false)
  | 2 => ("FewChangesModel", "grade", "[I", true)
  | 3 => ("FewChangesModel", "due", "[I", true)
  | 4 => ("FewChangesModel", "heats", "I", false)
  | 5 => ("FewChangesModel", "length", "[I", true)
  | 6 => ("FewChangesModel", "units", "[I", true)
  | 7 => ("FewChangesModel", "plans", "[I", true)
  | 8 => ("FewChangesModel", "undoable", "Z", false)
  | 9 => ("FewChangesModel", "copies", "I", false)
  | 10 => ("FewChangesModel", "stops", "I", false)
  | 11 => ("FewChangesModel", "stopUnit", "[I", true)
  | 12 => ("FewChangesModel", "stopFrom", "[I", true)
  | 13 => ("FewChangesModel", "stopTo", "[I", true)
  | 14 => ("FewChangesModel", "now", "I", false)
  | 15 => ("FewChangesModel", "freeze", "I", false)
  | 16 => ("FewChangesModel", "ran", "Z", false)
  | 17 => ("FewChangesModel", "spent", "Z", false)
  | 18 => ("FewChangesModel", "nodes", "I", false)
  | 19 => ("FewChangesModel", "round", "I", false)
  | 20 => ("FewChangesModel", "list", "I", false)
  | 21 => ("FewChangesModel", "placed", "[Z", true)
  | _ => ("FewChangesModel", "least", "I", false)
def t_M : Nat → FieldType := fun k => match k with
  | 0 => .int
  | 1 => .int
  | 2 => .array .int
  | 3 => .array .int
  | 4 => .int
  | 5 => .array .int
  | 6 => .array .int
  | 7 => .array .int
  | 8 => .boolean
  | 9 => .int
  | 10 => .int
  | 11 => .array .int
  | 12 => .array .int
  | 13 => .array .int
  | 14 => .int
  | 15 => .int
  | 16 => .boolean
  | 17 => .boolean
  | 18 => .int
  | 19 => .int
  | 20 => .int
  | 21 => .array .boolean
  | _ => .int
theorem n_M : ∀ a, a < 23 → ∀ b, b < 23 → a ≠ b → (T_M a).2.1 ≠ (T_M b).2.1 := by decide +kernel
theorem t_M_ok : ∀ k, k < 23 → parseFieldDescriptor (T_M k).2.2.1 = some (t_M k) := by decide +kernel
abbrev b_F_init : ByteArray := prog_1_method_1_code
def y_F_init : MethodName := ⟨R_F, "<init>", "()V"⟩
abbrev b_F_order : ByteArray := prog_1_method_2_code
def y_F_order : MethodName := ⟨R_F, "order", "(II)I"⟩
abbrev b_F_heat : ByteArray := prog_1_method_3_code
def y_F_heat : MethodName := ⟨R_F, "heat", "(IIIII)I"⟩
abbrev b_F_stop : ByteArray := prog_1_method_4_code
def y_F_stop : MethodName := ⟨R_F, "stop", "(III)I"⟩
abbrev b_F_go : ByteArray := prog_1_method_5_code
def y_F_go : MethodName := ⟨R_F, "go", "()V"⟩
abbrev b_F_clock : ByteArray := prog_1_method_6_code
def y_F_clock : MethodName := ⟨R_F, "clock", "(II)V"⟩
abbrev b_F_place : ByteArray := prog_1_method_7_code
def y_F_place : MethodName := ⟨R_F, "place", "(III)V"⟩
abbrev b_F_divert : ByteArray := prog_1_method_8_code
def y_F_divert : MethodName := ⟨R_F, "divert", "(II)V"⟩
abbrev b_F_run : ByteArray := prog_1_method_9_code
def y_F_run : MethodName := ⟨R_F, "run", "(I)I"⟩
abbrev b_F_told : ByteArray := prog_1_method_10_code
def y_F_told : MethodName := ⟨R_F, "told", "(I)I"⟩
abbrev b_F_at : ByteArray := prog_1_method_11_code
def y_F_at : MethodName := ⟨R_F, "at", "(II)I"⟩
abbrev b_F_cost : ByteArray := prog_1_method_12_code
def y_F_cost : MethodName := ⟨R_F, "cost", "()I"⟩
abbrev b_F_on : ByteArray := prog_1_method_13_code
def y_F_on : MethodName := ⟨R_F, "on", "(II)I"⟩
abbrev b_F_keep : ByteArray := prog_1_method_14_code
def y_F_keep : MethodName := ⟨R_F, "keep", "(I)V"⟩
abbrev b_F_compare : ByteArray := prog_1_method_15_code
def y_F_compare : MethodName := ⟨R_F, "compare", "(I)I"⟩
abbrev b_F_use : ByteArray := prog_1_method_16_code
def y_F_use : MethodName := ⟨R_F, "use", "(I)V"⟩
abbrev b_F_undo : ByteArray := prog_1_method_17_code
def y_F_undo : MethodName := ⟨R_F, "undo", "()V"⟩
abbrev b_F_rememberForUndo : ByteArray := prog_1_method_18_code
def y_F_rememberForUndo : MethodName := ⟨R_F, "rememberForUndo", "()V"⟩
abbrev b_F_forgetCopiesAndUndo : ByteArray := prog_1_method_19_code
def y_F_forgetCopiesAndUndo : MethodName := ⟨R_F, "forgetCopiesAndUndo", "()V"⟩
abbrev b_F_isOrder : ByteArray := prog_1_method_20_code
def y_F_isOrder : MethodName := ⟨R_F, "isOrder", "(I)Z"⟩
abbrev b_F_isHeat : ByteArray := prog_1_method_21_code
def y_F_isHeat : MethodName := ⟨R_F, "isHeat", "(I)Z"⟩
abbrev b_F_isUnit : ByteArray := prog_1_method_22_code
def y_F_isUnit : MethodName := ⟨R_F, "isUnit", "(I)Z"⟩
abbrev b_F_isMinute : ByteArray := prog_1_method_23_code
def y_F_isMinute : MethodName := ⟨R_F, "isMinute", "(I)Z"⟩
abbrev b_F_isCopy : ByteArray := prog_1_method_24_code
def y_F_isCopy : MethodName := ⟨R_F, "isCopy", "(I)Z"⟩
abbrev b_F_isWithin : ByteArray := prog_1_method_25_code
def y_F_isWithin : MethodName := ⟨R_F, "isWithin", "(III)Z"⟩
abbrev b_F_mayTake : ByteArray := prog_1_method_26_code
def y_F_mayTake : MethodName := ⟨R_F, "mayTake", "(II)Z"⟩
abbrev b_F_minutesAsBits : ByteArray := prog_1_method_27_code
def y_F_minutesAsBits : MethodName := ⟨R_F, "minutesAsBits", "(II)J"⟩
abbrev b_M_init : ByteArray := prog_6_method_1_code
def y_M_init : MethodName := ⟨R_M, "<init>", "()V"⟩
abbrev b_M_thrown : ByteArray := prog_6_method_2_code
def y_M_thrown : MethodName := ⟨R_M, "thrown", "()I"⟩
abbrev b_M_throwing : ByteArray := prog_6_method_3_code
def y_M_throwing : MethodName := ⟨R_M, "throwing", "(ZZZZ)Z"⟩
abbrev b_M_in : ByteArray := prog_6_method_4_code
def y_M_in : MethodName := ⟨R_M, "in", "(III)Z"⟩
abbrev b_M_isHeat : ByteArray := prog_6_method_5_code
def y_M_isHeat : MethodName := ⟨R_M, "isHeat", "(I)Z"⟩
abbrev b_M_copy : ByteArray := prog_6_method_6_code
def y_M_copy : MethodName := ⟨R_M, "copy", "(II)V"⟩
abbrev b_M_isFree : ByteArray := prog_6_method_7_code
def y_M_isFree : MethodName := ⟨R_M, "isFree", "(III)Z"⟩
abbrev b_M_meets : ByteArray := prog_6_method_8_code
def y_M_meets : MethodName := ⟨R_M, "meets", "(IIIII)Z"⟩
abbrev b_M_fits : ByteArray := prog_6_method_9_code
def y_M_fits : MethodName := ⟨R_M, "fits", "(III)Z"⟩
abbrev b_M_fitsTried : ByteArray := prog_6_method_10_code
def y_M_fitsTried : MethodName := ⟨R_M, "fitsTried", "(III)Z"⟩
abbrev b_M_isFrozen : ByteArray := prog_6_method_11_code
def y_M_isFrozen : MethodName := ⟨R_M, "isFrozen", "(I)Z"⟩
abbrev b_M_costOf : ByteArray := prog_6_method_12_code
def y_M_costOf : MethodName := ⟨R_M, "costOf", "(II)I"⟩
abbrev b_M_order : ByteArray := prog_6_method_13_code
def y_M_order : MethodName := ⟨R_M, "order", "(II)I"⟩
abbrev b_M_heat : ByteArray := prog_6_method_14_code
def y_M_heat : MethodName := ⟨R_M, "heat", "(IIIII)I"⟩
abbrev b_M_stop : ByteArray := prog_6_method_15_code
def y_M_stop : MethodName := ⟨R_M, "stop", "(III)I"⟩
abbrev b_M_go : ByteArray := prog_6_method_16_code
def y_M_go : MethodName := ⟨R_M, "go", "()V"⟩
abbrev b_M_clock : ByteArray := prog_6_method_17_code
def y_M_clock : MethodName := ⟨R_M, "clock", "(II)V"⟩
abbrev b_M_keepForUndo : ByteArray := prog_6_method_18_code
def y_M_keepForUndo : MethodName := ⟨R_M, "keepForUndo", "()V"⟩
abbrev b_M_place : ByteArray := prog_6_method_19_code
def y_M_place : MethodName := ⟨R_M, "place", "(III)V"⟩
abbrev b_M_divert : ByteArray := prog_6_method_20_code
def y_M_divert : MethodName := ⟨R_M, "divert", "(II)V"⟩
abbrev b_M_costPlaced : ByteArray := prog_6_method_21_code
def y_M_costPlaced : MethodName := ⟨R_M, "costPlaced", "()I"⟩
abbrev b_M_after : ByteArray := prog_6_method_22_code
def y_M_after : MethodName := ⟨R_M, "after", "(II)I"⟩
abbrev b_M_ahead : ByteArray := prog_6_method_23_code
def y_M_ahead : MethodName := ⟨R_M, "ahead", "(II)I"⟩
abbrev b_M_isOld : ByteArray := prog_6_method_24_code
def y_M_isOld : MethodName := ⟨R_M, "isOld", "(II)Z"⟩
abbrev b_M_found : ByteArray := prog_6_method_25_code
def y_M_found : MethodName := ⟨R_M, "found", "(I)V"⟩
abbrev b_M_tries : ByteArray := prog_6_method_26_code
def y_M_tries : MethodName := ⟨R_M, "tries", "(II)Z"⟩
abbrev b_M_bits : ByteArray := prog_6_method_27_code
def y_M_bits : MethodName := ⟨R_M, "bits", "(I)I"⟩
abbrev b_M_run : ByteArray := prog_6_method_28_code
def y_M_run : MethodName := ⟨R_M, "run", "(I)I"⟩
abbrev b_M_told : ByteArray := prog_6_method_29_code
def y_M_told : MethodName := ⟨R_M, "told", "(I)I"⟩
abbrev b_M_at : ByteArray := prog_6_method_30_code
def y_M_at : MethodName := ⟨R_M, "at", "(II)I"⟩
abbrev b_M_cost : ByteArray := prog_6_method_31_code
def y_M_cost : MethodName := ⟨R_M, "cost", "()I"⟩
abbrev b_M_on : ByteArray := prog_6_method_32_code
def y_M_on : MethodName := ⟨R_M, "on", "(II)I"⟩
abbrev b_M_keep : ByteArray := prog_6_method_33_code
def y_M_keep : MethodName := ⟨R_M, "keep", "(I)V"⟩
abbrev b_M_isKept : ByteArray := prog_6_method_34_code
def y_M_isKept : MethodName := ⟨R_M, "isKept", "(I)Z"⟩
abbrev b_M_compare : ByteArray := prog_6_method_35_code
def y_M_compare : MethodName := ⟨R_M, "compare", "(I)I"⟩
abbrev b_M_use : ByteArray := prog_6_method_36_code
def y_M_use : MethodName := ⟨R_M, "use", "(I)V"⟩
abbrev b_M_undo : ByteArray := prog_6_method_37_code
def y_M_undo : MethodName := ⟨R_M, "undo", "()V"⟩
abbrev b_P_init : ByteArray := prog_2_method_1_code
def y_P_init : MethodName := ⟨R_P, "<init>", "()V"⟩
abbrev b_P_put : ByteArray := prog_2_method_2_code
def y_P_put : MethodName := ⟨R_P, "put", "(III)V"⟩
abbrev b_P_takeFrom : ByteArray := prog_2_method_3_code
def y_P_takeFrom : MethodName := ⟨R_P, "takeFrom", "(LFewChanges$Plan;)V"⟩
abbrev b_P_isAt : ByteArray := prog_2_method_4_code
def y_P_isAt : MethodName := ⟨R_P, "isAt", "(III)Z"⟩
abbrev b_P_isSameIn : ByteArray := prog_2_method_5_code
def y_P_isSameIn : MethodName := ⟨R_P, "isSameIn", "(LFewChanges$Plan;I)Z"⟩
abbrev b_Q_init : ByteArray := prog_3_method_1_code
def y_Q_init : MethodName := ⟨R_Q, "<init>", "(LFewChanges$Shop;LFewChanges$Plan;)V"⟩
abbrev b_Q_hasFound : ByteArray := prog_3_method_2_code
def y_Q_hasFound : MethodName := ⟨R_Q, "hasFound", "()Z"⟩
abbrev b_Q_replan : ByteArray := prog_3_method_3_code
def y_Q_replan : MethodName := ⟨R_Q, "replan", "(I)V"⟩
abbrev b_Q_looseHeats : ByteArray := prog_3_method_4_code
def y_Q_looseHeats : MethodName := ⟨R_Q, "looseHeats", "()I"⟩
abbrev b_Q_searchRound : ByteArray := prog_3_method_5_code
def y_Q_searchRound : MethodName := ⟨R_Q, "searchRound", "(I)V"⟩
abbrev b_Q_searchSet : ByteArray := prog_3_method_6_code
def y_Q_searchSet : MethodName := ⟨R_Q, "searchSet", "(I)V"⟩
abbrev b_Q_isInSet : ByteArray := prog_3_method_7_code
def y_Q_isInSet : MethodName := ⟨R_Q, "isInSet", "(I)Z"⟩
abbrev b_Q_canOthersStay : ByteArray := prog_3_method_8_code
def y_Q_canOthersStay : MethodName := ⟨R_Q, "canOthersStay", "()Z"⟩
abbrev b_Q_costOfOthers : ByteArray := prog_3_method_9_code
def y_Q_costOfOthers : MethodName := ⟨R_Q, "costOfOthers", "()I"⟩
abbrev b_Q_placeFrom : ByteArray := prog_3_method_10_code
def y_Q_placeFrom : MethodName := ⟨R_Q, "placeFrom", "(II)V"⟩
abbrev b_Q_tryUnit : ByteArray := prog_3_method_11_code
def y_Q_tryUnit : MethodName := ⟨R_Q, "tryUnit", "(III)V"⟩
abbrev b_Q_tryPlace : ByteArray := prog_3_method_12_code
def y_Q_tryPlace : MethodName := ⟨R_Q, "tryPlace", "(IIII)V"⟩
abbrev b_S_init : ByteArray := prog_4_method_1_code
def y_S_init : MethodName := ⟨R_S, "<init>", "()V"⟩
abbrev b_S_addOrder : ByteArray := prog_4_method_2_code
def y_S_addOrder : MethodName := ⟨R_S, "addOrder", "(II)I"⟩
abbrev b_S_addHeat : ByteArray := prog_4_method_3_code
def y_S_addHeat : MethodName := ⟨R_S, "addHeat", "(II)I"⟩
abbrev b_S_addStop : ByteArray := prog_4_method_4_code
def y_S_addStop : MethodName := ⟨R_S, "addStop", "(III)I"⟩
abbrev b_S_forgetStops : ByteArray := prog_4_method_5_code
def y_S_forgetStops : MethodName := ⟨R_S, "forgetStops", "()V"⟩
abbrev b_S_isFrozen : ByteArray := prog_4_method_6_code
def y_S_isFrozen : MethodName := ⟨R_S, "isFrozen", "(LFewChanges$Plan;I)Z"⟩
abbrev b_S_lateness : ByteArray := prog_4_method_7_code
def y_S_lateness : MethodName := ⟨R_S, "lateness", "(III)I"⟩
abbrev b_S_fits : ByteArray := prog_4_method_8_code
def y_S_fits : MethodName := ⟨R_S, "fits", "(LFewChanges$Plan;III)Z"⟩
abbrev b_S_hasRoom : ByteArray := prog_4_method_9_code
def y_S_hasRoom : MethodName := ⟨R_S, "hasRoom", "(LFewChanges$Plan;IIII)Z"⟩
abbrev b_L_order : ByteArray := method_3_code
def y_L_order : MethodName := ⟨R_L, "order", "(LFewChanges;II[J)I"⟩
abbrev b_L_heat : ByteArray := method_4_code
def y_L_heat : MethodName := ⟨R_L, "heat", "(LFewChanges;IIIII[J)I"⟩
abbrev b_L_stop : ByteArray := method_5_code
def y_L_stop : MethodName := ⟨R_L, "stop", "(LFewChanges;III[J)I"⟩
abbrev b_L_clock : ByteArray := method_6_code
def y_L_clock : MethodName := ⟨R_L, "clock", "(LFewChanges;II)I"⟩
abbrev b_L_place : ByteArray := method_7_code
def y_L_place : MethodName := ⟨R_L, "place", "(LFewChanges;III)I"⟩
abbrev b_L_divert : ByteArray := method_8_code
def y_L_divert : MethodName := ⟨R_L, "divert", "(LFewChanges;II)I"⟩
abbrev b_L_run : ByteArray := method_9_code
def y_L_run : MethodName := ⟨R_L, "run", "(LFewChanges;I[J)I"⟩
abbrev b_L_told : ByteArray := method_10_code
def y_L_told : MethodName := ⟨R_L, "told", "(LFewChanges;I[J)I"⟩
abbrev b_L_at : ByteArray := method_11_code
def y_L_at : MethodName := ⟨R_L, "at", "(LFewChanges;II[J)I"⟩
abbrev b_L_on : ByteArray := method_12_code
def y_L_on : MethodName := ⟨R_L, "on", "(LFewChanges;II[J)I"⟩
abbrev b_L_keep : ByteArray := method_13_code
def y_L_keep : MethodName := ⟨R_L, "keep", "(LFewChanges;I)I"⟩
abbrev b_L_compare : ByteArray := method_14_code
def y_L_compare : MethodName := ⟨R_L, "compare", "(LFewChanges;I[J)I"⟩
abbrev b_L_use : ByteArray := method_15_code
def y_L_use : MethodName := ⟨R_L, "use", "(LFewChanges;I)I"⟩
abbrev b_L_undo : ByteArray := method_16_code
def y_L_undo : MethodName := ⟨R_L, "undo", "(LFewChanges;)I"⟩
abbrev b_L_law : ByteArray := code
def y_L_law : MethodName := ⟨R_L, "law", "([I)Z"⟩
abbrev b_I_bitCount : ByteArray := prog_11_method_49_code
def y_I_bitCount : MethodName := ⟨R_I, "bitCount", "(I)I"⟩
abbrev cls_ : List vw_C := [(R_P, T_P, 3), (R_S, T_S, 10), (R_Q, T_Q, 13), (R_F, T_F, 7), (R_M, T_M, 23)]
/-- every word of the tables that stays good over a call -/
def gw : List Cond := lw_tbl.filter goodWord
theorem gw_of {w : Cond} (h : w ∈ tables_1) (hg : goodWord w = true) : w ∈ gw := List.mem_filter.mpr ⟨List.mem_append_right _ h, hg⟩
theorem gw_sel {w : Cond} (h : w ∈ k2_sels lw_privs) (hg : goodWord w = true) : w ∈ gw := List.mem_filter.mpr ⟨List.mem_append_left _ h, hg⟩
theorem gw_tbl {w : Cond} (h : w ∈ gw) : w ∈ lw_tbl := (List.mem_filter.mp h).1
theorem gw_good {ws : List Cond} (h : ∀ w ∈ ws, w ∈ gw) : GoodIn gw ws := fun w hw => ⟨h w hw, good_of_word (List.mem_filter.mp (h w hw)).2⟩
theorem gw_c {w : Cond} {ws : List Cond} (h : w ∈ gw) (hs : ∀ w ∈ ws, w ∈ gw) : ∀ w' ∈ w :: ws, w' ∈ gw := fun w' h' => (List.mem_cons.mp h').elim (fun e => by rw [e]; exact h) (hs w')
theorem gw_n : ∀ w ∈ gw, w ∈ gw := fun _ h => h
theorem gw_V {own C : String} {idx n : Nat} {y : MethodName} {cc : ByteArray} {ret : Option FieldType} (h1 : Cond.methodLink own idx y ∈ gw) (h2 : Cond.instanceMethod y ∈ gw) (h3 : Cond.selects C y y ∈ gw) (h4 : Cond.initialized C ∈ gw) (h5 : Cond.code y cc n ret ∈ gw) : GoodIn gw (wsV own idx C y (Cond.code y cc n ret :: gw)) := gw_good (gw_c h1 (gw_c h2 (gw_c h3 (gw_c h4 (gw_c h5 gw_n)))))
theorem gw_S {own : String} {idx n : Nat} {y : MethodName} {cc : ByteArray} {ret : Option FieldType} (h1 : Cond.methodLink own idx y ∈ gw) (h2 : Cond.static y ∈ gw) (h4 : Cond.initialized own ∈ gw) (h5 : Cond.code y cc n ret ∈ gw) : GoodIn gw (wsS own idx y (Cond.code y cc n ret :: gw)) := gw_good (gw_c h1 (gw_c h2 (gw_c h4 (gw_c h5 gw_n))))
theorem gw_Sa {own : String} {idx n : Nat} {y : MethodName} {cc : ByteArray} {ret : Option FieldType} (h1 : Cond.methodLink own idx y ∈ gw) (h2 : Cond.static y ∈ gw) (h4 : Cond.initialized y.cls ∈ gw) (h5 : Cond.code y cc n ret ∈ gw) : GoodIn gw (va_wsS own idx y (Cond.code y cc n ret :: gw)) := gw_good (gw_c h1 (gw_c h2 (gw_c h4 (gw_c h5 gw_n))))
theorem gw_SW {own : String} {idx n : Nat} {y : MethodName} {cc : ByteArray} {ret : Option FieldType} {hh : List (Nat × Nat × Nat × Nat)} (h1 : Cond.methodLink own idx y ∈ gw) (h2 : Cond.static y ∈ gw) (h4 : Cond.initialized y.cls ∈ gw) (h5 : Cond.codeWith y cc n ret hh ∈ gw) : GoodIn gw (va_wsS own idx y (Cond.codeWith y cc n ret hh :: gw)) := gw_good (gw_c h1 (gw_c h2 (gw_c h4 (gw_c h5 gw_n))))
theorem gw_I {n : Nat} {y : MethodName} {cc : ByteArray} {ret : Option FieldType} (h5 : Cond.code y cc n ret ∈ gw) : GoodIn gw (Cond.code y cc n ret :: gw) := gw_good (gw_c h5 gw_n)
end
section
theorem kw_0 : (Cond.initialized "FewChangesLaw") ∈ gw := gw_of (List.mem_of_getElem? (i := 0) (by decide +kernel)) (by decide +kernel)
theorem kw_1 : (Cond.initialized "FewChanges") ∈ gw := gw_of (List.mem_of_getElem? (i := 1) (by decide +kernel)) (by decide +kernel)
theorem kw_2 : (Cond.initialized "FewChanges$Shop") ∈ gw := gw_of (List.mem_of_getElem? (i := 2) (by decide +kernel)) (by decide +kernel)
theorem kw_3 : (Cond.initialized "FewChanges$Plan") ∈ gw := gw_of (List.mem_of_getElem? (i := 3) (by decide +kernel)) (by decide +kernel)
theorem kw_4 : (Cond.initialized "FewChanges$Search") ∈ gw := gw_of (List.mem_of_getElem? (i := 4) (by decide +kernel)) (by decide +kernel)
theorem kw_5 : (Cond.initialized "FewChangesModel") ∈ gw := gw_of (List.mem_of_getElem? (i := 5) (by decide +kernel)) (by decide +kernel)
theorem kw_6 : (Cond.initialized "java/lang/Throwable") ∈ gw := gw_of (List.mem_of_getElem? (i := 6) (by decide +kernel)) (by decide +kernel)
theorem kw_7 : (Cond.initialized "java/lang/Exception") ∈ gw := gw_of (List.mem_of_getElem? (i := 7) (by decide +kernel)) (by decide +kernel)
theorem kw_8 : (Cond.initialized "java/lang/RuntimeException") ∈ gw := gw_of (List.mem_of_getElem? (i := 8) (by decide +kernel)) (by decide +kernel)
theorem kw_9 : (Cond.initialized "java/lang/IllegalStateException") ∈ gw := gw_of (List.mem_of_getElem? (i := 9) (by decide +kernel)) (by decide +kernel)
theorem kw_10 : (Cond.initialized "java/lang/IllegalArgumentException") ∈ gw := gw_of (List.mem_of_getElem? (i := 10) (by decide +kernel)) (by decide +kernel)
theorem kw_11 : (Cond.initialized "java/lang/IndexOutOfBoundsException") ∈ gw := gw_of (List.mem_of_getElem? (i := 11) (by decide +kernel)) (by decide +kernel)
theorem kw_12 : (Cond.initialized "java/lang/UnsupportedOperationException") ∈ gw := gw_of (List.mem_of_getElem? (i := 12) (by decide +kernel)) (by decide +kernel)
theorem kw_13 : (Cond.initialized "java/lang/Integer") ∈ gw := gw_of (List.mem_of_getElem? (i := 13) (by decide +kernel)) (by decide +kernel)
theorem kw_14 : (Cond.initialized "java/lang/Math") ∈ gw := gw_of (List.mem_of_getElem? (i := 14) (by decide +kernel)) (by decide +kernel)
theorem kw_15 : (Cond.classLink "FewChangesLaw" 8 "FewChanges") ∈ gw := gw_of (List.mem_of_getElem? (i := 15) (by decide +kernel)) (by decide +kernel)
theorem kw_16 : (Cond.instantiable "FewChanges" 7) ∈ gw := gw_of (List.mem_of_getElem? (i := 16) (by decide +kernel)) (by decide +kernel)
theorem kw_17 : (Cond.methodLink "FewChangesLaw" 66 y_F_init) ∈ gw := gw_of (List.mem_of_getElem? (i := 17) (by decide +kernel)) (by decide +kernel)
theorem kw_18 : (Cond.instanceMethod y_F_init) ∈ gw := gw_of (List.mem_of_getElem? (i := 18) (by decide +kernel)) (by decide +kernel)
set_option maxRecDepth 20000 in
theorem kw_19 : (Cond.code y_F_init b_F_init 4 none) ∈ gw := gw_of (List.mem_of_getElem? (i := 19) (by rfl)) (by decide +kernel)
theorem kw_20 : (Cond.methodLink "FewChanges" 1 objectInit) ∈ gw := gw_of (List.mem_of_getElem? (i := 20) (by decide +kernel)) (by decide +kernel)
theorem kw_21 : (Cond.instanceMethod objectInit) ∈ gw := gw_of (List.mem_of_getElem? (i := 21) (by decide +kernel)) (by decide +kernel)
set_option maxRecDepth 20000 in
theorem kw_22 : (Cond.code objectInit object_method_1_code 1 none) ∈ gw := gw_of (List.mem_of_getElem? (i := 22) (by rfl)) (by decide +kernel)
theorem kw_23 : (Cond.classLink "FewChanges" 7 "FewChanges$Shop") ∈ gw := gw_of (List.mem_of_getElem? (i := 23) (by decide +kernel)) (by decide +kernel)
theorem kw_24 : (Cond.instantiable "FewChanges$Shop" 10) ∈ gw := gw_of (List.mem_of_getElem? (i := 24) (by decide +kernel)) (by decide +kernel)
theorem kw_25 : (Cond.methodLink "FewChanges" 9 y_S_init) ∈ gw := gw_of (List.mem_of_getElem? (i := 25) (by decide +kernel)) (by decide +kernel)
theorem kw_26 : (Cond.instanceMethod y_S_init) ∈ gw := gw_of (List.mem_of_getElem? (i := 26) (by decide +kernel)) (by decide +kernel)
set_option maxRecDepth 20000 in
theorem kw_27 : (Cond.code y_S_init b_S_init 1 none) ∈ gw := gw_of (List.mem_of_getElem? (i := 27) (by rfl)) (by decide +kernel)
theorem kw_28 : (Cond.methodLink "FewChanges$Shop" 3 objectInit) ∈ gw := gw_of (List.mem_of_getElem? (i := 28) (by decide +kernel)) (by decide +kernel)
theorem kw_29 : (Cond.fieldLink "FewChanges$Shop" 9 "FewChanges$Shop" "grade" "[I") ∈ gw := gw_of (List.mem_of_getElem? (i := 29) (by decide +kernel)) (by decide +kernel)
theorem kw_30 : (Cond.fieldLink "FewChanges" 164 "FewChanges$Shop" "grade" "[I") ∈ gw := gw_of (List.mem_of_getElem? (i := 30) (by decide +kernel)) (by decide +kernel)
theorem kw_31 : (Cond.fieldLink "FewChanges$Shop" 15 "FewChanges$Shop" "due" "[I") ∈ gw := gw_of (List.mem_of_getElem? (i := 31) (by decide +kernel)) (by decide +kernel)
theorem kw_32 : (Cond.fieldLink "FewChanges" 43 "FewChanges$Shop" "orders" "I") ∈ gw := gw_of (List.mem_of_getElem? (i := 32) (by decide +kernel)) (by decide +kernel)
theorem kw_33 : (Cond.fieldLink "FewChanges$Shop" 28 "FewChanges$Shop" "orders" "I") ∈ gw := gw_of (List.mem_of_getElem? (i := 33) (by decide +kernel)) (by decide +kernel)
theorem kw_34 : (Cond.fieldLink "FewChanges$Shop" 18 "FewChanges$Shop" "length" "[I") ∈ gw := gw_of (List.mem_of_getElem? (i := 34) (by decide +kernel)) (by decide +kernel)
theorem kw_35 : (Cond.fieldLink "FewChanges$Search" 117 "FewChanges$Shop" "length" "[I") ∈ gw := gw_of (List.mem_of_getElem? (i := 35) (by decide +kernel)) (by decide +kernel)
theorem kw_36 : (Cond.fieldLink "FewChanges" 216 "FewChanges$Shop" "length" "[I") ∈ gw := gw_of (List.mem_of_getElem? (i := 36) (by decide +kernel)) (by decide +kernel)
theorem kw_37 : (Cond.fieldLink "FewChanges$Shop" 21 "FewChanges$Shop" "units" "[I") ∈ gw := gw_of (List.mem_of_getElem? (i := 37) (by decide +kernel)) (by decide +kernel)
theorem kw_38 : (Cond.fieldLink "FewChanges$Search" 135 "FewChanges$Shop" "units" "[I") ∈ gw := gw_of (List.mem_of_getElem? (i := 38) (by decide +kernel)) (by decide +kernel)
theorem kw_39 : (Cond.fieldLink "FewChanges$Shop" 32 "FewChanges$Shop" "heats" "I") ∈ gw := gw_of (List.mem_of_getElem? (i := 39) (by decide +kernel)) (by decide +kernel)
theorem kw_40 : (Cond.fieldLink "FewChanges" 79 "FewChanges$Shop" "heats" "I") ∈ gw := gw_of (List.mem_of_getElem? (i := 40) (by decide +kernel)) (by decide +kernel)
theorem kw_41 : (Cond.fieldLink "FewChanges$Search" 78 "FewChanges$Shop" "heats" "I") ∈ gw := gw_of (List.mem_of_getElem? (i := 41) (by decide +kernel)) (by decide +kernel)
theorem kw_42 : (Cond.fieldLink "FewChanges$Shop" 24 "FewChanges$Shop" "stopped" "[J") ∈ gw := gw_of (List.mem_of_getElem? (i := 42) (by decide +kernel)) (by decide +kernel)
theorem kw_43 : (Cond.fieldLink "FewChanges$Search" 103 "FewChanges$Shop" "stopped" "[J") ∈ gw := gw_of (List.mem_of_getElem? (i := 43) (by decide +kernel)) (by decide +kernel)
theorem kw_44 : (Cond.fieldLink "FewChanges$Shop" 39 "FewChanges$Shop" "stops" "I") ∈ gw := gw_of (List.mem_of_getElem? (i := 44) (by decide +kernel)) (by decide +kernel)
theorem kw_45 : (Cond.fieldLink "FewChanges" 118 "FewChanges$Shop" "stops" "I") ∈ gw := gw_of (List.mem_of_getElem? (i := 45) (by decide +kernel)) (by decide +kernel)
theorem kw_46 : (Cond.fieldLink "FewChanges$Shop" 47 "FewChanges$Shop" "now" "I") ∈ gw := gw_of (List.mem_of_getElem? (i := 46) (by decide +kernel)) (by decide +kernel)
theorem kw_47 : (Cond.fieldLink "FewChanges" 134 "FewChanges$Shop" "now" "I") ∈ gw := gw_of (List.mem_of_getElem? (i := 47) (by decide +kernel)) (by decide +kernel)
theorem kw_48 : (Cond.fieldLink "FewChanges$Shop" 50 "FewChanges$Shop" "freeze" "I") ∈ gw := gw_of (List.mem_of_getElem? (i := 48) (by decide +kernel)) (by decide +kernel)
theorem kw_49 : (Cond.fieldLink "FewChanges" 137 "FewChanges$Shop" "freeze" "I") ∈ gw := gw_of (List.mem_of_getElem? (i := 49) (by decide +kernel)) (by decide +kernel)
theorem kw_50 : (Cond.laysFinal "FewChanges$Shop" "FewChanges$Shop" "grade" "[I") ∈ gw := gw_of (List.mem_of_getElem? (i := 50) (by decide +kernel)) (by decide +kernel)
theorem kw_52 : (Cond.laysFinal "FewChanges$Shop" "FewChanges$Shop" "due" "[I") ∈ gw := gw_of (List.mem_of_getElem? (i := 52) (by decide +kernel)) (by decide +kernel)
theorem kw_54 : (Cond.lays "FewChanges$Shop" "FewChanges$Shop" "orders" "I") ∈ gw := gw_of (List.mem_of_getElem? (i := 54) (by decide +kernel)) (by decide +kernel)
theorem kw_56 : (Cond.laysFinal "FewChanges$Shop" "FewChanges$Shop" "length" "[I") ∈ gw := gw_of (List.mem_of_getElem? (i := 56) (by decide +kernel)) (by decide +kernel)
theorem kw_58 : (Cond.laysFinal "FewChanges$Shop" "FewChanges$Shop" "units" "[I") ∈ gw := gw_of (List.mem_of_getElem? (i := 58) (by decide +kernel)) (by decide +kernel)
theorem kw_60 : (Cond.lays "FewChanges$Shop" "FewChanges$Shop" "heats" "I") ∈ gw := gw_of (List.mem_of_getElem? (i := 60) (by decide +kernel)) (by decide +kernel)
theorem kw_62 : (Cond.laysFinal "FewChanges$Shop" "FewChanges$Shop" "stopped" "[J") ∈ gw := gw_of (List.mem_of_getElem? (i := 62) (by decide +kernel)) (by decide +kernel)
theorem kw_64 : (Cond.lays "FewChanges$Shop" "FewChanges$Shop" "stops" "I") ∈ gw := gw_of (List.mem_of_getElem? (i := 64) (by decide +kernel)) (by decide +kernel)
theorem kw_66 : (Cond.lays "FewChanges$Shop" "FewChanges$Shop" "now" "I") ∈ gw := gw_of (List.mem_of_getElem? (i := 66) (by decide +kernel)) (by decide +kernel)
theorem kw_68 : (Cond.lays "FewChanges$Shop" "FewChanges$Shop" "freeze" "I") ∈ gw := gw_of (List.mem_of_getElem? (i := 68) (by decide +kernel)) (by decide +kernel)
theorem kw_71 : (Cond.arrayClass .int) ∈ gw := gw_of (List.mem_of_getElem? (i := 71) (by decide +kernel)) (by decide +kernel)
theorem kw_72 : (Cond.arrayClass .long) ∈ gw := gw_of (List.mem_of_getElem? (i := 72) (by decide +kernel)) (by decide +kernel)
theorem kw_73 : (Cond.classLink "FewChanges" 10 "FewChanges$Plan") ∈ gw := gw_of (List.mem_of_getElem? (i := 73) (by decide +kernel)) (by decide +kernel)
theorem kw_74 : (Cond.instantiable "FewChanges$Plan" 3) ∈ gw := gw_of (List.mem_of_getElem? (i := 74) (by decide +kernel)) (by decide +kernel)
theorem kw_75 : (Cond.methodLink "FewChanges" 12 y_P_init) ∈ gw := gw_of (List.mem_of_getElem? (i := 75) (by decide +kernel)) (by decide +kernel)
theorem kw_76 : (Cond.instanceMethod y_P_init) ∈ gw := gw_of (List.mem_of_getElem? (i := 76) (by decide +kernel)) (by decide +kernel)
set_option maxRecDepth 20000 in
theorem kw_77 : (Cond.code y_P_init b_P_init 1 none) ∈ gw := gw_of (List.mem_of_getElem? (i := 77) (by rfl)) (by decide +kernel)
theorem kw_78 : (Cond.methodLink "FewChanges$Plan" 3 objectInit) ∈ gw := gw_of (List.mem_of_getElem? (i := 78) (by decide +kernel)) (by decide +kernel)
theorem kw_79 : (Cond.fieldLink "FewChanges$Plan" 9 "FewChanges$Plan" "unit" "[I") ∈ gw := gw_of (List.mem_of_getElem? (i := 79) (by decide +kernel)) (by decide +kernel)
theorem kw_80 : (Cond.fieldLink "FewChanges$Search" 110 "FewChanges$Plan" "unit" "[I") ∈ gw := gw_of (List.mem_of_getElem? (i := 80) (by decide +kernel)) (by decide +kernel)
theorem kw_81 : (Cond.fieldLink "FewChanges$Shop" 67 "FewChanges$Plan" "unit" "[I") ∈ gw := gw_of (List.mem_of_getElem? (i := 81) (by decide +kernel)) (by decide +kernel)
theorem kw_82 : (Cond.fieldLink "FewChanges" 208 "FewChanges$Plan" "unit" "[I") ∈ gw := gw_of (List.mem_of_getElem? (i := 82) (by decide +kernel)) (by decide +kernel)
theorem kw_83 : (Cond.fieldLink "FewChanges$Plan" 15 "FewChanges$Plan" "minute" "[I") ∈ gw := gw_of (List.mem_of_getElem? (i := 83) (by decide +kernel)) (by decide +kernel)
theorem kw_84 : (Cond.fieldLink "FewChanges$Shop" 42 "FewChanges$Plan" "minute" "[I") ∈ gw := gw_of (List.mem_of_getElem? (i := 84) (by decide +kernel)) (by decide +kernel)
theorem kw_85 : (Cond.fieldLink "FewChanges$Search" 114 "FewChanges$Plan" "minute" "[I") ∈ gw := gw_of (List.mem_of_getElem? (i := 85) (by decide +kernel)) (by decide +kernel)
theorem kw_86 : (Cond.fieldLink "FewChanges" 211 "FewChanges$Plan" "minute" "[I") ∈ gw := gw_of (List.mem_of_getElem? (i := 86) (by decide +kernel)) (by decide +kernel)
theorem kw_87 : (Cond.fieldLink "FewChanges$Plan" 18 "FewChanges$Plan" "order" "[I") ∈ gw := gw_of (List.mem_of_getElem? (i := 87) (by decide +kernel)) (by decide +kernel)
theorem kw_88 : (Cond.fieldLink "FewChanges" 109 "FewChanges$Plan" "order" "[I") ∈ gw := gw_of (List.mem_of_getElem? (i := 88) (by decide +kernel)) (by decide +kernel)
theorem kw_89 : (Cond.fieldLink "FewChanges$Search" 128 "FewChanges$Plan" "order" "[I") ∈ gw := gw_of (List.mem_of_getElem? (i := 89) (by decide +kernel)) (by decide +kernel)
theorem kw_90 : (Cond.laysFinal "FewChanges$Plan" "FewChanges$Plan" "unit" "[I") ∈ gw := gw_of (List.mem_of_getElem? (i := 90) (by decide +kernel)) (by decide +kernel)
theorem kw_92 : (Cond.laysFinal "FewChanges$Plan" "FewChanges$Plan" "minute" "[I") ∈ gw := gw_of (List.mem_of_getElem? (i := 92) (by decide +kernel)) (by decide +kernel)
theorem kw_94 : (Cond.laysFinal "FewChanges$Plan" "FewChanges$Plan" "order" "[I") ∈ gw := gw_of (List.mem_of_getElem? (i := 94) (by decide +kernel)) (by decide +kernel)
theorem kw_98 : (Cond.classLink "FewChanges" 34 "FewChanges$Search") ∈ gw := gw_of (List.mem_of_getElem? (i := 98) (by decide +kernel)) (by decide +kernel)
theorem kw_99 : (Cond.instantiable "FewChanges$Search" 13) ∈ gw := gw_of (List.mem_of_getElem? (i := 99) (by decide +kernel)) (by decide +kernel)
theorem kw_100 : (Cond.methodLink "FewChanges" 36 y_Q_init) ∈ gw := gw_of (List.mem_of_getElem? (i := 100) (by decide +kernel)) (by decide +kernel)
theorem kw_101 : (Cond.instanceMethod y_Q_init) ∈ gw := gw_of (List.mem_of_getElem? (i := 101) (by decide +kernel)) (by decide +kernel)
set_option maxRecDepth 20000 in
theorem kw_102 : (Cond.code y_Q_init b_Q_init 3 none) ∈ gw := gw_of (List.mem_of_getElem? (i := 102) (by rfl)) (by decide +kernel)
theorem kw_103 : (Cond.methodLink "FewChanges$Search" 3 objectInit) ∈ gw := gw_of (List.mem_of_getElem? (i := 103) (by decide +kernel)) (by decide +kernel)
theorem kw_104 : (Cond.classLink "FewChanges$Search" 19 "FewChanges$Plan") ∈ gw := gw_of (List.mem_of_getElem? (i := 104) (by decide +kernel)) (by decide +kernel)
theorem kw_105 : (Cond.methodLink "FewChanges$Search" 21 y_P_init) ∈ gw := gw_of (List.mem_of_getElem? (i := 105) (by decide +kernel)) (by decide +kernel)
theorem kw_106 : (Cond.fieldLink "FewChanges$Search" 9 "FewChanges$Search" "shop" "LFewChanges$Shop;") ∈ gw := gw_of (List.mem_of_getElem? (i := 106) (by decide +kernel)) (by decide +kernel)
theorem kw_107 : (Cond.fieldLink "FewChanges$Search" 15 "FewChanges$Search" "old" "LFewChanges$Plan;") ∈ gw := gw_of (List.mem_of_getElem? (i := 107) (by decide +kernel)) (by decide +kernel)
theorem kw_108 : (Cond.fieldLink "FewChanges$Search" 22 "FewChanges$Search" "trial" "LFewChanges$Plan;") ∈ gw := gw_of (List.mem_of_getElem? (i := 108) (by decide +kernel)) (by decide +kernel)
theorem kw_109 : (Cond.fieldLink "FewChanges$Search" 25 "FewChanges$Search" "best" "LFewChanges$Plan;") ∈ gw := gw_of (List.mem_of_getElem? (i := 109) (by decide +kernel)) (by decide +kernel)
theorem kw_110 : (Cond.fieldLink "FewChanges" 183 "FewChanges$Search" "best" "LFewChanges$Plan;") ∈ gw := gw_of (List.mem_of_getElem? (i := 110) (by decide +kernel)) (by decide +kernel)
theorem kw_111 : (Cond.fieldLink "FewChanges$Search" 32 "FewChanges$Search" "bestCost" "I") ∈ gw := gw_of (List.mem_of_getElem? (i := 111) (by decide +kernel)) (by decide +kernel)
theorem kw_112 : (Cond.fieldLink "FewChanges$Search" 28 "FewChanges$Search" "taken" "[J") ∈ gw := gw_of (List.mem_of_getElem? (i := 112) (by decide +kernel)) (by decide +kernel)
theorem kw_113 : (Cond.fieldLink "FewChanges$Search" 90 "FewChanges$Search" "set" "I") ∈ gw := gw_of (List.mem_of_getElem? (i := 113) (by decide +kernel)) (by decide +kernel)
theorem kw_114 : (Cond.fieldLink "FewChanges$Search" 41 "FewChanges$Search" "nodesAllowed" "I") ∈ gw := gw_of (List.mem_of_getElem? (i := 114) (by decide +kernel)) (by decide +kernel)
theorem kw_115 : (Cond.fieldLink "FewChanges$Search" 37 "FewChanges$Search" "wasRun" "Z") ∈ gw := gw_of (List.mem_of_getElem? (i := 115) (by decide +kernel)) (by decide +kernel)
theorem kw_116 : (Cond.fieldLink "FewChanges" 192 "FewChanges$Search" "wasRun" "Z") ∈ gw := gw_of (List.mem_of_getElem? (i := 116) (by decide +kernel)) (by decide +kernel)
theorem kw_117 : (Cond.fieldLink "FewChanges$Search" 47 "FewChanges$Search" "spent" "Z") ∈ gw := gw_of (List.mem_of_getElem? (i := 117) (by decide +kernel)) (by decide +kernel)
theorem kw_118 : (Cond.fieldLink "FewChanges" 198 "FewChanges$Search" "spent" "Z") ∈ gw := gw_of (List.mem_of_getElem? (i := 118) (by decide +kernel)) (by decide +kernel)
theorem kw_119 : (Cond.fieldLink "FewChanges$Search" 44 "FewChanges$Search" "nodes" "I") ∈ gw := gw_of (List.mem_of_getElem? (i := 119) (by decide +kernel)) (by decide +kernel)
theorem kw_120 : (Cond.fieldLink "FewChanges" 201 "FewChanges$Search" "nodes" "I") ∈ gw := gw_of (List.mem_of_getElem? (i := 120) (by decide +kernel)) (by decide +kernel)
theorem kw_121 : (Cond.fieldLink "FewChanges$Search" 53 "FewChanges$Search" "round" "I") ∈ gw := gw_of (List.mem_of_getElem? (i := 121) (by decide +kernel)) (by decide +kernel)
theorem kw_122 : (Cond.fieldLink "FewChanges" 180 "FewChanges$Search" "round" "I") ∈ gw := gw_of (List.mem_of_getElem? (i := 122) (by decide +kernel)) (by decide +kernel)
theorem kw_123 : (Cond.fieldLink "FewChanges$Search" 50 "FewChanges$Search" "list" "I") ∈ gw := gw_of (List.mem_of_getElem? (i := 123) (by decide +kernel)) (by decide +kernel)
theorem kw_124 : (Cond.fieldLink "FewChanges" 203 "FewChanges$Search" "list" "I") ∈ gw := gw_of (List.mem_of_getElem? (i := 124) (by decide +kernel)) (by decide +kernel)
theorem kw_125 : (Cond.laysFinal "FewChanges$Search" "FewChanges$Search" "shop" "LFewChanges$Shop;") ∈ gw := gw_of (List.mem_of_getElem? (i := 125) (by decide +kernel)) (by decide +kernel)
theorem kw_127 : (Cond.laysFinal "FewChanges$Search" "FewChanges$Search" "old" "LFewChanges$Plan;") ∈ gw := gw_of (List.mem_of_getElem? (i := 127) (by decide +kernel)) (by decide +kernel)
theorem kw_129 : (Cond.laysFinal "FewChanges$Search" "FewChanges$Search" "trial" "LFewChanges$Plan;") ∈ gw := gw_of (List.mem_of_getElem? (i := 129) (by decide +kernel)) (by decide +kernel)
theorem kw_131 : (Cond.laysFinal "FewChanges$Search" "FewChanges$Search" "best" "LFewChanges$Plan;") ∈ gw := gw_of (List.mem_of_getElem? (i := 131) (by decide +kernel)) (by decide +kernel)
theorem kw_133 : (Cond.lays "FewChanges$Search" "FewChanges$Search" "bestCost" "I") ∈ gw := gw_of (List.mem_of_getElem? (i := 133) (by decide +kernel)) (by decide +kernel)
theorem kw_135 : (Cond.laysFinal "FewChanges$Search" "FewChanges$Search" "taken" "[J") ∈ gw := gw_of (List.mem_of_getElem? (i := 135) (by decide +kernel)) (by decide +kernel)
theorem kw_137 : (Cond.lays "FewChanges$Search" "FewChanges$Search" "set" "I") ∈ gw := gw_of (List.mem_of_getElem? (i := 137) (by decide +kernel)) (by decide +kernel)
theorem kw_139 : (Cond.lays "FewChanges$Search" "FewChanges$Search" "nodesAllowed" "I") ∈ gw := gw_of (List.mem_of_getElem? (i := 139) (by decide +kernel)) (by decide +kernel)
theorem kw_141 : (Cond.lays "FewChanges$Search" "FewChanges$Search" "wasRun" "Z") ∈ gw := gw_of (List.mem_of_getElem? (i := 141) (by decide +kernel)) (by decide +kernel)
theorem kw_143 : (Cond.lays "FewChanges$Search" "FewChanges$Search" "spent" "Z") ∈ gw := gw_of (List.mem_of_getElem? (i := 143) (by decide +kernel)) (by decide +kernel)
theorem kw_145 : (Cond.lays "FewChanges$Search" "FewChanges$Search" "nodes" "I") ∈ gw := gw_of (List.mem_of_getElem? (i := 145) (by decide +kernel)) (by decide +kernel)
theorem kw_147 : (Cond.lays "FewChanges$Search" "FewChanges$Search" "round" "I") ∈ gw := gw_of (List.mem_of_getElem? (i := 147) (by decide +kernel)) (by decide +kernel)
theorem kw_149 : (Cond.lays "FewChanges$Search" "FewChanges$Search" "list" "I") ∈ gw := gw_of (List.mem_of_getElem? (i := 149) (by decide +kernel)) (by decide +kernel)
theorem kw_152 : (Cond.arrayClass .boolean) ∈ gw := gw_of (List.mem_of_getElem? (i := 152) (by decide +kernel)) (by decide +kernel)
theorem kw_153 : (Cond.fieldLink "FewChanges" 13 "FewChanges" "shop" "LFewChanges$Shop;") ∈ gw := gw_of (List.mem_of_getElem? (i := 153) (by decide +kernel)) (by decide +kernel)
theorem kw_154 : (Cond.fieldLink "FewChanges" 19 "FewChanges" "plan" "LFewChanges$Plan;") ∈ gw := gw_of (List.mem_of_getElem? (i := 154) (by decide +kernel)) (by decide +kernel)
theorem kw_155 : (Cond.fieldLink "FewChanges" 23 "FewChanges" "before" "LFewChanges$Plan;") ∈ gw := gw_of (List.mem_of_getElem? (i := 155) (by decide +kernel)) (by decide +kernel)
theorem kw_156 : (Cond.fieldLink "FewChanges" 229 "FewChanges" "undoable" "Z") ∈ gw := gw_of (List.mem_of_getElem? (i := 156) (by decide +kernel)) (by decide +kernel)
theorem kw_157 : (Cond.fieldLink "FewChanges" 26 "FewChanges" "copies" "[LFewChanges$Plan;") ∈ gw := gw_of (List.mem_of_getElem? (i := 157) (by decide +kernel)) (by decide +kernel)
theorem kw_158 : (Cond.fieldLink "FewChanges" 30 "FewChanges" "kept" "[Z") ∈ gw := gw_of (List.mem_of_getElem? (i := 158) (by decide +kernel)) (by decide +kernel)
theorem kw_159 : (Cond.fieldLink "FewChanges" 39 "FewChanges" "search" "LFewChanges$Search;") ∈ gw := gw_of (List.mem_of_getElem? (i := 159) (by decide +kernel)) (by decide +kernel)
theorem kw_160 : (Cond.laysFinal "FewChanges" "FewChanges" "shop" "LFewChanges$Shop;") ∈ gw := gw_of (List.mem_of_getElem? (i := 160) (by decide +kernel)) (by decide +kernel)
theorem kw_162 : (Cond.laysFinal "FewChanges" "FewChanges" "plan" "LFewChanges$Plan;") ∈ gw := gw_of (List.mem_of_getElem? (i := 162) (by decide +kernel)) (by decide +kernel)
theorem kw_164 : (Cond.laysFinal "FewChanges" "FewChanges" "before" "LFewChanges$Plan;") ∈ gw := gw_of (List.mem_of_getElem? (i := 164) (by decide +kernel)) (by decide +kernel)
theorem kw_166 : (Cond.lays "FewChanges" "FewChanges" "undoable" "Z") ∈ gw := gw_of (List.mem_of_getElem? (i := 166) (by decide +kernel)) (by decide +kernel)
theorem kw_168 : (Cond.laysFinal "FewChanges" "FewChanges" "copies" "[LFewChanges$Plan;") ∈ gw := gw_of (List.mem_of_getElem? (i := 168) (by decide +kernel)) (by decide +kernel)
theorem kw_170 : (Cond.laysFinal "FewChanges" "FewChanges" "kept" "[Z") ∈ gw := gw_of (List.mem_of_getElem? (i := 170) (by decide +kernel)) (by decide +kernel)
theorem kw_172 : (Cond.laysFinal "FewChanges" "FewChanges" "search" "LFewChanges$Search;") ∈ gw := gw_of (List.mem_of_getElem? (i := 172) (by decide +kernel)) (by decide +kernel)
theorem kw_175 : (Cond.methodLink "FewChangesLaw" 88 y_F_go) ∈ gw := gw_of (List.mem_of_getElem? (i := 175) (by decide +kernel)) (by decide +kernel)
theorem kw_176 : (Cond.instanceMethod y_F_go) ∈ gw := gw_of (List.mem_of_getElem? (i := 176) (by decide +kernel)) (by decide +kernel)
theorem kw_177 : (Cond.selects "FewChanges" y_F_go y_F_go) ∈ gw := gw_of (List.mem_of_getElem? (i := 177) (by decide +kernel)) (by decide +kernel)
set_option maxRecDepth 20000 in
theorem kw_178 : (Cond.code y_F_go b_F_go 1 none) ∈ gw := gw_of (List.mem_of_getElem? (i := 178) (by rfl)) (by decide +kernel)
theorem kw_179 : (Cond.methodLink "FewChanges" 129 y_S_forgetStops) ∈ gw := gw_of (List.mem_of_getElem? (i := 179) (by decide +kernel)) (by decide +kernel)
theorem kw_180 : (Cond.instanceMethod y_S_forgetStops) ∈ gw := gw_of (List.mem_of_getElem? (i := 180) (by decide +kernel)) (by decide +kernel)
theorem kw_181 : (Cond.selects "FewChanges$Shop" y_S_forgetStops y_S_forgetStops) ∈ gw := gw_of (List.mem_of_getElem? (i := 181) (by decide +kernel)) (by decide +kernel)
set_option maxRecDepth 20000 in
theorem kw_182 : (Cond.code y_S_forgetStops b_S_forgetStops 2 none) ∈ gw := gw_of (List.mem_of_getElem? (i := 182) (by rfl)) (by decide +kernel)
theorem kw_183 : (Cond.methodLink "FewChangesLaw" 113 y_F_cost) ∈ gw := gw_of (List.mem_of_getElem? (i := 183) (by decide +kernel)) (by decide +kernel)
theorem kw_184 : (Cond.instanceMethod y_F_cost) ∈ gw := gw_of (List.mem_of_getElem? (i := 184) (by decide +kernel)) (by decide +kernel)
theorem kw_185 : (Cond.selects "FewChanges" y_F_cost y_F_cost) ∈ gw := gw_of (List.mem_of_getElem? (i := 185) (by decide +kernel)) (by decide +kernel)
set_option maxRecDepth 20000 in
theorem kw_186 : (Cond.code y_F_cost b_F_cost 3 (some .int)) ∈ gw := gw_of (List.mem_of_getElem? (i := 186) (by rfl)) (by decide +kernel)
theorem kw_187 : (Cond.methodLink "FewChanges" 213 y_S_lateness) ∈ gw := gw_of (List.mem_of_getElem? (i := 187) (by decide +kernel)) (by decide +kernel)
theorem kw_188 : (Cond.instanceMethod y_S_lateness) ∈ gw := gw_of (List.mem_of_getElem? (i := 188) (by decide +kernel)) (by decide +kernel)
theorem kw_189 : (Cond.selects "FewChanges$Shop" y_S_lateness y_S_lateness) ∈ gw := gw_of (List.mem_of_getElem? (i := 189) (by decide +kernel)) (by decide +kernel)
set_option maxRecDepth 20000 in
theorem kw_190 : (Cond.code y_S_lateness b_S_lateness 4 (some .int)) ∈ gw := gw_of (List.mem_of_getElem? (i := 190) (by rfl)) (by decide +kernel)
theorem kw_191 : (Cond.methodLink "FewChanges$Shop" 53 ⟨"java/lang/Math", "max", "(II)I"⟩) ∈ gw := gw_of (List.mem_of_getElem? (i := 191) (by decide +kernel)) (by decide +kernel)
theorem kw_192 : (Cond.static ⟨"java/lang/Math", "max", "(II)I"⟩) ∈ gw := gw_of (List.mem_of_getElem? (i := 192) (by decide +kernel)) (by decide +kernel)
set_option maxRecDepth 20000 in
theorem kw_193 : (Cond.code ⟨"java/lang/Math", "max", "(II)I"⟩ prog_12_method_65_code 2 (some .int)) ∈ gw := gw_of (List.mem_of_getElem? (i := 193) (by rfl)) (by decide +kernel)
theorem kw_194 : (Cond.methodLink "FewChangesLaw" 70 y_L_order) ∈ gw := gw_of (List.mem_of_getElem? (i := 194) (by decide +kernel)) (by decide +kernel)
theorem kw_195 : (Cond.static y_L_order) ∈ gw := gw_of (List.mem_of_getElem? (i := 195) (by decide +kernel)) (by decide +kernel)
set_option maxRecDepth 20000 in
theorem kw_196 : (Cond.codeWith y_L_order b_L_order 5 (some .int) [(0, 10, 13, 13), (0, 10, 17, 15)]) ∈ gw := gw_of (List.mem_of_getElem? (i := 196) (by rfl)) (by decide +kernel)
theorem kw_197 : (Cond.classLink "FewChangesLaw" 13 "java/lang/IllegalStateException") ∈ gw := gw_of (List.mem_of_getElem? (i := 197) (by decide +kernel)) (by decide +kernel)
theorem kw_198 : (Cond.classLink "FewChangesLaw" 15 "java/lang/IllegalArgumentException") ∈ gw := gw_of (List.mem_of_getElem? (i := 198) (by decide +kernel)) (by decide +kernel)
theorem kw_199 : (Cond.methodLink "FewChangesLaw" 7 y_F_order) ∈ gw := gw_of (List.mem_of_getElem? (i := 199) (by decide +kernel)) (by decide +kernel)
theorem kw_200 : (Cond.instanceMethod y_F_order) ∈ gw := gw_of (List.mem_of_getElem? (i := 200) (by decide +kernel)) (by decide +kernel)
theorem kw_201 : (Cond.selects "FewChanges" y_F_order y_F_order) ∈ gw := gw_of (List.mem_of_getElem? (i := 201) (by decide +kernel)) (by decide +kernel)
set_option maxRecDepth 20000 in
theorem kw_202 : (Cond.code y_F_order b_F_order 3 (some .int)) ∈ gw := gw_of (List.mem_of_getElem? (i := 202) (by rfl)) (by decide +kernel)
theorem kw_203 : (Cond.classLink "FewChanges" 47 "java/lang/IllegalStateException") ∈ gw := gw_of (List.mem_of_getElem? (i := 203) (by decide +kernel)) (by decide +kernel)
theorem kw_204 : (Cond.instantiable "java/lang/IllegalStateException" 6) ∈ gw := gw_of (List.mem_of_getElem? (i := 204) (by decide +kernel)) (by decide +kernel)
theorem kw_212 : (Cond.selects "java/lang/IllegalStateException" ⟨"java/lang/Throwable", "fillInStackTrace", "(I)Ljava/lang/Throwable;"⟩ ⟨"java/lang/Throwable", "fillInStackTrace", "(I)Ljava/lang/Throwable;"⟩) ∈ gw := gw_of (List.mem_of_getElem? (i := 212) (by decide +kernel)) (by decide +kernel)
theorem kw_213 : (Cond.selects "java/lang/IllegalStateException" ⟨"java/lang/Throwable", "fillInStackTrace", "()Ljava/lang/Throwable;"⟩ ⟨"java/lang/Throwable", "fillInStackTrace", "()Ljava/lang/Throwable;"⟩) ∈ gw := gw_of (List.mem_of_getElem? (i := 213) (by decide +kernel)) (by decide +kernel)
theorem kw_214 : (Cond.lays "java/lang/IllegalStateException" "java/lang/Throwable" "cause" "Ljava/lang/Throwable;") ∈ gw := gw_of (List.mem_of_getElem? (i := 214) (by decide +kernel)) (by decide +kernel)
theorem kw_215 : (Cond.lays "java/lang/Throwable" "java/lang/Throwable" "cause" "Ljava/lang/Throwable;") ∈ gw := gw_of (List.mem_of_getElem? (i := 215) (by decide +kernel)) (by decide +kernel)
theorem kw_216 : (Cond.lays "java/lang/IllegalStateException" "java/lang/Throwable" "stackTrace" "[Ljava/lang/StackTraceElement;") ∈ gw := gw_of (List.mem_of_getElem? (i := 216) (by decide +kernel)) (by decide +kernel)
theorem kw_217 : (Cond.lays "java/lang/Throwable" "java/lang/Throwable" "stackTrace" "[Ljava/lang/StackTraceElement;") ∈ gw := gw_of (List.mem_of_getElem? (i := 217) (by decide +kernel)) (by decide +kernel)
theorem kw_218 : (Cond.lays "java/lang/IllegalStateException" "java/lang/Throwable" "suppressedExceptions" "Ljava/util/List;") ∈ gw := gw_of (List.mem_of_getElem? (i := 218) (by decide +kernel)) (by decide +kernel)
theorem kw_219 : (Cond.lays "java/lang/Throwable" "java/lang/Throwable" "suppressedExceptions" "Ljava/util/List;") ∈ gw := gw_of (List.mem_of_getElem? (i := 219) (by decide +kernel)) (by decide +kernel)
theorem kw_220 : (Cond.lays "java/lang/IllegalStateException" "java/lang/Throwable" "detailMessage" "Ljava/lang/String;") ∈ gw := gw_of (List.mem_of_getElem? (i := 220) (by decide +kernel)) (by decide +kernel)
theorem kw_221 : (Cond.lays "java/lang/Throwable" "java/lang/Throwable" "detailMessage" "Ljava/lang/String;") ∈ gw := gw_of (List.mem_of_getElem? (i := 221) (by decide +kernel)) (by decide +kernel)
theorem kw_222 : (Cond.lays "java/lang/IllegalStateException" "java/lang/Throwable" "backtrace" "Ljava/lang/Object;") ∈ gw := gw_of (List.mem_of_getElem? (i := 222) (by decide +kernel)) (by decide +kernel)
theorem kw_223 : (Cond.lays "java/lang/Throwable" "java/lang/Throwable" "backtrace" "Ljava/lang/Object;") ∈ gw := gw_of (List.mem_of_getElem? (i := 223) (by decide +kernel)) (by decide +kernel)
theorem kw_224 : (Cond.fieldLink "java/lang/Throwable" 198 "java/lang/Throwable" "backtrace" "Ljava/lang/Object;") ∈ gw := gw_of (List.mem_of_getElem? (i := 224) (by decide +kernel)) (by decide +kernel)
theorem kw_226 : (Cond.instanceMethod ⟨"java/lang/Throwable", "<init>", "()V"⟩) ∈ gw := gw_of (List.mem_of_getElem? (i := 226) (by decide +kernel)) (by decide +kernel)
set_option maxRecDepth 20000 in
theorem kw_227 : (Cond.code ⟨"java/lang/Throwable", "<init>", "()V"⟩ prog_15_method_1_code 1 none) ∈ gw := gw_of (List.mem_of_getElem? (i := 227) (by rfl)) (by decide +kernel)
theorem kw_228 : (Cond.methodLink "java/lang/Throwable" 1 objectInit) ∈ gw := gw_of (List.mem_of_getElem? (i := 228) (by decide +kernel)) (by decide +kernel)
theorem kw_229 : (Cond.fieldLink "java/lang/Throwable" 13 "java/lang/Throwable" "UNASSIGNED_STACK" "[Ljava/lang/StackTraceElement;") ∈ gw := gw_of (List.mem_of_getElem? (i := 229) (by decide +kernel)) (by decide +kernel)
theorem kw_231 : (Cond.fieldLink "java/lang/Throwable" 20 "java/lang/Throwable" "SUPPRESSED_SENTINEL" "Ljava/util/List;") ∈ gw := gw_of (List.mem_of_getElem? (i := 231) (by decide +kernel)) (by decide +kernel)
theorem kw_233 : (Cond.methodLink "java/lang/Throwable" 27 ⟨"java/lang/Throwable", "fillInStackTrace", "()Ljava/lang/Throwable;"⟩) ∈ gw := gw_of (List.mem_of_getElem? (i := 233) (by decide +kernel)) (by decide +kernel)
theorem kw_234 : (Cond.instanceMethod ⟨"java/lang/Throwable", "fillInStackTrace", "()Ljava/lang/Throwable;"⟩) ∈ gw := gw_of (List.mem_of_getElem? (i := 234) (by decide +kernel)) (by decide +kernel)
theorem kw_236 : (Cond.selects "java/lang/IllegalArgumentException" ⟨"java/lang/Throwable", "fillInStackTrace", "()Ljava/lang/Throwable;"⟩ ⟨"java/lang/Throwable", "fillInStackTrace", "()Ljava/lang/Throwable;"⟩) ∈ gw := gw_of (List.mem_of_getElem? (i := 236) (by decide +kernel)) (by decide +kernel)
theorem kw_237 : (Cond.selects "java/lang/IndexOutOfBoundsException" ⟨"java/lang/Throwable", "fillInStackTrace", "()Ljava/lang/Throwable;"⟩ ⟨"java/lang/Throwable", "fillInStackTrace", "()Ljava/lang/Throwable;"⟩) ∈ gw := gw_of (List.mem_of_getElem? (i := 237) (by decide +kernel)) (by decide +kernel)
theorem kw_238 : (Cond.selects "java/lang/UnsupportedOperationException" ⟨"java/lang/Throwable", "fillInStackTrace", "()Ljava/lang/Throwable;"⟩ ⟨"java/lang/Throwable", "fillInStackTrace", "()Ljava/lang/Throwable;"⟩) ∈ gw := gw_of (List.mem_of_getElem? (i := 238) (by decide +kernel)) (by decide +kernel)
theorem kw_240 : (Cond.methodLink "java/lang/Throwable" 202 ⟨"java/lang/Throwable", "fillInStackTrace", "(I)Ljava/lang/Throwable;"⟩) ∈ gw := gw_of (List.mem_of_getElem? (i := 240) (by decide +kernel)) (by decide +kernel)
theorem kw_242 : (Cond.instanceMethod ⟨"java/lang/Throwable", "fillInStackTrace", "(I)Ljava/lang/Throwable;"⟩) ∈ gw := gw_of (List.mem_of_getElem? (i := 242) (by decide +kernel)) (by decide +kernel)
theorem kw_243 : (Cond.instantiable "java/lang/Throwable" 6) ∈ gw := gw_of (List.mem_of_getElem? (i := 243) (by decide +kernel)) (by decide +kernel)
theorem kw_246 : (Cond.methodLink "FewChanges" 51 ⟨"java/lang/IllegalStateException", "<init>", "(Ljava/lang/String;)V"⟩) ∈ gw := gw_of (List.mem_of_getElem? (i := 246) (by decide +kernel)) (by decide +kernel)
theorem kw_247 : (Cond.instanceMethod ⟨"java/lang/IllegalStateException", "<init>", "(Ljava/lang/String;)V"⟩) ∈ gw := gw_of (List.mem_of_getElem? (i := 247) (by decide +kernel)) (by decide +kernel)
set_option maxRecDepth 20000 in
theorem kw_248 : (Cond.code ⟨"java/lang/IllegalStateException", "<init>", "(Ljava/lang/String;)V"⟩ prog_9_method_2_code 2 none) ∈ gw := gw_of (List.mem_of_getElem? (i := 248) (by rfl)) (by decide +kernel)
theorem kw_249 : (Cond.methodLink "java/lang/IllegalStateException" 7 ⟨"java/lang/RuntimeException", "<init>", "(Ljava/lang/String;)V"⟩) ∈ gw := gw_of (List.mem_of_getElem? (i := 249) (by decide +kernel)) (by decide +kernel)
theorem kw_250 : (Cond.instanceMethod ⟨"java/lang/RuntimeException", "<init>", "(Ljava/lang/String;)V"⟩) ∈ gw := gw_of (List.mem_of_getElem? (i := 250) (by decide +kernel)) (by decide +kernel)
set_option maxRecDepth 20000 in
theorem kw_251 : (Cond.code ⟨"java/lang/RuntimeException", "<init>", "(Ljava/lang/String;)V"⟩ prog_13_method_2_code 2 none) ∈ gw := gw_of (List.mem_of_getElem? (i := 251) (by rfl)) (by decide +kernel)
theorem kw_252 : (Cond.methodLink "java/lang/RuntimeException" 7 ⟨"java/lang/Exception", "<init>", "(Ljava/lang/String;)V"⟩) ∈ gw := gw_of (List.mem_of_getElem? (i := 252) (by decide +kernel)) (by decide +kernel)
theorem kw_253 : (Cond.instanceMethod ⟨"java/lang/Exception", "<init>", "(Ljava/lang/String;)V"⟩) ∈ gw := gw_of (List.mem_of_getElem? (i := 253) (by decide +kernel)) (by decide +kernel)
set_option maxRecDepth 20000 in
theorem kw_254 : (Cond.code ⟨"java/lang/Exception", "<init>", "(Ljava/lang/String;)V"⟩ prog_7_method_2_code 2 none) ∈ gw := gw_of (List.mem_of_getElem? (i := 254) (by rfl)) (by decide +kernel)
theorem kw_255 : (Cond.methodLink "java/lang/Exception" 7 ⟨"java/lang/Throwable", "<init>", "(Ljava/lang/String;)V"⟩) ∈ gw := gw_of (List.mem_of_getElem? (i := 255) (by decide +kernel)) (by decide +kernel)
theorem kw_256 : (Cond.instanceMethod ⟨"java/lang/Throwable", "<init>", "(Ljava/lang/String;)V"⟩) ∈ gw := gw_of (List.mem_of_getElem? (i := 256) (by decide +kernel)) (by decide +kernel)
set_option maxRecDepth 20000 in
theorem kw_257 : (Cond.code ⟨"java/lang/Throwable", "<init>", "(Ljava/lang/String;)V"⟩ prog_15_method_2_code 2 none) ∈ gw := gw_of (List.mem_of_getElem? (i := 257) (by rfl)) (by decide +kernel)
theorem kw_259 : (Cond.fieldLink "java/lang/Throwable" 31 "java/lang/Throwable" "detailMessage" "Ljava/lang/String;") ∈ gw := gw_of (List.mem_of_getElem? (i := 259) (by decide +kernel)) (by decide +kernel)
theorem kw_260 : (Cond.fieldLink "java/lang/Throwable" 7 "java/lang/Throwable" "cause" "Ljava/lang/Throwable;") ∈ gw := gw_of (List.mem_of_getElem? (i := 260) (by decide +kernel)) (by decide +kernel)
theorem kw_261 : (Cond.fieldLink "java/lang/Throwable" 17 "java/lang/Throwable" "stackTrace" "[Ljava/lang/StackTraceElement;") ∈ gw := gw_of (List.mem_of_getElem? (i := 261) (by decide +kernel)) (by decide +kernel)
theorem kw_262 : (Cond.fieldLink "java/lang/Throwable" 24 "java/lang/Throwable" "suppressedExceptions" "Ljava/util/List;") ∈ gw := gw_of (List.mem_of_getElem? (i := 262) (by decide +kernel)) (by decide +kernel)
theorem kw_267 : (Cond.lays "java/lang/IllegalStateException" "java/lang/Throwable" "depth" "I") ∈ gw := gw_of (List.mem_of_getElem? (i := 267) (by decide +kernel)) (by decide +kernel)
theorem kw_271 : (Cond.arrayClass .byte) ∈ gw := gw_of (List.mem_of_getElem? (i := 271) (by decide +kernel)) (by decide +kernel)
theorem kw_272 : (Cond.methodLink "FewChanges" 54 y_F_isWithin) ∈ gw := gw_of (List.mem_of_getElem? (i := 272) (by decide +kernel)) (by decide +kernel)
theorem kw_273 : (Cond.static y_F_isWithin) ∈ gw := gw_of (List.mem_of_getElem? (i := 273) (by decide +kernel)) (by decide +kernel)
set_option maxRecDepth 20000 in
theorem kw_274 : (Cond.code y_F_isWithin b_F_isWithin 3 (some .boolean)) ∈ gw := gw_of (List.mem_of_getElem? (i := 274) (by rfl)) (by decide +kernel)
theorem kw_275 : (Cond.classLink "FewChanges" 58 "java/lang/IllegalArgumentException") ∈ gw := gw_of (List.mem_of_getElem? (i := 275) (by decide +kernel)) (by decide +kernel)
theorem kw_276 : (Cond.instantiable "java/lang/IllegalArgumentException" 6) ∈ gw := gw_of (List.mem_of_getElem? (i := 276) (by decide +kernel)) (by decide +kernel)
theorem kw_278 : (Cond.selects "java/lang/IllegalArgumentException" ⟨"java/lang/Throwable", "fillInStackTrace", "(I)Ljava/lang/Throwable;"⟩ ⟨"java/lang/Throwable", "fillInStackTrace", "(I)Ljava/lang/Throwable;"⟩) ∈ gw := gw_of (List.mem_of_getElem? (i := 278) (by decide +kernel)) (by decide +kernel)
theorem kw_279 : (Cond.lays "java/lang/IllegalArgumentException" "java/lang/Throwable" "cause" "Ljava/lang/Throwable;") ∈ gw := gw_of (List.mem_of_getElem? (i := 279) (by decide +kernel)) (by decide +kernel)
theorem kw_280 : (Cond.lays "java/lang/IllegalArgumentException" "java/lang/Throwable" "stackTrace" "[Ljava/lang/StackTraceElement;") ∈ gw := gw_of (List.mem_of_getElem? (i := 280) (by decide +kernel)) (by decide +kernel)
theorem kw_281 : (Cond.lays "java/lang/IllegalArgumentException" "java/lang/Throwable" "suppressedExceptions" "Ljava/util/List;") ∈ gw := gw_of (List.mem_of_getElem? (i := 281) (by decide +kernel)) (by decide +kernel)
theorem kw_282 : (Cond.lays "java/lang/IllegalArgumentException" "java/lang/Throwable" "detailMessage" "Ljava/lang/String;") ∈ gw := gw_of (List.mem_of_getElem? (i := 282) (by decide +kernel)) (by decide +kernel)
theorem kw_283 : (Cond.lays "java/lang/IllegalArgumentException" "java/lang/Throwable" "backtrace" "Ljava/lang/Object;") ∈ gw := gw_of (List.mem_of_getElem? (i := 283) (by decide +kernel)) (by decide +kernel)
theorem kw_285 : (Cond.methodLink "FewChanges" 62 ⟨"java/lang/IllegalArgumentException", "<init>", "(Ljava/lang/String;)V"⟩) ∈ gw := gw_of (List.mem_of_getElem? (i := 285) (by decide +kernel)) (by decide +kernel)
theorem kw_286 : (Cond.instanceMethod ⟨"java/lang/IllegalArgumentException", "<init>", "(Ljava/lang/String;)V"⟩) ∈ gw := gw_of (List.mem_of_getElem? (i := 286) (by decide +kernel)) (by decide +kernel)
set_option maxRecDepth 20000 in
theorem kw_287 : (Cond.code ⟨"java/lang/IllegalArgumentException", "<init>", "(Ljava/lang/String;)V"⟩ prog_8_method_2_code 2 none) ∈ gw := gw_of (List.mem_of_getElem? (i := 287) (by rfl)) (by decide +kernel)
theorem kw_288 : (Cond.methodLink "java/lang/IllegalArgumentException" 7 ⟨"java/lang/RuntimeException", "<init>", "(Ljava/lang/String;)V"⟩) ∈ gw := gw_of (List.mem_of_getElem? (i := 288) (by decide +kernel)) (by decide +kernel)
theorem kw_289 : (Cond.lays "java/lang/IllegalArgumentException" "java/lang/Throwable" "depth" "I") ∈ gw := gw_of (List.mem_of_getElem? (i := 289) (by decide +kernel)) (by decide +kernel)
theorem kw_291 : (Cond.methodLink "FewChanges" 63 y_S_addOrder) ∈ gw := gw_of (List.mem_of_getElem? (i := 291) (by decide +kernel)) (by decide +kernel)
theorem kw_292 : (Cond.instanceMethod y_S_addOrder) ∈ gw := gw_of (List.mem_of_getElem? (i := 292) (by decide +kernel)) (by decide +kernel)
theorem kw_293 : (Cond.selects "FewChanges$Shop" y_S_addOrder y_S_addOrder) ∈ gw := gw_of (List.mem_of_getElem? (i := 293) (by decide +kernel)) (by decide +kernel)
set_option maxRecDepth 20000 in
theorem kw_294 : (Cond.code y_S_addOrder b_S_addOrder 3 (some .int)) ∈ gw := gw_of (List.mem_of_getElem? (i := 294) (by rfl)) (by decide +kernel)
theorem kw_295 : (Cond.methodLink "FewChangesLaw" 80 y_L_heat) ∈ gw := gw_of (List.mem_of_getElem? (i := 295) (by decide +kernel)) (by decide +kernel)
theorem kw_296 : (Cond.static y_L_heat) ∈ gw := gw_of (List.mem_of_getElem? (i := 296) (by decide +kernel)) (by decide +kernel)
set_option maxRecDepth 20000 in
theorem kw_297 : (Cond.codeWith y_L_heat b_L_heat 8 (some .int) [(0, 16, 19, 21), (0, 16, 23, 13), (0, 16, 27, 15), (0, 16, 31, 23)]) ∈ gw := gw_of (List.mem_of_getElem? (i := 297) (by rfl)) (by decide +kernel)
theorem kw_298 : (Cond.classLink "FewChangesLaw" 21 "java/lang/IndexOutOfBoundsException") ∈ gw := gw_of (List.mem_of_getElem? (i := 298) (by decide +kernel)) (by decide +kernel)
theorem kw_299 : (Cond.classLink "FewChangesLaw" 23 "java/lang/UnsupportedOperationException") ∈ gw := gw_of (List.mem_of_getElem? (i := 299) (by decide +kernel)) (by decide +kernel)
theorem kw_300 : (Cond.methodLink "FewChangesLaw" 17 y_F_heat) ∈ gw := gw_of (List.mem_of_getElem? (i := 300) (by decide +kernel)) (by decide +kernel)
theorem kw_301 : (Cond.instanceMethod y_F_heat) ∈ gw := gw_of (List.mem_of_getElem? (i := 301) (by decide +kernel)) (by decide +kernel)
theorem kw_302 : (Cond.selects "FewChanges" y_F_heat y_F_heat) ∈ gw := gw_of (List.mem_of_getElem? (i := 302) (by decide +kernel)) (by decide +kernel)
set_option maxRecDepth 20000 in
theorem kw_303 : (Cond.code y_F_heat b_F_heat 7 (some .int)) ∈ gw := gw_of (List.mem_of_getElem? (i := 303) (by rfl)) (by decide +kernel)
theorem kw_304 : (Cond.methodLink "FewChanges" 67 y_F_isOrder) ∈ gw := gw_of (List.mem_of_getElem? (i := 304) (by decide +kernel)) (by decide +kernel)
theorem kw_306 : (Cond.instanceMethod y_F_isOrder) ∈ gw := gw_of (List.mem_of_getElem? (i := 306) (by decide +kernel)) (by decide +kernel)
set_option maxRecDepth 20000 in
theorem kw_307 : (Cond.code y_F_isOrder b_F_isOrder 2 (some .boolean)) ∈ gw := gw_of (List.mem_of_getElem? (i := 307) (by rfl)) (by decide +kernel)
theorem kw_308 : (Cond.methodLink "FewChanges" 71 y_F_isUnit) ∈ gw := gw_of (List.mem_of_getElem? (i := 308) (by decide +kernel)) (by decide +kernel)
theorem kw_309 : (Cond.static y_F_isUnit) ∈ gw := gw_of (List.mem_of_getElem? (i := 309) (by decide +kernel)) (by decide +kernel)
set_option maxRecDepth 20000 in
theorem kw_310 : (Cond.code y_F_isUnit b_F_isUnit 1 (some .boolean)) ∈ gw := gw_of (List.mem_of_getElem? (i := 310) (by rfl)) (by decide +kernel)
theorem kw_311 : (Cond.classLink "FewChanges" 74 "java/lang/IndexOutOfBoundsException") ∈ gw := gw_of (List.mem_of_getElem? (i := 311) (by decide +kernel)) (by decide +kernel)
theorem kw_312 : (Cond.instantiable "java/lang/IndexOutOfBoundsException" 6) ∈ gw := gw_of (List.mem_of_getElem? (i := 312) (by decide +kernel)) (by decide +kernel)
theorem kw_314 : (Cond.selects "java/lang/IndexOutOfBoundsException" ⟨"java/lang/Throwable", "fillInStackTrace", "(I)Ljava/lang/Throwable;"⟩ ⟨"java/lang/Throwable", "fillInStackTrace", "(I)Ljava/lang/Throwable;"⟩) ∈ gw := gw_of (List.mem_of_getElem? (i := 314) (by decide +kernel)) (by decide +kernel)
theorem kw_315 : (Cond.lays "java/lang/IndexOutOfBoundsException" "java/lang/Throwable" "cause" "Ljava/lang/Throwable;") ∈ gw := gw_of (List.mem_of_getElem? (i := 315) (by decide +kernel)) (by decide +kernel)
theorem kw_316 : (Cond.lays "java/lang/IndexOutOfBoundsException" "java/lang/Throwable" "stackTrace" "[Ljava/lang/StackTraceElement;") ∈ gw := gw_of (List.mem_of_getElem? (i := 316) (by decide +kernel)) (by decide +kernel)
theorem kw_317 : (Cond.lays "java/lang/IndexOutOfBoundsException" "java/lang/Throwable" "suppressedExceptions" "Ljava/util/List;") ∈ gw := gw_of (List.mem_of_getElem? (i := 317) (by decide +kernel)) (by decide +kernel)
theorem kw_318 : (Cond.lays "java/lang/IndexOutOfBoundsException" "java/lang/Throwable" "detailMessage" "Ljava/lang/String;") ∈ gw := gw_of (List.mem_of_getElem? (i := 318) (by decide +kernel)) (by decide +kernel)
theorem kw_319 : (Cond.lays "java/lang/IndexOutOfBoundsException" "java/lang/Throwable" "backtrace" "Ljava/lang/Object;") ∈ gw := gw_of (List.mem_of_getElem? (i := 319) (by decide +kernel)) (by decide +kernel)
theorem kw_321 : (Cond.methodLink "FewChanges" 78 ⟨"java/lang/IndexOutOfBoundsException", "<init>", "(Ljava/lang/String;)V"⟩) ∈ gw := gw_of (List.mem_of_getElem? (i := 321) (by decide +kernel)) (by decide +kernel)
theorem kw_322 : (Cond.instanceMethod ⟨"java/lang/IndexOutOfBoundsException", "<init>", "(Ljava/lang/String;)V"⟩) ∈ gw := gw_of (List.mem_of_getElem? (i := 322) (by decide +kernel)) (by decide +kernel)
set_option maxRecDepth 20000 in
theorem kw_323 : (Cond.code ⟨"java/lang/IndexOutOfBoundsException", "<init>", "(Ljava/lang/String;)V"⟩ prog_10_method_2_code 2 none) ∈ gw := gw_of (List.mem_of_getElem? (i := 323) (by rfl)) (by decide +kernel)
theorem kw_324 : (Cond.methodLink "java/lang/IndexOutOfBoundsException" 7 ⟨"java/lang/RuntimeException", "<init>", "(Ljava/lang/String;)V"⟩) ∈ gw := gw_of (List.mem_of_getElem? (i := 324) (by decide +kernel)) (by decide +kernel)
theorem kw_325 : (Cond.lays "java/lang/IndexOutOfBoundsException" "java/lang/Throwable" "depth" "I") ∈ gw := gw_of (List.mem_of_getElem? (i := 325) (by decide +kernel)) (by decide +kernel)
theorem kw_328 : (Cond.methodLink "FewChanges" 84 y_F_isMinute) ∈ gw := gw_of (List.mem_of_getElem? (i := 328) (by decide +kernel)) (by decide +kernel)
theorem kw_329 : (Cond.static y_F_isMinute) ∈ gw := gw_of (List.mem_of_getElem? (i := 329) (by decide +kernel)) (by decide +kernel)
set_option maxRecDepth 20000 in
theorem kw_330 : (Cond.code y_F_isMinute b_F_isMinute 1 (some .boolean)) ∈ gw := gw_of (List.mem_of_getElem? (i := 330) (by rfl)) (by decide +kernel)
theorem kw_332 : (Cond.methodLink "FewChanges" 89 y_F_mayTake) ∈ gw := gw_of (List.mem_of_getElem? (i := 332) (by decide +kernel)) (by decide +kernel)
theorem kw_333 : (Cond.static y_F_mayTake) ∈ gw := gw_of (List.mem_of_getElem? (i := 333) (by decide +kernel)) (by decide +kernel)
set_option maxRecDepth 20000 in
theorem kw_334 : (Cond.code y_F_mayTake b_F_mayTake 2 (some .boolean)) ∈ gw := gw_of (List.mem_of_getElem? (i := 334) (by rfl)) (by decide +kernel)
theorem kw_335 : (Cond.methodLink "FewChanges" 93 y_S_hasRoom) ∈ gw := gw_of (List.mem_of_getElem? (i := 335) (by decide +kernel)) (by decide +kernel)
theorem kw_336 : (Cond.instanceMethod y_S_hasRoom) ∈ gw := gw_of (List.mem_of_getElem? (i := 336) (by decide +kernel)) (by decide +kernel)
theorem kw_337 : (Cond.selects "FewChanges$Shop" y_S_hasRoom y_S_hasRoom) ∈ gw := gw_of (List.mem_of_getElem? (i := 337) (by decide +kernel)) (by decide +kernel)
set_option maxRecDepth 20000 in
theorem kw_338 : (Cond.code y_S_hasRoom b_S_hasRoom 9 (some .boolean)) ∈ gw := gw_of (List.mem_of_getElem? (i := 338) (by rfl)) (by decide +kernel)
theorem kw_340 : (Cond.static y_F_minutesAsBits) ∈ gw := gw_of (List.mem_of_getElem? (i := 340) (by decide +kernel)) (by decide +kernel)
set_option maxRecDepth 20000 in
theorem kw_341 : (Cond.code y_F_minutesAsBits b_F_minutesAsBits 2 (some .long)) ∈ gw := gw_of (List.mem_of_getElem? (i := 341) (by rfl)) (by decide +kernel)
theorem kw_342 : (Cond.classLink "FewChanges" 97 "java/lang/UnsupportedOperationException") ∈ gw := gw_of (List.mem_of_getElem? (i := 342) (by decide +kernel)) (by decide +kernel)
theorem kw_343 : (Cond.instantiable "java/lang/UnsupportedOperationException" 6) ∈ gw := gw_of (List.mem_of_getElem? (i := 343) (by decide +kernel)) (by decide +kernel)
theorem kw_345 : (Cond.selects "java/lang/UnsupportedOperationException" ⟨"java/lang/Throwable", "fillInStackTrace", "(I)Ljava/lang/Throwable;"⟩ ⟨"java/lang/Throwable", "fillInStackTrace", "(I)Ljava/lang/Throwable;"⟩) ∈ gw := gw_of (List.mem_of_getElem? (i := 345) (by decide +kernel)) (by decide +kernel)
theorem kw_346 : (Cond.lays "java/lang/UnsupportedOperationException" "java/lang/Throwable" "cause" "Ljava/lang/Throwable;") ∈ gw := gw_of (List.mem_of_getElem? (i := 346) (by decide +kernel)) (by decide +kernel)
theorem kw_347 : (Cond.lays "java/lang/UnsupportedOperationException" "java/lang/Throwable" "stackTrace" "[Ljava/lang/StackTraceElement;") ∈ gw := gw_of (List.mem_of_getElem? (i := 347) (by decide +kernel)) (by decide +kernel)
theorem kw_348 : (Cond.lays "java/lang/UnsupportedOperationException" "java/lang/Throwable" "suppressedExceptions" "Ljava/util/List;") ∈ gw := gw_of (List.mem_of_getElem? (i := 348) (by decide +kernel)) (by decide +kernel)
theorem kw_349 : (Cond.lays "java/lang/UnsupportedOperationException" "java/lang/Throwable" "detailMessage" "Ljava/lang/String;") ∈ gw := gw_of (List.mem_of_getElem? (i := 349) (by decide +kernel)) (by decide +kernel)
theorem kw_350 : (Cond.lays "java/lang/UnsupportedOperationException" "java/lang/Throwable" "backtrace" "Ljava/lang/Object;") ∈ gw := gw_of (List.mem_of_getElem? (i := 350) (by decide +kernel)) (by decide +kernel)
theorem kw_352 : (Cond.methodLink "FewChanges" 101 ⟨"java/lang/UnsupportedOperationException", "<init>", "(Ljava/lang/String;)V"⟩) ∈ gw := gw_of (List.mem_of_getElem? (i := 352) (by decide +kernel)) (by decide +kernel)
theorem kw_353 : (Cond.instanceMethod ⟨"java/lang/UnsupportedOperationException", "<init>", "(Ljava/lang/String;)V"⟩) ∈ gw := gw_of (List.mem_of_getElem? (i := 353) (by decide +kernel)) (by decide +kernel)
set_option maxRecDepth 20000 in
theorem kw_354 : (Cond.code ⟨"java/lang/UnsupportedOperationException", "<init>", "(Ljava/lang/String;)V"⟩ prog_16_method_2_code 2 none) ∈ gw := gw_of (List.mem_of_getElem? (i := 354) (by rfl)) (by decide +kernel)
theorem kw_355 : (Cond.methodLink "java/lang/UnsupportedOperationException" 7 ⟨"java/lang/RuntimeException", "<init>", "(Ljava/lang/String;)V"⟩) ∈ gw := gw_of (List.mem_of_getElem? (i := 355) (by decide +kernel)) (by decide +kernel)
theorem kw_356 : (Cond.lays "java/lang/UnsupportedOperationException" "java/lang/Throwable" "depth" "I") ∈ gw := gw_of (List.mem_of_getElem? (i := 356) (by decide +kernel)) (by decide +kernel)
theorem kw_358 : (Cond.methodLink "FewChanges" 102 y_S_addHeat) ∈ gw := gw_of (List.mem_of_getElem? (i := 358) (by decide +kernel)) (by decide +kernel)
theorem kw_359 : (Cond.instanceMethod y_S_addHeat) ∈ gw := gw_of (List.mem_of_getElem? (i := 359) (by decide +kernel)) (by decide +kernel)
theorem kw_360 : (Cond.selects "FewChanges$Shop" y_S_addHeat y_S_addHeat) ∈ gw := gw_of (List.mem_of_getElem? (i := 360) (by decide +kernel)) (by decide +kernel)
set_option maxRecDepth 20000 in
theorem kw_361 : (Cond.code y_S_addHeat b_S_addHeat 3 (some .int)) ∈ gw := gw_of (List.mem_of_getElem? (i := 361) (by rfl)) (by decide +kernel)
theorem kw_362 : (Cond.methodLink "FewChanges" 105 y_P_put) ∈ gw := gw_of (List.mem_of_getElem? (i := 362) (by decide +kernel)) (by decide +kernel)
theorem kw_363 : (Cond.instanceMethod y_P_put) ∈ gw := gw_of (List.mem_of_getElem? (i := 363) (by decide +kernel)) (by decide +kernel)
theorem kw_364 : (Cond.selects "FewChanges$Plan" y_P_put y_P_put) ∈ gw := gw_of (List.mem_of_getElem? (i := 364) (by decide +kernel)) (by decide +kernel)
set_option maxRecDepth 20000 in
theorem kw_365 : (Cond.code y_P_put b_P_put 4 none) ∈ gw := gw_of (List.mem_of_getElem? (i := 365) (by rfl)) (by decide +kernel)
theorem kw_366 : (Cond.methodLink "FewChanges" 113 y_F_forgetCopiesAndUndo) ∈ gw := gw_of (List.mem_of_getElem? (i := 366) (by decide +kernel)) (by decide +kernel)
theorem kw_368 : (Cond.instanceMethod y_F_forgetCopiesAndUndo) ∈ gw := gw_of (List.mem_of_getElem? (i := 368) (by decide +kernel)) (by decide +kernel)
set_option maxRecDepth 20000 in
theorem kw_369 : (Cond.code y_F_forgetCopiesAndUndo b_F_forgetCopiesAndUndo 2 none) ∈ gw := gw_of (List.mem_of_getElem? (i := 369) (by rfl)) (by decide +kernel)
theorem kw_370 : (Cond.methodLink "FewChangesLaw" 84 y_L_stop) ∈ gw := gw_of (List.mem_of_getElem? (i := 370) (by decide +kernel)) (by decide +kernel)
theorem kw_371 : (Cond.static y_L_stop) ∈ gw := gw_of (List.mem_of_getElem? (i := 371) (by decide +kernel)) (by decide +kernel)
set_option maxRecDepth 20000 in
theorem kw_372 : (Cond.codeWith y_L_stop b_L_stop 6 (some .int) [(0, 12, 15, 21), (0, 12, 19, 13), (0, 12, 23, 15)]) ∈ gw := gw_of (List.mem_of_getElem? (i := 372) (by rfl)) (by decide +kernel)
theorem kw_373 : (Cond.methodLink "FewChangesLaw" 25 y_F_stop) ∈ gw := gw_of (List.mem_of_getElem? (i := 373) (by decide +kernel)) (by decide +kernel)
theorem kw_374 : (Cond.instanceMethod y_F_stop) ∈ gw := gw_of (List.mem_of_getElem? (i := 374) (by decide +kernel)) (by decide +kernel)
theorem kw_375 : (Cond.selects "FewChanges" y_F_stop y_F_stop) ∈ gw := gw_of (List.mem_of_getElem? (i := 375) (by decide +kernel)) (by decide +kernel)
set_option maxRecDepth 20000 in
theorem kw_376 : (Cond.code y_F_stop b_F_stop 4 (some .int)) ∈ gw := gw_of (List.mem_of_getElem? (i := 376) (by rfl)) (by decide +kernel)
theorem kw_380 : (Cond.methodLink "FewChanges" 125 y_S_addStop) ∈ gw := gw_of (List.mem_of_getElem? (i := 380) (by decide +kernel)) (by decide +kernel)
theorem kw_381 : (Cond.instanceMethod y_S_addStop) ∈ gw := gw_of (List.mem_of_getElem? (i := 381) (by decide +kernel)) (by decide +kernel)
theorem kw_382 : (Cond.selects "FewChanges$Shop" y_S_addStop y_S_addStop) ∈ gw := gw_of (List.mem_of_getElem? (i := 382) (by decide +kernel)) (by decide +kernel)
set_option maxRecDepth 20000 in
theorem kw_383 : (Cond.code y_S_addStop b_S_addStop 4 (some .int)) ∈ gw := gw_of (List.mem_of_getElem? (i := 383) (by rfl)) (by decide +kernel)
theorem kw_384 : (Cond.methodLink "FewChangesLaw" 92 y_L_clock) ∈ gw := gw_of (List.mem_of_getElem? (i := 384) (by decide +kernel)) (by decide +kernel)
theorem kw_385 : (Cond.static y_L_clock) ∈ gw := gw_of (List.mem_of_getElem? (i := 385) (by decide +kernel)) (by decide +kernel)
set_option maxRecDepth 20000 in
theorem kw_386 : (Cond.codeWith y_L_clock b_L_clock 4 (some .int) [(0, 6, 9, 15)]) ∈ gw := gw_of (List.mem_of_getElem? (i := 386) (by rfl)) (by decide +kernel)
theorem kw_387 : (Cond.methodLink "FewChangesLaw" 29 y_F_clock) ∈ gw := gw_of (List.mem_of_getElem? (i := 387) (by decide +kernel)) (by decide +kernel)
theorem kw_388 : (Cond.instanceMethod y_F_clock) ∈ gw := gw_of (List.mem_of_getElem? (i := 388) (by decide +kernel)) (by decide +kernel)
theorem kw_389 : (Cond.selects "FewChanges" y_F_clock y_F_clock) ∈ gw := gw_of (List.mem_of_getElem? (i := 389) (by decide +kernel)) (by decide +kernel)
set_option maxRecDepth 20000 in
theorem kw_390 : (Cond.code y_F_clock b_F_clock 3 none) ∈ gw := gw_of (List.mem_of_getElem? (i := 390) (by rfl)) (by decide +kernel)
theorem kw_392 : (Cond.methodLink "FewChangesLaw" 96 y_L_place) ∈ gw := gw_of (List.mem_of_getElem? (i := 392) (by decide +kernel)) (by decide +kernel)
theorem kw_393 : (Cond.static y_L_place) ∈ gw := gw_of (List.mem_of_getElem? (i := 393) (by decide +kernel)) (by decide +kernel)
set_option maxRecDepth 20000 in
theorem kw_394 : (Cond.codeWith y_L_place b_L_place 5 (some .int) [(0, 7, 10, 21), (0, 7, 14, 13), (0, 7, 18, 15), (0, 7, 22, 23)]) ∈ gw := gw_of (List.mem_of_getElem? (i := 394) (by rfl)) (by decide +kernel)
theorem kw_395 : (Cond.methodLink "FewChangesLaw" 33 y_F_place) ∈ gw := gw_of (List.mem_of_getElem? (i := 395) (by decide +kernel)) (by decide +kernel)
theorem kw_396 : (Cond.instanceMethod y_F_place) ∈ gw := gw_of (List.mem_of_getElem? (i := 396) (by decide +kernel)) (by decide +kernel)
theorem kw_397 : (Cond.selects "FewChanges" y_F_place y_F_place) ∈ gw := gw_of (List.mem_of_getElem? (i := 397) (by decide +kernel)) (by decide +kernel)
set_option maxRecDepth 20000 in
theorem kw_398 : (Cond.code y_F_place b_F_place 4 none) ∈ gw := gw_of (List.mem_of_getElem? (i := 398) (by rfl)) (by decide +kernel)
theorem kw_399 : (Cond.methodLink "FewChanges" 140 y_F_isHeat) ∈ gw := gw_of (List.mem_of_getElem? (i := 399) (by decide +kernel)) (by decide +kernel)
theorem kw_401 : (Cond.instanceMethod y_F_isHeat) ∈ gw := gw_of (List.mem_of_getElem? (i := 401) (by decide +kernel)) (by decide +kernel)
set_option maxRecDepth 20000 in
theorem kw_402 : (Cond.code y_F_isHeat b_F_isHeat 2 (some .boolean)) ∈ gw := gw_of (List.mem_of_getElem? (i := 402) (by rfl)) (by decide +kernel)
theorem kw_404 : (Cond.methodLink "FewChanges" 145 y_S_isFrozen) ∈ gw := gw_of (List.mem_of_getElem? (i := 404) (by decide +kernel)) (by decide +kernel)
theorem kw_405 : (Cond.instanceMethod y_S_isFrozen) ∈ gw := gw_of (List.mem_of_getElem? (i := 405) (by decide +kernel)) (by decide +kernel)
theorem kw_406 : (Cond.selects "FewChanges$Shop" y_S_isFrozen y_S_isFrozen) ∈ gw := gw_of (List.mem_of_getElem? (i := 406) (by decide +kernel)) (by decide +kernel)
set_option maxRecDepth 20000 in
theorem kw_407 : (Cond.code y_S_isFrozen b_S_isFrozen 3 (some .boolean)) ∈ gw := gw_of (List.mem_of_getElem? (i := 407) (by rfl)) (by decide +kernel)
theorem kw_410 : (Cond.methodLink "FewChanges" 153 y_S_fits) ∈ gw := gw_of (List.mem_of_getElem? (i := 410) (by decide +kernel)) (by decide +kernel)
theorem kw_411 : (Cond.instanceMethod y_S_fits) ∈ gw := gw_of (List.mem_of_getElem? (i := 411) (by decide +kernel)) (by decide +kernel)
theorem kw_412 : (Cond.selects "FewChanges$Shop" y_S_fits y_S_fits) ∈ gw := gw_of (List.mem_of_getElem? (i := 412) (by decide +kernel)) (by decide +kernel)
set_option maxRecDepth 20000 in
theorem kw_413 : (Cond.code y_S_fits b_S_fits 5 (some .boolean)) ∈ gw := gw_of (List.mem_of_getElem? (i := 413) (by rfl)) (by decide +kernel)
theorem kw_415 : (Cond.methodLink "FewChanges$Shop" 63 y_S_hasRoom) ∈ gw := gw_of (List.mem_of_getElem? (i := 415) (by decide +kernel)) (by decide +kernel)
theorem kw_417 : (Cond.methodLink "FewChanges" 159 y_F_rememberForUndo) ∈ gw := gw_of (List.mem_of_getElem? (i := 417) (by decide +kernel)) (by decide +kernel)
theorem kw_419 : (Cond.instanceMethod y_F_rememberForUndo) ∈ gw := gw_of (List.mem_of_getElem? (i := 419) (by decide +kernel)) (by decide +kernel)
set_option maxRecDepth 20000 in
theorem kw_420 : (Cond.code y_F_rememberForUndo b_F_rememberForUndo 1 none) ∈ gw := gw_of (List.mem_of_getElem? (i := 420) (by rfl)) (by decide +kernel)
theorem kw_421 : (Cond.methodLink "FewChanges" 186 y_P_takeFrom) ∈ gw := gw_of (List.mem_of_getElem? (i := 421) (by decide +kernel)) (by decide +kernel)
theorem kw_422 : (Cond.instanceMethod y_P_takeFrom) ∈ gw := gw_of (List.mem_of_getElem? (i := 422) (by decide +kernel)) (by decide +kernel)
theorem kw_423 : (Cond.selects "FewChanges$Plan" y_P_takeFrom y_P_takeFrom) ∈ gw := gw_of (List.mem_of_getElem? (i := 423) (by decide +kernel)) (by decide +kernel)
set_option maxRecDepth 20000 in
theorem kw_424 : (Cond.code y_P_takeFrom b_P_takeFrom 3 none) ∈ gw := gw_of (List.mem_of_getElem? (i := 424) (by rfl)) (by decide +kernel)
theorem kw_425 : (Cond.methodLink "FewChangesLaw" 100 y_L_divert) ∈ gw := gw_of (List.mem_of_getElem? (i := 425) (by decide +kernel)) (by decide +kernel)
theorem kw_426 : (Cond.static y_L_divert) ∈ gw := gw_of (List.mem_of_getElem? (i := 426) (by decide +kernel)) (by decide +kernel)
set_option maxRecDepth 20000 in
theorem kw_427 : (Cond.codeWith y_L_divert b_L_divert 4 (some .int) [(0, 6, 9, 21), (0, 6, 12, 23)]) ∈ gw := gw_of (List.mem_of_getElem? (i := 427) (by rfl)) (by decide +kernel)
theorem kw_428 : (Cond.methodLink "FewChangesLaw" 37 y_F_divert) ∈ gw := gw_of (List.mem_of_getElem? (i := 428) (by decide +kernel)) (by decide +kernel)
theorem kw_429 : (Cond.instanceMethod y_F_divert) ∈ gw := gw_of (List.mem_of_getElem? (i := 429) (by decide +kernel)) (by decide +kernel)
theorem kw_430 : (Cond.selects "FewChanges" y_F_divert y_F_divert) ∈ gw := gw_of (List.mem_of_getElem? (i := 430) (by decide +kernel)) (by decide +kernel)
set_option maxRecDepth 20000 in
theorem kw_431 : (Cond.code y_F_divert b_F_divert 4 none) ∈ gw := gw_of (List.mem_of_getElem? (i := 431) (by rfl)) (by decide +kernel)
theorem kw_434 : (Cond.methodLink "FewChangesLaw" 103 y_L_run) ∈ gw := gw_of (List.mem_of_getElem? (i := 434) (by decide +kernel)) (by decide +kernel)
theorem kw_435 : (Cond.static y_L_run) ∈ gw := gw_of (List.mem_of_getElem? (i := 435) (by decide +kernel)) (by decide +kernel)
set_option maxRecDepth 20000 in
theorem kw_436 : (Cond.codeWith y_L_run b_L_run 4 (some .int) [(0, 9, 12, 15)]) ∈ gw := gw_of (List.mem_of_getElem? (i := 436) (by rfl)) (by decide +kernel)
theorem kw_437 : (Cond.methodLink "FewChangesLaw" 40 y_F_run) ∈ gw := gw_of (List.mem_of_getElem? (i := 437) (by decide +kernel)) (by decide +kernel)
theorem kw_438 : (Cond.instanceMethod y_F_run) ∈ gw := gw_of (List.mem_of_getElem? (i := 438) (by decide +kernel)) (by decide +kernel)
theorem kw_439 : (Cond.selects "FewChanges" y_F_run y_F_run) ∈ gw := gw_of (List.mem_of_getElem? (i := 439) (by decide +kernel)) (by decide +kernel)
set_option maxRecDepth 20000 in
theorem kw_440 : (Cond.code y_F_run b_F_run 2 (some .int)) ∈ gw := gw_of (List.mem_of_getElem? (i := 440) (by rfl)) (by decide +kernel)
theorem kw_441 : (Cond.constant "FewChanges" 169 100000) ∈ gw := gw_of (List.mem_of_getElem? (i := 441) (by decide +kernel)) (by decide +kernel)
theorem kw_443 : (Cond.methodLink "FewChanges" 172 y_Q_replan) ∈ gw := gw_of (List.mem_of_getElem? (i := 443) (by decide +kernel)) (by decide +kernel)
theorem kw_444 : (Cond.instanceMethod y_Q_replan) ∈ gw := gw_of (List.mem_of_getElem? (i := 444) (by decide +kernel)) (by decide +kernel)
theorem kw_445 : (Cond.selects "FewChanges$Search" y_Q_replan y_Q_replan) ∈ gw := gw_of (List.mem_of_getElem? (i := 445) (by decide +kernel)) (by decide +kernel)
set_option maxRecDepth 20000 in
theorem kw_446 : (Cond.code y_Q_replan b_Q_replan 4 none) ∈ gw := gw_of (List.mem_of_getElem? (i := 446) (by rfl)) (by decide +kernel)
theorem kw_447 : (Cond.constant "FewChanges$Search" 36 1000000) ∈ gw := gw_of (List.mem_of_getElem? (i := 447) (by decide +kernel)) (by decide +kernel)
theorem kw_448 : (Cond.methodLink "FewChanges$Search" 56 y_P_takeFrom) ∈ gw := gw_of (List.mem_of_getElem? (i := 448) (by decide +kernel)) (by decide +kernel)
theorem kw_449 : (Cond.methodLink "FewChanges$Search" 60 y_Q_looseHeats) ∈ gw := gw_of (List.mem_of_getElem? (i := 449) (by decide +kernel)) (by decide +kernel)
theorem kw_451 : (Cond.instanceMethod y_Q_looseHeats) ∈ gw := gw_of (List.mem_of_getElem? (i := 451) (by decide +kernel)) (by decide +kernel)
set_option maxRecDepth 20000 in
theorem kw_452 : (Cond.code y_Q_looseHeats b_Q_looseHeats 3 (some .int)) ∈ gw := gw_of (List.mem_of_getElem? (i := 452) (by rfl)) (by decide +kernel)
theorem kw_453 : (Cond.methodLink "FewChanges$Search" 83 y_S_isFrozen) ∈ gw := gw_of (List.mem_of_getElem? (i := 453) (by decide +kernel)) (by decide +kernel)
theorem kw_454 : (Cond.methodLink "FewChanges$Search" 64 y_I_bitCount) ∈ gw := gw_of (List.mem_of_getElem? (i := 454) (by decide +kernel)) (by decide +kernel)
theorem kw_455 : (Cond.static y_I_bitCount) ∈ gw := gw_of (List.mem_of_getElem? (i := 455) (by decide +kernel)) (by decide +kernel)
set_option maxRecDepth 20000 in
theorem kw_456 : (Cond.code y_I_bitCount b_I_bitCount 1 (some .int)) ∈ gw := gw_of (List.mem_of_getElem? (i := 456) (by rfl)) (by decide +kernel)
theorem kw_457 : (Cond.constant "java/lang/Integer" 265 1431655765) ∈ gw := gw_of (List.mem_of_getElem? (i := 457) (by decide +kernel)) (by decide +kernel)
theorem kw_458 : (Cond.constant "java/lang/Integer" 266 858993459) ∈ gw := gw_of (List.mem_of_getElem? (i := 458) (by decide +kernel)) (by decide +kernel)
theorem kw_459 : (Cond.constant "java/lang/Integer" 267 252645135) ∈ gw := gw_of (List.mem_of_getElem? (i := 459) (by decide +kernel)) (by decide +kernel)
theorem kw_460 : (Cond.methodLink "FewChanges$Search" 70 y_Q_searchRound) ∈ gw := gw_of (List.mem_of_getElem? (i := 460) (by decide +kernel)) (by decide +kernel)
theorem kw_462 : (Cond.instanceMethod y_Q_searchRound) ∈ gw := gw_of (List.mem_of_getElem? (i := 462) (by decide +kernel)) (by decide +kernel)
set_option maxRecDepth 20000 in
theorem kw_463 : (Cond.code y_Q_searchRound b_Q_searchRound 3 none) ∈ gw := gw_of (List.mem_of_getElem? (i := 463) (by rfl)) (by decide +kernel)
theorem kw_464 : (Cond.methodLink "FewChanges$Search" 87 y_Q_searchSet) ∈ gw := gw_of (List.mem_of_getElem? (i := 464) (by decide +kernel)) (by decide +kernel)
theorem kw_466 : (Cond.instanceMethod y_Q_searchSet) ∈ gw := gw_of (List.mem_of_getElem? (i := 466) (by decide +kernel)) (by decide +kernel)
set_option maxRecDepth 20000 in
theorem kw_467 : (Cond.code y_Q_searchSet b_Q_searchSet 3 none) ∈ gw := gw_of (List.mem_of_getElem? (i := 467) (by rfl)) (by decide +kernel)
theorem kw_468 : (Cond.methodLink "FewChanges$Search" 93 y_Q_canOthersStay) ∈ gw := gw_of (List.mem_of_getElem? (i := 468) (by decide +kernel)) (by decide +kernel)
theorem kw_470 : (Cond.instanceMethod y_Q_canOthersStay) ∈ gw := gw_of (List.mem_of_getElem? (i := 470) (by decide +kernel)) (by decide +kernel)
set_option maxRecDepth 20000 in
theorem kw_471 : (Cond.code y_Q_canOthersStay b_Q_canOthersStay 5 (some .boolean)) ∈ gw := gw_of (List.mem_of_getElem? (i := 471) (by rfl)) (by decide +kernel)
theorem kw_472 : (Cond.methodLink "FewChanges$Search" 106 y_Q_isInSet) ∈ gw := gw_of (List.mem_of_getElem? (i := 472) (by decide +kernel)) (by decide +kernel)
theorem kw_474 : (Cond.instanceMethod y_Q_isInSet) ∈ gw := gw_of (List.mem_of_getElem? (i := 474) (by decide +kernel)) (by decide +kernel)
set_option maxRecDepth 20000 in
theorem kw_475 : (Cond.code y_Q_isInSet b_Q_isInSet 2 (some .boolean)) ∈ gw := gw_of (List.mem_of_getElem? (i := 475) (by rfl)) (by decide +kernel)
theorem kw_477 : (Cond.methodLink "FewChanges$Search" 124 y_P_put) ∈ gw := gw_of (List.mem_of_getElem? (i := 477) (by decide +kernel)) (by decide +kernel)
theorem kw_478 : (Cond.methodLink "FewChanges$Search" 96 y_Q_costOfOthers) ∈ gw := gw_of (List.mem_of_getElem? (i := 478) (by decide +kernel)) (by decide +kernel)
theorem kw_480 : (Cond.instanceMethod y_Q_costOfOthers) ∈ gw := gw_of (List.mem_of_getElem? (i := 480) (by decide +kernel)) (by decide +kernel)
set_option maxRecDepth 20000 in
theorem kw_481 : (Cond.code y_Q_costOfOthers b_Q_costOfOthers 3 (some .int)) ∈ gw := gw_of (List.mem_of_getElem? (i := 481) (by rfl)) (by decide +kernel)
theorem kw_482 : (Cond.methodLink "FewChanges$Search" 131 y_S_lateness) ∈ gw := gw_of (List.mem_of_getElem? (i := 482) (by decide +kernel)) (by decide +kernel)
theorem kw_483 : (Cond.methodLink "FewChanges$Search" 99 y_Q_placeFrom) ∈ gw := gw_of (List.mem_of_getElem? (i := 483) (by decide +kernel)) (by decide +kernel)
theorem kw_485 : (Cond.instanceMethod y_Q_placeFrom) ∈ gw := gw_of (List.mem_of_getElem? (i := 485) (by decide +kernel)) (by decide +kernel)
set_option maxRecDepth 20000 in
theorem kw_486 : (Cond.code y_Q_placeFrom b_Q_placeFrom 4 none) ∈ gw := gw_of (List.mem_of_getElem? (i := 486) (by rfl)) (by decide +kernel)
theorem kw_488 : (Cond.methodLink "FewChanges$Search" 142 y_Q_tryUnit) ∈ gw := gw_of (List.mem_of_getElem? (i := 488) (by decide +kernel)) (by decide +kernel)
theorem kw_490 : (Cond.instanceMethod y_Q_tryUnit) ∈ gw := gw_of (List.mem_of_getElem? (i := 490) (by decide +kernel)) (by decide +kernel)
set_option maxRecDepth 20000 in
theorem kw_491 : (Cond.code y_Q_tryUnit b_Q_tryUnit 8 none) ∈ gw := gw_of (List.mem_of_getElem? (i := 491) (by rfl)) (by decide +kernel)
theorem kw_492 : (Cond.methodLink "FewChanges$Search" 145 y_P_isAt) ∈ gw := gw_of (List.mem_of_getElem? (i := 492) (by decide +kernel)) (by decide +kernel)
theorem kw_493 : (Cond.instanceMethod y_P_isAt) ∈ gw := gw_of (List.mem_of_getElem? (i := 493) (by decide +kernel)) (by decide +kernel)
theorem kw_494 : (Cond.selects "FewChanges$Plan" y_P_isAt y_P_isAt) ∈ gw := gw_of (List.mem_of_getElem? (i := 494) (by decide +kernel)) (by decide +kernel)
set_option maxRecDepth 20000 in
theorem kw_495 : (Cond.code y_P_isAt b_P_isAt 4 (some .boolean)) ∈ gw := gw_of (List.mem_of_getElem? (i := 495) (by rfl)) (by decide +kernel)
theorem kw_496 : (Cond.methodLink "FewChanges$Search" 149 y_Q_tryPlace) ∈ gw := gw_of (List.mem_of_getElem? (i := 496) (by decide +kernel)) (by decide +kernel)
theorem kw_498 : (Cond.instanceMethod y_Q_tryPlace) ∈ gw := gw_of (List.mem_of_getElem? (i := 498) (by decide +kernel)) (by decide +kernel)
set_option maxRecDepth 20000 in
theorem kw_499 : (Cond.code y_Q_tryPlace b_Q_tryPlace 8 none) ∈ gw := gw_of (List.mem_of_getElem? (i := 499) (by rfl)) (by decide +kernel)
theorem kw_500 : (Cond.constantLong "FewChanges$Search" 153 (-1)) ∈ gw := gw_of (List.mem_of_getElem? (i := 500) (by decide +kernel)) (by decide +kernel)
theorem kw_501 : (Cond.methodLink "FewChanges$Search" 74 y_Q_hasFound) ∈ gw := gw_of (List.mem_of_getElem? (i := 501) (by decide +kernel)) (by decide +kernel)
theorem kw_502 : (Cond.instanceMethod y_Q_hasFound) ∈ gw := gw_of (List.mem_of_getElem? (i := 502) (by decide +kernel)) (by decide +kernel)
theorem kw_503 : (Cond.selects "FewChanges$Search" y_Q_hasFound y_Q_hasFound) ∈ gw := gw_of (List.mem_of_getElem? (i := 503) (by decide +kernel)) (by decide +kernel)
set_option maxRecDepth 20000 in
theorem kw_504 : (Cond.code y_Q_hasFound b_Q_hasFound 1 (some .boolean)) ∈ gw := gw_of (List.mem_of_getElem? (i := 504) (by rfl)) (by decide +kernel)
theorem kw_505 : (Cond.methodLink "FewChanges" 176 y_Q_hasFound) ∈ gw := gw_of (List.mem_of_getElem? (i := 505) (by decide +kernel)) (by decide +kernel)
theorem kw_506 : (Cond.methodLink "FewChangesLaw" 107 y_L_told) ∈ gw := gw_of (List.mem_of_getElem? (i := 506) (by decide +kernel)) (by decide +kernel)
theorem kw_507 : (Cond.static y_L_told) ∈ gw := gw_of (List.mem_of_getElem? (i := 507) (by decide +kernel)) (by decide +kernel)
set_option maxRecDepth 20000 in
theorem kw_508 : (Cond.codeWith y_L_told b_L_told 4 (some .int) [(0, 9, 12, 21), (0, 9, 15, 13)]) ∈ gw := gw_of (List.mem_of_getElem? (i := 508) (by rfl)) (by decide +kernel)
theorem kw_509 : (Cond.methodLink "FewChangesLaw" 44 y_F_told) ∈ gw := gw_of (List.mem_of_getElem? (i := 509) (by decide +kernel)) (by decide +kernel)
theorem kw_510 : (Cond.instanceMethod y_F_told) ∈ gw := gw_of (List.mem_of_getElem? (i := 510) (by decide +kernel)) (by decide +kernel)
theorem kw_511 : (Cond.selects "FewChanges" y_F_told y_F_told) ∈ gw := gw_of (List.mem_of_getElem? (i := 511) (by decide +kernel)) (by decide +kernel)
set_option maxRecDepth 20000 in
theorem kw_512 : (Cond.code y_F_told b_F_told 2 (some .int)) ∈ gw := gw_of (List.mem_of_getElem? (i := 512) (by rfl)) (by decide +kernel)
theorem kw_515 : (Cond.methodLink "FewChangesLaw" 110 y_L_at) ∈ gw := gw_of (List.mem_of_getElem? (i := 515) (by decide +kernel)) (by decide +kernel)
theorem kw_516 : (Cond.static y_L_at) ∈ gw := gw_of (List.mem_of_getElem? (i := 516) (by decide +kernel)) (by decide +kernel)
set_option maxRecDepth 20000 in
theorem kw_517 : (Cond.codeWith y_L_at b_L_at 5 (some .int) [(0, 10, 13, 21)]) ∈ gw := gw_of (List.mem_of_getElem? (i := 517) (by rfl)) (by decide +kernel)
theorem kw_518 : (Cond.methodLink "FewChangesLaw" 47 y_F_at) ∈ gw := gw_of (List.mem_of_getElem? (i := 518) (by decide +kernel)) (by decide +kernel)
theorem kw_519 : (Cond.instanceMethod y_F_at) ∈ gw := gw_of (List.mem_of_getElem? (i := 519) (by decide +kernel)) (by decide +kernel)
theorem kw_520 : (Cond.selects "FewChanges" y_F_at y_F_at) ∈ gw := gw_of (List.mem_of_getElem? (i := 520) (by decide +kernel)) (by decide +kernel)
set_option maxRecDepth 20000 in
theorem kw_521 : (Cond.code y_F_at b_F_at 3 (some .int)) ∈ gw := gw_of (List.mem_of_getElem? (i := 521) (by rfl)) (by decide +kernel)
theorem kw_523 : (Cond.methodLink "FewChangesLaw" 117 y_L_on) ∈ gw := gw_of (List.mem_of_getElem? (i := 523) (by decide +kernel)) (by decide +kernel)
theorem kw_524 : (Cond.static y_L_on) ∈ gw := gw_of (List.mem_of_getElem? (i := 524) (by decide +kernel)) (by decide +kernel)
set_option maxRecDepth 20000 in
theorem kw_525 : (Cond.codeWith y_L_on b_L_on 5 (some .int) [(0, 10, 13, 21), (0, 10, 17, 15)]) ∈ gw := gw_of (List.mem_of_getElem? (i := 525) (by rfl)) (by decide +kernel)
theorem kw_526 : (Cond.methodLink "FewChangesLaw" 50 y_F_on) ∈ gw := gw_of (List.mem_of_getElem? (i := 526) (by decide +kernel)) (by decide +kernel)
theorem kw_527 : (Cond.instanceMethod y_F_on) ∈ gw := gw_of (List.mem_of_getElem? (i := 527) (by decide +kernel)) (by decide +kernel)
theorem kw_528 : (Cond.selects "FewChanges" y_F_on y_F_on) ∈ gw := gw_of (List.mem_of_getElem? (i := 528) (by decide +kernel)) (by decide +kernel)
set_option maxRecDepth 20000 in
theorem kw_529 : (Cond.code y_F_on b_F_on 5 (some .int)) ∈ gw := gw_of (List.mem_of_getElem? (i := 529) (by rfl)) (by decide +kernel)
theorem kw_530 : (Cond.methodLink "FewChangesLaw" 120 y_L_keep) ∈ gw := gw_of (List.mem_of_getElem? (i := 530) (by decide +kernel)) (by decide +kernel)
theorem kw_531 : (Cond.static y_L_keep) ∈ gw := gw_of (List.mem_of_getElem? (i := 531) (by decide +kernel)) (by decide +kernel)
set_option maxRecDepth 20000 in
theorem kw_532 : (Cond.codeWith y_L_keep b_L_keep 3 (some .int) [(0, 5, 8, 21)]) ∈ gw := gw_of (List.mem_of_getElem? (i := 532) (by rfl)) (by decide +kernel)
theorem kw_533 : (Cond.methodLink "FewChangesLaw" 53 y_F_keep) ∈ gw := gw_of (List.mem_of_getElem? (i := 533) (by decide +kernel)) (by decide +kernel)
theorem kw_534 : (Cond.instanceMethod y_F_keep) ∈ gw := gw_of (List.mem_of_getElem? (i := 534) (by decide +kernel)) (by decide +kernel)
theorem kw_535 : (Cond.selects "FewChanges" y_F_keep y_F_keep) ∈ gw := gw_of (List.mem_of_getElem? (i := 535) (by decide +kernel)) (by decide +kernel)
set_option maxRecDepth 20000 in
theorem kw_536 : (Cond.code y_F_keep b_F_keep 2 none) ∈ gw := gw_of (List.mem_of_getElem? (i := 536) (by rfl)) (by decide +kernel)
theorem kw_537 : (Cond.methodLink "FewChanges" 219 y_F_isCopy) ∈ gw := gw_of (List.mem_of_getElem? (i := 537) (by decide +kernel)) (by decide +kernel)
theorem kw_538 : (Cond.static y_F_isCopy) ∈ gw := gw_of (List.mem_of_getElem? (i := 538) (by decide +kernel)) (by decide +kernel)
set_option maxRecDepth 20000 in
theorem kw_539 : (Cond.code y_F_isCopy b_F_isCopy 1 (some .boolean)) ∈ gw := gw_of (List.mem_of_getElem? (i := 539) (by rfl)) (by decide +kernel)
theorem kw_541 : (Cond.methodLink "FewChangesLaw" 124 y_L_compare) ∈ gw := gw_of (List.mem_of_getElem? (i := 541) (by decide +kernel)) (by decide +kernel)
theorem kw_542 : (Cond.static y_L_compare) ∈ gw := gw_of (List.mem_of_getElem? (i := 542) (by decide +kernel)) (by decide +kernel)
set_option maxRecDepth 20000 in
theorem kw_543 : (Cond.codeWith y_L_compare b_L_compare 4 (some .int) [(0, 9, 12, 21), (0, 9, 15, 13)]) ∈ gw := gw_of (List.mem_of_getElem? (i := 543) (by rfl)) (by decide +kernel)
theorem kw_544 : (Cond.methodLink "FewChangesLaw" 57 y_F_compare) ∈ gw := gw_of (List.mem_of_getElem? (i := 544) (by decide +kernel)) (by decide +kernel)
theorem kw_545 : (Cond.instanceMethod y_F_compare) ∈ gw := gw_of (List.mem_of_getElem? (i := 545) (by decide +kernel)) (by decide +kernel)
theorem kw_546 : (Cond.selects "FewChanges" y_F_compare y_F_compare) ∈ gw := gw_of (List.mem_of_getElem? (i := 546) (by decide +kernel)) (by decide +kernel)
set_option maxRecDepth 20000 in
theorem kw_547 : (Cond.code y_F_compare b_F_compare 4 (some .int)) ∈ gw := gw_of (List.mem_of_getElem? (i := 547) (by rfl)) (by decide +kernel)
theorem kw_549 : (Cond.methodLink "FewChanges" 226 y_P_isSameIn) ∈ gw := gw_of (List.mem_of_getElem? (i := 549) (by decide +kernel)) (by decide +kernel)
theorem kw_550 : (Cond.instanceMethod y_P_isSameIn) ∈ gw := gw_of (List.mem_of_getElem? (i := 550) (by decide +kernel)) (by decide +kernel)
theorem kw_551 : (Cond.selects "FewChanges$Plan" y_P_isSameIn y_P_isSameIn) ∈ gw := gw_of (List.mem_of_getElem? (i := 551) (by decide +kernel)) (by decide +kernel)
set_option maxRecDepth 20000 in
theorem kw_552 : (Cond.code y_P_isSameIn b_P_isSameIn 3 (some .boolean)) ∈ gw := gw_of (List.mem_of_getElem? (i := 552) (by rfl)) (by decide +kernel)
theorem kw_553 : (Cond.methodLink "FewChanges$Plan" 21 y_P_isAt) ∈ gw := gw_of (List.mem_of_getElem? (i := 553) (by decide +kernel)) (by decide +kernel)
theorem kw_554 : (Cond.methodLink "FewChangesLaw" 127 y_L_use) ∈ gw := gw_of (List.mem_of_getElem? (i := 554) (by decide +kernel)) (by decide +kernel)
theorem kw_555 : (Cond.static y_L_use) ∈ gw := gw_of (List.mem_of_getElem? (i := 555) (by decide +kernel)) (by decide +kernel)
set_option maxRecDepth 20000 in
theorem kw_556 : (Cond.codeWith y_L_use b_L_use 3 (some .int) [(0, 5, 8, 21), (0, 5, 11, 13)]) ∈ gw := gw_of (List.mem_of_getElem? (i := 556) (by rfl)) (by decide +kernel)
theorem kw_557 : (Cond.methodLink "FewChangesLaw" 60 y_F_use) ∈ gw := gw_of (List.mem_of_getElem? (i := 557) (by decide +kernel)) (by decide +kernel)
theorem kw_558 : (Cond.instanceMethod y_F_use) ∈ gw := gw_of (List.mem_of_getElem? (i := 558) (by decide +kernel)) (by decide +kernel)
theorem kw_559 : (Cond.selects "FewChanges" y_F_use y_F_use) ∈ gw := gw_of (List.mem_of_getElem? (i := 559) (by decide +kernel)) (by decide +kernel)
set_option maxRecDepth 20000 in
theorem kw_560 : (Cond.code y_F_use b_F_use 2 none) ∈ gw := gw_of (List.mem_of_getElem? (i := 560) (by rfl)) (by decide +kernel)
theorem kw_561 : (Cond.methodLink "FewChangesLaw" 130 y_L_undo) ∈ gw := gw_of (List.mem_of_getElem? (i := 561) (by decide +kernel)) (by decide +kernel)
theorem kw_562 : (Cond.static y_L_undo) ∈ gw := gw_of (List.mem_of_getElem? (i := 562) (by decide +kernel)) (by decide +kernel)
set_option maxRecDepth 20000 in
theorem kw_563 : (Cond.codeWith y_L_undo b_L_undo 2 (some .int) [(0, 4, 7, 13)]) ∈ gw := gw_of (List.mem_of_getElem? (i := 563) (by rfl)) (by decide +kernel)
theorem kw_564 : (Cond.methodLink "FewChangesLaw" 63 y_F_undo) ∈ gw := gw_of (List.mem_of_getElem? (i := 564) (by decide +kernel)) (by decide +kernel)
theorem kw_565 : (Cond.instanceMethod y_F_undo) ∈ gw := gw_of (List.mem_of_getElem? (i := 565) (by decide +kernel)) (by decide +kernel)
theorem kw_566 : (Cond.selects "FewChanges" y_F_undo y_F_undo) ∈ gw := gw_of (List.mem_of_getElem? (i := 566) (by decide +kernel)) (by decide +kernel)
set_option maxRecDepth 20000 in
theorem kw_567 : (Cond.code y_F_undo b_F_undo 1 none) ∈ gw := gw_of (List.mem_of_getElem? (i := 567) (by rfl)) (by decide +kernel)
theorem kw_569 : (Cond.classLink "FewChangesLaw" 67 "FewChangesModel") ∈ gw := gw_of (List.mem_of_getElem? (i := 569) (by decide +kernel)) (by decide +kernel)
theorem kw_570 : (Cond.instantiable "FewChangesModel" 23) ∈ gw := gw_of (List.mem_of_getElem? (i := 570) (by decide +kernel)) (by decide +kernel)
theorem kw_571 : (Cond.methodLink "FewChangesLaw" 69 y_M_init) ∈ gw := gw_of (List.mem_of_getElem? (i := 571) (by decide +kernel)) (by decide +kernel)
theorem kw_572 : (Cond.instanceMethod y_M_init) ∈ gw := gw_of (List.mem_of_getElem? (i := 572) (by decide +kernel)) (by decide +kernel)
set_option maxRecDepth 20000 in
theorem kw_573 : (Cond.code y_M_init b_M_init 1 none) ∈ gw := gw_of (List.mem_of_getElem? (i := 573) (by rfl)) (by decide +kernel)
theorem kw_574 : (Cond.methodLink "FewChangesModel" 1 objectInit) ∈ gw := gw_of (List.mem_of_getElem? (i := 574) (by decide +kernel)) (by decide +kernel)
theorem kw_575 : (Cond.fieldLink "FewChangesModel" 38 "FewChangesModel" "thrown" "I") ∈ gw := gw_of (List.mem_of_getElem? (i := 575) (by decide +kernel)) (by decide +kernel)
theorem kw_576 : (Cond.fieldLink "FewChangesModel" 65 "FewChangesModel" "orders" "I") ∈ gw := gw_of (List.mem_of_getElem? (i := 576) (by decide +kernel)) (by decide +kernel)
theorem kw_577 : (Cond.fieldLink "FewChangesModel" 7 "FewChangesModel" "grade" "[I") ∈ gw := gw_of (List.mem_of_getElem? (i := 577) (by decide +kernel)) (by decide +kernel)
theorem kw_578 : (Cond.fieldLink "FewChangesModel" 13 "FewChangesModel" "due" "[I") ∈ gw := gw_of (List.mem_of_getElem? (i := 578) (by decide +kernel)) (by decide +kernel)
theorem kw_579 : (Cond.fieldLink "FewChangesModel" 42 "FewChangesModel" "heats" "I") ∈ gw := gw_of (List.mem_of_getElem? (i := 579) (by decide +kernel)) (by decide +kernel)
theorem kw_580 : (Cond.fieldLink "FewChangesModel" 16 "FewChangesModel" "length" "[I") ∈ gw := gw_of (List.mem_of_getElem? (i := 580) (by decide +kernel)) (by decide +kernel)
theorem kw_581 : (Cond.fieldLink "FewChangesModel" 19 "FewChangesModel" "units" "[I") ∈ gw := gw_of (List.mem_of_getElem? (i := 581) (by decide +kernel)) (by decide +kernel)
theorem kw_582 : (Cond.fieldLink "FewChangesModel" 22 "FewChangesModel" "plans" "[I") ∈ gw := gw_of (List.mem_of_getElem? (i := 582) (by decide +kernel)) (by decide +kernel)
theorem kw_583 : (Cond.fieldLink "FewChangesModel" 75 "FewChangesModel" "undoable" "Z") ∈ gw := gw_of (List.mem_of_getElem? (i := 583) (by decide +kernel)) (by decide +kernel)
theorem kw_584 : (Cond.fieldLink "FewChangesModel" 79 "FewChangesModel" "copies" "I") ∈ gw := gw_of (List.mem_of_getElem? (i := 584) (by decide +kernel)) (by decide +kernel)
theorem kw_585 : (Cond.fieldLink "FewChangesModel" 49 "FewChangesModel" "stops" "I") ∈ gw := gw_of (List.mem_of_getElem? (i := 585) (by decide +kernel)) (by decide +kernel)
theorem kw_586 : (Cond.fieldLink "FewChangesModel" 25 "FewChangesModel" "stopUnit" "[I") ∈ gw := gw_of (List.mem_of_getElem? (i := 586) (by decide +kernel)) (by decide +kernel)
theorem kw_587 : (Cond.fieldLink "FewChangesModel" 28 "FewChangesModel" "stopFrom" "[I") ∈ gw := gw_of (List.mem_of_getElem? (i := 587) (by decide +kernel)) (by decide +kernel)
theorem kw_588 : (Cond.fieldLink "FewChangesModel" 31 "FewChangesModel" "stopTo" "[I") ∈ gw := gw_of (List.mem_of_getElem? (i := 588) (by decide +kernel)) (by decide +kernel)
theorem kw_589 : (Cond.fieldLink "FewChangesModel" 59 "FewChangesModel" "now" "I") ∈ gw := gw_of (List.mem_of_getElem? (i := 589) (by decide +kernel)) (by decide +kernel)
theorem kw_590 : (Cond.fieldLink "FewChangesModel" 62 "FewChangesModel" "freeze" "I") ∈ gw := gw_of (List.mem_of_getElem? (i := 590) (by decide +kernel)) (by decide +kernel)
theorem kw_591 : (Cond.fieldLink "FewChangesModel" 131 "FewChangesModel" "ran" "Z") ∈ gw := gw_of (List.mem_of_getElem? (i := 591) (by decide +kernel)) (by decide +kernel)
theorem kw_592 : (Cond.fieldLink "FewChangesModel" 134 "FewChangesModel" "spent" "Z") ∈ gw := gw_of (List.mem_of_getElem? (i := 592) (by decide +kernel)) (by decide +kernel)
theorem kw_593 : (Cond.fieldLink "FewChangesModel" 127 "FewChangesModel" "nodes" "I") ∈ gw := gw_of (List.mem_of_getElem? (i := 593) (by decide +kernel)) (by decide +kernel)
theorem kw_594 : (Cond.fieldLink "FewChangesModel" 137 "FewChangesModel" "round" "I") ∈ gw := gw_of (List.mem_of_getElem? (i := 594) (by decide +kernel)) (by decide +kernel)
theorem kw_595 : (Cond.fieldLink "FewChangesModel" 107 "FewChangesModel" "list" "I") ∈ gw := gw_of (List.mem_of_getElem? (i := 595) (by decide +kernel)) (by decide +kernel)
theorem kw_596 : (Cond.fieldLink "FewChangesModel" 34 "FewChangesModel" "placed" "[Z") ∈ gw := gw_of (List.mem_of_getElem? (i := 596) (by decide +kernel)) (by decide +kernel)
theorem kw_597 : (Cond.fieldLink "FewChangesModel" 104 "FewChangesModel" "least" "I") ∈ gw := gw_of (List.mem_of_getElem? (i := 597) (by decide +kernel)) (by decide +kernel)
theorem kw_598 : (Cond.lays "FewChangesModel" "FewChangesModel" "thrown" "I") ∈ gw := gw_of (List.mem_of_getElem? (i := 598) (by decide +kernel)) (by decide +kernel)
theorem kw_600 : (Cond.lays "FewChangesModel" "FewChangesModel" "orders" "I") ∈ gw := gw_of (List.mem_of_getElem? (i := 600) (by decide +kernel)) (by decide +kernel)
theorem kw_602 : (Cond.laysFinal "FewChangesModel" "FewChangesModel" "grade" "[I") ∈ gw := gw_of (List.mem_of_getElem? (i := 602) (by decide +kernel)) (by decide +kernel)
theorem kw_604 : (Cond.laysFinal "FewChangesModel" "FewChangesModel" "due" "[I") ∈ gw := gw_of (List.mem_of_getElem? (i := 604) (by decide +kernel)) (by decide +kernel)
theorem kw_606 : (Cond.lays "FewChangesModel" "FewChangesModel" "heats" "I") ∈ gw := gw_of (List.mem_of_getElem? (i := 606) (by decide +kernel)) (by decide +kernel)
theorem kw_608 : (Cond.laysFinal "FewChangesModel" "FewChangesModel" "length" "[I") ∈ gw := gw_of (List.mem_of_getElem? (i := 608) (by decide +kernel)) (by decide +kernel)
theorem kw_610 : (Cond.laysFinal "FewChangesModel" "FewChangesModel" "units" "[I") ∈ gw := gw_of (List.mem_of_getElem? (i := 610) (by decide +kernel)) (by decide +kernel)
theorem kw_612 : (Cond.laysFinal "FewChangesModel" "FewChangesModel" "plans" "[I") ∈ gw := gw_of (List.mem_of_getElem? (i := 612) (by decide +kernel)) (by decide +kernel)
theorem kw_614 : (Cond.lays "FewChangesModel" "FewChangesModel" "undoable" "Z") ∈ gw := gw_of (List.mem_of_getElem? (i := 614) (by decide +kernel)) (by decide +kernel)
theorem kw_616 : (Cond.lays "FewChangesModel" "FewChangesModel" "copies" "I") ∈ gw := gw_of (List.mem_of_getElem? (i := 616) (by decide +kernel)) (by decide +kernel)
theorem kw_618 : (Cond.lays "FewChangesModel" "FewChangesModel" "stops" "I") ∈ gw := gw_of (List.mem_of_getElem? (i := 618) (by decide +kernel)) (by decide +kernel)
theorem kw_620 : (Cond.laysFinal "FewChangesModel" "FewChangesModel" "stopUnit" "[I") ∈ gw := gw_of (List.mem_of_getElem? (i := 620) (by decide +kernel)) (by decide +kernel)
theorem kw_622 : (Cond.laysFinal "FewChangesModel" "FewChangesModel" "stopFrom" "[I") ∈ gw := gw_of (List.mem_of_getElem? (i := 622) (by decide +kernel)) (by decide +kernel)
theorem kw_624 : (Cond.laysFinal "FewChangesModel" "FewChangesModel" "stopTo" "[I") ∈ gw := gw_of (List.mem_of_getElem? (i := 624) (by decide +kernel)) (by decide +kernel)
theorem kw_626 : (Cond.lays "FewChangesModel" "FewChangesModel" "now" "I") ∈ gw := gw_of (List.mem_of_getElem? (i := 626) (by decide +kernel)) (by decide +kernel)
theorem kw_628 : (Cond.lays "FewChangesModel" "FewChangesModel" "freeze" "I") ∈ gw := gw_of (List.mem_of_getElem? (i := 628) (by decide +kernel)) (by decide +kernel)
theorem kw_630 : (Cond.lays "FewChangesModel" "FewChangesModel" "ran" "Z") ∈ gw := gw_of (List.mem_of_getElem? (i := 630) (by decide +kernel)) (by decide +kernel)
theorem kw_632 : (Cond.lays "FewChangesModel" "FewChangesModel" "spent" "Z") ∈ gw := gw_of (List.mem_of_getElem? (i := 632) (by decide +kernel)) (by decide +kernel)
theorem kw_634 : (Cond.lays "FewChangesModel" "FewChangesModel" "nodes" "I") ∈ gw := gw_of (List.mem_of_getElem? (i := 634) (by decide +kernel)) (by decide +kernel)
theorem kw_636 : (Cond.lays "FewChangesModel" "FewChangesModel" "round" "I") ∈ gw := gw_of (List.mem_of_getElem? (i := 636) (by decide +kernel)) (by decide +kernel)
theorem kw_638 : (Cond.lays "FewChangesModel" "FewChangesModel" "list" "I") ∈ gw := gw_of (List.mem_of_getElem? (i := 638) (by decide +kernel)) (by decide +kernel)
theorem kw_640 : (Cond.laysFinal "FewChangesModel" "FewChangesModel" "placed" "[Z") ∈ gw := gw_of (List.mem_of_getElem? (i := 640) (by decide +kernel)) (by decide +kernel)
theorem kw_642 : (Cond.lays "FewChangesModel" "FewChangesModel" "least" "I") ∈ gw := gw_of (List.mem_of_getElem? (i := 642) (by decide +kernel)) (by decide +kernel)
theorem kw_645 : (Cond.methodLink "FewChangesLaw" 76 y_M_thrown) ∈ gw := gw_of (List.mem_of_getElem? (i := 645) (by decide +kernel)) (by decide +kernel)
theorem kw_646 : (Cond.instanceMethod y_M_thrown) ∈ gw := gw_of (List.mem_of_getElem? (i := 646) (by decide +kernel)) (by decide +kernel)
theorem kw_647 : (Cond.selects "FewChangesModel" y_M_thrown y_M_thrown) ∈ gw := gw_of (List.mem_of_getElem? (i := 647) (by decide +kernel)) (by decide +kernel)
set_option maxRecDepth 20000 in
theorem kw_648 : (Cond.code y_M_thrown b_M_thrown 1 (some .int)) ∈ gw := gw_of (List.mem_of_getElem? (i := 648) (by rfl)) (by decide +kernel)
theorem kw_649 : (Cond.methodLink "FewChangesLaw" 75 y_M_order) ∈ gw := gw_of (List.mem_of_getElem? (i := 649) (by decide +kernel)) (by decide +kernel)
theorem kw_650 : (Cond.instanceMethod y_M_order) ∈ gw := gw_of (List.mem_of_getElem? (i := 650) (by decide +kernel)) (by decide +kernel)
theorem kw_651 : (Cond.selects "FewChangesModel" y_M_order y_M_order) ∈ gw := gw_of (List.mem_of_getElem? (i := 651) (by decide +kernel)) (by decide +kernel)
set_option maxRecDepth 20000 in
theorem kw_652 : (Cond.code y_M_order b_M_order 3 (some .int)) ∈ gw := gw_of (List.mem_of_getElem? (i := 652) (by rfl)) (by decide +kernel)
theorem kw_653 : (Cond.methodLink "FewChangesModel" 45 y_M_in) ∈ gw := gw_of (List.mem_of_getElem? (i := 653) (by decide +kernel)) (by decide +kernel)
theorem kw_654 : (Cond.static y_M_in) ∈ gw := gw_of (List.mem_of_getElem? (i := 654) (by decide +kernel)) (by decide +kernel)
set_option maxRecDepth 20000 in
theorem kw_655 : (Cond.code y_M_in b_M_in 3 (some .boolean)) ∈ gw := gw_of (List.mem_of_getElem? (i := 655) (by rfl)) (by decide +kernel)
theorem kw_656 : (Cond.methodLink "FewChangesModel" 68 y_M_throwing) ∈ gw := gw_of (List.mem_of_getElem? (i := 656) (by decide +kernel)) (by decide +kernel)
theorem kw_658 : (Cond.instanceMethod y_M_throwing) ∈ gw := gw_of (List.mem_of_getElem? (i := 658) (by decide +kernel)) (by decide +kernel)
set_option maxRecDepth 20000 in
theorem kw_659 : (Cond.code y_M_throwing b_M_throwing 5 (some .boolean)) ∈ gw := gw_of (List.mem_of_getElem? (i := 659) (by rfl)) (by decide +kernel)
theorem kw_660 : (Cond.methodLink "FewChangesLaw" 83 y_M_heat) ∈ gw := gw_of (List.mem_of_getElem? (i := 660) (by decide +kernel)) (by decide +kernel)
theorem kw_661 : (Cond.instanceMethod y_M_heat) ∈ gw := gw_of (List.mem_of_getElem? (i := 661) (by decide +kernel)) (by decide +kernel)
theorem kw_662 : (Cond.selects "FewChangesModel" y_M_heat y_M_heat) ∈ gw := gw_of (List.mem_of_getElem? (i := 662) (by decide +kernel)) (by decide +kernel)
set_option maxRecDepth 20000 in
theorem kw_663 : (Cond.code y_M_heat b_M_heat 9 (some .int)) ∈ gw := gw_of (List.mem_of_getElem? (i := 663) (by rfl)) (by decide +kernel)
theorem kw_664 : (Cond.methodLink "FewChangesModel" 72 y_M_fits) ∈ gw := gw_of (List.mem_of_getElem? (i := 664) (by decide +kernel)) (by decide +kernel)
theorem kw_666 : (Cond.instanceMethod y_M_fits) ∈ gw := gw_of (List.mem_of_getElem? (i := 666) (by decide +kernel)) (by decide +kernel)
set_option maxRecDepth 20000 in
theorem kw_667 : (Cond.code y_M_fits b_M_fits 6 (some .boolean)) ∈ gw := gw_of (List.mem_of_getElem? (i := 667) (by rfl)) (by decide +kernel)
theorem kw_668 : (Cond.methodLink "FewChangesModel" 52 y_M_isFree) ∈ gw := gw_of (List.mem_of_getElem? (i := 668) (by decide +kernel)) (by decide +kernel)
theorem kw_670 : (Cond.instanceMethod y_M_isFree) ∈ gw := gw_of (List.mem_of_getElem? (i := 670) (by decide +kernel)) (by decide +kernel)
set_option maxRecDepth 20000 in
theorem kw_671 : (Cond.code y_M_isFree b_M_isFree 6 (some .boolean)) ∈ gw := gw_of (List.mem_of_getElem? (i := 671) (by rfl)) (by decide +kernel)
theorem kw_672 : (Cond.methodLink "FewChangesModel" 55 y_M_meets) ∈ gw := gw_of (List.mem_of_getElem? (i := 672) (by decide +kernel)) (by decide +kernel)
theorem kw_674 : (Cond.instanceMethod y_M_meets) ∈ gw := gw_of (List.mem_of_getElem? (i := 674) (by decide +kernel)) (by decide +kernel)
set_option maxRecDepth 20000 in
theorem kw_675 : (Cond.code y_M_meets b_M_meets 7 (some .boolean)) ∈ gw := gw_of (List.mem_of_getElem? (i := 675) (by rfl)) (by decide +kernel)
theorem kw_676 : (Cond.methodLink "FewChangesLaw" 87 y_M_stop) ∈ gw := gw_of (List.mem_of_getElem? (i := 676) (by decide +kernel)) (by decide +kernel)
theorem kw_677 : (Cond.instanceMethod y_M_stop) ∈ gw := gw_of (List.mem_of_getElem? (i := 677) (by decide +kernel)) (by decide +kernel)
theorem kw_678 : (Cond.selects "FewChangesModel" y_M_stop y_M_stop) ∈ gw := gw_of (List.mem_of_getElem? (i := 678) (by decide +kernel)) (by decide +kernel)
set_option maxRecDepth 20000 in
theorem kw_679 : (Cond.code y_M_stop b_M_stop 5 (some .int)) ∈ gw := gw_of (List.mem_of_getElem? (i := 679) (by rfl)) (by decide +kernel)
theorem kw_680 : (Cond.methodLink "FewChangesLaw" 91 y_M_go) ∈ gw := gw_of (List.mem_of_getElem? (i := 680) (by decide +kernel)) (by decide +kernel)
theorem kw_681 : (Cond.instanceMethod y_M_go) ∈ gw := gw_of (List.mem_of_getElem? (i := 681) (by decide +kernel)) (by decide +kernel)
theorem kw_682 : (Cond.selects "FewChangesModel" y_M_go y_M_go) ∈ gw := gw_of (List.mem_of_getElem? (i := 682) (by decide +kernel)) (by decide +kernel)
set_option maxRecDepth 20000 in
theorem kw_683 : (Cond.code y_M_go b_M_go 1 none) ∈ gw := gw_of (List.mem_of_getElem? (i := 683) (by rfl)) (by decide +kernel)
theorem kw_684 : (Cond.methodLink "FewChangesLaw" 95 y_M_clock) ∈ gw := gw_of (List.mem_of_getElem? (i := 684) (by decide +kernel)) (by decide +kernel)
theorem kw_685 : (Cond.instanceMethod y_M_clock) ∈ gw := gw_of (List.mem_of_getElem? (i := 685) (by decide +kernel)) (by decide +kernel)
theorem kw_686 : (Cond.selects "FewChangesModel" y_M_clock y_M_clock) ∈ gw := gw_of (List.mem_of_getElem? (i := 686) (by decide +kernel)) (by decide +kernel)
set_option maxRecDepth 20000 in
theorem kw_687 : (Cond.code y_M_clock b_M_clock 3 none) ∈ gw := gw_of (List.mem_of_getElem? (i := 687) (by rfl)) (by decide +kernel)
theorem kw_688 : (Cond.methodLink "FewChangesLaw" 99 y_M_place) ∈ gw := gw_of (List.mem_of_getElem? (i := 688) (by decide +kernel)) (by decide +kernel)
theorem kw_689 : (Cond.instanceMethod y_M_place) ∈ gw := gw_of (List.mem_of_getElem? (i := 689) (by decide +kernel)) (by decide +kernel)
theorem kw_690 : (Cond.selects "FewChangesModel" y_M_place y_M_place) ∈ gw := gw_of (List.mem_of_getElem? (i := 690) (by decide +kernel)) (by decide +kernel)
set_option maxRecDepth 20000 in
theorem kw_691 : (Cond.code y_M_place b_M_place 6 none) ∈ gw := gw_of (List.mem_of_getElem? (i := 691) (by rfl)) (by decide +kernel)
theorem kw_692 : (Cond.methodLink "FewChangesModel" 86 y_M_isHeat) ∈ gw := gw_of (List.mem_of_getElem? (i := 692) (by decide +kernel)) (by decide +kernel)
theorem kw_694 : (Cond.instanceMethod y_M_isHeat) ∈ gw := gw_of (List.mem_of_getElem? (i := 694) (by decide +kernel)) (by decide +kernel)
set_option maxRecDepth 20000 in
theorem kw_695 : (Cond.code y_M_isHeat b_M_isHeat 2 (some .boolean)) ∈ gw := gw_of (List.mem_of_getElem? (i := 695) (by rfl)) (by decide +kernel)
theorem kw_696 : (Cond.methodLink "FewChangesModel" 90 y_M_isFrozen) ∈ gw := gw_of (List.mem_of_getElem? (i := 696) (by decide +kernel)) (by decide +kernel)
theorem kw_698 : (Cond.instanceMethod y_M_isFrozen) ∈ gw := gw_of (List.mem_of_getElem? (i := 698) (by decide +kernel)) (by decide +kernel)
set_option maxRecDepth 20000 in
theorem kw_699 : (Cond.code y_M_isFrozen b_M_isFrozen 2 (some .boolean)) ∈ gw := gw_of (List.mem_of_getElem? (i := 699) (by rfl)) (by decide +kernel)
theorem kw_700 : (Cond.methodLink "FewChangesModel" 93 y_M_keepForUndo) ∈ gw := gw_of (List.mem_of_getElem? (i := 700) (by decide +kernel)) (by decide +kernel)
theorem kw_702 : (Cond.instanceMethod y_M_keepForUndo) ∈ gw := gw_of (List.mem_of_getElem? (i := 702) (by decide +kernel)) (by decide +kernel)
set_option maxRecDepth 20000 in
theorem kw_703 : (Cond.code y_M_keepForUndo b_M_keepForUndo 1 none) ∈ gw := gw_of (List.mem_of_getElem? (i := 703) (by rfl)) (by decide +kernel)
theorem kw_704 : (Cond.methodLink "FewChangesModel" 82 y_M_copy) ∈ gw := gw_of (List.mem_of_getElem? (i := 704) (by decide +kernel)) (by decide +kernel)
theorem kw_706 : (Cond.instanceMethod y_M_copy) ∈ gw := gw_of (List.mem_of_getElem? (i := 706) (by decide +kernel)) (by decide +kernel)
set_option maxRecDepth 20000 in
theorem kw_707 : (Cond.code y_M_copy b_M_copy 4 none) ∈ gw := gw_of (List.mem_of_getElem? (i := 707) (by rfl)) (by decide +kernel)
theorem kw_708 : (Cond.methodLink "FewChangesLaw" 102 y_M_divert) ∈ gw := gw_of (List.mem_of_getElem? (i := 708) (by decide +kernel)) (by decide +kernel)
theorem kw_709 : (Cond.instanceMethod y_M_divert) ∈ gw := gw_of (List.mem_of_getElem? (i := 709) (by decide +kernel)) (by decide +kernel)
theorem kw_710 : (Cond.selects "FewChangesModel" y_M_divert y_M_divert) ∈ gw := gw_of (List.mem_of_getElem? (i := 710) (by decide +kernel)) (by decide +kernel)
set_option maxRecDepth 20000 in
theorem kw_711 : (Cond.code y_M_divert b_M_divert 5 none) ∈ gw := gw_of (List.mem_of_getElem? (i := 711) (by rfl)) (by decide +kernel)
theorem kw_712 : (Cond.methodLink "FewChangesLaw" 106 y_M_run) ∈ gw := gw_of (List.mem_of_getElem? (i := 712) (by decide +kernel)) (by decide +kernel)
theorem kw_713 : (Cond.instanceMethod y_M_run) ∈ gw := gw_of (List.mem_of_getElem? (i := 713) (by decide +kernel)) (by decide +kernel)
theorem kw_714 : (Cond.selects "FewChangesModel" y_M_run y_M_run) ∈ gw := gw_of (List.mem_of_getElem? (i := 714) (by decide +kernel)) (by decide +kernel)
set_option maxRecDepth 20000 in
theorem kw_715 : (Cond.code y_M_run b_M_run 4 (some .int)) ∈ gw := gw_of (List.mem_of_getElem? (i := 715) (by rfl)) (by decide +kernel)
theorem kw_716 : (Cond.constant "FewChangesModel" 130 100000) ∈ gw := gw_of (List.mem_of_getElem? (i := 716) (by decide +kernel)) (by decide +kernel)
theorem kw_717 : (Cond.methodLink "FewChangesModel" 140 y_M_bits) ∈ gw := gw_of (List.mem_of_getElem? (i := 717) (by decide +kernel)) (by decide +kernel)
theorem kw_718 : (Cond.static y_M_bits) ∈ gw := gw_of (List.mem_of_getElem? (i := 718) (by decide +kernel)) (by decide +kernel)
set_option maxRecDepth 20000 in
theorem kw_719 : (Cond.code y_M_bits b_M_bits 3 (some .int)) ∈ gw := gw_of (List.mem_of_getElem? (i := 719) (by rfl)) (by decide +kernel)
theorem kw_720 : (Cond.methodLink "FewChangesModel" 144 y_M_tries) ∈ gw := gw_of (List.mem_of_getElem? (i := 720) (by decide +kernel)) (by decide +kernel)
theorem kw_722 : (Cond.instanceMethod y_M_tries) ∈ gw := gw_of (List.mem_of_getElem? (i := 722) (by decide +kernel)) (by decide +kernel)
set_option maxRecDepth 20000 in
theorem kw_723 : (Cond.code y_M_tries b_M_tries 8 (some .boolean)) ∈ gw := gw_of (List.mem_of_getElem? (i := 723) (by rfl)) (by decide +kernel)
theorem kw_724 : (Cond.methodLink "FewChangesModel" 110 y_M_fitsTried) ∈ gw := gw_of (List.mem_of_getElem? (i := 724) (by decide +kernel)) (by decide +kernel)
theorem kw_726 : (Cond.instanceMethod y_M_fitsTried) ∈ gw := gw_of (List.mem_of_getElem? (i := 726) (by decide +kernel)) (by decide +kernel)
set_option maxRecDepth 20000 in
theorem kw_727 : (Cond.code y_M_fitsTried b_M_fitsTried 6 (some .boolean)) ∈ gw := gw_of (List.mem_of_getElem? (i := 727) (by rfl)) (by decide +kernel)
theorem kw_728 : (Cond.methodLink "FewChangesModel" 100 y_M_costPlaced) ∈ gw := gw_of (List.mem_of_getElem? (i := 728) (by decide +kernel)) (by decide +kernel)
theorem kw_730 : (Cond.instanceMethod y_M_costPlaced) ∈ gw := gw_of (List.mem_of_getElem? (i := 730) (by decide +kernel)) (by decide +kernel)
set_option maxRecDepth 20000 in
theorem kw_731 : (Cond.code y_M_costPlaced b_M_costPlaced 3 (some .int)) ∈ gw := gw_of (List.mem_of_getElem? (i := 731) (by rfl)) (by decide +kernel)
theorem kw_732 : (Cond.methodLink "FewChangesModel" 96 y_M_costOf) ∈ gw := gw_of (List.mem_of_getElem? (i := 732) (by decide +kernel)) (by decide +kernel)
theorem kw_734 : (Cond.instanceMethod y_M_costOf) ∈ gw := gw_of (List.mem_of_getElem? (i := 734) (by decide +kernel)) (by decide +kernel)
set_option maxRecDepth 20000 in
theorem kw_735 : (Cond.code y_M_costOf b_M_costOf 4 (some .int)) ∈ gw := gw_of (List.mem_of_getElem? (i := 735) (by rfl)) (by decide +kernel)
theorem kw_736 : (Cond.methodLink "FewChangesModel" 113 y_M_after) ∈ gw := gw_of (List.mem_of_getElem? (i := 736) (by decide +kernel)) (by decide +kernel)
theorem kw_737 : (Cond.static y_M_after) ∈ gw := gw_of (List.mem_of_getElem? (i := 737) (by decide +kernel)) (by decide +kernel)
set_option maxRecDepth 20000 in
theorem kw_738 : (Cond.code y_M_after b_M_after 3 (some .int)) ∈ gw := gw_of (List.mem_of_getElem? (i := 738) (by rfl)) (by decide +kernel)
theorem kw_739 : (Cond.methodLink "FewChangesModel" 116 y_M_found) ∈ gw := gw_of (List.mem_of_getElem? (i := 739) (by decide +kernel)) (by decide +kernel)
theorem kw_741 : (Cond.instanceMethod y_M_found) ∈ gw := gw_of (List.mem_of_getElem? (i := 741) (by decide +kernel)) (by decide +kernel)
set_option maxRecDepth 20000 in
theorem kw_742 : (Cond.code y_M_found b_M_found 2 none) ∈ gw := gw_of (List.mem_of_getElem? (i := 742) (by rfl)) (by decide +kernel)
theorem kw_743 : (Cond.methodLink "FewChangesModel" 120 y_M_isOld) ∈ gw := gw_of (List.mem_of_getElem? (i := 743) (by decide +kernel)) (by decide +kernel)
theorem kw_745 : (Cond.instanceMethod y_M_isOld) ∈ gw := gw_of (List.mem_of_getElem? (i := 745) (by decide +kernel)) (by decide +kernel)
set_option maxRecDepth 20000 in
theorem kw_746 : (Cond.code y_M_isOld b_M_isOld 3 (some .boolean)) ∈ gw := gw_of (List.mem_of_getElem? (i := 746) (by rfl)) (by decide +kernel)
theorem kw_747 : (Cond.methodLink "FewChangesModel" 124 y_M_ahead) ∈ gw := gw_of (List.mem_of_getElem? (i := 747) (by decide +kernel)) (by decide +kernel)
theorem kw_748 : (Cond.static y_M_ahead) ∈ gw := gw_of (List.mem_of_getElem? (i := 748) (by decide +kernel)) (by decide +kernel)
set_option maxRecDepth 20000 in
theorem kw_749 : (Cond.code y_M_ahead b_M_ahead 3 (some .int)) ∈ gw := gw_of (List.mem_of_getElem? (i := 749) (by rfl)) (by decide +kernel)
theorem kw_750 : (Cond.methodLink "FewChangesLaw" 109 y_M_told) ∈ gw := gw_of (List.mem_of_getElem? (i := 750) (by decide +kernel)) (by decide +kernel)
theorem kw_751 : (Cond.instanceMethod y_M_told) ∈ gw := gw_of (List.mem_of_getElem? (i := 751) (by decide +kernel)) (by decide +kernel)
theorem kw_752 : (Cond.selects "FewChangesModel" y_M_told y_M_told) ∈ gw := gw_of (List.mem_of_getElem? (i := 752) (by decide +kernel)) (by decide +kernel)
set_option maxRecDepth 20000 in
theorem kw_753 : (Cond.code y_M_told b_M_told 2 (some .int)) ∈ gw := gw_of (List.mem_of_getElem? (i := 753) (by rfl)) (by decide +kernel)
theorem kw_754 : (Cond.methodLink "FewChangesLaw" 112 y_M_at) ∈ gw := gw_of (List.mem_of_getElem? (i := 754) (by decide +kernel)) (by decide +kernel)
theorem kw_755 : (Cond.instanceMethod y_M_at) ∈ gw := gw_of (List.mem_of_getElem? (i := 755) (by decide +kernel)) (by decide +kernel)
theorem kw_756 : (Cond.selects "FewChangesModel" y_M_at y_M_at) ∈ gw := gw_of (List.mem_of_getElem? (i := 756) (by decide +kernel)) (by decide +kernel)
set_option maxRecDepth 20000 in
theorem kw_757 : (Cond.code y_M_at b_M_at 3 (some .int)) ∈ gw := gw_of (List.mem_of_getElem? (i := 757) (by rfl)) (by decide +kernel)
theorem kw_758 : (Cond.methodLink "FewChangesLaw" 116 y_M_cost) ∈ gw := gw_of (List.mem_of_getElem? (i := 758) (by decide +kernel)) (by decide +kernel)
theorem kw_759 : (Cond.instanceMethod y_M_cost) ∈ gw := gw_of (List.mem_of_getElem? (i := 759) (by decide +kernel)) (by decide +kernel)
theorem kw_760 : (Cond.selects "FewChangesModel" y_M_cost y_M_cost) ∈ gw := gw_of (List.mem_of_getElem? (i := 760) (by decide +kernel)) (by decide +kernel)
set_option maxRecDepth 20000 in
theorem kw_761 : (Cond.code y_M_cost b_M_cost 3 (some .int)) ∈ gw := gw_of (List.mem_of_getElem? (i := 761) (by rfl)) (by decide +kernel)
theorem kw_762 : (Cond.methodLink "FewChangesLaw" 119 y_M_on) ∈ gw := gw_of (List.mem_of_getElem? (i := 762) (by decide +kernel)) (by decide +kernel)
theorem kw_763 : (Cond.instanceMethod y_M_on) ∈ gw := gw_of (List.mem_of_getElem? (i := 763) (by decide +kernel)) (by decide +kernel)
theorem kw_764 : (Cond.selects "FewChangesModel" y_M_on y_M_on) ∈ gw := gw_of (List.mem_of_getElem? (i := 764) (by decide +kernel)) (by decide +kernel)
set_option maxRecDepth 20000 in
theorem kw_765 : (Cond.code y_M_on b_M_on 6 (some .int)) ∈ gw := gw_of (List.mem_of_getElem? (i := 765) (by rfl)) (by decide +kernel)
theorem kw_766 : (Cond.methodLink "FewChangesLaw" 123 y_M_keep) ∈ gw := gw_of (List.mem_of_getElem? (i := 766) (by decide +kernel)) (by decide +kernel)
theorem kw_767 : (Cond.instanceMethod y_M_keep) ∈ gw := gw_of (List.mem_of_getElem? (i := 767) (by decide +kernel)) (by decide +kernel)
theorem kw_768 : (Cond.selects "FewChangesModel" y_M_keep y_M_keep) ∈ gw := gw_of (List.mem_of_getElem? (i := 768) (by decide +kernel)) (by decide +kernel)
set_option maxRecDepth 20000 in
theorem kw_769 : (Cond.code y_M_keep b_M_keep 2 none) ∈ gw := gw_of (List.mem_of_getElem? (i := 769) (by rfl)) (by decide +kernel)
theorem kw_770 : (Cond.methodLink "FewChangesLaw" 126 y_M_compare) ∈ gw := gw_of (List.mem_of_getElem? (i := 770) (by decide +kernel)) (by decide +kernel)
theorem kw_771 : (Cond.instanceMethod y_M_compare) ∈ gw := gw_of (List.mem_of_getElem? (i := 771) (by decide +kernel)) (by decide +kernel)
theorem kw_772 : (Cond.selects "FewChangesModel" y_M_compare y_M_compare) ∈ gw := gw_of (List.mem_of_getElem? (i := 772) (by decide +kernel)) (by decide +kernel)
set_option maxRecDepth 20000 in
theorem kw_773 : (Cond.code y_M_compare b_M_compare 6 (some .int)) ∈ gw := gw_of (List.mem_of_getElem? (i := 773) (by rfl)) (by decide +kernel)
theorem kw_774 : (Cond.methodLink "FewChangesModel" 147 y_M_isKept) ∈ gw := gw_of (List.mem_of_getElem? (i := 774) (by decide +kernel)) (by decide +kernel)
theorem kw_776 : (Cond.instanceMethod y_M_isKept) ∈ gw := gw_of (List.mem_of_getElem? (i := 776) (by decide +kernel)) (by decide +kernel)
set_option maxRecDepth 20000 in
theorem kw_777 : (Cond.code y_M_isKept b_M_isKept 2 (some .boolean)) ∈ gw := gw_of (List.mem_of_getElem? (i := 777) (by rfl)) (by decide +kernel)
theorem kw_778 : (Cond.methodLink "FewChangesLaw" 129 y_M_use) ∈ gw := gw_of (List.mem_of_getElem? (i := 778) (by decide +kernel)) (by decide +kernel)
theorem kw_779 : (Cond.instanceMethod y_M_use) ∈ gw := gw_of (List.mem_of_getElem? (i := 779) (by decide +kernel)) (by decide +kernel)
theorem kw_780 : (Cond.selects "FewChangesModel" y_M_use y_M_use) ∈ gw := gw_of (List.mem_of_getElem? (i := 780) (by decide +kernel)) (by decide +kernel)
set_option maxRecDepth 20000 in
theorem kw_781 : (Cond.code y_M_use b_M_use 2 none) ∈ gw := gw_of (List.mem_of_getElem? (i := 781) (by rfl)) (by decide +kernel)
theorem kw_782 : (Cond.methodLink "FewChangesLaw" 133 y_M_undo) ∈ gw := gw_of (List.mem_of_getElem? (i := 782) (by decide +kernel)) (by decide +kernel)
theorem kw_783 : (Cond.instanceMethod y_M_undo) ∈ gw := gw_of (List.mem_of_getElem? (i := 783) (by decide +kernel)) (by decide +kernel)
theorem kw_784 : (Cond.selects "FewChangesModel" y_M_undo y_M_undo) ∈ gw := gw_of (List.mem_of_getElem? (i := 784) (by decide +kernel)) (by decide +kernel)
set_option maxRecDepth 20000 in
theorem kw_785 : (Cond.code y_M_undo b_M_undo 1 none) ∈ gw := gw_of (List.mem_of_getElem? (i := 785) (by rfl)) (by decide +kernel)
theorem ks_F_isOrder : Cond.selects R_F y_F_isOrder y_F_isOrder ∈ gw := gw_sel (List.mem_of_getElem? (i := 1) (by decide +kernel)) (by decide +kernel)
theorem ks_F_forgetCopiesAndUndo : Cond.selects R_F y_F_forgetCopiesAndUndo y_F_forgetCopiesAndUndo ∈ gw := gw_sel (List.mem_of_getElem? (i := 2) (by decide +kernel)) (by decide +kernel)
theorem ks_F_isHeat : Cond.selects R_F y_F_isHeat y_F_isHeat ∈ gw := gw_sel (List.mem_of_getElem? (i := 3) (by decide +kernel)) (by decide +kernel)
theorem ks_F_rememberForUndo : Cond.selects R_F y_F_rememberForUndo y_F_rememberForUndo ∈ gw := gw_sel (List.mem_of_getElem? (i := 4) (by decide +kernel)) (by decide +kernel)
theorem ks_Q_looseHeats : Cond.selects R_Q y_Q_looseHeats y_Q_looseHeats ∈ gw := gw_sel (List.mem_of_getElem? (i := 5) (by decide +kernel)) (by decide +kernel)
theorem ks_Q_searchRound : Cond.selects R_Q y_Q_searchRound y_Q_searchRound ∈ gw := gw_sel (List.mem_of_getElem? (i := 6) (by decide +kernel)) (by decide +kernel)
theorem ks_Q_searchSet : Cond.selects R_Q y_Q_searchSet y_Q_searchSet ∈ gw := gw_sel (List.mem_of_getElem? (i := 7) (by decide +kernel)) (by decide +kernel)
theorem ks_Q_canOthersStay : Cond.selects R_Q y_Q_canOthersStay y_Q_canOthersStay ∈ gw := gw_sel (List.mem_of_getElem? (i := 8) (by decide +kernel)) (by decide +kernel)
theorem ks_Q_isInSet : Cond.selects R_Q y_Q_isInSet y_Q_isInSet ∈ gw := gw_sel (List.mem_of_getElem? (i := 9) (by decide +kernel)) (by decide +kernel)
theorem ks_Q_costOfOthers : Cond.selects R_Q y_Q_costOfOthers y_Q_costOfOthers ∈ gw := gw_sel (List.mem_of_getElem? (i := 10) (by decide +kernel)) (by decide +kernel)
theorem ks_Q_placeFrom : Cond.selects R_Q y_Q_placeFrom y_Q_placeFrom ∈ gw := gw_sel (List.mem_of_getElem? (i := 11) (by decide +kernel)) (by decide +kernel)
theorem ks_Q_tryUnit : Cond.selects R_Q y_Q_tryUnit y_Q_tryUnit ∈ gw := gw_sel (List.mem_of_getElem? (i := 12) (by decide +kernel)) (by decide +kernel)
theorem ks_Q_tryPlace : Cond.selects R_Q y_Q_tryPlace y_Q_tryPlace ∈ gw := gw_sel (List.mem_of_getElem? (i := 13) (by decide +kernel)) (by decide +kernel)
theorem ks_M_throwing : Cond.selects R_M y_M_throwing y_M_throwing ∈ gw := gw_sel (List.mem_of_getElem? (i := 14) (by decide +kernel)) (by decide +kernel)
theorem ks_M_fits : Cond.selects R_M y_M_fits y_M_fits ∈ gw := gw_sel (List.mem_of_getElem? (i := 15) (by decide +kernel)) (by decide +kernel)
theorem ks_M_isFree : Cond.selects R_M y_M_isFree y_M_isFree ∈ gw := gw_sel (List.mem_of_getElem? (i := 16) (by decide +kernel)) (by decide +kernel)
theorem ks_M_meets : Cond.selects R_M y_M_meets y_M_meets ∈ gw := gw_sel (List.mem_of_getElem? (i := 17) (by decide +kernel)) (by decide +kernel)
theorem ks_M_isHeat : Cond.selects R_M y_M_isHeat y_M_isHeat ∈ gw := gw_sel (List.mem_of_getElem? (i := 18) (by decide +kernel)) (by decide +kernel)
theorem ks_M_isFrozen : Cond.selects R_M y_M_isFrozen y_M_isFrozen ∈ gw := gw_sel (List.mem_of_getElem? (i := 19) (by decide +kernel)) (by decide +kernel)
theorem ks_M_keepForUndo : Cond.selects R_M y_M_keepForUndo y_M_keepForUndo ∈ gw := gw_sel (List.mem_of_getElem? (i := 20) (by decide +kernel)) (by decide +kernel)
theorem ks_M_copy : Cond.selects R_M y_M_copy y_M_copy ∈ gw := gw_sel (List.mem_of_getElem? (i := 21) (by decide +kernel)) (by decide +kernel)
theorem ks_M_tries : Cond.selects R_M y_M_tries y_M_tries ∈ gw := gw_sel (List.mem_of_getElem? (i := 22) (by decide +kernel)) (by decide +kernel)
theorem ks_M_fitsTried : Cond.selects R_M y_M_fitsTried y_M_fitsTried ∈ gw := gw_sel (List.mem_of_getElem? (i := 23) (by decide +kernel)) (by decide +kernel)
theorem ks_M_costPlaced : Cond.selects R_M y_M_costPlaced y_M_costPlaced ∈ gw := gw_sel (List.mem_of_getElem? (i := 24) (by decide +kernel)) (by decide +kernel)
theorem ks_M_costOf : Cond.selects R_M y_M_costOf y_M_costOf ∈ gw := gw_sel (List.mem_of_getElem? (i := 25) (by decide +kernel)) (by decide +kernel)
theorem ks_M_found : Cond.selects R_M y_M_found y_M_found ∈ gw := gw_sel (List.mem_of_getElem? (i := 26) (by decide +kernel)) (by decide +kernel)
theorem ks_M_isOld : Cond.selects R_M y_M_isOld y_M_isOld ∈ gw := gw_sel (List.mem_of_getElem? (i := 27) (by decide +kernel)) (by decide +kernel)
theorem ks_M_isKept : Cond.selects R_M y_M_isKept y_M_isKept ∈ gw := gw_sel (List.mem_of_getElem? (i := 28) (by decide +kernel)) (by decide +kernel)
end
