section
-- ===== PART A: goes FIRST, ahead of the names: the tables' words, and 'selects' of the private methods out of them =====
/-- a private method of a class that the tables say can be made, by its rows of tables_1 -/
def lw_okq (q : MethodName × Nat) : Prop := (q.1.cls ≠ "java/lang/invoke/MethodHandle" ∧ q.1.cls ≠ "java/lang/invoke/VarHandle") ∧ Cond.instantiable q.1.cls q.2 ∈ tables_1 ∧ Cond.privateMethod q.1 ∈ tables_1 ∧ Cond.instanceMethod q.1 ∈ tables_1
theorem lw_p0 : lw_okq (⟨"java/lang/Throwable", "fillInStackTrace", "(I)Ljava/lang/Throwable;"⟩, 6) := ⟨⟨by decide +kernel, by decide +kernel⟩, List.mem_of_getElem? (i := 243) (by decide +kernel), List.mem_of_getElem? (i := 241) (by decide +kernel), List.mem_of_getElem? (i := 242) (by decide +kernel)⟩
theorem lw_p1 : lw_okq (⟨"FewChanges", "isOrder", "(I)Z"⟩, 7) := ⟨⟨by decide +kernel, by decide +kernel⟩, List.mem_of_getElem? (i := 16) (by decide +kernel), List.mem_of_getElem? (i := 305) (by decide +kernel), List.mem_of_getElem? (i := 306) (by decide +kernel)⟩
theorem lw_p2 : lw_okq (⟨"FewChanges", "forgetCopiesAndUndo", "()V"⟩, 7) := ⟨⟨by decide +kernel, by decide +kernel⟩, List.mem_of_getElem? (i := 16) (by decide +kernel), List.mem_of_getElem? (i := 367) (by decide +kernel), List.mem_of_getElem? (i := 368) (by decide +kernel)⟩
theorem lw_p3 : lw_okq (⟨"FewChanges", "isHeat", "(I)Z"⟩, 7) := ⟨⟨by decide +kernel, by decide +kernel⟩, List.mem_of_getElem? (i := 16) (by decide +kernel), List.mem_of_getElem? (i := 400) (by decide +kernel), List.mem_of_getElem? (i := 401) (by decide +kernel)⟩
theorem lw_p4 : lw_okq (⟨"FewChanges", "rememberForUndo", "()V"⟩, 7) := ⟨⟨by decide +kernel, by decide +kernel⟩, List.mem_of_getElem? (i := 16) (by decide +kernel), List.mem_of_getElem? (i := 418) (by decide +kernel), List.mem_of_getElem? (i := 419) (by decide +kernel)⟩
theorem lw_p5 : lw_okq (⟨"FewChanges$Search", "looseHeats", "()I"⟩, 13) := ⟨⟨by decide +kernel, by decide +kernel⟩, List.mem_of_getElem? (i := 99) (by decide +kernel), List.mem_of_getElem? (i := 450) (by decide +kernel), List.mem_of_getElem? (i := 451) (by decide +kernel)⟩
theorem lw_p6 : lw_okq (⟨"FewChanges$Search", "searchRound", "(I)V"⟩, 13) := ⟨⟨by decide +kernel, by decide +kernel⟩, List.mem_of_getElem? (i := 99) (by decide +kernel), List.mem_of_getElem? (i := 461) (by decide +kernel), List.mem_of_getElem? (i := 462) (by decide +kernel)⟩
theorem lw_p7 : lw_okq (⟨"FewChanges$Search", "searchSet", "(I)V"⟩, 13) := ⟨⟨by decide +kernel, by decide +kernel⟩, List.mem_of_getElem? (i := 99) (by decide +kernel), List.mem_of_getElem? (i := 465) (by decide +kernel), List.mem_of_getElem? (i := 466) (by decide +kernel)⟩
theorem lw_p8 : lw_okq (⟨"FewChanges$Search", "canOthersStay", "()Z"⟩, 13) := ⟨⟨by decide +kernel, by decide +kernel⟩, List.mem_of_getElem? (i := 99) (by decide +kernel), List.mem_of_getElem? (i := 469) (by decide +kernel), List.mem_of_getElem? (i := 470) (by decide +kernel)⟩
theorem lw_p9 : lw_okq (⟨"FewChanges$Search", "isInSet", "(I)Z"⟩, 13) := ⟨⟨by decide +kernel, by decide +kernel⟩, List.mem_of_getElem? (i := 99) (by decide +kernel), List.mem_of_getElem? (i := 473) (by decide +kernel), List.mem_of_getElem? (i := 474) (by decide +kernel)⟩
theorem lw_p10 : lw_okq (⟨"FewChanges$Search", "costOfOthers", "()I"⟩, 13) := ⟨⟨by decide +kernel, by decide +kernel⟩, List.mem_of_getElem? (i := 99) (by decide +kernel), List.mem_of_getElem? (i := 479) (by decide +kernel), List.mem_of_getElem? (i := 480) (by decide +kernel)⟩
theorem lw_p11 : lw_okq (⟨"FewChanges$Search", "placeFrom", "(II)V"⟩, 13) := ⟨⟨by decide +kernel, by decide +kernel⟩, List.mem_of_getElem? (i := 99) (by decide +kernel), List.mem_of_getElem? (i := 484) (by decide +kernel), List.mem_of_getElem? (i := 485) (by decide +kernel)⟩
theorem lw_p12 : lw_okq (⟨"FewChanges$Search", "tryUnit", "(III)V"⟩, 13) := ⟨⟨by decide +kernel, by decide +kernel⟩, List.mem_of_getElem? (i := 99) (by decide +kernel), List.mem_of_getElem? (i := 489) (by decide +kernel), List.mem_of_getElem? (i := 490) (by decide +kernel)⟩
theorem lw_p13 : lw_okq (⟨"FewChanges$Search", "tryPlace", "(IIII)V"⟩, 13) := ⟨⟨by decide +kernel, by decide +kernel⟩, List.mem_of_getElem? (i := 99) (by decide +kernel), List.mem_of_getElem? (i := 497) (by decide +kernel), List.mem_of_getElem? (i := 498) (by decide +kernel)⟩
theorem lw_p14 : lw_okq (⟨"FewChangesModel", "throwing", "(ZZZZ)Z"⟩, 23) := ⟨⟨by decide +kernel, by decide +kernel⟩, List.mem_of_getElem? (i := 570) (by decide +kernel), List.mem_of_getElem? (i := 657) (by decide +kernel), List.mem_of_getElem? (i := 658) (by decide +kernel)⟩
theorem lw_p15 : lw_okq (⟨"FewChangesModel", "fits", "(III)Z"⟩, 23) := ⟨⟨by decide +kernel, by decide +kernel⟩, List.mem_of_getElem? (i := 570) (by decide +kernel), List.mem_of_getElem? (i := 665) (by decide +kernel), List.mem_of_getElem? (i := 666) (by decide +kernel)⟩
def lw_privs_1 : List (MethodName × Nat) := [(⟨"java/lang/Throwable", "fillInStackTrace", "(I)Ljava/lang/Throwable;"⟩, 6), (⟨"FewChanges", "isOrder", "(I)Z"⟩, 7), (⟨"FewChanges", "forgetCopiesAndUndo", "()V"⟩, 7), (⟨"FewChanges", "isHeat", "(I)Z"⟩, 7), (⟨"FewChanges", "rememberForUndo", "()V"⟩, 7), (⟨"FewChanges$Search", "looseHeats", "()I"⟩, 13), (⟨"FewChanges$Search", "searchRound", "(I)V"⟩, 13), (⟨"FewChanges$Search", "searchSet", "(I)V"⟩, 13), (⟨"FewChanges$Search", "canOthersStay", "()Z"⟩, 13), (⟨"FewChanges$Search", "isInSet", "(I)Z"⟩, 13), (⟨"FewChanges$Search", "costOfOthers", "()I"⟩, 13), (⟨"FewChanges$Search", "placeFrom", "(II)V"⟩, 13), (⟨"FewChanges$Search", "tryUnit", "(III)V"⟩, 13), (⟨"FewChanges$Search", "tryPlace", "(IIII)V"⟩, 13), (⟨"FewChangesModel", "throwing", "(ZZZZ)Z"⟩, 23), (⟨"FewChangesModel", "fits", "(III)Z"⟩, 23)]
theorem lw_r1 : ∀ q ∈ lw_privs_1, lw_okq q := List.forall_mem_cons.mpr ⟨lw_p0, List.forall_mem_cons.mpr ⟨lw_p1, List.forall_mem_cons.mpr ⟨lw_p2, List.forall_mem_cons.mpr ⟨lw_p3, List.forall_mem_cons.mpr ⟨lw_p4, List.forall_mem_cons.mpr ⟨lw_p5, List.forall_mem_cons.mpr ⟨lw_p6, List.forall_mem_cons.mpr ⟨lw_p7, List.forall_mem_cons.mpr ⟨lw_p8, List.forall_mem_cons.mpr ⟨lw_p9, List.forall_mem_cons.mpr ⟨lw_p10, List.forall_mem_cons.mpr ⟨lw_p11, List.forall_mem_cons.mpr ⟨lw_p12, List.forall_mem_cons.mpr ⟨lw_p13, List.forall_mem_cons.mpr ⟨lw_p14, List.forall_mem_cons.mpr ⟨lw_p15, fun _ h => absurd h List.not_mem_nil⟩⟩⟩⟩⟩⟩⟩⟩⟩⟩⟩⟩⟩⟩⟩⟩
theorem lw_p16 : lw_okq (⟨"FewChangesModel", "isFree", "(III)Z"⟩, 23) := ⟨⟨by decide +kernel, by decide +kernel⟩, List.mem_of_getElem? (i := 570) (by decide +kernel), List.mem_of_getElem? (i := 669) (by decide +kernel), List.mem_of_getElem? (i := 670) (by decide +kernel)⟩
theorem lw_p17 : lw_okq (⟨"FewChangesModel", "meets", "(IIIII)Z"⟩, 23) := ⟨⟨by decide +kernel, by decide +kernel⟩, List.mem_of_getElem? (i := 570) (by decide +kernel), List.mem_of_getElem? (i := 673) (by decide +kernel), List.mem_of_getElem? (i := 674) (by decide +kernel)⟩
theorem lw_p18 : lw_okq (⟨"FewChangesModel", "isHeat", "(I)Z"⟩, 23) := ⟨⟨by decide +kernel, by decide +kernel⟩, List.mem_of_getElem? (i := 570) (by decide +kernel), List.mem_of_getElem? (i := 693) (by decide +kernel), List.mem_of_getElem? (i := 694) (by decide +kernel)⟩
theorem lw_p19 : lw_okq (⟨"FewChangesModel", "isFrozen", "(I)Z"⟩, 23) := ⟨⟨by decide +kernel, by decide +kernel⟩, List.mem_of_getElem? (i := 570) (by decide +kernel), List.mem_of_getElem? (i := 697) (by decide +kernel), List.mem_of_getElem? (i := 698) (by decide +kernel)⟩
theorem lw_p20 : lw_okq (⟨"FewChangesModel", "keepForUndo", "()V"⟩, 23) := ⟨⟨by decide +kernel, by decide +kernel⟩, List.mem_of_getElem? (i := 570) (by decide +kernel), List.mem_of_getElem? (i := 701) (by decide +kernel), List.mem_of_getElem? (i := 702) (by decide +kernel)⟩
theorem lw_p21 : lw_okq (⟨"FewChangesModel", "copy", "(II)V"⟩, 23) := ⟨⟨by decide +kernel, by decide +kernel⟩, List.mem_of_getElem? (i := 570) (by decide +kernel), List.mem_of_getElem? (i := 705) (by decide +kernel), List.mem_of_getElem? (i := 706) (by decide +kernel)⟩
theorem lw_p22 : lw_okq (⟨"FewChangesModel", "tries", "(II)Z"⟩, 23) := ⟨⟨by decide +kernel, by decide +kernel⟩, List.mem_of_getElem? (i := 570) (by decide +kernel), List.mem_of_getElem? (i := 721) (by decide +kernel), List.mem_of_getElem? (i := 722) (by decide +kernel)⟩
theorem lw_p23 : lw_okq (⟨"FewChangesModel", "fitsTried", "(III)Z"⟩, 23) := ⟨⟨by decide +kernel, by decide +kernel⟩, List.mem_of_getElem? (i := 570) (by decide +kernel), List.mem_of_getElem? (i := 725) (by decide +kernel), List.mem_of_getElem? (i := 726) (by decide +kernel)⟩
theorem lw_p24 : lw_okq (⟨"FewChangesModel", "costPlaced", "()I"⟩, 23) := ⟨⟨by decide +kernel, by decide +kernel⟩, List.mem_of_getElem? (i := 570) (by decide +kernel), List.mem_of_getElem? (i := 729) (by decide +kernel), List.mem_of_getElem? (i := 730) (by decide +kernel)⟩
theorem lw_p25 : lw_okq (⟨"FewChangesModel", "costOf", "(II)I"⟩, 23) := ⟨⟨by decide +kernel, by decide +kernel⟩, List.mem_of_getElem? (i := 570) (by decide +kernel), List.mem_of_getElem? (i := 733) (by decide +kernel), List.mem_of_getElem? (i := 734) (by decide +kernel)⟩
theorem lw_p26 : lw_okq (⟨"FewChangesModel", "found", "(I)V"⟩, 23) := ⟨⟨by decide +kernel, by decide +kernel⟩, List.mem_of_getElem? (i := 570) (by decide +kernel), List.mem_of_getElem? (i := 740) (by decide +kernel), List.mem_of_getElem? (i := 741) (by decide +kernel)⟩
theorem lw_p27 : lw_okq (⟨"FewChangesModel", "isOld", "(II)Z"⟩, 23) := ⟨⟨by decide +kernel, by decide +kernel⟩, List.mem_of_getElem? (i := 570) (by decide +kernel), List.mem_of_getElem? (i := 744) (by decide +kernel), List.mem_of_getElem? (i := 745) (by decide +kernel)⟩
theorem lw_p28 : lw_okq (⟨"FewChangesModel", "isKept", "(I)Z"⟩, 23) := ⟨⟨by decide +kernel, by decide +kernel⟩, List.mem_of_getElem? (i := 570) (by decide +kernel), List.mem_of_getElem? (i := 775) (by decide +kernel), List.mem_of_getElem? (i := 776) (by decide +kernel)⟩
def lw_privs_2 : List (MethodName × Nat) := [(⟨"FewChangesModel", "isFree", "(III)Z"⟩, 23), (⟨"FewChangesModel", "meets", "(IIIII)Z"⟩, 23), (⟨"FewChangesModel", "isHeat", "(I)Z"⟩, 23), (⟨"FewChangesModel", "isFrozen", "(I)Z"⟩, 23), (⟨"FewChangesModel", "keepForUndo", "()V"⟩, 23), (⟨"FewChangesModel", "copy", "(II)V"⟩, 23), (⟨"FewChangesModel", "tries", "(II)Z"⟩, 23), (⟨"FewChangesModel", "fitsTried", "(III)Z"⟩, 23), (⟨"FewChangesModel", "costPlaced", "()I"⟩, 23), (⟨"FewChangesModel", "costOf", "(II)I"⟩, 23), (⟨"FewChangesModel", "found", "(I)V"⟩, 23), (⟨"FewChangesModel", "isOld", "(II)Z"⟩, 23), (⟨"FewChangesModel", "isKept", "(I)Z"⟩, 23)]
theorem lw_r2 : ∀ q ∈ lw_privs_2, lw_okq q := List.forall_mem_cons.mpr ⟨lw_p16, List.forall_mem_cons.mpr ⟨lw_p17, List.forall_mem_cons.mpr ⟨lw_p18, List.forall_mem_cons.mpr ⟨lw_p19, List.forall_mem_cons.mpr ⟨lw_p20, List.forall_mem_cons.mpr ⟨lw_p21, List.forall_mem_cons.mpr ⟨lw_p22, List.forall_mem_cons.mpr ⟨lw_p23, List.forall_mem_cons.mpr ⟨lw_p24, List.forall_mem_cons.mpr ⟨lw_p25, List.forall_mem_cons.mpr ⟨lw_p26, List.forall_mem_cons.mpr ⟨lw_p27, List.forall_mem_cons.mpr ⟨lw_p28, fun _ h => absurd h List.not_mem_nil⟩⟩⟩⟩⟩⟩⟩⟩⟩⟩⟩⟩⟩
def lw_privs : List (MethodName × Nat) := lw_privs_1 ++ (lw_privs_2)
def lw_tbl : List Cond := k2_sels lw_privs ++ tables_1
theorem lw_privs_ok : ∀ q ∈ lw_privs, lw_okq q := by
  show ∀ q ∈ lw_privs_1 ++ (lw_privs_2), lw_okq q
  exact List.forall_mem_append.mpr ⟨lw_r1, lw_r2⟩
/-! ===== BEGIN words of one list among another's, by their places ===== -/
theorem goodIn_r {big : List Cond} (ws : List Cond) (ps : List Nat) (hp : ws = ps.filterMap (fun i => big[i]?)) (h : ws.all goodWord = true) : GoodIn big ws := by
  intro w hw
  have h1 := List.all_eq_true.mp h w hw
  rw [hp] at hw
  obtain ⟨i, -, hi⟩ := List.mem_filterMap.mp hw
  have hm : w ∈ big := by first | exact List.mem_of_getElem? hi | exact List.getElem?_mem hi
  exact ⟨hm, good_of_word h1⟩
theorem goodIn_app {big a b : List Cond} (ha : GoodIn big a) (hb : GoodIn big b) : GoodIn big (a ++ b) := fun w h => (List.mem_append.mp h).elim (ha w) (hb w)
theorem goodIn_ca {big a b : List Cond} {c : Cond} (ha : GoodIn big (c :: a)) (hb : GoodIn big b) : GoodIn big (c :: (a ++ b)) := fun w h => (List.mem_cons.mp h).elim (fun e => ha w (List.mem_cons.mpr (Or.inl e))) (fun h => (List.mem_append.mp h).elim (fun h => ha w (List.mem_cons.mpr (Or.inr h))) (hb w))
theorem goodIn_sub {big ws : List Cond} (hm : ∀ w ∈ ws, w ∈ big) (h : ws.all goodWord = true) : GoodIn big ws := fun w hw => ⟨hm w hw, good_of_word (List.all_eq_true.mp h w hw)⟩
/-! ===== END ===== -/

/-! ===== BEGIN exceptions that leave a method, and their catching by the caller (launches without stack traces) ===== -/
section VXA
/-! The laws vx_back, vx_callV, vx_callS, vx_callSW, vx_throw0, vx_throwS follow proofs of the library, with one case more: JvmDerived/Free/Laws.lean (Back.of_free), Shelf42/LK1.lean (callV, callS), Shelf/KitTraced.lean (throwNew0V, throwNewS). -/
/-- where a method has thrown q: the class by its name, the cell, what was written, the world -/
def vx_T (XC : String → State → State → Prop) (st : State) (q : Addr) (t : State) (mc ms : Nat) (free : Addr → Prop) : Prop :=
  ∃ (E : String) (ce : Cell) (L : List Loc), XC E st t ∧ t.heap[q]? = some ce ∧ ce.vm = .none ∧ st.vm.findClass E = some ce.cls ∧ st.WarmedH t.vm ∧ st.sameButNew ({ t with vm := st.vm } : State) L mc ms ∧ ∀ z ∈ L, free z.base
def vx_Q (Qc : Array Value → State → Outcome → State → Prop) (XC : String → State → State → Prop) (mc ms : Nat) (free : Addr → Prop) : Array Value → State → Outcome → State → Prop := fun a st o t =>
  (Qc a st o t ∧ ∃ L, FrameEnd st o t L mc ms ∧ ∀ q ∈ L, free q.base) ∨ ∃ q, o = .threw q ∧ vx_T XC st q t mc ms free
/-- a callee that returns or throws -/
def vx_Met (l : Launch) (y : MethodName) (ws : List Cond) (rm : Room) (Pc : Array Value → State → Prop) (Qc : Array Value → State → Outcome → State → Prop) (XC : String → State → State → Prop) (mc ms : Nat) (free : Addr → Prop) : Prop :=
  MetFree l y (headSpec ws rm) Pc (fun _ _ _ _ _ => True) (vx_Q Qc XC mc ms free)
def vx_Post (XC : String → State → State → Prop) (mc ms : Nat) (free : Addr → Prop) : Pt → Array Value → Addr → Pt → Prop := fun A a q B =>
  ∃ (g : JFrame) (mk : MethodId) (t : State) (L : List Loc) (E : String) (ce : Cell), B.U.heap = t.heap ∧ B.U.vm = t.vm ∧ XC E (A.U.calling g mk a) t ∧ t.heap[q]? = some ce ∧ ce.vm = .none ∧ A.U.vm.findClass E = some ce.cls ∧ B.locs = A.locs ++ L ∧ (∀ z ∈ L, free z.base) ∧ B.cells = A.cells + mc ∧ B.slots = A.slots + ms
def vx_Back (l : Launch) (R : Room) (p : Program) (e : Env) (below : List Frame) (s : State) (sargs : Array Value) (y : MethodName) (len W9 : Nat)
    (Pre : Pt → Array Value → Prop) (Post : Pt → Array Value → Option Value → Pt → Prop) (PostX : Pt → Array Value → Addr → Pt → Prop) : Prop :=
  ∀ (m : MethodId) (meth : Method) (c : Code) (A : Pt) (g : JFrame) (ig : Instr) (mk : MethodId) (a : Array Value),
    Stand p l e R s m sargs below meth c A.U A.locs A.cells A.slots → g.method = m → g.locals.size = c.maxLocals → decode c.code g.pc = .ok (ig, len) →
    2 * g.monitorRoom + (g.stack.map fun v => v.category).sum ≤ W9 → A.U.methodNamed? y = some mk → Pre A a →
    (∃ (v : Option Value) (B : Pt), Stand p l e R s m sargs below meth c B.U B.locs B.cells B.slots ∧ Post A a v B ∧
      Steps p.tables e below (doInvoke e (A.U.setTop g) [] mk a).1 (B.U.setTop { g with pc := g.pc + len, stack := v.toList ++ g.stack })) ∨
    (∃ (q : Addr) (B : Pt), Stand p l e R s m sargs below meth c B.U B.locs B.cells B.slots ∧ PostX A a q B ∧
      Steps p.tables e below (doInvoke e (A.U.setTop g) [] mk a).1 ((B.U.setTop g).pushFrame (.throwing q)))
section Payer
variable {l : Launch} {R : Room} {p : Program} {e : Env} {below : List Frame} {s : State} {sargs : Array Value} {y : MethodName} {len W9 : Nat}
theorem vx_back {ws : List Cond} {rm : Room} {Pc : Array Value → State → Prop} {Qc : Array Value → State → Outcome → State → Prop} {XC : String → State → State → Prop} {mc ms : Nat} {free : Addr → Prop} {bytes : ByteArray} {maxL : Nat} {ret : Option FieldType}
    (hM : vx_Met l y ws rm Pc Qc XC mc ms free) (hblind : FrameBlind Pc) (hrc : rm.cells = mc) (hrs : rm.slots = ms)
    (hframes : rm.frames + 1 ≤ R.frames) (hlocals : W9 + (maxL + 11) + rm.locals ≤ R.locals)
    (hws : ∀ w ∈ ws, ∀ a' U, s.WarmedH U.vm → w.before a' U = true) (hcode : Cond.code y bytes maxL ret ∈ ws) (hinit : ∀ a' U, s.WarmedH U.vm → (Cond.initialized y.cls).before a' U = true) :
    vx_Back l R p e below s sargs y len W9 (PreOf R mc ms Pc) (PostOf Qc mc ms free) (vx_Post XC mc ms free) := by
  intro m meth c A g ig mk a X hg hsize hdg hW hn hp
  have h1 : (headSpec ws rm).pre.before a A.U = true := atoms_intro fun w hw => hws w hw _ _ X.warmed
  have h2 : (Cond.code y bytes maxL ret).before a A.U = true := hws _ hcode _ _ X.warmed
  have h3 : (Cond.initialized y.cls).before a A.U = true := hinit _ _ X.warmed
  have h4 : A.cells + (headSpec ws rm).room.cells ≤ R.cells := by rw [show (headSpec ws rm).room.cells = mc from hrc]; exact hp.1
  have h5 : A.slots + (headSpec ws rm).room.slots ≤ R.slots := by rw [show (headSpec ws rm).room.slots = ms from hrs]; exact hp.2.1
  have hPc : Pc a (A.U.calling g mk a) := hblind _ _ _ _ hp.2.2
  obtain ⟨U, Ls, c0, s0⟩ := A
  dsimp only [Pt.U, Pt.locs, Pt.cells, Pt.slots] at h1 h2 h3 h4 h5 X hn hPc ⊢
  obtain ⟨methY, cY, hmY, hcY, -, hlY, -, -, -, -⟩ := Cond.code_spec hn h2
  obtain ⟨kY, hkY, -⟩ := className_of_methodNamed hn
  have hinitY : kY.init = .initialized := Cond.initialized_spec (findClass_of_methodNamed hn) hkY h3
  have h : At U g.method c below := by rw [hg]; exact X.here
  have hlocals9 : W9 + (maxL + 11) + (headSpec ws rm).room.locals ≤ R.locals := hlocals
  have happ : (headSpec ws rm).appliesLoose y e.platform (U.calling g mk a) = true :=
    Spec.appliesLoose_calling (g := g) h hdg hn hkY hinitY
      (X.room_calling (g := g) (R' := (headSpec ws rm).room) hsize hmY hcY hframes (by rw [hlY]; omega) h4 h5) h1
  obtain ⟨mid, hmid⟩ := h.above
  have hfr : (U.setTop g).frames = (.java g :: mid) ++ below := by rw [State.frames_setTop' g h.top, hmid]; rfl
  obtain ⟨o, s₂, hsteps, -, hend, hq⟩ := Steps.callFree hM p X.admits X.cas X.clock (acts := []) hfr happ hPc trivial
  have hq' : vx_Q Qc XC mc ms free a (U.calling g mk a) o s₂ := hq
  rw [State.frames_setTop' g h.top] at hend
  obtain ⟨g₀, hg0⟩ := Option.isSome_iff_exists.mp h.top
  obtain ⟨r, hr⟩ := State.topJava?_eq_some.mp hg0
  have hr' : (({ U with heap := s₂.heap, slotsUsed := s₂.slotsUsed } : State).setVm s₂.vm).frames = .java g₀ :: r := hr
  rcases hq' with ⟨hqc, L, hfe, hL⟩ | ⟨q, rfl, E, ce, L, hx, hce, hcv, hcl, hW₂, hsm, hL⟩
  · obtain ⟨⟨v, rfl⟩, hW₂, e2, q2, q3, q4, q5, q6⟩ := id hfe
    have e3 : s₂ = ({ (U.calling g mk a).setFrames s₂.frames with heap := s₂.heap, slotsUsed := s₂.slotsUsed } : State).setVm s₂.vm := by
      have : s₂ = ({ s₂ with vm := (U.calling g mk a).vm } : State).setVm s₂.vm := rfl
      rw [e2] at this
      exact this
    obtain ⟨c₂, i₂, len₂, hc₂, hd₂, hf₂⟩ := hend
    have hW' : U.WarmedH s₂.vm := hW₂
    have hcc : c₂ = c := by
      have h1 : s₂.code? g.method = U.code? g.method := by
        rw [State.code?_eq, State.code?_eq, hW'.alike.method?]
      exact Option.some.inj (hc₂.symm.trans (h1.trans h.code))
    subst hcc
    have hlen : len₂ = len := by rw [hdg] at hd₂; cases hd₂; rfl
    subst hlen
    have hs₂ : s₂ = (({ U with heap := s₂.heap, slotsUsed := s₂.slotsUsed } : State).setVm s₂.vm).setTop { g with pc := g.pc + len₂, stack := v.toList ++ g.stack } := by
      refine e3.trans ?_
      rw [hf₂, State.calling_eq h.top, State.setFrames_setFrames, State.setTop_of_frames _ hr', hr]
      rfl
    have hsame : U.sameButNew ({ U with heap := s₂.heap, slotsUsed := s₂.slotsUsed } : State) L mc ms := by
      refine ⟨?_, q2, q3, q4, q5, q6⟩
      obtain ⟨t, ht, -⟩ := State.frames_cons hr
      show ({ U with heap := s₂.heap, slotsUsed := s₂.slotsUsed } : State) = { U.setFrames U.frames with heap := s₂.heap, slotsUsed := s₂.slotsUsed }
      rw [State.setFrames_self ht]
    subst hg
    refine Or.inl ⟨v, ⟨(({ U with heap := s₂.heap, slotsUsed := s₂.slotsUsed } : State).setVm s₂.vm), Ls ++ L, c0 + mc, s0 + ms⟩,
      ⟨X.admits, X.cas, X.clock, X.frames, X.room, X.hears, X.method, X.code, (X.here.setHeapUsed s₂.heap s₂.slotsUsed).setVm hW'.alike, X.tail, State.WarmedH.trans X.warmed hW', X.limits, X.bytes, X.same.trans (hsame.setVm s.vm)⟩,
      ⟨g, mk, s₂, L, rfl, rfl, hqc, rfl, hL, rfl, rfl⟩, ?_⟩
    show Steps p.tables e below _ ((({ U with heap := s₂.heap, slotsUsed := s₂.slotsUsed } : State).setVm s₂.vm).setTop { g with pc := g.pc + len₂, stack := v.toList ++ g.stack })
    rw [← hs₂]
    exact hsteps
  · obtain ⟨e2, q2, q3, q4, q5, q6⟩ := id hsm
    have e3 : s₂ = ({ (U.calling g mk a).setFrames s₂.frames with heap := s₂.heap, slotsUsed := s₂.slotsUsed } : State).setVm s₂.vm := by
      have : s₂ = ({ s₂ with vm := (U.calling g mk a).vm } : State).setVm s₂.vm := rfl
      rw [e2] at this
      exact this
    have hf₂ : s₂.frames = .throwing q :: .java g :: U.frames.tail := hend
    have hW' : U.WarmedH s₂.vm := hW₂
    have hs₂ : s₂ = ((({ U with heap := s₂.heap, slotsUsed := s₂.slotsUsed } : State).setVm s₂.vm).setTop g).pushFrame (.throwing q) := by
      refine e3.trans ?_
      rw [hf₂, State.calling_eq h.top, State.setFrames_setFrames, State.pushFrame, State.frames_setTop _ hr', State.setTop_of_frames _ hr', State.setFrames_setFrames, hr]
      rfl
    have hsame : U.sameButNew ({ U with heap := s₂.heap, slotsUsed := s₂.slotsUsed } : State) L mc ms := by
      refine ⟨?_, q2, q3, q4, q5, q6⟩
      obtain ⟨t, ht, -⟩ := State.frames_cons hr
      show ({ U with heap := s₂.heap, slotsUsed := s₂.slotsUsed } : State) = { U.setFrames U.frames with heap := s₂.heap, slotsUsed := s₂.slotsUsed }
      rw [State.setFrames_self ht]
    subst hg
    refine Or.inr ⟨q, ⟨(({ U with heap := s₂.heap, slotsUsed := s₂.slotsUsed } : State).setVm s₂.vm), Ls ++ L, c0 + mc, s0 + ms⟩,
      ⟨X.admits, X.cas, X.clock, X.frames, X.room, X.hears, X.method, X.code, (X.here.setHeapUsed s₂.heap s₂.slotsUsed).setVm hW'.alike, X.tail, State.WarmedH.trans X.warmed hW', X.limits, X.bytes, X.same.trans (hsame.setVm s.vm)⟩,
      ⟨g, mk, s₂, L, E, ce, rfl, rfl, hx, hce, hcv, hcl, rfl, hL, rfl, rfl⟩, ?_⟩
    show Steps p.tables e below _ (((({ U with heap := s₂.heap, slotsUsed := s₂.slotsUsed } : State).setVm s₂.vm).setTop g).pushFrame (.throwing q))
    rw [← hs₂]
    exact hsteps
end Payer
section Calls
variable {p : Program} {l : Launch} {e : Env} {R : Room} {s : State} {m : MethodId} {args : Array Value} {below : List Frame} {meth : Method} {c : Code} {T : State} {locs : List Loc} {cells slots : Nat}
theorem vx_callV (X : Stand p l e R s m args below meth c T locs cells slots) (hexec : p.tables.exec = Jvm.exec) {own C : String} {index : Nat} {y : MethodName} {bytes : ByteArray} {maxL : Nat} {ret : Option FieldType}
    (hown : s.vm.findClass own = some m.cls) (hlink : (Cond.methodLink own index y).before args s = true) (hinst : (Cond.instanceMethod y).before args s = true) (hsel : (Cond.selects C y y).before args s = true)
    (hcode : (Cond.code y bytes maxL ret).before args s = true) (hy : y.cls ≠ "java/lang/invoke/MethodHandle" ∧ y.cls ≠ "java/lang/invoke/VarHandle")
    {W9 : Nat} {Pre : Pt → Array Value → Prop} {Post : Pt → Array Value → Option Value → Pt → Prop} {PostX : Pt → Array Value → Addr → Pt → Prop} (hK : vx_Back l R p e below s args y 3 W9 Pre Post PostX)
    {b : Addr} {cellB : Cell} (hcell : T.heap[b]? = some cellB) (hobj : cellB.vm.isStatics = false) (hcls : s.vm.findClass C = some cellB.cls)
    {g : JFrame} (hg : g.method = m) (hsize : g.locals.size = c.maxLocals) {argsL rest : List Value} (hlen : ∀ sig, parseMethodDescriptor y.desc = some sig → argsL.length = sig.parameters.length)
    (hstack : g.stack = argsL.reverse ++ .ref b :: rest) (hW : 2 * g.monitorRoom + (rest.map fun v => v.category).sum ≤ W9) (hdg : decode c.code g.pc = .ok (.invokevirtual index, 3))
    (hpre : ∀ vm₁, s.WarmedH vm₁ → Pre ⟨T.setVm vm₁, locs, cells, slots⟩ (Value.ref b :: argsL).toArray) :
    (∃ (v : Option Value) (vm₁ : Vm) (B : Pt), s.WarmedH vm₁ ∧ Stand p l e R s m args below meth c B.U B.locs B.cells B.slots ∧ Post ⟨T.setVm vm₁, locs, cells, slots⟩ (Value.ref b :: argsL).toArray v B ∧
      ∀ target, Steps p.tables e below (B.U.setTop { g with pc := g.pc + 3, stack := v.toList ++ rest }) target → Steps p.tables e below (T.setTop g) target) ∨
    (∃ (q : Addr) (vm₁ : Vm) (B : Pt), s.WarmedH vm₁ ∧ Stand p l e R s m args below meth c B.U B.locs B.cells B.slots ∧ PostX ⟨T.setVm vm₁, locs, cells, slots⟩ (Value.ref b :: argsL).toArray q B ∧
      Steps p.tables e below (T.setTop g) ((B.U.setTop { g with stack := rest }).pushFrame (.throwing q))) := by
  obtain ⟨mk, methM, hnamed, hmethM, hstM, habM⟩ := Cond.instanceMethod_spec hinst
  obtain ⟨methM', cM, hmethM', -, -, -, -, -, -, hsigM⟩ := Cond.code_spec hnamed hcode
  cases hmethM.symm.trans hmethM'
  obtain ⟨c2, r2, m2, q1, q2, q3, q4, kP, hkP, hkPi⟩ := Cond.selects_spec hsel
  cases hcls.symm.trans q1
  cases (State.methodFound?_of_named hnamed hy).symm.trans q2
  cases hnamed.symm.trans q3
  have hselP : selectMethod e.platform s.vm cellB.cls mk = .method mk := by rw [Launch.admits_selectMethod X.admits]; exact q4
  obtain ⟨vm₁, X₁, hstep₁⟩ := X.invokevirtual hexec hown hlink hnamed hmethM hstM hkP hkPi hy (a := b) (cell := cellB) hcell
    (fun z h => by rw [h] at hobj; cases hobj) hselP hmethM habM hkP hkPi (g := g) hg (argsL := argsL) (rest := rest) (hlen _ hsigM) hstack hdg
  rcases hK m meth c ⟨T.setVm vm₁, locs, cells, slots⟩ { g with stack := rest } (.invokevirtual index) mk (Value.ref b :: argsL).toArray X₁ hg hsize hdg hW (X₁.named hnamed) (hpre vm₁ X₁.warmed) with ⟨v, B, X', hpost, hsteps⟩ | ⟨q, B, X', hpost, hsteps⟩
  · exact Or.inl ⟨v, vm₁, B, X₁.warmed, X', hpost, fun target h => hstep₁ _ fun acts => by rw [doInvoke_state]; exact hsteps.trans h⟩
  · exact Or.inr ⟨q, vm₁, B, X₁.warmed, X', hpost, hstep₁ _ fun acts => by rw [doInvoke_state]; exact hsteps⟩
theorem vx_callS (X : Stand p l e R s m args below meth c T locs cells slots) (hexec : p.tables.exec = Jvm.exec) {own : String} {index : Nat} {y : MethodName} {bytes : ByteArray} {maxL : Nat} {ret : Option FieldType}
    (hown : s.vm.findClass own = some m.cls) (hlink : (Cond.methodLink own index y).before args s = true) (hstat : (Cond.static y).before args s = true) (hinit : (Cond.initialized y.cls).before args s = true)
    (hcode : (Cond.code y bytes maxL ret).before args s = true) (hy : y.cls ≠ "java/lang/invoke/MethodHandle" ∧ y.cls ≠ "java/lang/invoke/VarHandle")
    {W9 : Nat} {Pre : Pt → Array Value → Prop} {Post : Pt → Array Value → Option Value → Pt → Prop} {PostX : Pt → Array Value → Addr → Pt → Prop} (hK : vx_Back l R p e below s args y 3 W9 Pre Post PostX)
    {g : JFrame} (hg : g.method = m) (hsize : g.locals.size = c.maxLocals) {argsL rest : List Value} (hlen : ∀ sig, parseMethodDescriptor y.desc = some sig → argsL.length = sig.parameters.length)
    (hstack : g.stack = argsL.reverse ++ rest) (hW : 2 * g.monitorRoom + (rest.map fun v => v.category).sum ≤ W9) (hdg : decode c.code g.pc = .ok (.invokestatic index, 3))
    (hpre : ∀ vm₁, s.WarmedH vm₁ → Pre ⟨T.setVm vm₁, locs, cells, slots⟩ argsL.toArray) :
    (∃ (v : Option Value) (vm₁ : Vm) (B : Pt), s.WarmedH vm₁ ∧ Stand p l e R s m args below meth c B.U B.locs B.cells B.slots ∧ Post ⟨T.setVm vm₁, locs, cells, slots⟩ argsL.toArray v B ∧
      ∀ target, Steps p.tables e below (B.U.setTop { g with pc := g.pc + 3, stack := v.toList ++ rest }) target → Steps p.tables e below (T.setTop g) target) ∨
    (∃ (q : Addr) (vm₁ : Vm) (B : Pt), s.WarmedH vm₁ ∧ Stand p l e R s m args below meth c B.U B.locs B.cells B.slots ∧ PostX ⟨T.setVm vm₁, locs, cells, slots⟩ argsL.toArray q B ∧
      Steps p.tables e below (T.setTop g) ((B.U.setTop { g with stack := rest }).pushFrame (.throwing q))) := by
  obtain ⟨mk, hnamed⟩ := Cond.code_named hcode
  obtain ⟨methM, cM, hmethM, -, -, -, -, -, -, hsigM⟩ := Cond.code_spec hnamed hcode
  have hstatic : methM.isStatic = true := Cond.static_spec hnamed hmethM hstat
  obtain ⟨kP, hkP, -⟩ := className_of_methodNamed hnamed
  have hinitP : kP.init = .initialized := Cond.initialized_spec (findClass_of_methodNamed hnamed) hkP hinit
  obtain ⟨vm₁, X₁, hstep₁⟩ := X.invokestatic hexec hown hlink hnamed hmethM hstatic hkP hinitP hy (g := g) hg (argsL := argsL) (rest := rest) (hlen _ hsigM) hstack hdg
  rcases hK m meth c ⟨T.setVm vm₁, locs, cells, slots⟩ { g with stack := rest } (.invokestatic index) mk argsL.toArray X₁ hg hsize hdg hW (X₁.named hnamed) (hpre vm₁ X₁.warmed) with ⟨v, B, X', hpost, hsteps⟩ | ⟨q, B, X', hpost, hsteps⟩
  · exact Or.inl ⟨v, vm₁, B, X₁.warmed, X', hpost, fun target h => hstep₁ _ fun acts => by rw [doInvoke_state]; exact hsteps.trans h⟩
  · exact Or.inr ⟨q, vm₁, B, X₁.warmed, X', hpost, hstep₁ _ fun acts => by rw [doInvoke_state]; exact hsteps⟩
end Calls
theorem vx_cls {s : State} {T : State} {vm₁ : Vm} {E : String} {k : ClassId} (hW : s.WarmedH vm₁) (h : (T.setVm vm₁).vm.findClass E = some k) : s.vm.findClass E = some k := by
  have h1 : vm₁.findClass E = some k := h
  rw [hW.alike.findClass] at h1
  exact h1
/-- the method's frame g, with q thrown over it -/
def vx_W (p : Program) (l : Launch) (e : Env) (R : Room) (s : State) (m : MethodId) (args : Array Value) (below : List Frame) (meth : Method) (c : Code) (H : Heap) (locs : List Loc) (cells slots : Nat) (Q : State → Prop) (g : JFrame) (q : Addr) : Prop :=
  ∀ T : State, T.heap = H → Stand p l e R s m args below meth c T locs cells slots → ∃ t, Steps p.tables e below ((T.setTop g).pushFrame (.throwing q)) t ∧ Q t
def vx_Run (p : Program) (l : Launch) (e : Env) (R : Room) (s : State) (m : MethodId) (args : Array Value) (below : List Frame) (meth : Method) (c : Code) (H : Heap) (locs : List Loc) (cells slots mc ms : Nat) (g : JFrame) (rest : List Value) (Qa : State → Outcome → State → Prop) (XC : String → State → State → Prop) (free : Addr → Prop) : Prop :=
  ∀ T : State, T.heap = H → Stand p l e R s m args below meth c T locs cells slots →
    (∃ (v : Option Value) (st₀ t T' : State) (L : List Loc), st₀.heap = H ∧ Stand p l e R s m args below meth c T' (locs ++ L) (cells + mc) (slots + ms) ∧ (∀ q ∈ L, free q.base) ∧ T'.heap = t.heap ∧ T'.vm = t.vm ∧ Qa st₀ (.returned v) t ∧
      Goes p e below T g T' { g with pc := g.pc + 3, stack := v.toList ++ rest }) ∨
    (∃ (q : Addr) (st₀ t T' : State) (L : List Loc) (E : String) (ce : Cell), st₀.heap = H ∧ Stand p l e R s m args below meth c T' (locs ++ L) (cells + mc) (slots + ms) ∧ (∀ z ∈ L, free z.base) ∧ T'.heap = t.heap ∧ T'.vm = t.vm ∧ XC E st₀ t ∧ t.heap[q]? = some ce ∧ ce.vm = .none ∧ s.vm.findClass E = some ce.cls ∧
      Steps p.tables e below (T.setTop g) ((T'.setTop { g with stack := rest }).pushFrame (.throwing q)))
def vx_X {S : Type} (px : S → Prop) (B : String → S → State → Prop) (A : Nat → Prop) : String → State → State → Prop := fun E st t => ∃ u : S, px u ∧ B E u t ∧ va_F A st t
section Runs
variable {p : Program} {l : Launch} {e : Env} {R : Room} {s : State} {m : MethodId} {args : Array Value} {below : List Frame} {meth : Method} {c : Code} {H : Heap} {locs : List Loc} {cells slots : Nat}
variable {y : MethodName} {bytes cc : ByteArray} {maxL nL mc ms n index : Nat} {ret : Option FieldType} {ws : List Cond} {rm : Room} {Pc : Array Value → State → Prop} {Qc : Array Value → State → Outcome → State → Prop} {XC : String → State → State → Prop} {free : Addr → Prop} {Ts : List Cond} {own C : String} {b : Addr} {As rest : List Value} {g : JFrame}
theorem vx_callBack (cb : CallB R s args own index y bytes maxL ret ws rm mc ms n) (hM : vx_Met l y ws rm Pc Qc XC mc ms free) (hbl : FrameBlind Pc) : vx_Back l R p e below s args y 3 8 (PreOf R mc ms Pc) (PostOf Qc mc ms free) (vx_Post XC mc ms free) := by
  obtain ⟨hrc, hrs, hfr, hlo, hws, hcw, -, hini, -⟩ := cb
  exact vx_back (bytes := bytes) (maxL := maxL) (ret := ret) hM hbl hrc hrs hfr hlo hws hcw (fun a' U hW => word_at hW (Or.inl (by first | rfl | simp [Cond.onTables, Cond.keeps, Cond.steady])) hini)
theorem vx_runV (S : CallFix p m c cc nL s args Ts own) (hM : vx_Met l y ws rm Pc Qc XC mc ms free) (cw : CallW R s args own C index y bytes maxL ret ws rm mc ms n) (hp : PreV s H C b Pc As)
    (hg : g.method = m) (hn : As.length = n) (hsize : g.locals.size = nL) (hstack : g.stack = As.reverse ++ .ref b :: rest) (hW : 2 * g.monitorRoom + (rest.map fun v => v.category).sum ≤ 8) (hdg : decode cc g.pc = .ok (.invokevirtual index, 3)) (hf : cells + mc ≤ R.cells ∧ slots + ms ≤ R.slots) :
    vx_Run p l e R s m args below meth c H locs cells slots mc ms g rest (Qc (Value.ref b :: As).toArray) XC free := by
  have hK : vx_Back l R p e below s args y 3 8 (PreOf R mc ms Pc) (PostOf Qc mc ms free) (vx_Post XC mc ms free) := vx_callBack cw.1 hM hp.1
  obtain ⟨⟨-, -, -, -, -, -, hcode, -, hy, hlen, hl⟩, hin, hse⟩ := cw
  obtain ⟨hx, hb, hml, ho, -⟩ := S
  obtain ⟨-, ⟨cellB, hcB, hoB, hclB⟩, hPc⟩ := hp
  intro T hT X
  rcases vx_callV X hx (C := C) (bytes := bytes) (maxL := maxL) (ret := ret) ho hl hin hse hcode hy hK (by rw [hT]; exact hcB) hoB hclB hg (hsize.trans hml.symm) (argsL := As) (rest := rest) (fun sig h => hn.trans (hlen sig h)) hstack hW (by rw [hb]; exact hdg)
    (fun vm₁ hW₁ => ⟨hf.1, hf.2, hPc (T.setVm vm₁) hT hW₁⟩) with ⟨v, vm₁, ⟨U', l2, c2, s2⟩, hW₁, X', ⟨g', mk, t, L, e1, e2, hq, h1, hL, h2, h3⟩, st⟩ | ⟨q, vm₁, ⟨U', l2, c2, s2⟩, hW₁, X', ⟨g', mk, t, L, E, ce, e1, e2, hq, hce, hcv, hcl, h1, hL, h2, h3⟩, st⟩
  · dsimp only [Pt.U, Pt.locs, Pt.cells, Pt.slots] at X' e1 e2 h1 h2 h3 st
    subst h1; subst h2; subst h3
    exact Or.inl ⟨v, (T.setVm vm₁).calling g' mk (Value.ref b :: As).toArray, t, U', L, hT, X', hL, e1, e2, hq, st⟩
  · dsimp only [Pt.U, Pt.locs, Pt.cells, Pt.slots] at X' e1 e2 h1 h2 h3 st hcl
    subst h1; subst h2; subst h3
    exact Or.inr ⟨q, (T.setVm vm₁).calling g' mk (Value.ref b :: As).toArray, t, U', L, E, ce, hT, X', hL, e1, e2, hq, hce, hcv, vx_cls hW₁ hcl, st⟩
theorem vx_runS (S : CallFix p m c cc nL s args Ts own) (hM : vx_Met l y ws rm Pc Qc XC mc ms free) (cw : CallB R s args own index y bytes maxL ret ws rm mc ms n ∧ (Cond.static y).before args s = true) (hp : PreS s H Pc As)
    (hg : g.method = m) (hn : As.length = n) (hsize : g.locals.size = nL) (hstack : g.stack = As.reverse ++ rest) (hW : 2 * g.monitorRoom + (rest.map fun v => v.category).sum ≤ 8) (hdg : decode cc g.pc = .ok (.invokestatic index, 3)) (hf : cells + mc ≤ R.cells ∧ slots + ms ≤ R.slots) :
    vx_Run p l e R s m args below meth c H locs cells slots mc ms g rest (Qc As.toArray) XC free := by
  have hK : vx_Back l R p e below s args y 3 8 (PreOf R mc ms Pc) (PostOf Qc mc ms free) (vx_Post XC mc ms free) := vx_callBack cw.1 hM hp.1
  obtain ⟨⟨-, -, -, -, -, -, hcode, hini, hy, hlen, hl⟩, hstt⟩ := cw
  obtain ⟨hx, hb, hml, ho, -⟩ := S
  intro T hT X
  rcases vx_callS X hx (bytes := bytes) (maxL := maxL) (ret := ret) ho hl hstt hini hcode hy hK hg (hsize.trans hml.symm) (argsL := As) (rest := rest) (fun sig h => hn.trans (hlen sig h)) hstack hW (by rw [hb]; exact hdg)
    (fun vm₁ hW₁ => ⟨hf.1, hf.2, hp.2 (T.setVm vm₁) hT hW₁⟩) with ⟨v, vm₁, ⟨U', l2, c2, s2⟩, hW₁, X', ⟨g', mk, t, L, e1, e2, hq, h1, hL, h2, h3⟩, st⟩ | ⟨q, vm₁, ⟨U', l2, c2, s2⟩, hW₁, X', ⟨g', mk, t, L, E, ce, e1, e2, hq, hce, hcv, hcl, h1, hL, h2, h3⟩, st⟩
  · dsimp only [Pt.U, Pt.locs, Pt.cells, Pt.slots] at X' e1 e2 h1 h2 h3 st
    subst h1; subst h2; subst h3
    exact Or.inl ⟨v, (T.setVm vm₁).calling g' mk As.toArray, t, U', L, hT, X', hL, e1, e2, hq, st⟩
  · dsimp only [Pt.U, Pt.locs, Pt.cells, Pt.slots] at X' e1 e2 h1 h2 h3 st hcl
    subst h1; subst h2; subst h3
    exact Or.inr ⟨q, (T.setVm vm₁).calling g' mk As.toArray, t, U', L, E, ce, hT, X', hL, e1, e2, hq, hce, hcv, vx_cls hW₁ hcl, st⟩
end Runs
section Rows
variable {p : Program} {l : Launch} {e : Env} {R : Room} {s : State} {m : MethodId} {args : Array Value} {below : List Frame} {meth : Method} {c : Code} {H : Heap} {locs : List Loc} {cells slots : Nat} {Q : State → Prop}
variable {mc ms : Nat} {free : Addr → Prop} {A0 A1 : Nat → Prop} {H0 : Heap} {a : Array Value} {pc : Nat} {ls : Array Slot} {st0 rest : List Value}
theorem vx_keep {st₀ t T' : State} {L : List Loc} (h0 : st₀.heap = H) (e1 : T'.heap = t.heap) (hS : va_S A0 H0 H locs) (hA : ∀ q, q < H.size → A1 q → A0 q) (hf : ∀ q, free q → A0 q) (hL : ∀ q ∈ L, free q.base) (hF : va_F A1 st₀ t) :
    H.size ≤ T'.heap.size ∧ (∀ q : Nat, q < H.size → ¬ A1 q → T'.heap[q]? = H[q]?) ∧ va_S A0 H0 T'.heap (locs ++ L) := by
  obtain ⟨hz, hk⟩ := hF
  rw [h0] at hz hk
  exact ⟨by rw [e1]; exact hz, fun q h1 h2 => by rw [e1]; exact hk q h1 h2,
    ⟨Nat.le_trans hS.1 (by rw [e1]; exact hz), fun q h1 h2 => by rw [e1, hk q (Nat.lt_of_lt_of_le h1 hS.1) (fun z => h2 (hA q (Nat.lt_of_lt_of_le h1 hS.1) z))]; exact hS.2.1 q h1 h2, fun q hq => by
      rcases List.mem_append.mp hq with h | h
      · exact hS.2.2 q h
      · exact hf _ (hL q h)⟩⟩
theorem vx_calli {S SX : Type} {post : Int32 → S → Prop} {px : SX → Prop} {B : S → State → Prop} {BX : String → SX → State → Prop} {AX : Nat → Prop} (hr : vx_Run p l e R s m args below meth c H locs cells slots mc ms (F0 m pc ls st0) rest (va_Qi post B A1 a) (vx_X px BX AX) free) (hS : va_S A0 H0 H locs) (hA : ∀ q, q < H.size → A1 q → A0 q) (hf : ∀ q, free q → A0 q) (hAX : ∀ q, q < H.size → AX q → A0 q)
    (kx : ∀ (E : String) (ce : Cell) (q9 : Addr) (u : SX) (t : State) (H1 : Heap) (locs1 : List Loc), t.heap = H1 → s.vm.Alike t.vm → px u → BX E u t → H.size ≤ H1.size → (∀ q : Nat, q < H.size → ¬ AX q → H1[q]? = H[q]?) → va_S A0 H0 H1 locs1 → H1[q9]? = some ce → ce.vm = .none → s.vm.findClass E = some ce.cls → vx_W p l e R s m args below meth c H1 locs1 (cells + mc) (slots + ms) Q (F0 m pc ls rest) q9)
    (kk : ∀ (r : Int32) (u : S) (t : State) (H1 : Heap) (locs1 : List Loc), t.heap = H1 → s.vm.Alike t.vm → post r u → B u t → H.size ≤ H1.size → (∀ q : Nat, q < H.size → ¬ A1 q → H1[q]? = H[q]?) → va_S A0 H0 H1 locs1 → W p l e R s m args below meth c H1 locs1 (cells + mc) (slots + ms) Q (F0 m (pc + 3) ls (.int r :: rest))) : W p l e R s m args below meth c H locs cells slots Q (F0 m pc ls st0) := by
  intro T hT X
  rcases hr T hT X with ⟨v, st₀, t, T', L, h0, X', hL, e1, e2, ⟨⟨r, u, hv, hp, hb⟩, hF⟩, st⟩ | ⟨q, st₀, t, T', L, E, ce, h0, X', hL, e1, e2, ⟨u, hp, hb, hF⟩, hce, hcv, hcl, st⟩
  · cases hv
    obtain ⟨k1, k2, k3⟩ := vx_keep h0 e1 hS hA hf hL hF
    obtain ⟨t2, a1, b1⟩ := kk r u t T'.heap (locs ++ L) e1.symm (by rw [← e2]; exact X'.warmed.alike) hp hb k1 k2 k3 T' rfl X'
    exact ⟨t2, st t2 a1, b1⟩
  · obtain ⟨k1, k2, k3⟩ := vx_keep h0 e1 hS hAX hf hL hF
    obtain ⟨t2, a1, b1⟩ := kx E ce q u t T'.heap (locs ++ L) e1.symm (by rw [← e2]; exact X'.warmed.alike) hp hb k1 k2 k3 (by rw [e1]; exact hce) hcv hcl T' rfl X'
    exact ⟨t2, st.trans a1, b1⟩
theorem vx_calll {S SX : Type} {post : Int64 → S → Prop} {px : SX → Prop} {B : S → State → Prop} {BX : String → SX → State → Prop} {AX : Nat → Prop} (hr : vx_Run p l e R s m args below meth c H locs cells slots mc ms (F0 m pc ls st0) rest (va_Ql post B A1 a) (vx_X px BX AX) free) (hS : va_S A0 H0 H locs) (hA : ∀ q, q < H.size → A1 q → A0 q) (hf : ∀ q, free q → A0 q) (hAX : ∀ q, q < H.size → AX q → A0 q)
    (kx : ∀ (E : String) (ce : Cell) (q9 : Addr) (u : SX) (t : State) (H1 : Heap) (locs1 : List Loc), t.heap = H1 → s.vm.Alike t.vm → px u → BX E u t → H.size ≤ H1.size → (∀ q : Nat, q < H.size → ¬ AX q → H1[q]? = H[q]?) → va_S A0 H0 H1 locs1 → H1[q9]? = some ce → ce.vm = .none → s.vm.findClass E = some ce.cls → vx_W p l e R s m args below meth c H1 locs1 (cells + mc) (slots + ms) Q (F0 m pc ls rest) q9)
    (kk : ∀ (r : Int64) (u : S) (t : State) (H1 : Heap) (locs1 : List Loc), t.heap = H1 → s.vm.Alike t.vm → post r u → B u t → H.size ≤ H1.size → (∀ q : Nat, q < H.size → ¬ A1 q → H1[q]? = H[q]?) → va_S A0 H0 H1 locs1 → W p l e R s m args below meth c H1 locs1 (cells + mc) (slots + ms) Q (F0 m (pc + 3) ls (.long r :: rest))) : W p l e R s m args below meth c H locs cells slots Q (F0 m pc ls st0) := by
  intro T hT X
  rcases hr T hT X with ⟨v, st₀, t, T', L, h0, X', hL, e1, e2, ⟨⟨r, u, hv, hp, hb⟩, hF⟩, st⟩ | ⟨q, st₀, t, T', L, E, ce, h0, X', hL, e1, e2, ⟨u, hp, hb, hF⟩, hce, hcv, hcl, st⟩
  · cases hv
    obtain ⟨k1, k2, k3⟩ := vx_keep h0 e1 hS hA hf hL hF
    obtain ⟨t2, a1, b1⟩ := kk r u t T'.heap (locs ++ L) e1.symm (by rw [← e2]; exact X'.warmed.alike) hp hb k1 k2 k3 T' rfl X'
    exact ⟨t2, st t2 a1, b1⟩
  · obtain ⟨k1, k2, k3⟩ := vx_keep h0 e1 hS hAX hf hL hF
    obtain ⟨t2, a1, b1⟩ := kx E ce q u t T'.heap (locs ++ L) e1.symm (by rw [← e2]; exact X'.warmed.alike) hp hb k1 k2 k3 (by rw [e1]; exact hce) hcv hcl T' rfl X'
    exact ⟨t2, st.trans a1, b1⟩
theorem vx_callf {S SX : Type} {post : UInt32 → S → Prop} {px : SX → Prop} {B : S → State → Prop} {BX : String → SX → State → Prop} {AX : Nat → Prop} (hr : vx_Run p l e R s m args below meth c H locs cells slots mc ms (F0 m pc ls st0) rest (va_Qf post B A1 a) (vx_X px BX AX) free) (hS : va_S A0 H0 H locs) (hA : ∀ q, q < H.size → A1 q → A0 q) (hf : ∀ q, free q → A0 q) (hAX : ∀ q, q < H.size → AX q → A0 q)
    (kx : ∀ (E : String) (ce : Cell) (q9 : Addr) (u : SX) (t : State) (H1 : Heap) (locs1 : List Loc), t.heap = H1 → s.vm.Alike t.vm → px u → BX E u t → H.size ≤ H1.size → (∀ q : Nat, q < H.size → ¬ AX q → H1[q]? = H[q]?) → va_S A0 H0 H1 locs1 → H1[q9]? = some ce → ce.vm = .none → s.vm.findClass E = some ce.cls → vx_W p l e R s m args below meth c H1 locs1 (cells + mc) (slots + ms) Q (F0 m pc ls rest) q9)
    (kk : ∀ (r : UInt32) (u : S) (t : State) (H1 : Heap) (locs1 : List Loc), t.heap = H1 → s.vm.Alike t.vm → post r u → B u t → H.size ≤ H1.size → (∀ q : Nat, q < H.size → ¬ A1 q → H1[q]? = H[q]?) → va_S A0 H0 H1 locs1 → W p l e R s m args below meth c H1 locs1 (cells + mc) (slots + ms) Q (F0 m (pc + 3) ls (.float r :: rest))) : W p l e R s m args below meth c H locs cells slots Q (F0 m pc ls st0) := by
  intro T hT X
  rcases hr T hT X with ⟨v, st₀, t, T', L, h0, X', hL, e1, e2, ⟨⟨r, u, hv, hp, hb⟩, hF⟩, st⟩ | ⟨q, st₀, t, T', L, E, ce, h0, X', hL, e1, e2, ⟨u, hp, hb, hF⟩, hce, hcv, hcl, st⟩
  · cases hv
    obtain ⟨k1, k2, k3⟩ := vx_keep h0 e1 hS hA hf hL hF
    obtain ⟨t2, a1, b1⟩ := kk r u t T'.heap (locs ++ L) e1.symm (by rw [← e2]; exact X'.warmed.alike) hp hb k1 k2 k3 T' rfl X'
    exact ⟨t2, st t2 a1, b1⟩
  · obtain ⟨k1, k2, k3⟩ := vx_keep h0 e1 hS hAX hf hL hF
    obtain ⟨t2, a1, b1⟩ := kx E ce q u t T'.heap (locs ++ L) e1.symm (by rw [← e2]; exact X'.warmed.alike) hp hb k1 k2 k3 (by rw [e1]; exact hce) hcv hcl T' rfl X'
    exact ⟨t2, st.trans a1, b1⟩
theorem vx_calld {S SX : Type} {post : UInt64 → S → Prop} {px : SX → Prop} {B : S → State → Prop} {BX : String → SX → State → Prop} {AX : Nat → Prop} (hr : vx_Run p l e R s m args below meth c H locs cells slots mc ms (F0 m pc ls st0) rest (va_Qd post B A1 a) (vx_X px BX AX) free) (hS : va_S A0 H0 H locs) (hA : ∀ q, q < H.size → A1 q → A0 q) (hf : ∀ q, free q → A0 q) (hAX : ∀ q, q < H.size → AX q → A0 q)
    (kx : ∀ (E : String) (ce : Cell) (q9 : Addr) (u : SX) (t : State) (H1 : Heap) (locs1 : List Loc), t.heap = H1 → s.vm.Alike t.vm → px u → BX E u t → H.size ≤ H1.size → (∀ q : Nat, q < H.size → ¬ AX q → H1[q]? = H[q]?) → va_S A0 H0 H1 locs1 → H1[q9]? = some ce → ce.vm = .none → s.vm.findClass E = some ce.cls → vx_W p l e R s m args below meth c H1 locs1 (cells + mc) (slots + ms) Q (F0 m pc ls rest) q9)
    (kk : ∀ (r : UInt64) (u : S) (t : State) (H1 : Heap) (locs1 : List Loc), t.heap = H1 → s.vm.Alike t.vm → post r u → B u t → H.size ≤ H1.size → (∀ q : Nat, q < H.size → ¬ A1 q → H1[q]? = H[q]?) → va_S A0 H0 H1 locs1 → W p l e R s m args below meth c H1 locs1 (cells + mc) (slots + ms) Q (F0 m (pc + 3) ls (.double r :: rest))) : W p l e R s m args below meth c H locs cells slots Q (F0 m pc ls st0) := by
  intro T hT X
  rcases hr T hT X with ⟨v, st₀, t, T', L, h0, X', hL, e1, e2, ⟨⟨r, u, hv, hp, hb⟩, hF⟩, st⟩ | ⟨q, st₀, t, T', L, E, ce, h0, X', hL, e1, e2, ⟨u, hp, hb, hF⟩, hce, hcv, hcl, st⟩
  · cases hv
    obtain ⟨k1, k2, k3⟩ := vx_keep h0 e1 hS hA hf hL hF
    obtain ⟨t2, a1, b1⟩ := kk r u t T'.heap (locs ++ L) e1.symm (by rw [← e2]; exact X'.warmed.alike) hp hb k1 k2 k3 T' rfl X'
    exact ⟨t2, st t2 a1, b1⟩
  · obtain ⟨k1, k2, k3⟩ := vx_keep h0 e1 hS hAX hf hL hF
    obtain ⟨t2, a1, b1⟩ := kx E ce q u t T'.heap (locs ++ L) e1.symm (by rw [← e2]; exact X'.warmed.alike) hp hb k1 k2 k3 (by rw [e1]; exact hce) hcv hcl T' rfl X'
    exact ⟨t2, st.trans a1, b1⟩
theorem vx_callv {S SX : Type} {post : S → Prop} {px : SX → Prop} {B : S → State → Prop} {BX : String → SX → State → Prop} {AX : Nat → Prop} (hr : vx_Run p l e R s m args below meth c H locs cells slots mc ms (F0 m pc ls st0) rest (va_Qv post B A1 a) (vx_X px BX AX) free) (hS : va_S A0 H0 H locs) (hA : ∀ q, q < H.size → A1 q → A0 q) (hf : ∀ q, free q → A0 q) (hAX : ∀ q, q < H.size → AX q → A0 q)
    (kx : ∀ (E : String) (ce : Cell) (q9 : Addr) (u : SX) (t : State) (H1 : Heap) (locs1 : List Loc), t.heap = H1 → s.vm.Alike t.vm → px u → BX E u t → H.size ≤ H1.size → (∀ q : Nat, q < H.size → ¬ AX q → H1[q]? = H[q]?) → va_S A0 H0 H1 locs1 → H1[q9]? = some ce → ce.vm = .none → s.vm.findClass E = some ce.cls → vx_W p l e R s m args below meth c H1 locs1 (cells + mc) (slots + ms) Q (F0 m pc ls rest) q9)
    (kk : ∀ (u : S) (t : State) (H1 : Heap) (locs1 : List Loc), t.heap = H1 → s.vm.Alike t.vm → post u → B u t → H.size ≤ H1.size → (∀ q : Nat, q < H.size → ¬ A1 q → H1[q]? = H[q]?) → va_S A0 H0 H1 locs1 → W p l e R s m args below meth c H1 locs1 (cells + mc) (slots + ms) Q (F0 m (pc + 3) ls (rest))) : W p l e R s m args below meth c H locs cells slots Q (F0 m pc ls st0) := by
  intro T hT X
  rcases hr T hT X with ⟨v, st₀, t, T', L, h0, X', hL, e1, e2, ⟨⟨u, hv, hp, hb⟩, hF⟩, st⟩ | ⟨q, st₀, t, T', L, E, ce, h0, X', hL, e1, e2, ⟨u, hp, hb, hF⟩, hce, hcv, hcl, st⟩
  · cases hv
    obtain ⟨k1, k2, k3⟩ := vx_keep h0 e1 hS hA hf hL hF
    obtain ⟨t2, a1, b1⟩ := kk u t T'.heap (locs ++ L) e1.symm (by rw [← e2]; exact X'.warmed.alike) hp hb k1 k2 k3 T' rfl X'
    exact ⟨t2, st t2 a1, b1⟩
  · obtain ⟨k1, k2, k3⟩ := vx_keep h0 e1 hS hAX hf hL hF
    obtain ⟨t2, a1, b1⟩ := kx E ce q u t T'.heap (locs ++ L) e1.symm (by rw [← e2]; exact X'.warmed.alike) hp hb k1 k2 k3 (by rw [e1]; exact hce) hcv hcl T' rfl X'
    exact ⟨t2, st.trans a1, b1⟩
/-- caught by the row x of this method's table; the rows ahead don't take it -/
theorem vx_catch {own name : String} {E : String} {ce : Cell} {q : Addr} (hown : s.vm.findClass own = some m.cls) (pre : List ExceptionTableEntry) (x : ExceptionTableEntry) (suf : List ExceptionTableEntry) (hsplit : c.exceptionTable.toList = pre ++ x :: suf)
    (hpass : ∀ z ∈ pre, covers z pc = false ∨ (z.catchType ≠ 0 ∧ ∃ nm : String, (Cond.classLink own z.catchType nm).before args s = true ∧ va_Nc E nm s)) (hx : covers x pc = true) (h0 : x.catchType ≠ 0)
    (hlink : (Cond.classLink own x.catchType name).before args s = true) (hcast : (Cond.castable E name).before args s = true) (hcell : H[q]? = some ce) (hv : ce.vm = .none) (hcl : s.vm.findClass E = some ce.cls)
    (kk : W p l e R s m args below meth c H locs cells slots Q (F0 m x.handlerPc ls [.ref q])) : vx_W p l e R s m args below meth c H locs cells slots Q (F0 m pc ls rest) q := by
  intro T hT X
  have hpl : e.platform.magicAccessors = ({} : Platform).magicAccessors := by rw [X.admits.platform]
  obtain ⟨c3, c4, hc3, hc4, hasg⟩ := Cond.castable_spec hcast
  cases Option.some.inj (hc3.symm.trans hcl)
  obtain ⟨c5, hc5, hcl5⟩ := Cond.classLink_spec hown hlink e.platform hpl
  cases Option.some.inj (hc4.symm.trans hc5)
  obtain ⟨vm', X', st⟩ := X.thenCaughtThrough q (g := F0 m pc ls rest) rfl (Steps.refl _) (by rw [hT]; exact hcell) (by rw [hv]; rfl) (by obtain ⟨k9, h9, -⟩ := Vm.findClass_spec hcl; exact ⟨k9, h9⟩) pre x suf hsplit
    (fun z hz => by
      rcases hpass z hz with h | ⟨hz0, nm, hl1, hn1⟩
      · exact Or.inl h
      · obtain ⟨c6, hc6, hcl6⟩ := Cond.classLink_spec hown hl1 e.platform hpl
        obtain ⟨a8, b8, h1, h2, h3⟩ := hn1
        cases Option.some.inj (h1.symm.trans hcl)
        cases Option.some.inj (h2.symm.trans hc6)
        exact Or.inr ⟨hz0, _, hcl6, h3⟩) hx (Or.inr ⟨h0, c4, hcl5, hasg⟩)
  obtain ⟨t, a1, b1⟩ := kk (T.setVm vm') hT X'
  exact ⟨t, st.trans a1, b1⟩
end Rows
section Ends
variable {p : Program} {l : Launch} {e : Env} {R : Room} {s : State} {m : MethodId} {args : Array Value} {below : List Frame} {meth : Method} {c : Code} {H : Heap} {locs : List Loc} {cells slots : Nat} {Q : State → Prop}
variable {mc ms : Nat} {free : Addr → Prop} {A0 A1 : Nat → Prop} {H0 : Heap} {a : Array Value} {ls : Array Slot} {st0 rest : List Value}
variable {Qc : Array Value → State → Outcome → State → Prop} {XC : String → State → State → Prop}
/-- what a body that may throw owes at its end -/
def vx_MQ (below : List Frame) (Qc : Array Value → State → Outcome → State → Prop) (XC : String → State → State → Prop) (a : Array Value) (s : State) (mc ms : Nat) (free : Addr → Prop) : State → Prop := fun t =>
  ∃ o, t.status = .running ∧ Ended t below o ∧ vx_Q Qc XC mc ms free a s o t
theorem vx_ret {g : JFrame} {mc ms : Nat} (k : W p l e R s m args below meth c H locs cells slots (MQ below Qc args s mc ms free) g) : W p l e R s m args below meth c H locs cells slots (vx_MQ below Qc XC args s mc ms free) g := by
  intro T hT X
  obtain ⟨t, a1, o, b1, b2, b3, b4⟩ := k T hT X
  exact ⟨t, a1, o, b1, b2, Or.inl ⟨b3, b4⟩⟩
/-- not caught here: it goes on to the caller -/
theorem vx_widen {g : JFrame} {q : Addr} {k n : Nat} (h1 : cells ≤ k) (h2 : slots ≤ n) (kk : vx_W p l e R s m args below meth c H locs k n Q g q) : vx_W p l e R s m args below meth c H locs cells slots Q g q := fun T hT X => kk T hT (stand_widen X h1 h2)
theorem vx_out {pc : Nat} {E : String} {ce : Cell} {q : Addr} {mc ms : Nat} (hout : ∀ x ∈ c.exceptionTable.toList, covers x pc = false) (hlocks : meth.locks = false) (hcell : H[q]? = some ce) (hv : ce.vm = .none) (hcl : s.vm.findClass E = some ce.cls)
    (hx : ∀ t : State, t.heap = H → s.vm.Alike t.vm → XC E s t) (hf : ∀ z ∈ locs, free z.base) (hc : cells ≤ mc) (hs : slots ≤ ms) :
    vx_W p l e R s m args below meth c H locs cells slots (vx_MQ below Qc XC args s mc ms free) (F0 m pc ls rest) q := by
  intro T hT X
  obtain ⟨st1, hrun, hend, hW, hsm⟩ := X.leaveThrown q (g := F0 m pc ls rest) rfl rfl rfl hout hlocks
  have hcell9 : (T.setFrames (.throwing q :: below)).heap[q]? = some ce := by
    show T.heap[q]? = some ce
    rw [hT]; exact hcell
  exact ⟨_, st1, .threw q, hrun, hend, Or.inr ⟨q, rfl, E, ce, locs, hx _ hT hW.alike, hcell9, hv, hcl, hW, hsm.mono hc hs, hf⟩⟩
theorem vx_frame {U : State} {k n : Nat} (h : s.sameButNew ({ U with vm := s.vm } : State) locs k n) : s.heap.size ≤ U.heap.size ∧ ∀ q : Nat, q < s.heap.size → (∀ z ∈ locs, z.base ≠ q) → U.heap[q]? = s.heap[q]? := by
  obtain ⟨-, h2, -, -, -, h6⟩ := h
  refine ⟨h2, fun q hq hz => ?_⟩
  obtain ⟨c9, e1, e2, e3, e4⟩ := h6 q _ (Array.getElem?_eq_getElem hq)
  have hs : c9.slots = (s.heap[q]).slots := Array.ext_getElem? fun i => e4 i fun hm => hz _ hm rfl
  have h9 : c9 = s.heap[q] := by
    rw [hs] at e2
    exact e2
  have e5 : U.heap[q]? = some c9 := e1
  rw [e5, h9, Array.getElem?_eq_getElem hq]
/-- the words of a throw but the four that speak of the heap -/
def vx_no (w : Cond) : Bool := decide (w ≠ .isRef (.static Bundle.tN "UNASSIGNED_STACK" Bundle.steD)) && decide (w ≠ .isRef (.static Bundle.tN "SUPPRESSED_SENTINEL" Bundle.listD)) && decide (w ≠ .laysStatic Bundle.tN "UNASSIGNED_STACK" Bundle.steD) && decide (w ≠ .laysStatic Bundle.tN "SUPPRESSED_SENTINEL" Bundle.listD)
def vx_at0 (own : String) (ic : Nat) (X : String) (names : List String) : List Cond := (Bundle.ownAtoms0 own ic X names).filter vx_no
def vx_atS (own : String) (ic : Nat) (X : String) (names : List String) : List Cond := (Bundle.ownAtoms own ic X names).filter vx_no
/-- a word that the tables alone decide, or a good one -/
def vx_ot (w : Cond) : Bool := w.onTables || goodWord w
theorem vx_ot_at {args a' : Array Value} {s U : State} {w : Cond} (hW : s.WarmedH U.vm) (hvm : s.vm = U.vm) (hg : vx_ot w = true) (h : w.before args s = true) : w.before a' U = true := by
  simp only [vx_ot, Bool.or_eq_true] at hg
  rcases hg with hg | hg
  · exact va_tabs hg hvm h
  · exact word_at hW (good_of_word hg) h
/-- a list's words: the good ones out of the method's own list, the others by premises of their own -/
theorem vx_hat {args : Array Value} {s : State} {L B : List Cond} (h1 : ∀ w ∈ L.filter goodWord, w.before args s = true) (h2 : ∀ w ∈ L.filter (fun w => !goodWord w), w ∈ B) (h3 : ∀ w ∈ B, w.before args s = true) : ∀ w ∈ L, w.before args s = true := by
  intro w hw
  by_cases g : goodWord w = true
  · exact h1 w (List.mem_filter.mpr ⟨hw, g⟩)
  · refine h3 w (h2 w (List.mem_filter.mpr ⟨hw, ?_⟩))
    show (!goodWord w) = true
    cases hgw : goodWord w
    · rfl
    · exact absurd hgw g
theorem vx_c {args : Array Value} {s : State} {w : Cond} {B : List Cond} (h : w.before args s = true) (t : ∀ w ∈ B, w.before args s = true) : ∀ w' ∈ w :: B, w'.before args s = true := fun w' h' => (List.mem_cons.mp h').elim (fun e => by rw [e]; exact h) (t w')
theorem vx_n {args : Array Value} {s : State} : ∀ w ∈ ([] : List Cond), w.before args s = true := fun _ h => nomatch h
theorem vx_own {args : Array Value} {s : State} {L : List Cond} (h1 : ∀ w ∈ L.filter vx_no, w.before args s = true)
    (hU : (Cond.isRef (.static Bundle.tN "UNASSIGNED_STACK" Bundle.steD)).before args s = true) (hN : (Cond.isRef (.static Bundle.tN "SUPPRESSED_SENTINEL" Bundle.listD)).before args s = true)
    (lU : (Cond.laysStatic Bundle.tN "UNASSIGNED_STACK" Bundle.steD).before args s = true) (lN : (Cond.laysStatic Bundle.tN "SUPPRESSED_SENTINEL" Bundle.listD).before args s = true) : ∀ w ∈ L, w.before args s = true := by
  intro w hw
  by_cases e1 : w = .isRef (.static Bundle.tN "UNASSIGNED_STACK" Bundle.steD)
  · rw [e1]; exact hU
  · by_cases e2 : w = .isRef (.static Bundle.tN "SUPPRESSED_SENTINEL" Bundle.listD)
    · rw [e2]; exact hN
    · by_cases e3 : w = .laysStatic Bundle.tN "UNASSIGNED_STACK" Bundle.steD
      · rw [e3]; exact lU
      · by_cases e4 : w = .laysStatic Bundle.tN "SUPPRESSED_SENTINEL" Bundle.listD
        · rw [e4]; exact lN
        · exact h1 w (List.mem_filter.mpr ⟨hw, by unfold vx_no; rw [decide_eq_true e1, decide_eq_true e2, decide_eq_true e3, decide_eq_true e4]; rfl⟩)
/-- where a static field lies, its class's statics cell in H -/
def vx_L (C n d : String) (A : Nat → Prop) (U : State) (H : Heap) : Prop := ∃ (c : ClassId) (k : Class) (i : Nat) (f : Field) (a : Nat) (cell : Cell), U.vm.findClass C = some c ∧ U.fieldFound? C n d = some (c, k, i, f) ∧ f.isStatic = true ∧ k.statics = some a ∧ H[a]? = some cell ∧ cell.vm.isStatics = true ∧ cell.cls = c ∧ f.slot < cell.slots.size ∧ k.staticTypes[f.slot]? = some f.type ∧ ¬ A a
theorem vx_L.moved {C n d : String} {A : Nat → Prop} {u U : State} {H : Heap} (hvm : u.vm.Alike U.vm) (h : vx_L C n d A u H) : vx_L C n d A U H := by
  obtain ⟨c, k, i, f, a, cell, h1, h2, h3, h4, h5, h6, h7, h8, h9, h10⟩ := h
  obtain ⟨k', hi', he⟩ := State.fieldFound?_setVm hvm h2
  exact ⟨c, k', i, f, a, cell, by rw [hvm.findClass]; exact h1, hi', h3, by rw [he]; exact h4, h5, h6, h7, h8, by rw [he]; exact h9, h10⟩
theorem vx_L.kept {C n d : String} {A : Nat → Prop} {U : State} {H H1 : Heap} (h : vx_L C n d A U H) (hq : ∀ a : Nat, a < H.size → ¬ A a → H1[a]? = H[a]?) : vx_L C n d A U H1 := by
  obtain ⟨c, k, i, f, a, cell, h1, h2, h3, h4, h5, h6, h7, h8, h9, h10⟩ := h
  exact ⟨c, k, i, f, a, cell, h1, h2, h3, h4, by rw [hq a (Array.getElem?_eq_some_iff.mp h5).1 h10]; exact h5, h6, h7, h8, h9, h10⟩
theorem vx_L.narrow {C n d : String} {A B : Nat → Prop} {U : State} {H : Heap} (h : vx_L C n d A U H) (hAB : ∀ q, B q → A q) : vx_L C n d B U H := by
  obtain ⟨c, k, i, f, a, cell, h1, h2, h3, h4, h5, h6, h7, h8, h9, h10⟩ := h
  exact ⟨c, k, i, f, a, cell, h1, h2, h3, h4, h5, h6, h7, h8, h9, fun z => h10 (hAB _ z)⟩
theorem vx_L.word {C n d : String} {A : Nat → Prop} {s : State} {args : Array Value} (h : vx_L C n d A s s.heap) : (Cond.laysStatic C n d).before args s = true := by
  obtain ⟨c, k, i, f, a, cell, h1, h2, h3, h4, h5, h6, h7, h8, h9, -⟩ := h
  show (Cond.laysStatic C n d).holds args s none s [] = true
  exact Cond.laysStatic_of h1 h2 h3 h4 h5 h6 h7 h8 h9
/-- .. and what it holds: null or some reference -/
def vx_Zq (C n d : String) (A : Nat → Prop) (U : State) (H : Heap) : Prop := va_Zq C n d A U H ∧ vx_L C n d A U H
theorem vx_Zq.moved {C n d : String} {A : Nat → Prop} {u U : State} {H : Heap} (hvm : u.vm.Alike U.vm) (h : vx_Zq C n d A u H) : vx_Zq C n d A U H := ⟨va_Zq.moved hvm h.1, vx_L.moved hvm h.2⟩
theorem vx_Zq.kept {C n d : String} {A : Nat → Prop} {U : State} {H H1 : Heap} (h : vx_Zq C n d A U H) (hq : ∀ a : Nat, a < H.size → ¬ A a → H1[a]? = H[a]?) : vx_Zq C n d A U H1 := ⟨va_Zq.kept h.1 hq, vx_L.kept h.2 hq⟩
theorem vx_Zq.narrow {C n d : String} {A B : Nat → Prop} {U : State} {H : Heap} (h : vx_Zq C n d A U H) (hAB : ∀ q, B q → A q) : vx_Zq C n d B U H := ⟨va_Zq.narrow h.1 hAB, vx_L.narrow h.2 hAB⟩
theorem vx_Zqof {args : Array Value} {s : State} {C n d : String} {A : Nat → Prop} (hl : (Cond.laysStatic C n d).before args s = true) (hini : (Cond.initialized C).before args s = true) (h : (Cond.isRef (.static C n d)).before args s = true) (hA : ∀ a : Nat, a < s.heap.size → ¬ A a) : vx_Zq C n d A s s.heap := by
  refine ⟨va_Zqof hl hini h hA, ?_⟩
  obtain ⟨c, k, i, f, a, cell, h1, h2, h3, h4, h5, h6, h7, h8, h9⟩ := Cond.laysStatic_spec hl
  exact ⟨c, k, i, f, a, cell, h1, h2, h3, h4, h5, h6, h7, h8, h9, hA a (Array.getElem?_eq_some_iff.mp h5).1⟩
theorem vx_isRef {C n d : String} {v : Value} {A : Nat → Prop} {s : State} {args : Array Value} (h : va_Z C n d v A s s.heap) (hv : v.isRef = true) : (Cond.isRef (.static C n d)).before args s = true := by
  obtain ⟨cf, kf, fi, f, a, cell, h1, h2, h3, h4, h5, h6, h7, -⟩ := h
  have he : (Term.static C n d).eval args s none [] s = some v := by
    simp [Term.eval, State.fieldNamed?, h1, h2, h4, h5, h6, h7]
  simp only [Cond.before, Cond.holds, Cond.value, he]
  cases v <;> simp_all [Value.isRef]
theorem vx_isRefq {C n d : String} {A : Nat → Prop} {s : State} {args : Array Value} (h : va_Zq C n d A s s.heap) : (Cond.isRef (.static C n d)).before args s = true := by
  rcases h with h | ⟨t, h⟩
  · exact vx_isRef h rfl
  · exact vx_isRef h rfl
/-- the same frame, seen from here: as if the method were called anew in this heap -/
theorem vx_rebase {T : State} (X : Stand p l e R s m args below meth c T locs cells slots) {R' : Room} (hf : R'.frames ≤ R.frames) (hl : R'.locals ≤ R.locals) (hc : cells + R'.cells ≤ R.cells) (hs : slots + R'.slots ≤ R.slots) :
    Stand p l e R' ((T.setVm s.vm).setFrames (.invoking m args :: below)) m args below meth c T [] 0 0 := by
  have htop : (T.setVm s.vm).topJava?.isSome := X.here.top
  have hF : ((T.setVm s.vm).setFrames (.invoking m args :: below)).frames = .invoking m args :: below := State.frames_setFrames _ (State.cur_lt_of_top htop)
  obtain ⟨g₀, hg0⟩ := Option.isSome_iff_exists.mp htop
  obtain ⟨r, hr⟩ := State.topJava?_eq_some.mp hg0
  have hl9 : e.platform.stackLimits (T.setVm s.vm).me = e.platform.stackLimits s.me := X.limits
  have hb9 : (T.setVm s.vm).me.stackBytes = s.me.stackBytes := X.bytes
  refine ⟨X.admits, X.cas, X.clock, hF, ?_, X.hears, X.method, X.code, X.here, X.tail, X.warmed, ?_, ?_, ?_⟩
  · have h := X.room
    have hU : ((T.setVm s.vm).setFrames (.invoking m args :: below)).localsInUse = s.localsInUse := by
      rw [State.localsInUse_invoking hF (meth := meth) (c := c) X.method X.code, State.localsInUse_invoking X.frames X.method X.code]
    simp only [State.hasRoom, Bool.and_eq_true, decide_eq_true_eq] at h ⊢
    obtain ⟨⟨⟨⟨h1, h2, h3, h4, h5, h6⟩, h7⟩, h8⟩, h9⟩ := h
    rw [X.frames, List.length_cons] at h2 h3
    have q1 := X.heapSize
    have q2 := X.used
    simp only [hF, hU, List.length_cons, State.stackLimits_setFrames, State.stackBytes_setFrames, hl9, hb9]
    refine ⟨⟨⟨⟨by omega, by omega, by omega, by omega, by omega, h6⟩, ?_⟩, ?_⟩, X.book⟩
    · show T.heap.size + R'.cells ≤ e.platform.maxCells
      omega
    · show T.slotsUsed + R'.slots ≤ e.platform.maxSlots
      omega
  · rw [State.stackLimits_setFrames]; rfl
  · rw [State.stackBytes_setFrames]; rfl
  · refine ⟨?_, Nat.le_refl _, Nat.le_refl _, ?_, ?_, fun a c9 h9 => ⟨c9, h9, rfl, rfl, fun _ _ => rfl⟩⟩
    · obtain ⟨t, ht, -⟩ := State.frames_cons hr
      show T.setVm s.vm = { ((T.setVm s.vm).setFrames (.invoking m args :: below)).setFrames (T.setVm s.vm).frames with heap := T.heap, slotsUsed := T.slotsUsed }
      rw [State.setFrames_setFrames, State.setFrames_self ht]
      rfl
    · show T.slotsUsed = T.slotsUsed + ((T.heap.toList.drop T.heap.size).map (·.slots.size)).sum
      rw [List.drop_eq_nil_of_le (Nat.le_of_eq Array.length_toList)]
      rfl
    · show ((T.heap.toList.drop T.heap.size).map (·.slots.size)).sum ≤ 0
      rw [List.drop_eq_nil_of_le (Nat.le_of_eq Array.length_toList)]
      exact Nat.le_refl _
/-- 'throw new E()': new; dup; invokespecial; athrow -/
theorem vx_throw0 {cc : ByteArray} {pc : Nat} (hexec : p.tables.exec = Jvm.exec) (hb : c.code = cc) (hl : l.stackTraces = false) {own cls : String} {names : List String} {ik ic mc ms : Nat} {A : Nat → Prop}
    (hown : s.vm.findClass own = some m.cls) (hcls : Bundle.fit cls = true) (hnames : ∀ n ∈ names, Bundle.fit n = true)
    (hk : (Cond.classLink own ik cls).before args s = true) (hini : (Cond.initialized cls).before args s = true) (hat : ∀ w ∈ vx_at0 own ic cls names, w.before args s = true)
    (hgood : ∀ w ∈ Cond.classLink own ik cls :: Cond.initialized cls :: vx_at0 own ic cls names, vx_ot w = true)
    (hU : vx_Zq Bundle.tN "UNASSIGNED_STACK" Bundle.steD A s s.heap) (hN : vx_Zq Bundle.tN "SUPPRESSED_SENTINEL" Bundle.listD A s s.heap) (hS : va_S A s.heap H locs) (hsize : ls.size = c.maxLocals)
    (d0 : decode cc pc = .ok (.new ik, 3)) (d3 : decode cc (pc + 3) = .ok (.dup, 1)) (d4 : decode cc (pc + 4) = .ok (.invokespecial ic, 3)) (d7 : decode cc (pc + 7) = .ok (.athrow, 1))
    (hout : ∀ x ∈ c.exceptionTable.toList, covers x (pc + 7) = false)
    (hRframes : names.length + 3 < R.frames) (hRlocals : (rest.map fun v => v.category).sum + (13 * (names.length + 1) + 42) ≤ R.locals) (hRcells : cells + 1 ≤ R.cells) (hRslots : slots + 6 ≤ R.slots) (hlocks : meth.locks = false)
    (hx : ∀ t : State, s.vm.Alike t.vm → H.size ≤ t.heap.size → (∀ q : Nat, q < H.size → t.heap[q]? = H[q]?) → XC cls s t)
    (hf : ∀ z ∈ locs, free z.base) (hc : cells + 1 ≤ mc) (hs : slots + 6 ≤ ms) :
    W p l e R s m args below meth c H locs cells slots (vx_MQ below Qc XC args s mc ms free) (F0 m pc ls rest) := by
  intro T hT X
  have htr : e.platform.stackTraces = false := (show e.platform.stackTraces = l.stackTraces by rw [X.admits.platform]).trans hl
  have Y := vx_rebase X (R' := { frames := R.frames, locals := R.locals, cells := 1, slots := 6 }) (Nat.le_refl _) (Nat.le_refl _) hRcells hRslots
  obtain ⟨s', hA⟩ : ∃ z, z = (T.setVm s.vm).setFrames (.invoking m args :: below) := ⟨_, rfl⟩
  rw [← hA] at Y
  have hvm : s'.vm = s.vm := by rw [hA]; rfl
  have hhp : s'.heap = H := by rw [hA]; exact hT
  have hW0 : s.WarmedH s'.vm := by rw [hvm]; exact State.WarmedH.refl s
  have hat' : ∀ w ∈ vx_at0 own ic cls names, w.before args s' = true := fun w hw => vx_ot_at hW0 hvm.symm (hgood w (List.mem_cons_of_mem _ (List.mem_cons_of_mem _ hw))) (hat w hw)
  have hk' : (Cond.classLink own ik cls).before args s' = true := vx_ot_at hW0 hvm.symm (hgood _ List.mem_cons_self) hk
  have hini' : (Cond.initialized cls).before args s' = true := vx_ot_at hW0 hvm.symm (hgood _ (List.mem_cons_of_mem _ List.mem_cons_self)) hini
  have hU' : vx_Zq Bundle.tN "UNASSIGNED_STACK" Bundle.steD A s' s'.heap := by rw [hhp]; exact vx_Zq.moved hW0.alike (hU.kept hS.2.1)
  have hN' : vx_Zq Bundle.tN "SUPPRESSED_SENTINEL" Bundle.listD A s' s'.heap := by rw [hhp]; exact vx_Zq.moved hW0.alike (hN.kept hS.2.1)
  have h : ∀ w ∈ Bundle.ownAtoms0 own ic cls names, w.before args s' = true := vx_own hat' (vx_isRefq hU'.1) (vx_isRefq hN'.1) hU'.2.word hN'.2.word
  have hown' : s'.vm.findClass own = some m.cls := by rw [hvm]; exact hown
  have hins : (Cond.instantiable cls 6).before args s' = true := h _ (by simp [Bundle.ownAtoms0])
  obtain ⟨vm₁, cX, kX, hfX, hkX, -, -, X₁, st1⟩ := Y.newCold hexec (own := own) (C := cls) (index := ik) (n := 6) hown' hk' hins hini'
    (g := F0 m pc ls rest) rfl (by rw [hb]; exact d0) (Nat.le_refl _) (Nat.le_refl _)
  generalize hT1 : (T.setVm vm₁).pushCell { cls := cX, slots := kX.instanceTypes.map defaultValue, vm := .none } = T1 at X₁ st1
  have hcat : (Value.ref T.heap.size).category = 1 := rfl
  have hcellA : T1.heap[T.heap.size]? = some (freshCell cX kX) := by rw [← hT1]; exact State.heap_pushCell_size _ _
  have d3' : decode c.code (pc + 3) = .ok (.dup, 1) := by rw [hb]; exact d3
  obtain ⟨U, hsteps, hrun, hend, hW, hsame, ce, hce, hO⟩ := X₁.ctorThrow0 hexec htr (own := own) (cls := cls) (names := names) (ic := ic) hown' hcls hnames h (fun x hx => nomatch hx) hfX hkX hcellA (by rw [hhp, hT]; exact Nat.le_refl _)
    (g := { method := m, pc := pc + 4, locals := ls, stack := .ref T.heap.size :: .ref T.heap.size :: rest, locked := none }) rfl hsize rfl rfl (rest := rest) rfl
    (by rw [hb]; exact d4) (by rw [hb]; exact d7) hout hRframes (by simp only [List.map_cons, List.sum_cons, hcat]; omega) hlocks
  obtain ⟨f1, f2⟩ := vx_frame hsame
  rw [hhp] at f1 f2
  have hWs : s.WarmedH U.vm := State.WarmedH.trans hW0 hW
  have hcl : s.vm.findClass cls = some ce.cls := by
    have h9 := hO.cls
    rw [hvm] at h9
    exact h9
  have hall : s.sameButNew ({ U with vm := s.vm } : State) locs mc ms := by
    subst hA
    obtain ⟨e1, e2⟩ := hsame
    rw [State.setFrames_setFrames] at e1
    have h2 : (T.setVm s.vm).sameButNew ({ U with vm := s.vm } : State) [] (0 + 1) (0 + 6) := ⟨e1, e2⟩
    have h3 := X.same.trans h2
    rw [List.append_nil] at h3
    exact h3.mono hc hs
  refine ⟨U, ?_, .threw T.heap.size, hrun, hend, Or.inr ⟨T.heap.size, rfl, cls, ce, locs, hx U hWs.alike f1 (fun q hq => f2 q hq (fun z hz => nomatch hz)), hce, hO.vm, hcl, hWs, hall, hf⟩⟩
  refine st1 _ ?_
  show Steps p.tables e below (T1.setTop { method := m, pc := pc + 3, locals := ls, stack := .ref T.heap.size :: rest, locked := none }) _
  jvm_step X₁.here [X₁.here.top, hexec, d3', Value.category]
  exact hsteps
/-- 'throw new E("text")': new; dup; ldc; invokespecial; athrow -/
theorem vx_throwS {cc : ByteArray} {pc : Nat} (hexec : p.tables.exec = Jvm.exec) (hb : c.code = cc) (hl : l.stackTraces = false) {own cls text : String} {names : List String} {ik is ic mc ms sa : Nat} {A : Nat → Prop}
    (hown : s.vm.findClass own = some m.cls) (hcls : Bundle.fit cls = true) (hnames : ∀ n ∈ names, Bundle.fit n = true)
    (hk : (Cond.classLink own ik cls).before args s = true) (hini : (Cond.initialized cls).before args s = true) (hstr : vk_R own is text sa s) (hat : ∀ w ∈ vx_atS own ic cls names, w.before args s = true)
    (hgood : ∀ w ∈ Cond.classLink own ik cls :: Cond.initialized cls :: vx_atS own ic cls names, vx_ot w = true)
    (hU : vx_Zq Bundle.tN "UNASSIGNED_STACK" Bundle.steD A s s.heap) (hN : vx_Zq Bundle.tN "SUPPRESSED_SENTINEL" Bundle.listD A s s.heap) (hS : va_S A s.heap H locs) (hsize : ls.size = c.maxLocals)
    (d0 : decode cc pc = .ok (.new ik, 3)) (d3 : decode cc (pc + 3) = .ok (.dup, 1)) (d4 : decode cc (pc + 4) = .ok (.ldc is, 2)) (d6 : decode cc (pc + 6) = .ok (.invokespecial ic, 3)) (d9 : decode cc (pc + 9) = .ok (.athrow, 1))
    (hout : ∀ x ∈ c.exceptionTable.toList, covers x (pc + 9) = false)
    (hRframes : names.length + 3 < R.frames) (hRlocals : (rest.map fun v => v.category).sum + (13 * (names.length + 1) + 43) ≤ R.locals) (hRcells : cells + 1 ≤ R.cells) (hRslots : slots + 6 ≤ R.slots) (hlocks : meth.locks = false)
    (hx : ∀ t : State, s.vm.Alike t.vm → H.size ≤ t.heap.size → (∀ q : Nat, q < H.size → t.heap[q]? = H[q]?) → XC cls s t)
    (hf : ∀ z ∈ locs, free z.base) (hc : cells + 1 ≤ mc) (hs : slots + 6 ≤ ms) :
    W p l e R s m args below meth c H locs cells slots (vx_MQ below Qc XC args s mc ms free) (F0 m pc ls rest) := by
  intro T hT X
  have htr : e.platform.stackTraces = false := (show e.platform.stackTraces = l.stackTraces by rw [X.admits.platform]).trans hl
  have Y := vx_rebase X (R' := { frames := R.frames, locals := R.locals, cells := 1, slots := 6 }) (Nat.le_refl _) (Nat.le_refl _) hRcells hRslots
  obtain ⟨s', hA⟩ : ∃ z, z = (T.setVm s.vm).setFrames (.invoking m args :: below) := ⟨_, rfl⟩
  rw [← hA] at Y
  have hvm : s'.vm = s.vm := by rw [hA]; rfl
  have hhp : s'.heap = H := by rw [hA]; exact hT
  have hW0 : s.WarmedH s'.vm := by rw [hvm]; exact State.WarmedH.refl s
  have hat' : ∀ w ∈ vx_atS own ic cls names, w.before args s' = true := fun w hw => vx_ot_at hW0 hvm.symm (hgood w (List.mem_cons_of_mem _ (List.mem_cons_of_mem _ hw))) (hat w hw)
  have hk' : (Cond.classLink own ik cls).before args s' = true := vx_ot_at hW0 hvm.symm (hgood _ List.mem_cons_self) hk
  have hini' : (Cond.initialized cls).before args s' = true := vx_ot_at hW0 hvm.symm (hgood _ (List.mem_cons_of_mem _ List.mem_cons_self)) hini
  have hU' : vx_Zq Bundle.tN "UNASSIGNED_STACK" Bundle.steD A s' s'.heap := by rw [hhp]; exact vx_Zq.moved hW0.alike (hU.kept hS.2.1)
  have hN' : vx_Zq Bundle.tN "SUPPRESSED_SENTINEL" Bundle.listD A s' s'.heap := by rw [hhp]; exact vx_Zq.moved hW0.alike (hN.kept hS.2.1)
  have h : ∀ w ∈ Bundle.ownAtoms own ic cls names, w.before args s' = true := vx_own hat' (vx_isRefq hU'.1) (vx_isRefq hN'.1) hU'.2.word hN'.2.word
  have hown' : s'.vm.findClass own = some m.cls := by rw [hvm]; exact hown
  have hins : (Cond.instantiable cls 6).before args s' = true := h _ (by simp [Bundle.ownAtoms])
  obtain ⟨vm₁, cX, kX, hfX, hkX, -, -, X₁, st1⟩ := Y.newCold hexec (own := own) (C := cls) (index := ik) (n := 6) hown' hk' hins hini'
    (g := F0 m pc ls rest) rfl (by rw [hb]; exact d0) (Nat.le_refl _) (Nat.le_refl _)
  generalize hT1 : (T.setVm vm₁).pushCell { cls := cX, slots := kX.instanceTypes.map defaultValue, vm := .none } = T1 at X₁ st1
  have hcat : (Value.ref T.heap.size).category = 1 := rfl
  have hcellA : T1.heap[T.heap.size]? = some (freshCell cX kX) := by rw [← hT1]; exact State.heap_pushCell_size _ _
  have d3' : decode c.code (pc + 3) = .ok (.dup, 1) := by rw [hb]; exact d3
  have d4' : decode c.code (pc + 4) = .ok (.ldc is, 2) := by rw [hb]; exact d4
  have hstr' : vk_R own is text sa s' := vk_R.warm hW0 hstr
  obtain ⟨U, hsteps, hrun, hend, hW, hsame, ce, hce, hO⟩ := X₁.ctorThrowS hexec htr (own := own) (cls := cls) (names := names) (ic := ic) hown' hcls hnames h (fun x hx => nomatch hx) hfX hkX hcellA (by rw [hhp, hT]; exact Nat.le_refl _) (msg := .ref sa) rfl
    (g := { method := m, pc := pc + 6, locals := ls, stack := .ref sa :: .ref T.heap.size :: .ref T.heap.size :: rest, locked := none }) rfl hsize rfl rfl (rest := rest) rfl
    (by rw [hb]; exact d6) (by rw [hb]; exact d9) hout hRframes (by simp only [List.map_cons, List.sum_cons, hcat]; omega) hlocks
  obtain ⟨f1, f2⟩ := vx_frame hsame
  rw [hhp] at f1 f2
  have hWs : s.WarmedH U.vm := State.WarmedH.trans hW0 hW
  have hcl : s.vm.findClass cls = some ce.cls := by
    have h9 := hO.cls
    rw [hvm] at h9
    exact h9
  have hall : s.sameButNew ({ U with vm := s.vm } : State) locs mc ms := by
    subst hA
    obtain ⟨e1, e2⟩ := hsame
    rw [State.setFrames_setFrames] at e1
    have h2 : (T.setVm s.vm).sameButNew ({ U with vm := s.vm } : State) [] (0 + 1) (0 + 6) := ⟨e1, e2⟩
    have h3 := X.same.trans h2
    rw [List.append_nil] at h3
    exact h3.mono hc hs
  refine ⟨U, ?_, .threw T.heap.size, hrun, hend, Or.inr ⟨T.heap.size, rfl, cls, ce, locs, hx U hWs.alike f1 (fun q hq => f2 q hq (fun z hz => nomatch hz)), hce, hO.vm, hcl, hWs, hall, hf⟩⟩
  refine st1 _ ?_
  show Steps p.tables e below (T1.setTop { method := m, pc := pc + 3, locals := ls, stack := .ref T.heap.size :: rest, locked := none }) _
  jvm_step X₁.here [X₁.here.top, hexec, d3', Value.category]
  exact X₁.ldcString hexec (own := own) (text := text) (index := is) (a := sa) hown' hstr'.1 hstr'.2
    (g := { method := m, pc := pc + 4, locals := ls, stack := .ref T.heap.size :: .ref T.heap.size :: rest, locked := none }) rfl d4' _ hsteps
/-- 'throw new E("text")', the text by a wide index -/
theorem vx_throwSW {cc : ByteArray} {pc : Nat} (hexec : p.tables.exec = Jvm.exec) (hb : c.code = cc) (hl : l.stackTraces = false) {own cls text : String} {names : List String} {ik is ic mc ms sa : Nat} {A : Nat → Prop}
    (hown : s.vm.findClass own = some m.cls) (hcls : Bundle.fit cls = true) (hnames : ∀ n ∈ names, Bundle.fit n = true)
    (hk : (Cond.classLink own ik cls).before args s = true) (hini : (Cond.initialized cls).before args s = true) (hstr : vk_R own is text sa s) (hat : ∀ w ∈ vx_atS own ic cls names, w.before args s = true)
    (hgood : ∀ w ∈ Cond.classLink own ik cls :: Cond.initialized cls :: vx_atS own ic cls names, vx_ot w = true)
    (hU : vx_Zq Bundle.tN "UNASSIGNED_STACK" Bundle.steD A s s.heap) (hN : vx_Zq Bundle.tN "SUPPRESSED_SENTINEL" Bundle.listD A s s.heap) (hS : va_S A s.heap H locs) (hsize : ls.size = c.maxLocals)
    (d0 : decode cc pc = .ok (.new ik, 3)) (d3 : decode cc (pc + 3) = .ok (.dup, 1)) (d4 : decode cc (pc + 4) = .ok (.ldc_w is, 3)) (d7 : decode cc (pc + 7) = .ok (.invokespecial ic, 3)) (d10 : decode cc (pc + 10) = .ok (.athrow, 1))
    (hout : ∀ x ∈ c.exceptionTable.toList, covers x (pc + 10) = false)
    (hRframes : names.length + 3 < R.frames) (hRlocals : (rest.map fun v => v.category).sum + (13 * (names.length + 1) + 43) ≤ R.locals) (hRcells : cells + 1 ≤ R.cells) (hRslots : slots + 6 ≤ R.slots) (hlocks : meth.locks = false)
    (hx : ∀ t : State, s.vm.Alike t.vm → H.size ≤ t.heap.size → (∀ q : Nat, q < H.size → t.heap[q]? = H[q]?) → XC cls s t)
    (hf : ∀ z ∈ locs, free z.base) (hc : cells + 1 ≤ mc) (hs : slots + 6 ≤ ms) :
    W p l e R s m args below meth c H locs cells slots (vx_MQ below Qc XC args s mc ms free) (F0 m pc ls rest) := by
  intro T hT X
  have htr : e.platform.stackTraces = false := (show e.platform.stackTraces = l.stackTraces by rw [X.admits.platform]).trans hl
  have Y := vx_rebase X (R' := { frames := R.frames, locals := R.locals, cells := 1, slots := 6 }) (Nat.le_refl _) (Nat.le_refl _) hRcells hRslots
  obtain ⟨s', hA⟩ : ∃ z, z = (T.setVm s.vm).setFrames (.invoking m args :: below) := ⟨_, rfl⟩
  rw [← hA] at Y
  have hvm : s'.vm = s.vm := by rw [hA]; rfl
  have hhp : s'.heap = H := by rw [hA]; exact hT
  have hW0 : s.WarmedH s'.vm := by rw [hvm]; exact State.WarmedH.refl s
  have hat' : ∀ w ∈ vx_atS own ic cls names, w.before args s' = true := fun w hw => vx_ot_at hW0 hvm.symm (hgood w (List.mem_cons_of_mem _ (List.mem_cons_of_mem _ hw))) (hat w hw)
  have hk' : (Cond.classLink own ik cls).before args s' = true := vx_ot_at hW0 hvm.symm (hgood _ List.mem_cons_self) hk
  have hini' : (Cond.initialized cls).before args s' = true := vx_ot_at hW0 hvm.symm (hgood _ (List.mem_cons_of_mem _ List.mem_cons_self)) hini
  have hU' : vx_Zq Bundle.tN "UNASSIGNED_STACK" Bundle.steD A s' s'.heap := by rw [hhp]; exact vx_Zq.moved hW0.alike (hU.kept hS.2.1)
  have hN' : vx_Zq Bundle.tN "SUPPRESSED_SENTINEL" Bundle.listD A s' s'.heap := by rw [hhp]; exact vx_Zq.moved hW0.alike (hN.kept hS.2.1)
  have h : ∀ w ∈ Bundle.ownAtoms own ic cls names, w.before args s' = true := vx_own hat' (vx_isRefq hU'.1) (vx_isRefq hN'.1) hU'.2.word hN'.2.word
  have hown' : s'.vm.findClass own = some m.cls := by rw [hvm]; exact hown
  have hins : (Cond.instantiable cls 6).before args s' = true := h _ (by simp [Bundle.ownAtoms])
  obtain ⟨vm₁, cX, kX, hfX, hkX, -, -, X₁, st1⟩ := Y.newCold hexec (own := own) (C := cls) (index := ik) (n := 6) hown' hk' hins hini'
    (g := F0 m pc ls rest) rfl (by rw [hb]; exact d0) (Nat.le_refl _) (Nat.le_refl _)
  generalize hT1 : (T.setVm vm₁).pushCell { cls := cX, slots := kX.instanceTypes.map defaultValue, vm := .none } = T1 at X₁ st1
  have hcat : (Value.ref T.heap.size).category = 1 := rfl
  have hcellA : T1.heap[T.heap.size]? = some (freshCell cX kX) := by rw [← hT1]; exact State.heap_pushCell_size _ _
  have d3' : decode c.code (pc + 3) = .ok (.dup, 1) := by rw [hb]; exact d3
  have d4' : decode c.code (pc + 4) = .ok (.ldc_w is, 3) := by rw [hb]; exact d4
  have hstr' : vk_R own is text sa s' := vk_R.warm hW0 hstr
  obtain ⟨U, hsteps, hrun, hend, hW, hsame, ce, hce, hO⟩ := X₁.ctorThrowS hexec htr (own := own) (cls := cls) (names := names) (ic := ic) hown' hcls hnames h (fun x hx => nomatch hx) hfX hkX hcellA (by rw [hhp, hT]; exact Nat.le_refl _) (msg := .ref sa) rfl
    (g := { method := m, pc := pc + 7, locals := ls, stack := .ref sa :: .ref T.heap.size :: .ref T.heap.size :: rest, locked := none }) rfl hsize rfl rfl (rest := rest) rfl
    (by rw [hb]; exact d7) (by rw [hb]; exact d10) hout hRframes (by simp only [List.map_cons, List.sum_cons, hcat]; omega) hlocks
  obtain ⟨f1, f2⟩ := vx_frame hsame
  rw [hhp] at f1 f2
  have hWs : s.WarmedH U.vm := State.WarmedH.trans hW0 hW
  have hcl : s.vm.findClass cls = some ce.cls := by
    have h9 := hO.cls
    rw [hvm] at h9
    exact h9
  have hall : s.sameButNew ({ U with vm := s.vm } : State) locs mc ms := by
    subst hA
    obtain ⟨e1, e2⟩ := hsame
    rw [State.setFrames_setFrames] at e1
    have h2 : (T.setVm s.vm).sameButNew ({ U with vm := s.vm } : State) [] (0 + 1) (0 + 6) := ⟨e1, e2⟩
    have h3 := X.same.trans h2
    rw [List.append_nil] at h3
    exact h3.mono hc hs
  refine ⟨U, ?_, .threw T.heap.size, hrun, hend, Or.inr ⟨T.heap.size, rfl, cls, ce, locs, hx U hWs.alike f1 (fun q hq => f2 q hq (fun z hz => nomatch hz)), hce, hO.vm, hcl, hWs, hall, hf⟩⟩
  refine st1 _ ?_
  show Steps p.tables e below (T1.setTop { method := m, pc := pc + 3, locals := ls, stack := .ref T.heap.size :: rest, locked := none }) _
  jvm_step X₁.here [X₁.here.top, hexec, d3', Value.category]
  exact X₁.ldcStringW hexec (own := own) (text := text) (index := is) (a := sa) hown' hstr'.1 hstr'.2
    (g := { method := m, pc := pc + 4, locals := ls, stack := .ref T.heap.size :: .ref T.heap.size :: rest, locked := none }) rfl d4' _ hsteps
end Ends
section Bodies
variable {l : Launch}
theorem vx_ofW {y : MethodName} {ws ws' : List Cond} {rm : Room} {Pc : Array Value → State → Prop} {Qc : Array Value → State → Outcome → State → Prop} {XC : String → State → State → Prop} {mc ms : Nat} {free : Addr → Prop} {cc : ByteArray} {maxL : Nat} {ret : Option FieldType}
    (hy : plainName y.cls = true) (hw : ws = Cond.code y cc maxL ret :: ws')
    (body : ∀ p e s m args below meth c s₁, BodyLoose p l y (headSpec ws rm) cc maxL ret e s m args below meth c s₁ → c.maxLocals = maxL → (∀ x ∈ c.exceptionTable.toList, False) → Pc args s →
      W p l e (headSpec ws rm).room s m args below meth c s.heap [] 0 0 (vx_MQ below Qc XC args s mc ms free) (entryFrame m args maxL)) : vx_Met l y ws rm Pc Qc XC mc ms free := by
  refine MetFree.of_bodyS (code := cc) (maxLocals := maxL) (ret := ret) hy ?_ ?_
  · intro args s m h hn
    obtain ⟨meth, c, h1, h2, h3, h4, h5, h6, -, -⟩ := Cond.code_spec hn (atoms_spec (ws := ws) h _ (by rw [hw]; exact List.mem_cons_self))
    exact ⟨meth, c, h1, h2, h3, h4, h5, h6⟩
  · intro p e s m args below meth c s₁ B hml hP _
    have hh0 : s₁.heap = s.heap := by rw [B.state]; rfl
    have ht : ∀ x ∈ c.exceptionTable.toList, False := by
      obtain ⟨meth9, c9, h1, h2, -, -, -, -, h7, -⟩ := Cond.code_spec B.named (atoms_spec (ws := ws) B.pre _ (by rw [hw]; exact List.mem_cons_self))
      cases Option.some.inj (h1.symm.trans B.method)
      cases Option.some.inj (h2.symm.trans (Stand.of_body B).code)
      intro x hx
      rw [Array.isEmpty_iff.mp h7] at hx
      cases hx
    obtain ⟨t, a1, o, b1, b2, b3⟩ := body p e s m args below meth c s₁ B hml ht hP s₁ hh0 (Stand.of_body B)
    exact ⟨t, o, a1, b1, b2, b3⟩
/-- the table of a body with handlers -/
theorem vx_table {p : Program} {x y : MethodName} {S : Spec} {cc bytes : ByteArray} {maxL maxL' : Nat} {ret ret' : Option FieldType} {e : Env} {s s₁ : State} {m : MethodId} {args : Array Value} {below : List Frame} {meth : Method} {c : Code} {hh : List (Nat × Nat × Nat × Nat)}
    (B : BodyLoose p l y S cc maxL ret e s m args below meth c s₁) (h : (Cond.codeWith y bytes maxL' ret' hh).before args s = true) : c.exceptionTable.toList = tableOf hh := by
  obtain ⟨m9, meth9, c9, hn9, h1, h2, -, -, h6, -⟩ := Cond.codeWith_spec h
  cases Option.some.inj (hn9.symm.trans B.named)
  cases Option.some.inj (h1.symm.trans B.method)
  cases Option.some.inj (h2.symm.trans (Stand.of_body B).code)
  rw [← h6, table_eq]
end Bodies
end VXA
/-! ===== END ===== -/
/-! ===== BEGIN a static call of a method with an exception table ===== -/
section VXS
variable {p : Program} {l : Launch} {e : Env} {R : Room} {s : State} {m : MethodId} {args : Array Value} {below : List Frame} {meth : Method} {c : Code} {T : State} {H : Heap} {locs : List Loc} {cells slots : Nat}
abbrev vx_CSW (R : Room) (s : State) (args : Array Value) (own : String) (index : Nat) (y : MethodName) (bytes : ByteArray) (maxL : Nat) (ret : Option FieldType) (hh : List (Nat × Nat × Nat × Nat)) (ws : List Cond) (rm : Room) (mc ms n : Nat) : Prop :=
  (rm.cells = mc ∧ rm.slots = ms ∧ rm.frames + 1 ≤ R.frames ∧ 8 + (maxL + 11) + rm.locals ≤ R.locals ∧ (∀ w ∈ ws, ∀ (a' : Array Value) (U : State), s.WarmedH U.vm → w.before a' U = true) ∧ Cond.codeWith y bytes maxL ret hh ∈ ws) ∧
  (Cond.codeWith y bytes maxL ret hh).before args s = true ∧ (Cond.initialized y.cls).before args s = true ∧ (y.cls ≠ "java/lang/invoke/MethodHandle" ∧ y.cls ≠ "java/lang/invoke/VarHandle") ∧
  (∀ sig, parseMethodDescriptor y.desc = some sig → n = sig.parameters.length) ∧ (Cond.methodLink own index y).before args s = true ∧ (Cond.static y).before args s = true
theorem vx_cwSW {own : String} {index maxL mc ms : Nat} {y : MethodName} {bytes : ByteArray} {ret : Option FieldType} {hh : List (Nat × Nat × Nat × Nat)} {Ts ws ws' : List Cond} {rm : Room} (n : Nat) (ht : ∀ w ∈ Ts, w.before args s = true) (hT : GoodIn Ts (va_wsS own index y ws)) (hw : ws = Cond.codeWith y bytes maxL ret hh :: ws') (hrc : rm.cells = mc) (hrs : rm.slots = ms)
    (hd : y.cls ≠ "java/lang/invoke/MethodHandle" ∧ y.cls ≠ "java/lang/invoke/VarHandle" ∧ (parseMethodDescriptor y.desc).map (fun d => d.parameters.length) = some n) (hR : rm.frames + 1 ≤ R.frames ∧ 8 + (maxL + 11) + rm.locals ≤ R.locals) :
    vx_CSW R s args own index y bytes maxL ret hh ws rm mc ms n := by
  have ok : ∀ w ∈ va_wsS own index y ws, w.before args s = true := fun w h => ht w (hT w h).1
  have hG : GoodIn Ts ws := fun w h => hT w (by unfold va_wsS; exact List.mem_append_right _ h)
  have hc : Cond.codeWith y bytes maxL ret hh ∈ ws := by rw [hw]; exact List.mem_cons_self
  refine ⟨⟨hrc, hrs, hR.1, hR.2, pay_in ht hG, hc⟩, ht _ (hG _ hc).1, ok _ (by simp [va_wsS]), ⟨hd.1, hd.2.1⟩, fun sig h => ?_, ok _ (by simp [va_wsS]), ok _ (by simp [va_wsS])⟩
  have h2 := hd.2.2
  rw [h] at h2
  exact (Option.some.inj h2).symm
theorem vx_callSW (X : Stand p l e R s m args below meth c T locs cells slots) (hexec : p.tables.exec = Jvm.exec) {own : String} {index : Nat} {y : MethodName} {bytes : ByteArray} {maxL : Nat} {ret : Option FieldType} {hh : List (Nat × Nat × Nat × Nat)}
    (hown : s.vm.findClass own = some m.cls) (hlink : (Cond.methodLink own index y).before args s = true) (hstat : (Cond.static y).before args s = true) (hinit : (Cond.initialized y.cls).before args s = true)
    (hcode : (Cond.codeWith y bytes maxL ret hh).before args s = true) (hy : y.cls ≠ "java/lang/invoke/MethodHandle" ∧ y.cls ≠ "java/lang/invoke/VarHandle")
    {W9 : Nat} {Pre : Pt → Array Value → Prop} {Post : Pt → Array Value → Option Value → Pt → Prop} (hK : Back l R p e below s args y 3 W9 Pre Post)
    {g : JFrame} (hg : g.method = m) (hsize : g.locals.size = c.maxLocals) {argsL rest : List Value} (hlen : ∀ sig, parseMethodDescriptor y.desc = some sig → argsL.length = sig.parameters.length)
    (hstack : g.stack = argsL.reverse ++ rest) (hW : 2 * g.monitorRoom + (rest.map fun v => v.category).sum ≤ W9) (hdg : decode c.code g.pc = .ok (.invokestatic index, 3))
    (hpre : ∀ vm₁, s.WarmedH vm₁ → Pre ⟨T.setVm vm₁, locs, cells, slots⟩ argsL.toArray) :
    ∃ (v : Option Value) (vm₁ : Vm) (B : Pt), s.WarmedH vm₁ ∧ Stand p l e R s m args below meth c B.U B.locs B.cells B.slots ∧ Post ⟨T.setVm vm₁, locs, cells, slots⟩ argsL.toArray v B ∧
      ∀ target, Steps p.tables e below (B.U.setTop { g with pc := g.pc + 3, stack := v.toList ++ rest }) target → Steps p.tables e below (T.setTop g) target := by
  obtain ⟨mk, methM, cM, hnamed, hmethM, -, -, -, -, -, -, hsigM⟩ := Cond.codeWith_spec hcode
  have hstatic : methM.isStatic = true := Cond.static_spec hnamed hmethM hstat
  obtain ⟨kP, hkP, -⟩ := className_of_methodNamed hnamed
  have hinitP : kP.init = .initialized := Cond.initialized_spec (findClass_of_methodNamed hnamed) hkP hinit
  obtain ⟨vm₁, X₁, hstep₁⟩ := X.invokestatic hexec hown hlink hnamed hmethM hstatic hkP hinitP hy (g := g) hg (argsL := argsL) (rest := rest) (hlen _ hsigM) hstack hdg
  obtain ⟨v, B, X', hpost, hsteps⟩ := hK m meth c ⟨T.setVm vm₁, locs, cells, slots⟩ { g with stack := rest } (.invokestatic index) mk argsL.toArray X₁ hg hsize hdg hW (X₁.named hnamed) (hpre vm₁ X₁.warmed)
  exact ⟨v, vm₁, B, X₁.warmed, X', hpost, fun target h => hstep₁ _ fun acts => by rw [doInvoke_state]; exact hsteps.trans h⟩
theorem vx_runSW {y : MethodName} {bytes cc : ByteArray} {maxL nL mc ms n index : Nat} {ret : Option FieldType} {hh : List (Nat × Nat × Nat × Nat)} {ws : List Cond} {rm : Room} {Pc : Array Value → State → Prop} {Qc : Array Value → State → Outcome → State → Prop} {free : Addr → Prop} {Ts : List Cond} {own : String} {As rest : List Value} {g : JFrame}
    (S : CallFix p m c cc nL s args Ts own) (hM : Met l y ws rm Pc Qc mc ms free) (cw : vx_CSW R s args own index y bytes maxL ret hh ws rm mc ms n) (hp : PreS s H Pc As)
    (hg : g.method = m) (hn : As.length = n) (hsize : g.locals.size = nL) (hstack : g.stack = As.reverse ++ rest) (hW : 2 * g.monitorRoom + (rest.map fun v => v.category).sum ≤ 8) (hdg : decode cc g.pc = .ok (.invokestatic index, 3)) (hf : cells + mc ≤ R.cells ∧ slots + ms ≤ R.slots) :
    va_Run p l e R s m args below meth c H locs cells slots mc ms g rest (Qc As.toArray) (free) := by
  obtain ⟨⟨hrc, hrs, hfr, hlo, hws, hcw⟩, hcode, hini, hy, hlen, hl, hstt⟩ := cw
  have hK : Back l R p e below s args y 3 8 (PreOf R mc ms Pc) (PostOf Qc mc ms free) := va_backW (hh := hh) (bytes := bytes) (maxL := maxL) (ret := ret) hM hp.1 hrc hrs hfr hlo hws hcw (fun a' U hW => word_at hW (Or.inl (by first | rfl | simp [Cond.onTables, Cond.keeps, Cond.steady])) hini)
  obtain ⟨hx, hb, hml, ho, -⟩ := S
  intro T hT X
  obtain ⟨v, vm₁, ⟨U', l2, c2, s2⟩, hW₁, X', ⟨g', mk, t, L, e1, e2, hq, h1, hL, h2, h3⟩, st⟩ := vx_callSW X hx (hh := hh) (bytes := bytes) (maxL := maxL) (ret := ret) ho hl hstt hini hcode hy hK hg (hsize.trans hml.symm) (argsL := As) (rest := rest) (fun sig h => hn.trans (hlen sig h)) hstack hW (by rw [hb]; exact hdg)
    (fun vm₁ hW₁ => ⟨hf.1, hf.2, hp.2 (T.setVm vm₁) hT hW₁⟩)
  dsimp only [Pt.U, Pt.locs, Pt.cells, Pt.slots] at X' e1 e2 h1 h2 h3 st
  subst h1; subst h2; subst h3
  exact ⟨v, (T.setVm vm₁).calling g' mk As.toArray, t, U', L, hT, X', hL, e1, e2, hq, st⟩
/-- not caught here, past rows that name other classes: it goes on to the caller -/
theorem vx_outP {p : Program} {l : Launch} {e : Env} {R : Room} {s : State} {m : MethodId} {args : Array Value} {below : List Frame} {meth : Method} {c : Code} {H : Heap} {locs : List Loc} {cells slots : Nat} {free : Addr → Prop} {ls : Array Slot} {rest : List Value} {Qc : Array Value → State → Outcome → State → Prop} {XC : String → State → State → Prop}
    {pc : Nat} {own E : String} {ce : Cell} {q : Addr} {mc ms : Nat} (hown : s.vm.findClass own = some m.cls) (hlocks : meth.locks = false)
    (hpass : ∀ z ∈ c.exceptionTable.toList, covers z pc = false ∨ (z.catchType ≠ 0 ∧ ∃ nm : String, (Cond.classLink own z.catchType nm).before args s = true ∧ va_Nc E nm s)) (hcell : H[q]? = some ce) (hv : ce.vm = .none) (hcl : s.vm.findClass E = some ce.cls)
    (hx : ∀ t : State, t.heap = H → s.vm.Alike t.vm → XC E s t) (hf : ∀ z ∈ locs, free z.base) (hc : cells ≤ mc) (hs : slots ≤ ms) :
    vx_W p l e R s m args below meth c H locs cells slots (vx_MQ below Qc XC args s mc ms free) (F0 m pc ls rest) q := by
  intro T hT X
  have hpl : e.platform.magicAccessors = ({} : Platform).magicAccessors := by rw [X.admits.platform]
  obtain ⟨vm', hW', X', st⟩ := X.outThrough hlocks q (g := F0 m pc ls rest) rfl rfl rfl (cell := ce) (by rw [hT]; exact hcell) (by rw [hv]; rfl)
    (by obtain ⟨k9, h9, -⟩ := Vm.findClass_spec hcl; exact ⟨k9, h9⟩) (fun z hz => by
      rcases hpass z hz with h | ⟨hz0, nm, hl1, hn1⟩
      · exact Or.inl h
      · obtain ⟨c6, hc6, hcl6⟩ := Cond.classLink_spec hown hl1 e.platform hpl
        obtain ⟨a8, b8, h1, h2, h3⟩ := hn1
        cases Option.some.inj (h1.symm.trans hcl)
        cases Option.some.inj (h2.symm.trans hc6)
        exact Or.inr ⟨hz0, _, hcl6, h3⟩)
  obtain ⟨g₀, hfr⟩ := X'.frames_eq
  have hcell9 : ((T.setVm vm').setFrames (.throwing q :: below)).heap[q]? = some ce := by
    show T.heap[q]? = some ce
    rw [hT]; exact hcell
  have hend : Ended ((T.setVm vm').setFrames (.throwing q :: below)) below (.threw q) := State.frames_setFrames _ (State.cur_lt_of_frames hfr)
  refine ⟨(T.setVm vm').setFrames (.throwing q :: below), ?_, .threw q, X'.here.running, hend, Or.inr ⟨q, rfl, E, ce, locs, hx _ hT (X'.ends _).1.alike, hcell9, hv, hcl, (X'.ends _).1, (X'.ends _).2.mono hc hs, hf⟩⟩
  rw [X.pushThrowing_eq]
  exact st
/-- a thing of a world lies in the heap -/
theorem vx_lt {D : va_G} {cl : List vw_C} {ws : va_W} {H1 : Heap} (h : va_P D cl ws H1) {k : Nat} {q : Nat × va_E} (hk : ws[k]? = some q) : q.1 < H1.size := (h k q hk).lt
end VXS
/-! ===== END ===== -/
/-! ===== BEGIN methods with a table of their own: called by a name, returning or throwing ===== -/
section VXH
/-! vx_backW, vx_callVX, vx_callSX, vx_callVW, vx_runVW, vx_runVX, vx_runSX, vx_ofWH follow the same proofs as their sisters above (Free/Laws.lean, Shelf42/LK1.lean); vx_outP calls Shelf42/NT130.lean (outThrough). -/
section
variable {l : Launch} {R : Room} {p : Program} {e : Env} {below : List Frame} {s : State} {sargs : Array Value} {y : MethodName} {len W9 : Nat}
theorem vx_backW {ws : List Cond} {rm : Room} {Pc : Array Value → State → Prop} {Qc : Array Value → State → Outcome → State → Prop} {XC : String → State → State → Prop} {mc ms : Nat} {free : Addr → Prop} {bytes : ByteArray} {maxL : Nat} {ret : Option FieldType} {hh : List (Nat × Nat × Nat × Nat)}
    (hM : vx_Met l y ws rm Pc Qc XC mc ms free) (hblind : FrameBlind Pc) (hrc : rm.cells = mc) (hrs : rm.slots = ms)
    (hframes : rm.frames + 1 ≤ R.frames) (hlocals : W9 + (maxL + 11) + rm.locals ≤ R.locals)
    (hws : ∀ w ∈ ws, ∀ a' U, s.WarmedH U.vm → w.before a' U = true) (hcode : Cond.codeWith y bytes maxL ret hh ∈ ws) (hinit : ∀ a' U, s.WarmedH U.vm → (Cond.initialized y.cls).before a' U = true) :
    vx_Back l R p e below s sargs y len W9 (PreOf R mc ms Pc) (PostOf Qc mc ms free) (vx_Post XC mc ms free) := by
  intro m meth c A g ig mk a X hg hsize hdg hW hn hp
  have h1 : (headSpec ws rm).pre.before a A.U = true := atoms_intro fun w hw => hws w hw _ _ X.warmed
  have h2 : (Cond.codeWith y bytes maxL ret hh).before a A.U = true := hws _ hcode _ _ X.warmed
  have h3 : (Cond.initialized y.cls).before a A.U = true := hinit _ _ X.warmed
  have h4 : A.cells + (headSpec ws rm).room.cells ≤ R.cells := by rw [show (headSpec ws rm).room.cells = mc from hrc]; exact hp.1
  have h5 : A.slots + (headSpec ws rm).room.slots ≤ R.slots := by rw [show (headSpec ws rm).room.slots = ms from hrs]; exact hp.2.1
  have hPc : Pc a (A.U.calling g mk a) := hblind _ _ _ _ hp.2.2
  obtain ⟨U, Ls, c0, s0⟩ := A
  dsimp only [Pt.U, Pt.locs, Pt.cells, Pt.slots] at h1 h2 h3 h4 h5 X hn hPc ⊢
  obtain ⟨m9, methY, cY, hn9, hmY, hcY, -, hlY, -⟩ := Cond.codeWith_spec h2
  cases Option.some.inj (hn9.symm.trans hn)
  obtain ⟨kY, hkY, -⟩ := className_of_methodNamed hn
  have hinitY : kY.init = .initialized := Cond.initialized_spec (findClass_of_methodNamed hn) hkY h3
  have h : At U g.method c below := by rw [hg]; exact X.here
  have hlocals9 : W9 + (maxL + 11) + (headSpec ws rm).room.locals ≤ R.locals := hlocals
  have happ : (headSpec ws rm).appliesLoose y e.platform (U.calling g mk a) = true :=
    Spec.appliesLoose_calling (g := g) h hdg hn hkY hinitY
      (X.room_calling (g := g) (R' := (headSpec ws rm).room) hsize hmY hcY hframes (by rw [hlY]; omega) h4 h5) h1
  obtain ⟨mid, hmid⟩ := h.above
  have hfr : (U.setTop g).frames = (.java g :: mid) ++ below := by rw [State.frames_setTop' g h.top, hmid]; rfl
  obtain ⟨o, s₂, hsteps, -, hend, hq⟩ := Steps.callFree hM p X.admits X.cas X.clock (acts := []) hfr happ hPc trivial
  have hq' : vx_Q Qc XC mc ms free a (U.calling g mk a) o s₂ := hq
  rw [State.frames_setTop' g h.top] at hend
  obtain ⟨g₀, hg0⟩ := Option.isSome_iff_exists.mp h.top
  obtain ⟨r, hr⟩ := State.topJava?_eq_some.mp hg0
  have hr' : (({ U with heap := s₂.heap, slotsUsed := s₂.slotsUsed } : State).setVm s₂.vm).frames = .java g₀ :: r := hr
  rcases hq' with ⟨hqc, L, hfe, hL⟩ | ⟨q, rfl, E, ce, L, hx, hce, hcv, hcl, hW₂, hsm, hL⟩
  · obtain ⟨⟨v, rfl⟩, hW₂, e2, q2, q3, q4, q5, q6⟩ := id hfe
    have e3 : s₂ = ({ (U.calling g mk a).setFrames s₂.frames with heap := s₂.heap, slotsUsed := s₂.slotsUsed } : State).setVm s₂.vm := by
      have : s₂ = ({ s₂ with vm := (U.calling g mk a).vm } : State).setVm s₂.vm := rfl
      rw [e2] at this
      exact this
    obtain ⟨c₂, i₂, len₂, hc₂, hd₂, hf₂⟩ := hend
    have hW' : U.WarmedH s₂.vm := hW₂
    have hcc : c₂ = c := by
      have h1 : s₂.code? g.method = U.code? g.method := by
        rw [State.code?_eq, State.code?_eq, hW'.alike.method?]
      exact Option.some.inj (hc₂.symm.trans (h1.trans h.code))
    subst hcc
    have hlen : len₂ = len := by rw [hdg] at hd₂; cases hd₂; rfl
    subst hlen
    have hs₂ : s₂ = (({ U with heap := s₂.heap, slotsUsed := s₂.slotsUsed } : State).setVm s₂.vm).setTop { g with pc := g.pc + len₂, stack := v.toList ++ g.stack } := by
      refine e3.trans ?_
      rw [hf₂, State.calling_eq h.top, State.setFrames_setFrames, State.setTop_of_frames _ hr', hr]
      rfl
    have hsame : U.sameButNew ({ U with heap := s₂.heap, slotsUsed := s₂.slotsUsed } : State) L mc ms := by
      refine ⟨?_, q2, q3, q4, q5, q6⟩
      obtain ⟨t, ht, -⟩ := State.frames_cons hr
      show ({ U with heap := s₂.heap, slotsUsed := s₂.slotsUsed } : State) = { U.setFrames U.frames with heap := s₂.heap, slotsUsed := s₂.slotsUsed }
      rw [State.setFrames_self ht]
    subst hg
    refine Or.inl ⟨v, ⟨(({ U with heap := s₂.heap, slotsUsed := s₂.slotsUsed } : State).setVm s₂.vm), Ls ++ L, c0 + mc, s0 + ms⟩,
      ⟨X.admits, X.cas, X.clock, X.frames, X.room, X.hears, X.method, X.code, (X.here.setHeapUsed s₂.heap s₂.slotsUsed).setVm hW'.alike, X.tail, State.WarmedH.trans X.warmed hW', X.limits, X.bytes, X.same.trans (hsame.setVm s.vm)⟩,
      ⟨g, mk, s₂, L, rfl, rfl, hqc, rfl, hL, rfl, rfl⟩, ?_⟩
    show Steps p.tables e below _ ((({ U with heap := s₂.heap, slotsUsed := s₂.slotsUsed } : State).setVm s₂.vm).setTop { g with pc := g.pc + len₂, stack := v.toList ++ g.stack })
    rw [← hs₂]
    exact hsteps
  · obtain ⟨e2, q2, q3, q4, q5, q6⟩ := id hsm
    have e3 : s₂ = ({ (U.calling g mk a).setFrames s₂.frames with heap := s₂.heap, slotsUsed := s₂.slotsUsed } : State).setVm s₂.vm := by
      have : s₂ = ({ s₂ with vm := (U.calling g mk a).vm } : State).setVm s₂.vm := rfl
      rw [e2] at this
      exact this
    have hf₂ : s₂.frames = .throwing q :: .java g :: U.frames.tail := hend
    have hW' : U.WarmedH s₂.vm := hW₂
    have hs₂ : s₂ = ((({ U with heap := s₂.heap, slotsUsed := s₂.slotsUsed } : State).setVm s₂.vm).setTop g).pushFrame (.throwing q) := by
      refine e3.trans ?_
      rw [hf₂, State.calling_eq h.top, State.setFrames_setFrames, State.pushFrame, State.frames_setTop _ hr', State.setTop_of_frames _ hr', State.setFrames_setFrames, hr]
      rfl
    have hsame : U.sameButNew ({ U with heap := s₂.heap, slotsUsed := s₂.slotsUsed } : State) L mc ms := by
      refine ⟨?_, q2, q3, q4, q5, q6⟩
      obtain ⟨t, ht, -⟩ := State.frames_cons hr
      show ({ U with heap := s₂.heap, slotsUsed := s₂.slotsUsed } : State) = { U.setFrames U.frames with heap := s₂.heap, slotsUsed := s₂.slotsUsed }
      rw [State.setFrames_self ht]
    subst hg
    refine Or.inr ⟨q, ⟨(({ U with heap := s₂.heap, slotsUsed := s₂.slotsUsed } : State).setVm s₂.vm), Ls ++ L, c0 + mc, s0 + ms⟩,
      ⟨X.admits, X.cas, X.clock, X.frames, X.room, X.hears, X.method, X.code, (X.here.setHeapUsed s₂.heap s₂.slotsUsed).setVm hW'.alike, X.tail, State.WarmedH.trans X.warmed hW', X.limits, X.bytes, X.same.trans (hsame.setVm s.vm)⟩,
      ⟨g, mk, s₂, L, E, ce, rfl, rfl, hx, hce, hcv, hcl, rfl, hL, rfl, rfl⟩, ?_⟩
    show Steps p.tables e below _ (((({ U with heap := s₂.heap, slotsUsed := s₂.slotsUsed } : State).setVm s₂.vm).setTop g).pushFrame (.throwing q))
    rw [← hs₂]
    exact hsteps
end
variable {p : Program} {l : Launch} {e : Env} {R : Room} {s : State} {m : MethodId} {args : Array Value} {below : List Frame} {meth : Method} {c : Code} {T : State} {H : Heap} {locs : List Loc} {cells slots : Nat}
theorem vx_callVX (X : Stand p l e R s m args below meth c T locs cells slots) (hexec : p.tables.exec = Jvm.exec) {own C : String} {index : Nat} {y : MethodName} {bytes : ByteArray} {maxL : Nat} {ret : Option FieldType} {hh : List (Nat × Nat × Nat × Nat)}
    (hown : s.vm.findClass own = some m.cls) (hlink : (Cond.methodLink own index y).before args s = true) (hinst : (Cond.instanceMethod y).before args s = true) (hsel : (Cond.selects C y y).before args s = true)
    (hcode : (Cond.codeWith y bytes maxL ret hh).before args s = true) (hy : y.cls ≠ "java/lang/invoke/MethodHandle" ∧ y.cls ≠ "java/lang/invoke/VarHandle")
    {W9 : Nat} {Pre : Pt → Array Value → Prop} {Post : Pt → Array Value → Option Value → Pt → Prop} {PostX : Pt → Array Value → Addr → Pt → Prop} (hK : vx_Back l R p e below s args y 3 W9 Pre Post PostX)
    {b : Addr} {cellB : Cell} (hcell : T.heap[b]? = some cellB) (hobj : cellB.vm.isStatics = false) (hcls : s.vm.findClass C = some cellB.cls)
    {g : JFrame} (hg : g.method = m) (hsize : g.locals.size = c.maxLocals) {argsL rest : List Value} (hlen : ∀ sig, parseMethodDescriptor y.desc = some sig → argsL.length = sig.parameters.length)
    (hstack : g.stack = argsL.reverse ++ .ref b :: rest) (hW : 2 * g.monitorRoom + (rest.map fun v => v.category).sum ≤ W9) (hdg : decode c.code g.pc = .ok (.invokevirtual index, 3))
    (hpre : ∀ vm₁, s.WarmedH vm₁ → Pre ⟨T.setVm vm₁, locs, cells, slots⟩ (Value.ref b :: argsL).toArray) :
    (∃ (v : Option Value) (vm₁ : Vm) (B : Pt), s.WarmedH vm₁ ∧ Stand p l e R s m args below meth c B.U B.locs B.cells B.slots ∧ Post ⟨T.setVm vm₁, locs, cells, slots⟩ (Value.ref b :: argsL).toArray v B ∧
      ∀ target, Steps p.tables e below (B.U.setTop { g with pc := g.pc + 3, stack := v.toList ++ rest }) target → Steps p.tables e below (T.setTop g) target) ∨
    (∃ (q : Addr) (vm₁ : Vm) (B : Pt), s.WarmedH vm₁ ∧ Stand p l e R s m args below meth c B.U B.locs B.cells B.slots ∧ PostX ⟨T.setVm vm₁, locs, cells, slots⟩ (Value.ref b :: argsL).toArray q B ∧
      Steps p.tables e below (T.setTop g) ((B.U.setTop { g with stack := rest }).pushFrame (.throwing q))) := by
  obtain ⟨mk, methM, hnamed, hmethM, hstM, habM⟩ := Cond.instanceMethod_spec hinst
  obtain ⟨m8, methM', cM, hn8, hmethM', -, -, -, -, -, -, hsigM⟩ := Cond.codeWith_spec hcode
  cases Option.some.inj (hn8.symm.trans hnamed)
  cases hmethM.symm.trans hmethM'
  obtain ⟨c2, r2, m2, q1, q2, q3, q4, kP, hkP, hkPi⟩ := Cond.selects_spec hsel
  cases hcls.symm.trans q1
  cases (State.methodFound?_of_named hnamed hy).symm.trans q2
  cases hnamed.symm.trans q3
  have hselP : selectMethod e.platform s.vm cellB.cls mk = .method mk := by rw [Launch.admits_selectMethod X.admits]; exact q4
  obtain ⟨vm₁, X₁, hstep₁⟩ := X.invokevirtual hexec hown hlink hnamed hmethM hstM hkP hkPi hy (a := b) (cell := cellB) hcell
    (fun z h => by rw [h] at hobj; cases hobj) hselP hmethM habM hkP hkPi (g := g) hg (argsL := argsL) (rest := rest) (hlen _ hsigM) hstack hdg
  rcases hK m meth c ⟨T.setVm vm₁, locs, cells, slots⟩ { g with stack := rest } (.invokevirtual index) mk (Value.ref b :: argsL).toArray X₁ hg hsize hdg hW (X₁.named hnamed) (hpre vm₁ X₁.warmed) with ⟨v, B, X', hpost, hsteps⟩ | ⟨q, B, X', hpost, hsteps⟩
  · exact Or.inl ⟨v, vm₁, B, X₁.warmed, X', hpost, fun target h => hstep₁ _ fun acts => by rw [doInvoke_state]; exact hsteps.trans h⟩
  · exact Or.inr ⟨q, vm₁, B, X₁.warmed, X', hpost, hstep₁ _ fun acts => by rw [doInvoke_state]; exact hsteps⟩
theorem vx_callSX (X : Stand p l e R s m args below meth c T locs cells slots) (hexec : p.tables.exec = Jvm.exec) {own : String} {index : Nat} {y : MethodName} {bytes : ByteArray} {maxL : Nat} {ret : Option FieldType} {hh : List (Nat × Nat × Nat × Nat)}
    (hown : s.vm.findClass own = some m.cls) (hlink : (Cond.methodLink own index y).before args s = true) (hstat : (Cond.static y).before args s = true) (hinit : (Cond.initialized y.cls).before args s = true)
    (hcode : (Cond.codeWith y bytes maxL ret hh).before args s = true) (hy : y.cls ≠ "java/lang/invoke/MethodHandle" ∧ y.cls ≠ "java/lang/invoke/VarHandle")
    {W9 : Nat} {Pre : Pt → Array Value → Prop} {Post : Pt → Array Value → Option Value → Pt → Prop} {PostX : Pt → Array Value → Addr → Pt → Prop} (hK : vx_Back l R p e below s args y 3 W9 Pre Post PostX)
    {g : JFrame} (hg : g.method = m) (hsize : g.locals.size = c.maxLocals) {argsL rest : List Value} (hlen : ∀ sig, parseMethodDescriptor y.desc = some sig → argsL.length = sig.parameters.length)
    (hstack : g.stack = argsL.reverse ++ rest) (hW : 2 * g.monitorRoom + (rest.map fun v => v.category).sum ≤ W9) (hdg : decode c.code g.pc = .ok (.invokestatic index, 3))
    (hpre : ∀ vm₁, s.WarmedH vm₁ → Pre ⟨T.setVm vm₁, locs, cells, slots⟩ argsL.toArray) :
    (∃ (v : Option Value) (vm₁ : Vm) (B : Pt), s.WarmedH vm₁ ∧ Stand p l e R s m args below meth c B.U B.locs B.cells B.slots ∧ Post ⟨T.setVm vm₁, locs, cells, slots⟩ argsL.toArray v B ∧
      ∀ target, Steps p.tables e below (B.U.setTop { g with pc := g.pc + 3, stack := v.toList ++ rest }) target → Steps p.tables e below (T.setTop g) target) ∨
    (∃ (q : Addr) (vm₁ : Vm) (B : Pt), s.WarmedH vm₁ ∧ Stand p l e R s m args below meth c B.U B.locs B.cells B.slots ∧ PostX ⟨T.setVm vm₁, locs, cells, slots⟩ argsL.toArray q B ∧
      Steps p.tables e below (T.setTop g) ((B.U.setTop { g with stack := rest }).pushFrame (.throwing q))) := by
  obtain ⟨mk, methM, cM, hnamed, hmethM, -, -, -, -, -, -, hsigM⟩ := Cond.codeWith_spec hcode
  have hstatic : methM.isStatic = true := Cond.static_spec hnamed hmethM hstat
  obtain ⟨kP, hkP, -⟩ := className_of_methodNamed hnamed
  have hinitP : kP.init = .initialized := Cond.initialized_spec (findClass_of_methodNamed hnamed) hkP hinit
  obtain ⟨vm₁, X₁, hstep₁⟩ := X.invokestatic hexec hown hlink hnamed hmethM hstatic hkP hinitP hy (g := g) hg (argsL := argsL) (rest := rest) (hlen _ hsigM) hstack hdg
  rcases hK m meth c ⟨T.setVm vm₁, locs, cells, slots⟩ { g with stack := rest } (.invokestatic index) mk argsL.toArray X₁ hg hsize hdg hW (X₁.named hnamed) (hpre vm₁ X₁.warmed) with ⟨v, B, X', hpost, hsteps⟩ | ⟨q, B, X', hpost, hsteps⟩
  · exact Or.inl ⟨v, vm₁, B, X₁.warmed, X', hpost, fun target h => hstep₁ _ fun acts => by rw [doInvoke_state]; exact hsteps.trans h⟩
  · exact Or.inr ⟨q, vm₁, B, X₁.warmed, X', hpost, hstep₁ _ fun acts => by rw [doInvoke_state]; exact hsteps⟩
theorem vx_callVW (X : Stand p l e R s m args below meth c T locs cells slots) (hexec : p.tables.exec = Jvm.exec) {own C : String} {index : Nat} {y : MethodName} {bytes : ByteArray} {maxL : Nat} {ret : Option FieldType} {hh : List (Nat × Nat × Nat × Nat)}
    (hown : s.vm.findClass own = some m.cls) (hlink : (Cond.methodLink own index y).before args s = true) (hinst : (Cond.instanceMethod y).before args s = true) (hsel : (Cond.selects C y y).before args s = true)
    (hcode : (Cond.codeWith y bytes maxL ret hh).before args s = true) (hy : y.cls ≠ "java/lang/invoke/MethodHandle" ∧ y.cls ≠ "java/lang/invoke/VarHandle")
    {W9 : Nat} {Pre : Pt → Array Value → Prop} {Post : Pt → Array Value → Option Value → Pt → Prop} (hK : Back l R p e below s args y 3 W9 Pre Post)
    {b : Addr} {cellB : Cell} (hcell : T.heap[b]? = some cellB) (hobj : cellB.vm.isStatics = false) (hcls : s.vm.findClass C = some cellB.cls)
    {g : JFrame} (hg : g.method = m) (hsize : g.locals.size = c.maxLocals) {argsL rest : List Value} (hlen : ∀ sig, parseMethodDescriptor y.desc = some sig → argsL.length = sig.parameters.length)
    (hstack : g.stack = argsL.reverse ++ .ref b :: rest) (hW : 2 * g.monitorRoom + (rest.map fun v => v.category).sum ≤ W9) (hdg : decode c.code g.pc = .ok (.invokevirtual index, 3))
    (hpre : ∀ vm₁, s.WarmedH vm₁ → Pre ⟨T.setVm vm₁, locs, cells, slots⟩ (Value.ref b :: argsL).toArray) :
    ∃ (v : Option Value) (vm₁ : Vm) (B : Pt), s.WarmedH vm₁ ∧ Stand p l e R s m args below meth c B.U B.locs B.cells B.slots ∧ Post ⟨T.setVm vm₁, locs, cells, slots⟩ (Value.ref b :: argsL).toArray v B ∧
      ∀ target, Steps p.tables e below (B.U.setTop { g with pc := g.pc + 3, stack := v.toList ++ rest }) target → Steps p.tables e below (T.setTop g) target := by
  obtain ⟨mk, methM, hnamed, hmethM, hstM, habM⟩ := Cond.instanceMethod_spec hinst
  obtain ⟨m8, methM', cM, hn8, hmethM', -, -, -, -, -, -, hsigM⟩ := Cond.codeWith_spec hcode
  cases Option.some.inj (hn8.symm.trans hnamed)
  cases hmethM.symm.trans hmethM'
  obtain ⟨c2, r2, m2, q1, q2, q3, q4, kP, hkP, hkPi⟩ := Cond.selects_spec hsel
  cases hcls.symm.trans q1
  cases (State.methodFound?_of_named hnamed hy).symm.trans q2
  cases hnamed.symm.trans q3
  have hselP : selectMethod e.platform s.vm cellB.cls mk = .method mk := by rw [Launch.admits_selectMethod X.admits]; exact q4
  obtain ⟨vm₁, X₁, hstep₁⟩ := X.invokevirtual hexec hown hlink hnamed hmethM hstM hkP hkPi hy (a := b) (cell := cellB) hcell
    (fun z h => by rw [h] at hobj; cases hobj) hselP hmethM habM hkP hkPi (g := g) hg (argsL := argsL) (rest := rest) (hlen _ hsigM) hstack hdg
  obtain ⟨v, B, X', hpost, hsteps⟩ := hK m meth c ⟨T.setVm vm₁, locs, cells, slots⟩ { g with stack := rest } (.invokevirtual index) mk (Value.ref b :: argsL).toArray X₁ hg hsize hdg hW (X₁.named hnamed) (hpre vm₁ X₁.warmed)
  exact ⟨v, vm₁, B, X₁.warmed, X', hpost, fun target h => hstep₁ _ fun acts => by rw [doInvoke_state]; exact hsteps.trans h⟩
abbrev vx_CVW (R : Room) (s : State) (args : Array Value) (own C : String) (index : Nat) (y : MethodName) (bytes : ByteArray) (maxL : Nat) (ret : Option FieldType) (hh : List (Nat × Nat × Nat × Nat)) (ws : List Cond) (rm : Room) (mc ms n : Nat) : Prop :=
  (rm.cells = mc ∧ rm.slots = ms ∧ rm.frames + 1 ≤ R.frames ∧ 8 + (maxL + 11) + rm.locals ≤ R.locals ∧ (∀ w ∈ ws, ∀ (a' : Array Value) (U : State), s.WarmedH U.vm → w.before a' U = true) ∧ Cond.codeWith y bytes maxL ret hh ∈ ws) ∧
  (Cond.codeWith y bytes maxL ret hh).before args s = true ∧ (Cond.initialized y.cls).before args s = true ∧ (y.cls ≠ "java/lang/invoke/MethodHandle" ∧ y.cls ≠ "java/lang/invoke/VarHandle") ∧
  (∀ sig, parseMethodDescriptor y.desc = some sig → n = sig.parameters.length) ∧ (Cond.methodLink own index y).before args s = true ∧ (Cond.instanceMethod y).before args s = true ∧ (Cond.selects C y y).before args s = true
theorem vx_cwVW {own C : String} {index maxL mc ms : Nat} {y : MethodName} {bytes : ByteArray} {ret : Option FieldType} {hh : List (Nat × Nat × Nat × Nat)} {Ts ws ws' : List Cond} {rm : Room} (n : Nat) (ht : ∀ w ∈ Ts, w.before args s = true) (hT : GoodIn Ts (wsV own index C y ws)) (hw : ws = Cond.codeWith y bytes maxL ret hh :: ws') (hrc : rm.cells = mc) (hrs : rm.slots = ms)
    (hd : y.cls = C ∧ y.cls ≠ "java/lang/invoke/MethodHandle" ∧ y.cls ≠ "java/lang/invoke/VarHandle" ∧ (parseMethodDescriptor y.desc).map (fun d => d.parameters.length) = some n) (hR : rm.frames + 1 ≤ R.frames ∧ 8 + (maxL + 11) + rm.locals ≤ R.locals) :
    vx_CVW R s args own C index y bytes maxL ret hh ws rm mc ms n := by
  obtain ⟨hC, hd⟩ := hd
  subst hC
  have ok : ∀ w ∈ wsV own index y.cls y ws, w.before args s = true := fun w h => ht w (hT w h).1
  have hG : GoodIn Ts ws := fun w h => hT w (by unfold wsV; exact List.mem_append_right _ h)
  have hc : Cond.codeWith y bytes maxL ret hh ∈ ws := by rw [hw]; exact List.mem_cons_self
  refine ⟨⟨hrc, hrs, hR.1, hR.2, pay_in ht hG, hc⟩, ht _ (hG _ hc).1, ok _ (by simp [wsV]), ⟨hd.1, hd.2.1⟩, fun sig h => ?_, ok _ (by simp [wsV]), ok _ (by simp [wsV]), ok _ (by simp [wsV])⟩
  have h2 := hd.2.2
  rw [h] at h2
  exact (Option.some.inj h2).symm
theorem vx_runVW {y : MethodName} {bytes cc : ByteArray} {maxL nL mc ms n index : Nat} {ret : Option FieldType} {hh : List (Nat × Nat × Nat × Nat)} {ws : List Cond} {rm : Room} {Pc : Array Value → State → Prop} {Qc : Array Value → State → Outcome → State → Prop} {free : Addr → Prop} {Ts : List Cond} {own C : String} {b : Addr} {As rest : List Value} {g : JFrame}
    (S : CallFix p m c cc nL s args Ts own) (hM : Met l y ws rm Pc Qc mc ms free) (cw : vx_CVW R s args own C index y bytes maxL ret hh ws rm mc ms n) (hp : PreV s H C b Pc As)
    (hg : g.method = m) (hn : As.length = n) (hsize : g.locals.size = nL) (hstack : g.stack = As.reverse ++ .ref b :: rest) (hW : 2 * g.monitorRoom + (rest.map fun v => v.category).sum ≤ 8) (hdg : decode cc g.pc = .ok (.invokevirtual index, 3)) (hf : cells + mc ≤ R.cells ∧ slots + ms ≤ R.slots) :
    va_Run p l e R s m args below meth c H locs cells slots mc ms g rest (Qc (Value.ref b :: As).toArray) free := by
  obtain ⟨⟨hrc, hrs, hfr, hlo, hws, hcw⟩, hcode, hini, hy, hlen, hl, hin, hse⟩ := cw
  have hK : Back l R p e below s args y 3 8 (PreOf R mc ms Pc) (PostOf Qc mc ms free) := va_backW (hh := hh) (bytes := bytes) (maxL := maxL) (ret := ret) hM hp.1 hrc hrs hfr hlo hws hcw (fun a' U hW => word_at hW (Or.inl (by first | rfl | simp [Cond.onTables, Cond.keeps, Cond.steady])) hini)
  obtain ⟨hx, hb, hml, ho, -⟩ := S
  obtain ⟨-, ⟨cellB, hcB, hoB, hclB⟩, hPc⟩ := hp
  intro T hT X
  obtain ⟨v, vm₁, ⟨U', l2, c2, s2⟩, hW₁, X', ⟨g', mk, t, L, e1, e2, hq, h1, hL, h2, h3⟩, st⟩ := vx_callVW X hx (C := C) (hh := hh) (bytes := bytes) (maxL := maxL) (ret := ret) ho hl hin hse hcode hy hK (by rw [hT]; exact hcB) hoB hclB hg (hsize.trans hml.symm) (argsL := As) (rest := rest) (fun sig h => hn.trans (hlen sig h)) hstack hW (by rw [hb]; exact hdg)
    (fun vm₁ hW₁ => ⟨hf.1, hf.2, hPc (T.setVm vm₁) hT hW₁⟩)
  dsimp only [Pt.U, Pt.locs, Pt.cells, Pt.slots] at X' e1 e2 h1 h2 h3 st
  subst h1; subst h2; subst h3
  exact ⟨v, (T.setVm vm₁).calling g' mk (Value.ref b :: As).toArray, t, U', L, hT, X', hL, e1, e2, hq, st⟩
section
variable {y : MethodName} {bytes cc : ByteArray} {maxL nL mc ms n index : Nat} {ret : Option FieldType} {ws : List Cond} {rm : Room} {Pc : Array Value → State → Prop} {Qc : Array Value → State → Outcome → State → Prop} {XC : String → State → State → Prop} {free : Addr → Prop} {Ts : List Cond} {own C : String} {b : Addr} {As rest : List Value} {g : JFrame}
theorem vx_runVX {hh : List (Nat × Nat × Nat × Nat)} (S : CallFix p m c cc nL s args Ts own) (hM : vx_Met l y ws rm Pc Qc XC mc ms free) (cw : vx_CVW R s args own C index y bytes maxL ret hh ws rm mc ms n) (hp : PreV s H C b Pc As)
    (hg : g.method = m) (hn : As.length = n) (hsize : g.locals.size = nL) (hstack : g.stack = As.reverse ++ .ref b :: rest) (hW : 2 * g.monitorRoom + (rest.map fun v => v.category).sum ≤ 8) (hdg : decode cc g.pc = .ok (.invokevirtual index, 3)) (hf : cells + mc ≤ R.cells ∧ slots + ms ≤ R.slots) :
    vx_Run p l e R s m args below meth c H locs cells slots mc ms g rest (Qc (Value.ref b :: As).toArray) XC free := by
  obtain ⟨⟨hrc, hrs, hfr, hlo, hws, hcw⟩, hcode, hini, hy, hlen, hl, hin, hse⟩ := cw
  have hK : vx_Back l R p e below s args y 3 8 (PreOf R mc ms Pc) (PostOf Qc mc ms free) (vx_Post XC mc ms free) := vx_backW (hh := hh) (bytes := bytes) (maxL := maxL) (ret := ret) hM hp.1 hrc hrs hfr hlo hws hcw (fun a' U hW => word_at hW (Or.inl (by first | rfl | simp [Cond.onTables, Cond.keeps, Cond.steady])) hini)
  obtain ⟨hx, hb, hml, ho, -⟩ := S
  obtain ⟨-, ⟨cellB, hcB, hoB, hclB⟩, hPc⟩ := hp
  intro T hT X
  rcases vx_callVX X hx (C := C) (hh := hh) (bytes := bytes) (maxL := maxL) (ret := ret) ho hl hin hse hcode hy hK (by rw [hT]; exact hcB) hoB hclB hg (hsize.trans hml.symm) (argsL := As) (rest := rest) (fun sig h => hn.trans (hlen sig h)) hstack hW (by rw [hb]; exact hdg)
    (fun vm₁ hW₁ => ⟨hf.1, hf.2, hPc (T.setVm vm₁) hT hW₁⟩) with ⟨v, vm₁, ⟨U', l2, c2, s2⟩, hW₁, X', ⟨g', mk, t, L, e1, e2, hq, h1, hL, h2, h3⟩, st⟩ | ⟨q, vm₁, ⟨U', l2, c2, s2⟩, hW₁, X', ⟨g', mk, t, L, E, ce, e1, e2, hq, hce, hcv, hcl, h1, hL, h2, h3⟩, st⟩
  · dsimp only [Pt.U, Pt.locs, Pt.cells, Pt.slots] at X' e1 e2 h1 h2 h3 st
    subst h1; subst h2; subst h3
    exact Or.inl ⟨v, (T.setVm vm₁).calling g' mk (Value.ref b :: As).toArray, t, U', L, hT, X', hL, e1, e2, hq, st⟩
  · dsimp only [Pt.U, Pt.locs, Pt.cells, Pt.slots] at X' e1 e2 h1 h2 h3 st hcl
    subst h1; subst h2; subst h3
    exact Or.inr ⟨q, (T.setVm vm₁).calling g' mk (Value.ref b :: As).toArray, t, U', L, E, ce, hT, X', hL, e1, e2, hq, hce, hcv, vx_cls hW₁ hcl, st⟩
theorem vx_runSX {hh : List (Nat × Nat × Nat × Nat)} (S : CallFix p m c cc nL s args Ts own) (hM : vx_Met l y ws rm Pc Qc XC mc ms free) (cw : vx_CSW R s args own index y bytes maxL ret hh ws rm mc ms n) (hp : PreS s H Pc As)
    (hg : g.method = m) (hn : As.length = n) (hsize : g.locals.size = nL) (hstack : g.stack = As.reverse ++ rest) (hW : 2 * g.monitorRoom + (rest.map fun v => v.category).sum ≤ 8) (hdg : decode cc g.pc = .ok (.invokestatic index, 3)) (hf : cells + mc ≤ R.cells ∧ slots + ms ≤ R.slots) :
    vx_Run p l e R s m args below meth c H locs cells slots mc ms g rest (Qc As.toArray) XC free := by
  obtain ⟨⟨hrc, hrs, hfr, hlo, hws, hcw⟩, hcode, hini, hy, hlen, hl, hstt⟩ := cw
  have hK : vx_Back l R p e below s args y 3 8 (PreOf R mc ms Pc) (PostOf Qc mc ms free) (vx_Post XC mc ms free) := vx_backW (hh := hh) (bytes := bytes) (maxL := maxL) (ret := ret) hM hp.1 hrc hrs hfr hlo hws hcw (fun a' U hW => word_at hW (Or.inl (by first | rfl | simp [Cond.onTables, Cond.keeps, Cond.steady])) hini)
  obtain ⟨hx, hb, hml, ho, -⟩ := S
  intro T hT X
  rcases vx_callSX X hx (hh := hh) (bytes := bytes) (maxL := maxL) (ret := ret) ho hl hstt hini hcode hy hK hg (hsize.trans hml.symm) (argsL := As) (rest := rest) (fun sig h => hn.trans (hlen sig h)) hstack hW (by rw [hb]; exact hdg)
    (fun vm₁ hW₁ => ⟨hf.1, hf.2, hp.2 (T.setVm vm₁) hT hW₁⟩) with ⟨v, vm₁, ⟨U', l2, c2, s2⟩, hW₁, X', ⟨g', mk, t, L, e1, e2, hq, h1, hL, h2, h3⟩, st⟩ | ⟨q, vm₁, ⟨U', l2, c2, s2⟩, hW₁, X', ⟨g', mk, t, L, E, ce, e1, e2, hq, hce, hcv, hcl, h1, hL, h2, h3⟩, st⟩
  · dsimp only [Pt.U, Pt.locs, Pt.cells, Pt.slots] at X' e1 e2 h1 h2 h3 st
    subst h1; subst h2; subst h3
    exact Or.inl ⟨v, (T.setVm vm₁).calling g' mk As.toArray, t, U', L, hT, X', hL, e1, e2, hq, st⟩
  · dsimp only [Pt.U, Pt.locs, Pt.cells, Pt.slots] at X' e1 e2 h1 h2 h3 st hcl
    subst h1; subst h2; subst h3
    exact Or.inr ⟨q, (T.setVm vm₁).calling g' mk As.toArray, t, U', L, E, ce, hT, X', hL, e1, e2, hq, hce, hcv, vx_cls hW₁ hcl, st⟩
end
end VXH
theorem vx_ofWH {l : Launch} {y : MethodName} {ws ws' : List Cond} {rm : Room} {Pc : Array Value → State → Prop} {Qc : Array Value → State → Outcome → State → Prop} {XC : String → State → State → Prop} {mc ms : Nat} {free : Addr → Prop} {cc : ByteArray} {maxL : Nat} {ret : Option FieldType} {hh : List (Nat × Nat × Nat × Nat)}
    (hy : plainName y.cls = true) (hw : ws = Cond.codeWith y cc maxL ret hh :: ws')
    (body : ∀ p e s m args below meth c s₁, BodyLoose p l y (headSpec ws rm) cc maxL ret e s m args below meth c s₁ → c.maxLocals = maxL → Pc args s →
      W p l e (headSpec ws rm).room s m args below meth c s.heap [] 0 0 (vx_MQ below Qc XC args s mc ms free) (entryFrame m args maxL)) : vx_Met l y ws rm Pc Qc XC mc ms free := by
  refine MetFree.of_bodyS (code := cc) (maxLocals := maxL) (ret := ret) hy ?_ ?_
  · intro args s m h hn
    obtain ⟨m9, meth, c, hn9, h1, h2, h3, h4, -, h5, h6, -⟩ := Cond.codeWith_spec (atoms_spec (ws := ws) h _ (by rw [hw]; exact List.mem_cons_self))
    cases hn.symm.trans hn9
    exact ⟨meth, c, h1, h2, h3, h4, h5, h6⟩
  · intro p e s m args below meth c s₁ B hml hP _
    have hh0 : s₁.heap = s.heap := by rw [B.state]; rfl
    obtain ⟨t, a1, o, b1, b2, b3⟩ := body p e s m args below meth c s₁ B hml hP s₁ hh0 (Stand.of_body B)
    exact ⟨t, o, a1, b1, b2, b3⟩
/-! ===== END ===== -/
end
section
def R_P : String := "FewChanges$Plan"
def R_S : String := "FewChanges$Shop"
def R_Q : String := "FewChanges$Search"
def R_F : String := "FewChanges"
def R_M : String := "FewChangesModel"
def R_L : String := "FewChangesLaw"
def R_I : String := "java/lang/Integer"
def T_P : u_T := fun k => match k with
  | 0 => ("FewChanges$Plan", "unit", "[I", true)
  | 1 => ("FewChanges$Plan", "minute", "[I", true)
  | _ => ("FewChanges$Plan", "order", "[I", true)
def t_P : Nat → FieldType := fun k => match k with
  | 0 => .array .int
  | 1 => .array .int
  | _ => .array .int
theorem n_P : ∀ a, a < 3 → ∀ b, b < 3 → a ≠ b → (T_P a).2.1 ≠ (T_P b).2.1 := by decide +kernel
theorem t_P_ok : ∀ k, k < 3 → parseFieldDescriptor (T_P k).2.2.1 = some (t_P k) := by decide +kernel
def T_S : u_T := fun k => match k with
  | 0 => ("FewChanges$Shop", "grade", "[I", true)
  | 1 => ("FewChanges$Shop", "due", "[I", true)
  | 2 => ("FewChanges$Shop", "orders", "I", false)
  | 3 => ("FewChanges$Shop", "length", "[I", true)
  | 4 => ("FewChanges$Shop", "units", "[I", true)
  | 5 => ("FewChanges$Shop", "heats", "I", false)
  | 6 => ("FewChanges$Shop", "stopped", "[J", true)
  | 7 => ("FewChanges$Shop", "stops", "I", false)
  | 8 => ("FewChanges$Shop", "now", "I", false)
  | _ => ("FewChanges$Shop", "freeze", "I", false)
def t_S : Nat → FieldType := fun k => match k with
  | 0 => .array .int
  | 1 => .array .int
  | 2 => .int
  | 3 => .array .int
  | 4 => .array .int
  | 5 => .int
  | 6 => .array .long
  | 7 => .int
  | 8 => .int
  | _ => .int
theorem n_S : ∀ a, a < 10 → ∀ b, b < 10 → a ≠ b → (T_S a).2.1 ≠ (T_S b).2.1 := by decide +kernel
theorem t_S_ok : ∀ k, k < 10 → parseFieldDescriptor (T_S k).2.2.1 = some (t_S k) := by decide +kernel
def T_Q : u_T := fun k => match k with
  | 0 => ("FewChanges$Search", "shop", "LFewChanges$Shop;", true)
  | 1 => ("FewChanges$Search", "old", "LFewChanges$Plan;", true)
  | 2 => ("FewChanges$Search", "trial", "LFewChanges$Plan;", true)
  | 3 => ("FewChanges$Search", "best", "LFewChanges$Plan;", true)
  | 4 => ("FewChanges$Search", "bestCost", "I", false)
  | 5 => ("FewChanges$Search", "taken", "[J", true)
  | 6 => ("FewChanges$Search", "set", "I", false)
  | 7 => ("FewChanges$Search", "nodesAllowed", "I", false)
  | 8 => ("FewChanges$Search", "wasRun", "Z", false)
  | 9 => ("FewChanges$Search", "spent", "Z", false)
  | 10 => ("FewChanges$Search", "nodes", "I", false)
  | 11 => ("FewChanges$Search", "round", "I", false)
  | _ => ("FewChanges$Search", "list", "I", false)
def t_Q : Nat → FieldType := fun k => match k with
  | 0 => .object "FewChanges$Shop"
  | 1 => .object "FewChanges$Plan"
  | 2 => .object "FewChanges$Plan"
  | 3 => .object "FewChanges$Plan"
  | 4 => .int
  | 5 => .array .long
  | 6 => .int
  | 7 => .int
  | 8 => .boolean
  | 9 => .boolean
  | 10 => .int
  | 11 => .int
  | _ => .int
theorem n_Q : ∀ a, a < 13 → ∀ b, b < 13 → a ≠ b → (T_Q a).2.1 ≠ (T_Q b).2.1 := by decide +kernel
theorem t_Q_ok : ∀ k, k < 13 → parseFieldDescriptor (T_Q k).2.2.1 = some (t_Q k) := by decide +kernel
def T_F : u_T := fun k => match k with
  | 0 => ("FewChanges", "shop", "LFewChanges$Shop;", true)
  | 1 => ("FewChanges", "plan", "LFewChanges$Plan;", true)
  | 2 => ("FewChanges", "before", "LFewChanges$Plan;", true)
  | 3 => ("FewChanges", "undoable", "Z", false)
  | 4 => ("FewChanges", "copies", "[LFewChanges$Plan;", true)
  | 5 => ("FewChanges", "kept", "[Z", true)
  | _ => ("FewChanges", "search", "LFewChanges$Search;", true)
def t_F : Nat → FieldType := fun k => match k with
  | 0 => .object "FewChanges$Shop"
  | 1 => .object "FewChanges$Plan"
  | 2 => .object "FewChanges$Plan"
  | 3 => .boolean
  | 4 => .array (.object "FewChanges$Plan")
  | 5 => .array .boolean
  | _ => .object "FewChanges$Search"
theorem n_F : ∀ a, a < 7 → ∀ b, b < 7 → a ≠ b → (T_F a).2.1 ≠ (T_F b).2.1 := by decide +kernel
theorem t_F_ok : ∀ k, k < 7 → parseFieldDescriptor (T_F k).2.2.1 = some (t_F k) := by decide +kernel
def T_M : u_T := fun k => match k with
  | 0 => ("FewChangesModel", "thrown", "I", false)
  | 1 => ("FewChangesModel", "orders", "I", false)
  | 2 => ("FewChangesModel", "grade", "[I", true)
  | 3 => ("FewChangesModel", "due", "[I", true)
  | 4 => ("FewChangesModel", "heats", "I", false)
  | 5 => ("FewChangesModel", "length", "[I", true)
  | 6 => ("FewChangesModel", "units", "[I", true)
  | 7 => ("FewChangesModel", "plans", "[I", true)
  | 8 => ("FewChangesModel", "undoable", "Z", false)
  | 9 => ("FewChangesModel", "copies", "I", false)
  | 10 => ("FewChangesModel", "stops", "I", false)
  | 11 => ("FewChangesModel", "stopUnit", "[I", true)
  | 12 => ("FewChangesModel", "stopFrom", "[I", true)
  | 13 => ("FewChangesModel", "stopTo", "[I", true)
  | 14 => ("FewChangesModel", "now", "I", false)
  | 15 => ("FewChangesModel", "freeze", "I", false)
  | 16 => ("FewChangesModel", "ran", "Z", false)
  | 17 => ("FewChangesModel", "spent", "Z", false)
  | 18 => ("FewChangesModel", "nodes", "I", false)
  | 19 => ("FewChangesModel", "round", "I", false)
  | 20 => ("FewChangesModel", "list", "I", false)
  | 21 => ("FewChangesModel", "placed", "[Z", true)
  | _ => ("FewChangesModel", "least", "I", false)
def t_M : Nat → FieldType := fun k => match k with
  | 0 => .int
  | 1 => .int
  | 2 => .array .int
  | 3 => .array .int
  | 4 => .int
  | 5 => .array .int
  | 6 => .array .int
  | 7 => .array .int
  | 8 => .boolean
  | 9 => .int
  | 10 => .int
  | 11 => .array .int
  | 12 => .array .int
  | 13 => .array .int
  | 14 => .int
  | 15 => .int
  | 16 => .boolean
  | 17 => .boolean
  | 18 => .int
  | 19 => .int
  | 20 => .int
  | 21 => .array .boolean
  | _ => .int
theorem n_M : ∀ a, a < 23 → ∀ b, b < 23 → a ≠ b → (T_M a).2.1 ≠ (T_M b).2.1 := by decide +kernel
theorem t_M_ok : ∀ k, k < 23 → parseFieldDescriptor (T_M k).2.2.1 = some (t_M k) := by decide +kernel
abbrev b_F_init : ByteArray := prog_1_method_1_code
def y_F_init : MethodName := ⟨R_F, "<init>", "()V"⟩
abbrev b_F_order : ByteArray := prog_1_method_2_code
def y_F_order : MethodName := ⟨R_F, "order", "(II)I"⟩
abbrev b_F_heat : ByteArray := prog_1_method_3_code
def y_F_heat : MethodName := ⟨R_F, "heat", "(IIIII)I"⟩
abbrev b_F_stop : ByteArray := prog_1_method_4_code
def y_F_stop : MethodName := ⟨R_F, "stop", "(III)I"⟩
abbrev b_F_go : ByteArray := prog_1_method_5_code
def y_F_go : MethodName := ⟨R_F, "go", "()V"⟩
abbrev b_F_clock : ByteArray := prog_1_method_6_code
def y_F_clock : MethodName := ⟨R_F, "clock", "(II)V"⟩
abbrev b_F_place : ByteArray := prog_1_method_7_code
def y_F_place : MethodName := ⟨R_F, "place", "(III)V"⟩
abbrev b_F_divert : ByteArray := prog_1_method_8_code
def y_F_divert : MethodName := ⟨R_F, "divert", "(II)V"⟩
abbrev b_F_run : ByteArray := prog_1_method_9_code
def y_F_run : MethodName := ⟨R_F, "run", "(I)I"⟩
abbrev b_F_told : ByteArray := prog_1_method_10_code
def y_F_told : MethodName := ⟨R_F, "told", "(I)I"⟩
abbrev b_F_at : ByteArray := prog_1_method_11_code
def y_F_at : MethodName := ⟨R_F, "at", "(II)I"⟩
abbrev b_F_cost : ByteArray := prog_1_method_12_code
def y_F_cost : MethodName := ⟨R_F, "cost", "()I"⟩
abbrev b_F_on : ByteArray := prog_1_method_13_code
def y_F_on : MethodName := ⟨R_F, "on", "(II)I"⟩
abbrev b_F_keep : ByteArray := prog_1_method_14_code
def y_F_keep : MethodName := ⟨R_F, "keep", "(I)V"⟩
abbrev b_F_compare : ByteArray := prog_1_method_15_code
def y_F_compare : MethodName := ⟨R_F, "compare", "(I)I"⟩
abbrev b_F_use : ByteArray := prog_1_method_16_code
def y_F_use : MethodName := ⟨R_F, "use", "(I)V"⟩
abbrev b_F_undo : ByteArray := prog_1_method_17_code
def y_F_undo : MethodName := ⟨R_F, "undo", "()V"⟩
abbrev b_F_rememberForUndo : ByteArray := prog_1_method_18_code
def y_F_rememberForUndo : MethodName := ⟨R_F, "rememberForUndo", "()V"⟩
abbrev b_F_forgetCopiesAndUndo : ByteArray := prog_1_method_19_code
def y_F_forgetCopiesAndUndo : MethodName := ⟨R_F, "forgetCopiesAndUndo", "()V"⟩
abbrev b_F_isOrder : ByteArray := prog_1_method_20_code
def y_F_isOrder : MethodName := ⟨R_F, "isOrder", "(I)Z"⟩
abbrev b_F_isHeat : ByteArray := prog_1_method_21_code
def y_F_isHeat : MethodName := ⟨R_F, "isHeat", "(I)Z"⟩
abbrev b_F_isUnit : ByteArray := prog_1_method_22_code
def y_F_isUnit : MethodName := ⟨R_F, "isUnit", "(I)Z"⟩
abbrev b_F_isMinute : ByteArray := prog_1_method_23_code
def y_F_isMinute : MethodName := ⟨R_F, "isMinute", "(I)Z"⟩
abbrev b_F_isCopy : ByteArray := prog_1_method_24_code
def y_F_isCopy : MethodName := ⟨R_F, "isCopy", "(I)Z"⟩
abbrev b_F_isWithin : ByteArray := prog_1_method_25_code
def y_F_isWithin : MethodName := ⟨R_F, "isWithin", "(III)Z"⟩
abbrev b_F_mayTake : ByteArray := prog_1_method_26_code
def y_F_mayTake : MethodName := ⟨R_F, "mayTake", "(II)Z"⟩
abbrev b_F_minutesAsBits : ByteArray := prog_1_method_27_code
def y_F_minutesAsBits : MethodName := ⟨R_F, "minutesAsBits", "(II)J"⟩
abbrev b_M_init : ByteArray := prog_6_method_1_code
def y_M_init : MethodName := ⟨R_M, "<init>", "()V"⟩
abbrev b_M_thrown : ByteArray := prog_6_method_2_code
def y_M_thrown : MethodName := ⟨R_M, "thrown", "()I"⟩
abbrev b_M_throwing : ByteArray := prog_6_method_3_code
def y_M_throwing : MethodName := ⟨R_M, "throwing", "(ZZZZ)Z"⟩
abbrev b_M_in : ByteArray := prog_6_method_4_code
def y_M_in : MethodName := ⟨R_M, "in", "(III)Z"⟩
abbrev b_M_isHeat : ByteArray := prog_6_method_5_code
def y_M_isHeat : MethodName := ⟨R_M, "isHeat", "(I)Z"⟩
abbrev b_M_copy : ByteArray := prog_6_method_6_code
def y_M_copy : MethodName := ⟨R_M, "copy", "(II)V"⟩
abbrev b_M_isFree : ByteArray := prog_6_method_7_code
def y_M_isFree : MethodName := ⟨R_M, "isFree", "(III)Z"⟩
abbrev b_M_meets : ByteArray := prog_6_method_8_code
def y_M_meets : MethodName := ⟨R_M, "meets", "(IIIII)Z"⟩
abbrev b_M_fits : ByteArray := prog_6_method_9_code
def y_M_fits : MethodName := ⟨R_M, "fits", "(III)Z"⟩
abbrev b_M_fitsTried : ByteArray := prog_6_method_10_code
def y_M_fitsTried : MethodName := ⟨R_M, "fitsTried", "(III)Z"⟩
abbrev b_M_isFrozen : ByteArray := prog_6_method_11_code
def y_M_isFrozen : MethodName := ⟨R_M, "isFrozen", "(I)Z"⟩
abbrev b_M_costOf : ByteArray := prog_6_method_12_code
def y_M_costOf : MethodName := ⟨R_M, "costOf", "(II)I"⟩
abbrev b_M_order : ByteArray := prog_6_method_13_code
def y_M_order : MethodName := ⟨R_M, "order", "(II)I"⟩
abbrev b_M_heat : ByteArray := prog_6_method_14_code
def y_M_heat : MethodName := ⟨R_M, "heat", "(IIIII)I"⟩
abbrev b_M_stop : ByteArray := prog_6_method_15_code
def y_M_stop : MethodName := ⟨R_M, "stop", "(III)I"⟩
abbrev b_M_go : ByteArray := prog_6_method_16_code
def y_M_go : MethodName := ⟨R_M, "go", "()V"⟩
abbrev b_M_clock : ByteArray := prog_6_method_17_code
def y_M_clock : MethodName := ⟨R_M, "clock", "(II)V"⟩
abbrev b_M_keepForUndo : ByteArray := prog_6_method_18_code
def y_M_keepForUndo : MethodName := ⟨R_M, "keepForUndo", "()V"⟩
abbrev b_M_place : ByteArray := prog_6_method_19_code
def y_M_place : MethodName := ⟨R_M, "place", "(III)V"⟩
abbrev b_M_divert : ByteArray := prog_6_method_20_code
def y_M_divert : MethodName := ⟨R_M, "divert", "(II)V"⟩
abbrev b_M_costPlaced : ByteArray := prog_6_method_21_code
def y_M_costPlaced : MethodName := ⟨R_M, "costPlaced", "()I"⟩
abbrev b_M_after : ByteArray := prog_6_method_22_code
def y_M_after : MethodName := ⟨R_M, "after", "(II)I"⟩
abbrev b_M_ahead : ByteArray := prog_6_method_23_code
def y_M_ahead : MethodName := ⟨R_M, "ahead", "(II)I"⟩
abbrev b_M_isOld : ByteArray := prog_6_method_24_code
def y_M_isOld : MethodName := ⟨R_M, "isOld", "(II)Z"⟩
abbrev b_M_found : ByteArray := prog_6_method_25_code
def y_M_found : MethodName := ⟨R_M, "found", "(I)V"⟩
abbrev b_M_tries : ByteArray := prog_6_method_26_code
def y_M_tries : MethodName := ⟨R_M, "tries", "(II)Z"⟩
abbrev b_M_bits : ByteArray := prog_6_method_27_code
def y_M_bits : MethodName := ⟨R_M, "bits", "(I)I"⟩
abbrev b_M_run : ByteArray := prog_6_method_28_code
def y_M_run : MethodName := ⟨R_M, "run", "(I)I"⟩
abbrev b_M_told : ByteArray := prog_6_method_29_code
def y_M_told : MethodName := ⟨R_M, "told", "(I)I"⟩
abbrev b_M_at : ByteArray := prog_6_method_30_code
def y_M_at : MethodName := ⟨R_M, "at", "(II)I"⟩
abbrev b_M_cost : ByteArray := prog_6_method_31_code
def y_M_cost : MethodName := ⟨R_M, "cost", "()I"⟩
abbrev b_M_on : ByteArray := prog_6_method_32_code
def y_M_on : MethodName := ⟨R_M, "on", "(II)I"⟩
abbrev b_M_keep : ByteArray := prog_6_method_33_code
def y_M_keep : MethodName := ⟨R_M, "keep", "(I)V"⟩
abbrev b_M_isKept : ByteArray := prog_6_method_34_code
def y_M_isKept : MethodName := ⟨R_M, "isKept", "(I)Z"⟩
abbrev b_M_compare : ByteArray := prog_6_method_35_code
def y_M_compare : MethodName := ⟨R_M, "compare", "(I)I"⟩
abbrev b_M_use : ByteArray := prog_6_method_36_code
def y_M_use : MethodName := ⟨R_M, "use", "(I)V"⟩
abbrev b_M_undo : ByteArray := prog_6_method_37_code
def y_M_undo : MethodName := ⟨R_M, "undo", "()V"⟩
abbrev b_P_init : ByteArray := prog_2_method_1_code
def y_P_init : MethodName := ⟨R_P, "<init>", "()V"⟩
abbrev b_P_put : ByteArray := prog_2_method_2_code
def y_P_put : MethodName := ⟨R_P, "put", "(III)V"⟩
abbrev b_P_takeFrom : ByteArray := prog_2_method_3_code
def y_P_takeFrom : MethodName := ⟨R_P, "takeFrom", "(LFewChanges$Plan;)V"⟩
abbrev b_P_isAt : ByteArray := prog_2_method_4_code
def y_P_isAt : MethodName := ⟨R_P, "isAt", "(III)Z"⟩
abbrev b_P_isSameIn : ByteArray := prog_2_method_5_code
def y_P_isSameIn : MethodName := ⟨R_P, "isSameIn", "(LFewChanges$Plan;I)Z"⟩
abbrev b_Q_init : ByteArray := prog_3_method_1_code
def y_Q_init : MethodName := ⟨R_Q, "<init>", "(LFewChanges$Shop;LFewChanges$Plan;)V"⟩
abbrev b_Q_hasFound : ByteArray := prog_3_method_2_code
def y_Q_hasFound : MethodName := ⟨R_Q, "hasFound", "()Z"⟩
abbrev b_Q_replan : ByteArray := prog_3_method_3_code
def y_Q_replan : MethodName := ⟨R_Q, "replan", "(I)V"⟩
abbrev b_Q_looseHeats : ByteArray := prog_3_method_4_code
def y_Q_looseHeats : MethodName := ⟨R_Q, "looseHeats", "()I"⟩
abbrev b_Q_searchRound : ByteArray := prog_3_method_5_code
def y_Q_searchRound : MethodName := ⟨R_Q, "searchRound", "(I)V"⟩
abbrev b_Q_searchSet : ByteArray := prog_3_method_6_code
def y_Q_searchSet : MethodName := ⟨R_Q, "searchSet", "(I)V"⟩
abbrev b_Q_isInSet : ByteArray := prog_3_method_7_code
def y_Q_isInSet : MethodName := ⟨R_Q, "isInSet", "(I)Z"⟩
abbrev b_Q_canOthersStay : ByteArray := prog_3_method_8_code
def y_Q_canOthersStay : MethodName := ⟨R_Q, "canOthersStay", "()Z"⟩
abbrev b_Q_costOfOthers : ByteArray := prog_3_method_9_code
def y_Q_costOfOthers : MethodName := ⟨R_Q, "costOfOthers", "()I"⟩
abbrev b_Q_placeFrom : ByteArray := prog_3_method_10_code
def y_Q_placeFrom : MethodName := ⟨R_Q, "placeFrom", "(II)V"⟩
abbrev b_Q_tryUnit : ByteArray := prog_3_method_11_code
def y_Q_tryUnit : MethodName := ⟨R_Q, "tryUnit", "(III)V"⟩
abbrev b_Q_tryPlace : ByteArray := prog_3_method_12_code
def y_Q_tryPlace : MethodName := ⟨R_Q, "tryPlace", "(IIII)V"⟩
abbrev b_S_init : ByteArray := prog_4_method_1_code
def y_S_init : MethodName := ⟨R_S, "<init>", "()V"⟩
abbrev b_S_addOrder : ByteArray := prog_4_method_2_code
def y_S_addOrder : MethodName := ⟨R_S, "addOrder", "(II)I"⟩
abbrev b_S_addHeat : ByteArray := prog_4_method_3_code
def y_S_addHeat : MethodName := ⟨R_S, "addHeat", "(II)I"⟩
abbrev b_S_addStop : ByteArray := prog_4_method_4_code
def y_S_addStop : MethodName := ⟨R_S, "addStop", "(III)I"⟩
abbrev b_S_forgetStops : ByteArray := prog_4_method_5_code
def y_S_forgetStops : MethodName := ⟨R_S, "forgetStops", "()V"⟩
abbrev b_S_isFrozen : ByteArray := prog_4_method_6_code
def y_S_isFrozen : MethodName := ⟨R_S, "isFrozen", "(LFewChanges$Plan;I)Z"⟩
abbrev b_S_lateness : ByteArray := prog_4_method_7_code
def y_S_lateness : MethodName := ⟨R_S, "lateness", "(III)I"⟩
abbrev b_S_fits : ByteArray := prog_4_method_8_code
def y_S_fits : MethodName := ⟨R_S, "fits", "(LFewChanges$Plan;III)Z"⟩
abbrev b_S_hasRoom : ByteArray := prog_4_method_9_code
def y_S_hasRoom : MethodName := ⟨R_S, "hasRoom", "(LFewChanges$Plan;IIII)Z"⟩
abbrev b_L_order : ByteArray := method_3_code
def y_L_order : MethodName := ⟨R_L, "order", "(LFewChanges;II[J)I"⟩
abbrev b_L_heat : ByteArray := method_4_code
def y_L_heat : MethodName := ⟨R_L, "heat", "(LFewChanges;IIIII[J)I"⟩
abbrev b_L_stop : ByteArray := method_5_code
def y_L_stop : MethodName := ⟨R_L, "stop", "(LFewChanges;III[J)I"⟩
abbrev b_L_clock : ByteArray := method_6_code
def y_L_clock : MethodName := ⟨R_L, "clock", "(LFewChanges;II)I"⟩
abbrev b_L_place : ByteArray := method_7_code
def y_L_place : MethodName := ⟨R_L, "place", "(LFewChanges;III)I"⟩
abbrev b_L_divert : ByteArray := method_8_code
def y_L_divert : MethodName := ⟨R_L, "divert", "(LFewChanges;II)I"⟩
abbrev b_L_run : ByteArray := method_9_code
def y_L_run : MethodName := ⟨R_L, "run", "(LFewChanges;I[J)I"⟩
abbrev b_L_told : ByteArray := method_10_code
def y_L_told : MethodName := ⟨R_L, "told", "(LFewChanges;I[J)I"⟩
abbrev b_L_at : ByteArray := method_11_code
def y_L_at : MethodName := ⟨R_L, "at", "(LFewChanges;II[J)I"⟩
abbrev b_L_on : ByteArray := method_12_code
def y_L_on : MethodName := ⟨R_L, "on", "(LFewChanges;II[J)I"⟩
abbrev b_L_keep : ByteArray := method_13_code
def y_L_keep : MethodName := ⟨R_L, "keep", "(LFewChanges;I)I"⟩
abbrev b_L_compare : ByteArray := method_14_code
def y_L_compare : MethodName := ⟨R_L, "compare", "(LFewChanges;I[J)I"⟩
abbrev b_L_use : ByteArray := method_15_code
def y_L_use : MethodName := ⟨R_L, "use", "(LFewChanges;I)I"⟩
abbrev b_L_undo : ByteArray := method_16_code
def y_L_undo : MethodName := ⟨R_L, "undo", "(LFewChanges;)I"⟩
abbrev b_L_law : ByteArray := code
def y_L_law : MethodName := ⟨R_L, "law", "([I)Z"⟩
abbrev b_I_bitCount : ByteArray := prog_11_method_49_code
def y_I_bitCount : MethodName := ⟨R_I, "bitCount", "(I)I"⟩
abbrev cls_ : List vw_C := [(R_P, T_P, 3), (R_S, T_S, 10), (R_Q, T_Q, 13), (R_F, T_F, 7), (R_M, T_M, 23)]
/-- every word of the tables that stays good over a call -/
def gw : List Cond := lw_tbl.filter goodWord
theorem gw_of {w : Cond} (h : w ∈ tables_1) (hg : goodWord w = true) : w ∈ gw := List.mem_filter.mpr ⟨List.mem_append_right _ h, hg⟩
theorem gw_sel {w : Cond} (h : w ∈ k2_sels lw_privs) (hg : goodWord w = true) : w ∈ gw := List.mem_filter.mpr ⟨List.mem_append_left _ h, hg⟩
theorem gw_tbl {w : Cond} (h : w ∈ gw) : w ∈ lw_tbl := (List.mem_filter.mp h).1
theorem gw_good {ws : List Cond} (h : ∀ w ∈ ws, w ∈ gw) : GoodIn gw ws := fun w hw => ⟨h w hw, good_of_word (List.mem_filter.mp (h w hw)).2⟩
theorem gw_c {w : Cond} {ws : List Cond} (h : w ∈ gw) (hs : ∀ w ∈ ws, w ∈ gw) : ∀ w' ∈ w :: ws, w' ∈ gw := fun w' h' => (List.mem_cons.mp h').elim (fun e => by rw [e]; exact h) (hs w')
theorem gw_n : ∀ w ∈ gw, w ∈ gw := fun _ h => h
theorem gw_V {own C : String} {idx n : Nat} {y : MethodName} {cc : ByteArray} {ret : Option FieldType} (h1 : Cond.methodLink own idx y ∈ gw) (h2 : Cond.instanceMethod y ∈ gw) (h3 : Cond.selects C y y ∈ gw) (h4 : Cond.initialized C ∈ gw) (h5 : Cond.code y cc n ret ∈ gw) : GoodIn gw (wsV own idx C y (Cond.code y cc n ret :: gw)) := gw_good (gw_c h1 (gw_c h2 (gw_c h3 (gw_c h4 (gw_c h5 gw_n)))))
theorem gw_S {own : String} {idx n : Nat} {y : MethodName} {cc : ByteArray} {ret : Option FieldType} (h1 : Cond.methodLink own idx y ∈ gw) (h2 : Cond.static y ∈ gw) (h4 : Cond.initialized own ∈ gw) (h5 : Cond.code y cc n ret ∈ gw) : GoodIn gw (wsS own idx y (Cond.code y cc n ret :: gw)) := gw_good (gw_c h1 (gw_c h2 (gw_c h4 (gw_c h5 gw_n))))
theorem gw_Sa {own : String} {idx n : Nat} {y : MethodName} {cc : ByteArray} {ret : Option FieldType} (h1 : Cond.methodLink own idx y ∈ gw) (h2 : Cond.static y ∈ gw) (h4 : Cond.initialized y.cls ∈ gw) (h5 : Cond.code y cc n ret ∈ gw) : GoodIn gw (va_wsS own idx y (Cond.code y cc n ret :: gw)) := gw_good (gw_c h1 (gw_c h2 (gw_c h4 (gw_c h5 gw_n))))
theorem gw_SW {own : String} {idx n : Nat} {y : MethodName} {cc : ByteArray} {ret : Option FieldType} {hh : List (Nat × Nat × Nat × Nat)} (h1 : Cond.methodLink own idx y ∈ gw) (h2 : Cond.static y ∈ gw) (h4 : Cond.initialized y.cls ∈ gw) (h5 : Cond.codeWith y cc n ret hh ∈ gw) : GoodIn gw (va_wsS own idx y (Cond.codeWith y cc n ret hh :: gw)) := gw_good (gw_c h1 (gw_c h2 (gw_c h4 (gw_c h5 gw_n))))
theorem gw_I {n : Nat} {y : MethodName} {cc : ByteArray} {ret : Option FieldType} (h5 : Cond.code y cc n ret ∈ gw) : GoodIn gw (Cond.code y cc n ret :: gw) := gw_good (gw_c h5 gw_n)
end
section
theorem kw_0 : (Cond.initialized "FewChangesLaw") ∈ gw := gw_of (List.mem_of_getElem? (i := 0) (by decide +kernel)) (by decide +kernel)
theorem kw_1 : (Cond.initialized "FewChanges") ∈ gw := gw_of (List.mem_of_getElem? (i := 1) (by decide +kernel)) (by decide +kernel)
theorem kw_2 : (Cond.initialized "FewChanges$Shop") ∈ gw := gw_of (List.mem_of_getElem? (i := 2) (by decide +kernel)) (by decide +kernel)
theorem kw_3 : (Cond.initialized "FewChanges$Plan") ∈ gw := gw_of (List.mem_of_getElem? (i := 3) (by decide +kernel)) (by decide +kernel)
theorem kw_4 : (Cond.initialized "FewChanges$Search") ∈ gw := gw_of (List.mem_of_getElem? (i := 4) (by decide +kernel)) (by decide +kernel)
theorem kw_5 : (Cond.initialized "FewChangesModel") ∈ gw := gw_of (List.mem_of_getElem? (i := 5) (by decide +kernel)) (by decide +kernel)
theorem kw_6 : (Cond.initialized "java/lang/Throwable") ∈ gw := gw_of (List.mem_of_getElem? (i := 6) (by decide +kernel)) (by decide +kernel)
theorem kw_7 : (Cond.initialized "java/lang/Exception") ∈ gw := gw_of (List.mem_of_getElem? (i := 7) (by decide +kernel)) (by decide +kernel)
theorem kw_8 : (Cond.initialized "java/lang/RuntimeException") ∈ gw := gw_of (List.mem_of_getElem? (i := 8) (by decide +kernel)) (by decide +kernel)
theorem kw_9 : (Cond.initialized "java/lang/IllegalStateException") ∈ gw := gw_of (List.mem_of_getElem? (i := 9) (by decide +kernel)) (by decide +kernel)
theorem kw_10 : (Cond.initialized "java/lang/IllegalArgumentException") ∈ gw := gw_of (List.mem_of_getElem? (i := 10) (by decide +kernel)) (by decide +kernel)
theorem kw_11 : (Cond.initialized "java/lang/IndexOutOfBoundsException") ∈ gw := gw_of (List.mem_of_getElem? (i := 11) (by decide +kernel)) (by decide +kernel)
theorem kw_12 : (Cond.initialized "java/lang/UnsupportedOperationException") ∈ gw := gw_of (List.mem_of_getElem? (i := 12) (by decide +kernel)) (by decide +kernel)
theorem kw_13 : (Cond.initialized "java/lang/Integer") ∈ gw := gw_of (List.mem_of_getElem? (i := 13) (by decide +kernel)) (by decide +kernel)
theorem kw_14 : (Cond.initialized "java/lang/Math") ∈ gw := gw_of (List.mem_of_getElem? (i := 14) (by decide +kernel)) (by decide +kernel)
theorem kw_15 : (Cond.classLink "FewChangesLaw" 8 "FewChanges") ∈ gw := gw_of (List.mem_of_getElem? (i := 15) (by decide +kernel)) (by decide +kernel)
theorem kw_16 : (Cond.instantiable "FewChanges" 7) ∈ gw := gw_of (List.mem_of_getElem? (i := 16) (by decide +kernel)) (by decide +kernel)
theorem kw_17 : (Cond.methodLink "FewChangesLaw" 66 y_F_init) ∈ gw := gw_of (List.mem_of_getElem? (i := 17) (by decide +kernel)) (by decide +kernel)
theorem kw_18 : (Cond.instanceMethod y_F_init) ∈ gw := gw_of (List.mem_of_getElem? (i := 18) (by decide +kernel)) (by decide +kernel)
set_option maxRecDepth 20000 in
theorem kw_19 : (Cond.code y_F_init b_F_init 4 none) ∈ gw := gw_of (List.mem_of_getElem? (i := 19) (by rfl)) (by decide +kernel)
theorem kw_20 : (Cond.methodLink "FewChanges" 1 objectInit) ∈ gw := gw_of (List.mem_of_getElem? (i := 20) (by decide +kernel)) (by decide +kernel)
theorem kw_21 : (Cond.instanceMethod objectInit) ∈ gw := gw_of (List.mem_of_getElem? (i := 21) (by decide +kernel)) (by decide +kernel)
set_option maxRecDepth 20000 in
theorem kw_22 : (Cond.code objectInit object_method_1_code 1 none) ∈ gw := gw_of (List.mem_of_getElem? (i := 22) (by rfl)) (by decide +kernel)
theorem kw_23 : (Cond.classLink "FewChanges" 7 "FewChanges$Shop") ∈ gw := gw_of (List.mem_of_getElem? (i := 23) (by decide +kernel)) (by decide +kernel)
theorem kw_24 : (Cond.instantiable "FewChanges$Shop" 10) ∈ gw := gw_of (List.mem_of_getElem? (i := 24) (by decide +kernel)) (by decide +kernel)
theorem kw_25 : (Cond.methodLink "FewChanges" 9 y_S_init) ∈ gw := gw_of (List.mem_of_getElem? (i := 25) (by decide +kernel)) (by decide +kernel)
theorem kw_26 : (Cond.instanceMethod y_S_init) ∈ gw := gw_of (List.mem_of_getElem? (i := 26) (by decide +kernel)) (by decide +kernel)
set_option maxRecDepth 20000 in
theorem kw_27 : (Cond.code y_S_init b_S_init 1 none) ∈ gw := gw_of (List.mem_of_getElem? (i := 27) (by rfl)) (by decide +kernel)
theorem kw_28 : (Cond.methodLink "FewChanges$Shop" 3 objectInit) ∈ gw := gw_of (List.mem_of_getElem? (i := 28) (by decide +kernel)) (by decide +kernel)
theorem kw_29 : (Cond.fieldLink "FewChanges$Shop" 9 "FewChanges$Shop" "grade" "[I") ∈ gw := gw_of (List.mem_of_getElem? (i := 29) (by decide +kernel)) (by decide +kernel)
theorem kw_30 : (Cond.fieldLink "FewChanges" 164 "FewChanges$Shop" "grade" "[I") ∈ gw := gw_of (List.mem_of_getElem? (i := 30) (by decide +kernel)) (by decide +kernel)
theorem kw_31 : (Cond.fieldLink "FewChanges$Shop" 15 "FewChanges$Shop" "due" "[I") ∈ gw := gw_of (List.mem_of_getElem? (i := 31) (by decide +kernel)) (by decide +kernel)
theorem kw_32 : (Cond.fieldLink "FewChanges" 43 "FewChanges$Shop" "orders" "I") ∈ gw := gw_of (List.mem_of_getElem? (i := 32) (by decide +kernel)) (by decide +kernel)
theorem kw_33 : (Cond.fieldLink "FewChanges$Shop" 28 "FewChanges$Shop" "orders" "I") ∈ gw := gw_of (List.mem_of_getElem? (i := 33) (by decide +kernel)) (by decide +kernel)
theorem kw_34 : (Cond.fieldLink "FewChanges$Shop" 18 "FewChanges$Shop" "length" "[I") ∈ gw := gw_of (List.mem_of_getElem? (i := 34) (by decide +kernel)) (by decide +kernel)
theorem kw_35 : (Cond.fieldLink "FewChanges$Search" 117 "FewChanges$Shop" "length" "[I") ∈ gw := gw_of (List.mem_of_getElem? (i := 35) (by decide +kernel)) (by decide +kernel)
theorem kw_36 : (Cond.fieldLink "FewChanges" 216 "FewChanges$Shop" "length" "[I") ∈ gw := gw_of (List.mem_of_getElem? (i := 36) (by decide +kernel)) (by decide +kernel)
theorem kw_37 : (Cond.fieldLink "FewChanges$Shop" 21 "FewChanges$Shop" "units" "[I") ∈ gw := gw_of (List.mem_of_getElem? (i := 37) (by decide +kernel)) (by decide +kernel)
theorem kw_38 : (Cond.fieldLink "FewChanges$Search" 135 "FewChanges$Shop" "units" "[I") ∈ gw := gw_of (List.mem_of_getElem? (i := 38) (by decide +kernel)) (by decide +kernel)
theorem kw_39 : (Cond.fieldLink "FewChanges$Shop" 32 "FewChanges$Shop" "heats" "I") ∈ gw := gw_of (List.mem_of_getElem? (i := 39) (by decide +kernel)) (by decide +kernel)
theorem kw_40 : (Cond.fieldLink "FewChanges" 79 "FewChanges$Shop" "heats" "I") ∈ gw := gw_of (List.mem_of_getElem? (i := 40) (by decide +kernel)) (by decide +kernel)
theorem kw_41 : (Cond.fieldLink "FewChanges$Search" 78 "FewChanges$Shop" "heats" "I") ∈ gw := gw_of (List.mem_of_getElem? (i := 41) (by decide +kernel)) (by decide +kernel)
theorem kw_42 : (Cond.fieldLink "FewChanges$Shop" 24 "FewChanges$Shop" "stopped" "[J") ∈ gw := gw_of (List.mem_of_getElem? (i := 42) (by decide +kernel)) (by decide +kernel)
theorem kw_43 : (Cond.fieldLink "FewChanges$Search" 103 "FewChanges$Shop" "stopped" "[J") ∈ gw := gw_of (List.mem_of_getElem? (i := 43) (by decide +kernel)) (by decide +kernel)
theorem kw_44 : (Cond.fieldLink "FewChanges$Shop" 39 "FewChanges$Shop" "stops" "I") ∈ gw := gw_of (List.mem_of_getElem? (i := 44) (by decide +kernel)) (by decide +kernel)
theorem kw_45 : (Cond.fieldLink "FewChanges" 118 "FewChanges$Shop" "stops" "I") ∈ gw := gw_of (List.mem_of_getElem? (i := 45) (by decide +kernel)) (by decide +kernel)
theorem kw_46 : (Cond.fieldLink "FewChanges$Shop" 47 "FewChanges$Shop" "now" "I") ∈ gw := gw_of (List.mem_of_getElem? (i := 46) (by decide +kernel)) (by decide +kernel)
theorem kw_47 : (Cond.fieldLink "FewChanges" 134 "FewChanges$Shop" "now" "I") ∈ gw := gw_of (List.mem_of_getElem? (i := 47) (by decide +kernel)) (by decide +kernel)
theorem kw_48 : (Cond.fieldLink "FewChanges$Shop" 50 "FewChanges$Shop" "freeze" "I") ∈ gw := gw_of (List.mem_of_getElem? (i := 48) (by decide +kernel)) (by decide +kernel)
theorem kw_49 : (Cond.fieldLink "FewChanges" 137 "FewChanges$Shop" "freeze" "I") ∈ gw := gw_of (List.mem_of_getElem? (i := 49) (by decide +kernel)) (by decide +kernel)
theorem kw_50 : (Cond.laysFinal "FewChanges$Shop" "FewChanges$Shop" "grade" "[I") ∈ gw := gw_of (List.mem_of_getElem? (i := 50) (by decide +kernel)) (by decide +kernel)
theorem kw_52 : (Cond.laysFinal "FewChanges$Shop" "FewChanges$Shop" "due" "[I") ∈ gw := gw_of (List.mem_of_getElem? (i := 52) (by decide +kernel)) (by decide +kernel)
theorem kw_54 : (Cond.lays "FewChanges$Shop" "FewChanges$Shop" "orders" "I") ∈ gw := gw_of (List.mem_of_getElem? (i := 54) (by decide +kernel)) (by decide +kernel)
theorem kw_56 : (Cond.laysFinal "FewChanges$Shop" "FewChanges$Shop" "length" "[I") ∈ gw := gw_of (List.mem_of_getElem? (i := 56) (by decide +kernel)) (by decide +kernel)
theorem kw_58 : (Cond.laysFinal "FewChanges$Shop" "FewChanges$Shop" "units" "[I") ∈ gw := gw_of (List.mem_of_getElem? (i := 58) (by decide +kernel)) (by decide +kernel)
theorem kw_60 : (Cond.lays "FewChanges$Shop" "FewChanges$Shop" "heats" "I") ∈ gw := gw_of (List.mem_of_getElem? (i := 60) (by decide +kernel)) (by decide +kernel)
theorem kw_62 : (Cond.laysFinal "FewChanges$Shop" "FewChanges$Shop" "stopped" "[J") ∈ gw := gw_of (List.mem_of_getElem? (i := 62) (by decide +kernel)) (by decide +kernel)
theorem kw_64 : (Cond.lays "FewChanges$Shop" "FewChanges$Shop" "stops" "I") ∈ gw := gw_of (List.mem_of_getElem? (i := 64) (by decide +kernel)) (by decide +kernel)
theorem kw_66 : (Cond.lays "FewChanges$Shop" "FewChanges$Shop" "now" "I") ∈ gw := gw_of (List.mem_of_getElem? (i := 66) (by decide +kernel)) (by decide +kernel)
theorem kw_68 : (Cond.lays "FewChanges$Shop" "FewChanges$Shop" "freeze" "I") ∈ gw := gw_of (List.mem_of_getElem? (i := 68) (by decide +kernel)) (by decide +kernel)
theorem kw_71 : (Cond.arrayClass .int) ∈ gw := gw_of (List.mem_of_getElem? (i := 71) (by decide +kernel)) (by decide +kernel)
theorem kw_72 : (Cond.arrayClass .long) ∈ gw := gw_of (List.mem_of_getElem? (i := 72) (by decide +kernel)) (by decide +kernel)
theorem kw_73 : (Cond.classLink "FewChanges" 10 "FewChanges$Plan") ∈ gw := gw_of (List.mem_of_getElem? (i := 73) (by decide +kernel)) (by decide +kernel)
theorem kw_74 : (Cond.instantiable "FewChanges$Plan" 3) ∈ gw := gw_of (List.mem_of_getElem? (i := 74) (by decide +kernel)) (by decide +kernel)
theorem kw_75 : (Cond.methodLink "FewChanges" 12 y_P_init) ∈ gw := gw_of (List.mem_of_getElem? (i := 75) (by decide +kernel)) (by decide +kernel)
theorem kw_76 : (Cond.instanceMethod y_P_init) ∈ gw := gw_of (List.mem_of_getElem? (i := 76) (by decide +kernel)) (by decide +kernel)
set_option maxRecDepth 20000 in
theorem kw_77 : (Cond.code y_P_init b_P_init 1 none) ∈ gw := gw_of (List.mem_of_getElem? (i := 77) (by rfl)) (by decide +kernel)
theorem kw_78 : (Cond.methodLink "FewChanges$Plan" 3 objectInit) ∈ gw := gw_of (List.mem_of_getElem? (i := 78) (by decide +kernel)) (by decide +kernel)
theorem kw_79 : (Cond.fieldLink "FewChanges$Plan" 9 "FewChanges$Plan" "unit" "[I") ∈ gw := gw_of (List.mem_of_getElem? (i := 79) (by decide +kernel)) (by decide +kernel)
theorem kw_80 : (Cond.fieldLink "FewChanges$Search" 110 "FewChanges$Plan" "unit" "[I") ∈ gw := gw_of (List.mem_of_getElem? (i := 80) (by decide +kernel)) (by decide +kernel)
theorem kw_81 : (Cond.fieldLink "FewChanges$Shop" 67 "FewChanges$Plan" "unit" "[I") ∈ gw := gw_of (List.mem_of_getElem? (i := 81) (by decide +kernel)) (by decide +kernel)
theorem kw_82 : (Cond.fieldLink "FewChanges" 208 "FewChanges$Plan" "unit" "[I") ∈ gw := gw_of (List.mem_of_getElem? (i := 82) (by decide +kernel)) (by decide +kernel)
theorem kw_83 : (Cond.fieldLink "FewChanges$Plan" 15 "FewChanges$Plan" "minute" "[I") ∈ gw := gw_of (List.mem_of_getElem? (i := 83) (by decide +kernel)) (by decide +kernel)
theorem kw_84 : (Cond.fieldLink "FewChanges$Shop" 42 "FewChanges$Plan" "minute" "[I") ∈ gw := gw_of (List.mem_of_getElem? (i := 84) (by decide +kernel)) (by decide +kernel)
theorem kw_85 : (Cond.fieldLink "FewChanges$Search" 114 "FewChanges$Plan" "minute" "[I") ∈ gw := gw_of (List.mem_of_getElem? (i := 85) (by decide +kernel)) (by decide +kernel)
theorem kw_86 : (Cond.fieldLink "FewChanges" 211 "FewChanges$Plan" "minute" "[I") ∈ gw := gw_of (List.mem_of_getElem? (i := 86) (by decide +kernel)) (by decide +kernel)
theorem kw_87 : (Cond.fieldLink "FewChanges$Plan" 18 "FewChanges$Plan" "order" "[I") ∈ gw := gw_of (List.mem_of_getElem? (i := 87) (by decide +kernel)) (by decide +kernel)
theorem kw_88 : (Cond.fieldLink "FewChanges" 109 "FewChanges$Plan" "order" "[I") ∈ gw := gw_of (List.mem_of_getElem? (i := 88) (by decide +kernel)) (by decide +kernel)
theorem kw_89 : (Cond.fieldLink "FewChanges$Search" 128 "FewChanges$Plan" "order" "[I") ∈ gw := gw_of (List.mem_of_getElem? (i := 89) (by decide +kernel)) (by decide +kernel)
theorem kw_90 : (Cond.laysFinal "FewChanges$Plan" "FewChanges$Plan" "unit" "[I") ∈ gw := gw_of (List.mem_of_getElem? (i := 90) (by decide +kernel)) (by decide +kernel)
theorem kw_92 : (Cond.laysFinal "FewChanges$Plan" "FewChanges$Plan" "minute" "[I") ∈ gw := gw_of (List.mem_of_getElem? (i := 92) (by decide +kernel)) (by decide +kernel)
theorem kw_94 : (Cond.laysFinal "FewChanges$Plan" "FewChanges$Plan" "order" "[I") ∈ gw := gw_of (List.mem_of_getElem? (i := 94) (by decide +kernel)) (by decide +kernel)
theorem kw_98 : (Cond.classLink "FewChanges" 34 "FewChanges$Search") ∈ gw := gw_of (List.mem_of_getElem? (i := 98) (by decide +kernel)) (by decide +kernel)
theorem kw_99 : (Cond.instantiable "FewChanges$Search" 13) ∈ gw := gw_of (List.mem_of_getElem? (i := 99) (by decide +kernel)) (by decide +kernel)
theorem kw_100 : (Cond.methodLink "FewChanges" 36 y_Q_init) ∈ gw := gw_of (List.mem_of_getElem? (i := 100) (by decide +kernel)) (by decide +kernel)
theorem kw_101 : (Cond.instanceMethod y_Q_init) ∈ gw := gw_of (List.mem_of_getElem? (i := 101) (by decide +kernel)) (by decide +kernel)
set_option maxRecDepth 20000 in
theorem kw_102 : (Cond.code y_Q_init b_Q_init 3 none) ∈ gw := gw_of (List.mem_of_getElem? (i := 102) (by rfl)) (by decide +kernel)
theorem kw_103 : (Cond.methodLink "FewChanges$Search" 3 objectInit) ∈ gw := gw_of (List.mem_of_getElem? (i := 103) (by decide +kernel)) (by decide +kernel)
theorem kw_104 : (Cond.classLink "FewChanges$Search" 19 "FewChanges$Plan") ∈ gw := gw_of (List.mem_of_getElem? (i := 104) (by decide +kernel)) (by decide +kernel)
theorem kw_105 : (Cond.methodLink "FewChanges$Search" 21 y_P_init) ∈ gw := gw_of (List.mem_of_getElem? (i := 105) (by decide +kernel)) (by decide +kernel)
theorem kw_106 : (Cond.fieldLink "FewChanges$Search" 9 "FewChanges$Search" "shop" "LFewChanges$Shop;") ∈ gw := gw_of (List.mem_of_getElem? (i := 106) (by decide +kernel)) (by decide +kernel)
theorem kw_107 : (Cond.fieldLink "FewChanges$Search" 15 "FewChanges$Search" "old" "LFewChanges$Plan;") ∈ gw := gw_of (List.mem_of_getElem? (i := 107) (by decide +kernel)) (by decide +kernel)
theorem kw_108 : (Cond.fieldLink "FewChanges$Search" 22 "FewChanges$Search" "trial" "LFewChanges$Plan;") ∈ gw := gw_of (List.mem_of_getElem? (i := 108) (by decide +kernel)) (by decide +kernel)
theorem kw_109 : (Cond.fieldLink "FewChanges$Search" 25 "FewChanges$Search" "best" "LFewChanges$Plan;") ∈ gw := gw_of (List.mem_of_getElem? (i := 109) (by decide +kernel)) (by decide +kernel)
theorem kw_110 : (Cond.fieldLink "FewChanges" 183 "FewChanges$Search" "best" "LFewChanges$Plan;") ∈ gw := gw_of (List.mem_of_getElem? (i := 110) (by decide +kernel)) (by decide +kernel)
theorem kw_111 : (Cond.fieldLink "FewChanges$Search" 32 "FewChanges$Search" "bestCost" "I") ∈ gw := gw_of (List.mem_of_getElem? (i := 111) (by decide +kernel)) (by decide +kernel)
theorem kw_112 : (Cond.fieldLink "FewChanges$Search" 28 "FewChanges$Search" "taken" "[J") ∈ gw := gw_of (List.mem_of_getElem? (i := 112) (by decide +kernel)) (by decide +kernel)
theorem kw_113 : (Cond.fieldLink "FewChanges$Search" 90 "FewChanges$Search" "set" "I") ∈ gw := gw_of (List.mem_of_getElem? (i := 113) (by decide +kernel)) (by decide +kernel)
theorem kw_114 : (Cond.fieldLink "FewChanges$Search" 41 "FewChanges$Search" "nodesAllowed" "I") ∈ gw := gw_of (List.mem_of_getElem? (i := 114) (by decide +kernel)) (by decide +kernel)
theorem kw_115 : (Cond.fieldLink "FewChanges$Search" 37 "FewChanges$Search" "wasRun" "Z") ∈ gw := gw_of (List.mem_of_getElem? (i := 115) (by decide +kernel)) (by decide +kernel)
theorem kw_116 : (Cond.fieldLink "FewChanges" 192 "FewChanges$Search" "wasRun" "Z") ∈ gw := gw_of (List.mem_of_getElem? (i := 116) (by decide +kernel)) (by decide +kernel)
theorem kw_117 : (Cond.fieldLink "FewChanges$Search" 47 "FewChanges$Search" "spent" "Z") ∈ gw := gw_of (List.mem_of_getElem? (i := 117) (by decide +kernel)) (by decide +kernel)
theorem kw_118 : (Cond.fieldLink "FewChanges" 198 "FewChanges$Search" "spent" "Z") ∈ gw := gw_of (List.mem_of_getElem? (i := 118) (by decide +kernel)) (by decide +kernel)
theorem kw_119 : (Cond.fieldLink "FewChanges$Search" 44 "FewChanges$Search" "nodes" "I") ∈ gw := gw_of (List.mem_of_getElem? (i := 119) (by decide +kernel)) (by decide +kernel)
theorem kw_120 : (Cond.fieldLink "FewChanges" 201 "FewChanges$Search" "nodes" "I") ∈ gw := gw_of (List.mem_of_getElem? (i := 120) (by decide +kernel)) (by decide +kernel)
theorem kw_121 : (Cond.fieldLink "FewChanges$Search" 53 "FewChanges$Search" "round" "I") ∈ gw := gw_of (List.mem_of_getElem? (i := 121) (by decide +kernel)) (by decide +kernel)
theorem kw_122 : (Cond.fieldLink "FewChanges" 180 "FewChanges$Search" "round" "I") ∈ gw := gw_of (List.mem_of_getElem? (i := 122) (by decide +kernel)) (by decide +kernel)
theorem kw_123 : (Cond.fieldLink "FewChanges$Search" 50 "FewChanges$Search" "list" "I") ∈ gw := gw_of (List.mem_of_getElem? (i := 123) (by decide +kernel)) (by decide +kernel)
theorem kw_124 : (Cond.fieldLink "FewChanges" 203 "FewChanges$Search" "list" "I") ∈ gw := gw_of (List.mem_of_getElem? (i := 124) (by decide +kernel)) (by decide +kernel)
theorem kw_125 : (Cond.laysFinal "FewChanges$Search" "FewChanges$Search" "shop" "LFewChanges$Shop;") ∈ gw := gw_of (List.mem_of_getElem? (i := 125) (by decide +kernel)) (by decide +kernel)
theorem kw_127 : (Cond.laysFinal "FewChanges$Search" "FewChanges$Search" "old" "LFewChanges$Plan;") ∈ gw := gw_of (List.mem_of_getElem? (i := 127) (by decide +kernel)) (by decide +kernel)
theorem kw_129 : (Cond.laysFinal "FewChanges$Search" "FewChanges$Search" "trial" "LFewChanges$Plan;") ∈ gw := gw_of (List.mem_of_getElem? (i := 129) (by decide +kernel)) (by decide +kernel)
theorem kw_131 : (Cond.laysFinal "FewChanges$Search" "FewChanges$Search" "best" "LFewChanges$Plan;") ∈ gw := gw_of (List.mem_of_getElem? (i := 131) (by decide +kernel)) (by decide +kernel)
theorem kw_133 : (Cond.lays "FewChanges$Search" "FewChanges$Search" "bestCost" "I") ∈ gw := gw_of (List.mem_of_getElem? (i := 133) (by decide +kernel)) (by decide +kernel)
theorem kw_135 : (Cond.laysFinal "FewChanges$Search" "FewChanges$Search" "taken" "[J") ∈ gw := gw_of (List.mem_of_getElem? (i := 135) (by decide +kernel)) (by decide +kernel)
theorem kw_137 : (Cond.lays "FewChanges$Search" "FewChanges$Search" "set" "I") ∈ gw := gw_of (List.mem_of_getElem? (i := 137) (by decide +kernel)) (by decide +kernel)
theorem kw_139 : (Cond.lays "FewChanges$Search" "FewChanges$Search" "nodesAllowed" "I") ∈ gw := gw_of (List.mem_of_getElem? (i := 139) (by decide +kernel)) (by decide +kernel)
theorem kw_141 : (Cond.lays "FewChanges$Search" "FewChanges$Search" "wasRun" "Z") ∈ gw := gw_of (List.mem_of_getElem? (i := 141) (by decide +kernel)) (by decide +kernel)
theorem kw_143 : (Cond.lays "FewChanges$Search" "FewChanges$Search" "spent" "Z") ∈ gw := gw_of (List.mem_of_getElem? (i := 143) (by decide +kernel)) (by decide +kernel)
theorem kw_145 : (Cond.lays "FewChanges$Search" "FewChanges$Search" "nodes" "I") ∈ gw := gw_of (List.mem_of_getElem? (i := 145) (by decide +kernel)) (by decide +kernel)
theorem kw_147 : (Cond.lays "FewChanges$Search" "FewChanges$Search" "round" "I") ∈ gw := gw_of (List.mem_of_getElem? (i := 147) (by decide +kernel)) (by decide +kernel)
theorem kw_149 : (Cond.lays "FewChanges$Search" "FewChanges$Search" "list" "I") ∈ gw := gw_of (List.mem_of_getElem? (i := 149) (by decide +kernel)) (by decide +kernel)
theorem kw_152 : (Cond.arrayClass .boolean) ∈ gw := gw_of (List.mem_of_getElem? (i := 152) (by decide +kernel)) (by decide +kernel)
theorem kw_153 : (Cond.fieldLink "FewChanges" 13 "FewChanges" "shop" "LFewChanges$Shop;") ∈ gw := gw_of (List.mem_of_getElem? (i := 153) (by decide +kernel)) (by decide +kernel)
theorem kw_154 : (Cond.fieldLink "FewChanges" 19 "FewChanges" "plan" "LFewChanges$Plan;") ∈ gw := gw_of (List.mem_of_getElem? (i := 154) (by decide +kernel)) (by decide +kernel)
theorem kw_155 : (Cond.fieldLink "FewChanges" 23 "FewChanges" "before" "LFewChanges$Plan;") ∈ gw := gw_of (List.mem_of_getElem? (i := 155) (by decide +kernel)) (by decide +kernel)
theorem kw_156 : (Cond.fieldLink "FewChanges" 229 "FewChanges" "undoable" "Z") ∈ gw := gw_of (List.mem_of_getElem? (i := 156) (by decide +kernel)) (by decide +kernel)
theorem kw_157 : (Cond.fieldLink "FewChanges" 26 "FewChanges" "copies" "[LFewChanges$Plan;") ∈ gw := gw_of (List.mem_of_getElem? (i := 157) (by decide +kernel)) (by decide +kernel)
theorem kw_158 : (Cond.fieldLink "FewChanges" 30 "FewChanges" "kept" "[Z") ∈ gw := gw_of (List.mem_of_getElem? (i := 158) (by decide +kernel)) (by decide +kernel)
theorem kw_159 : (Cond.fieldLink "FewChanges" 39 "FewChanges" "search" "LFewChanges$Search;") ∈ gw := gw_of (List.mem_of_getElem? (i := 159) (by decide +kernel)) (by decide +kernel)
theorem kw_160 : (Cond.laysFinal "FewChanges" "FewChanges" "shop" "LFewChanges$Shop;") ∈ gw := gw_of (List.mem_of_getElem? (i := 160) (by decide +kernel)) (by decide +kernel)
theorem kw_162 : (Cond.laysFinal "FewChanges" "FewChanges" "plan" "LFewChanges$Plan;") ∈ gw := gw_of (List.mem_of_getElem? (i := 162) (by decide +kernel)) (by decide +kernel)
theorem kw_164 : (Cond.laysFinal "FewChanges" "FewChanges" "before" "LFewChanges$Plan;") ∈ gw := gw_of (List.mem_of_getElem? (i := 164) (by decide +kernel)) (by decide +kernel)
theorem kw_166 : (Cond.lays "FewChanges" "FewChanges" "undoable" "Z") ∈ gw := gw_of (List.mem_of_getElem? (i := 166) (by decide +kernel)) (by decide +kernel)
theorem kw_168 : (Cond.laysFinal "FewChanges" "FewChanges" "copies" "[LFewChanges$Plan;") ∈ gw := gw_of (List.mem_of_getElem? (i := 168) (by decide +kernel)) (by decide +kernel)
theorem kw_170 : (Cond.laysFinal "FewChanges" "FewChanges" "kept" "[Z") ∈ gw := gw_of (List.mem_of_getElem? (i := 170) (by decide +kernel)) (by decide +kernel)
theorem kw_172 : (Cond.laysFinal "FewChanges" "FewChanges" "search" "LFewChanges$Search;") ∈ gw := gw_of (List.mem_of_getElem? (i := 172) (by decide +kernel)) (by decide +kernel)
theorem kw_175 : (Cond.methodLink "FewChangesLaw" 88 y_F_go) ∈ gw := gw_of (List.mem_of_getElem? (i := 175) (by decide +kernel)) (by decide +kernel)
theorem kw_176 : (Cond.instanceMethod y_F_go) ∈ gw := gw_of (List.mem_of_getElem? (i := 176) (by decide +kernel)) (by decide +kernel)
theorem kw_177 : (Cond.selects "FewChanges" y_F_go y_F_go) ∈ gw := gw_of (List.mem_of_getElem? (i := 177) (by decide +kernel)) (by decide +kernel)
set_option maxRecDepth 20000 in
theorem kw_178 : (Cond.code y_F_go b_F_go 1 none) ∈ gw := gw_of (List.mem_of_getElem? (i := 178) (by rfl)) (by decide +kernel)
theorem kw_179 : (Cond.methodLink "FewChanges" 129 y_S_forgetStops) ∈ gw := gw_of (List.mem_of_getElem? (i := 179) (by decide +kernel)) (by decide +kernel)
theorem kw_180 : (Cond.instanceMethod y_S_forgetStops) ∈ gw := gw_of (List.mem_of_getElem? (i := 180) (by decide +kernel)) (by decide +kernel)
theorem kw_181 : (Cond.selects "FewChanges$Shop" y_S_forgetStops y_S_forgetStops) ∈ gw := gw_of (List.mem_of_getElem? (i := 181) (by decide +kernel)) (by decide +kernel)
set_option maxRecDepth 20000 in
theorem kw_182 : (Cond.code y_S_forgetStops b_S_forgetStops 2 none) ∈ gw := gw_of (List.mem_of_getElem? (i := 182) (by rfl)) (by decide +kernel)
theorem kw_183 : (Cond.methodLink "FewChangesLaw" 113 y_F_cost) ∈ gw := gw_of (List.mem_of_getElem? (i := 183) (by decide +kernel)) (by decide +kernel)
theorem kw_184 : (Cond.instanceMethod y_F_cost) ∈ gw := gw_of (List.mem_of_getElem? (i := 184) (by decide +kernel)) (by decide +kernel)
theorem kw_185 : (Cond.selects "FewChanges" y_F_cost y_F_cost) ∈ gw := gw_of (List.mem_of_getElem? (i := 185) (by decide +kernel)) (by decide +kernel)
set_option maxRecDepth 20000 in
theorem kw_186 : (Cond.code y_F_cost b_F_cost 3 (some .int)) ∈ gw := gw_of (List.mem_of_getElem? (i := 186) (by rfl)) (by decide +kernel)
theorem kw_187 : (Cond.methodLink "FewChanges" 213 y_S_lateness) ∈ gw := gw_of (List.mem_of_getElem? (i := 187) (by decide +kernel)) (by decide +kernel)
theorem kw_188 : (Cond.instanceMethod y_S_lateness) ∈ gw := gw_of (List.mem_of_getElem? (i := 188) (by decide +kernel)) (by decide +kernel)
theorem kw_189 : (Cond.selects "FewChanges$Shop" y_S_lateness y_S_lateness) ∈ gw := gw_of (List.mem_of_getElem? (i := 189) (by decide +kernel)) (by decide +kernel)
set_option maxRecDepth 20000 in
theorem kw_190 : (Cond.code y_S_lateness b_S_lateness 4 (some .int)) ∈ gw := gw_of (List.mem_of_getElem? (i := 190) (by rfl)) (by decide +kernel)
theorem kw_191 : (Cond.methodLink "FewChanges$Shop" 53 ⟨"java/lang/Math", "max", "(II)I"⟩) ∈ gw := gw_of (List.mem_of_getElem? (i := 191) (by decide +kernel)) (by decide +kernel)
theorem kw_192 : (Cond.static ⟨"java/lang/Math", "max", "(II)I"⟩) ∈ gw := gw_of (List.mem_of_getElem? (i := 192) (by decide +kernel)) (by decide +kernel)
set_option maxRecDepth 20000 in
theorem kw_193 : (Cond.code ⟨"java/lang/Math", "max", "(II)I"⟩ prog_12_method_65_code 2 (some .int)) ∈ gw := gw_of (List.mem_of_getElem? (i := 193) (by rfl)) (by decide +kernel)
theorem kw_194 : (Cond.methodLink "FewChangesLaw" 70 y_L_order) ∈ gw := gw_of (List.mem_of_getElem? (i := 194) (by decide +kernel)) (by decide +kernel)
theorem kw_195 : (Cond.static y_L_order) ∈ gw := gw_of (List.mem_of_getElem? (i := 195) (by decide +kernel)) (by decide +kernel)
set_option maxRecDepth 20000 in
theorem kw_196 : (Cond.codeWith y_L_order b_L_order 5 (some .int) [(0, 10, 13, 13), (0, 10, 17, 15)]) ∈ gw := gw_of (List.mem_of_getElem? (i := 196) (by rfl)) (by decide +kernel)
theorem kw_197 : (Cond.classLink "FewChangesLaw" 13 "java/lang/IllegalStateException") ∈ gw := gw_of (List.mem_of_getElem? (i := 197) (by decide +kernel)) (by decide +kernel)
theorem kw_198 : (Cond.classLink "FewChangesLaw" 15 "java/lang/IllegalArgumentException") ∈ gw := gw_of (List.mem_of_getElem? (i := 198) (by decide +kernel)) (by decide +kernel)
theorem kw_199 : (Cond.methodLink "FewChangesLaw" 7 y_F_order) ∈ gw := gw_of (List.mem_of_getElem? (i := 199) (by decide +kernel)) (by decide +kernel)
theorem kw_200 : (Cond.instanceMethod y_F_order) ∈ gw := gw_of (List.mem_of_getElem? (i := 200) (by decide +kernel)) (by decide +kernel)
theorem kw_201 : (Cond.selects "FewChanges" y_F_order y_F_order) ∈ gw := gw_of (List.mem_of_getElem? (i := 201) (by decide +kernel)) (by decide +kernel)
set_option maxRecDepth 20000 in
theorem kw_202 : (Cond.code y_F_order b_F_order 3 (some .int)) ∈ gw := gw_of (List.mem_of_getElem? (i := 202) (by rfl)) (by decide +kernel)
theorem kw_203 : (Cond.classLink "FewChanges" 47 "java/lang/IllegalStateException") ∈ gw := gw_of (List.mem_of_getElem? (i := 203) (by decide +kernel)) (by decide +kernel)
theorem kw_204 : (Cond.instantiable "java/lang/IllegalStateException" 6) ∈ gw := gw_of (List.mem_of_getElem? (i := 204) (by decide +kernel)) (by decide +kernel)
theorem kw_212 : (Cond.selects "java/lang/IllegalStateException" ⟨"java/lang/Throwable", "fillInStackTrace", "(I)Ljava/lang/Throwable;"⟩ ⟨"java/lang/Throwable", "fillInStackTrace", "(I)Ljava/lang/Throwable;"⟩) ∈ gw := gw_of (List.mem_of_getElem? (i := 212) (by decide +kernel)) (by decide +kernel)
theorem kw_213 : (Cond.selects "java/lang/IllegalStateException" ⟨"java/lang/Throwable", "fillInStackTrace", "()Ljava/lang/Throwable;"⟩ ⟨"java/lang/Throwable", "fillInStackTrace", "()Ljava/lang/Throwable;"⟩) ∈ gw := gw_of (List.mem_of_getElem? (i := 213) (by decide +kernel)) (by decide +kernel)
theorem kw_214 : (Cond.lays "java/lang/IllegalStateException" "java/lang/Throwable" "cause" "Ljava/lang/Throwable;") ∈ gw := gw_of (List.mem_of_getElem? (i := 214) (by decide +kernel)) (by decide +kernel)
theorem kw_215 : (Cond.lays "java/lang/Throwable" "java/lang/Throwable" "cause" "Ljava/lang/Throwable;") ∈ gw := gw_of (List.mem_of_getElem? (i := 215) (by decide +kernel)) (by decide +kernel)
theorem kw_216 : (Cond.lays "java/lang/IllegalStateException" "java/lang/Throwable" "stackTrace" "[Ljava/lang/StackTraceElement;") ∈ gw := gw_of (List.mem_of_getElem? (i := 216) (by decide +kernel)) (by decide +kernel)
theorem kw_217 : (Cond.lays "java/lang/Throwable" "java/lang/Throwable" "stackTrace" "[Ljava/lang/StackTraceElement;") ∈ gw := gw_of (List.mem_of_getElem? (i := 217) (by decide +kernel)) (by decide +kernel)
theorem kw_218 : (Cond.lays "java/lang/IllegalStateException" "java/lang/Throwable" "suppressedExceptions" "Ljava/util/List;") ∈ gw := gw_of (List.mem_of_getElem? (i := 218) (by decide +kernel)) (by decide +kernel)
theorem kw_219 : (Cond.lays "java/lang/Throwable" "java/lang/Throwable" "suppressedExceptions" "Ljava/util/List;") ∈ gw := gw_of (List.mem_of_getElem? (i := 219) (by decide +kernel)) (by decide +kernel)
theorem kw_220 : (Cond.lays "java/lang/IllegalStateException" "java/lang/Throwable" "detailMessage" "Ljava/lang/String;") ∈ gw := gw_of (List.mem_of_getElem? (i := 220) (by decide +kernel)) (by decide +kernel)
theorem kw_221 : (Cond.lays "java/lang/Throwable" "java/lang/Throwable" "detailMessage" "Ljava/lang/String;") ∈ gw := gw_of (List.mem_of_getElem? (i := 221) (by decide +kernel)) (by decide +kernel)
theorem kw_222 : (Cond.lays "java/lang/IllegalStateException" "java/lang/Throwable" "backtrace" "Ljava/lang/Object;") ∈ gw := gw_of (List.mem_of_getElem? (i := 222) (by decide +kernel)) (by decide +kernel)
theorem kw_223 : (Cond.lays "java/lang/Throwable" "java/lang/Throwable" "backtrace" "Ljava/lang/Object;") ∈ gw := gw_of (List.mem_of_getElem? (i := 223) (by decide +kernel)) (by decide +kernel)
theorem kw_224 : (Cond.fieldLink "java/lang/Throwable" 198 "java/lang/Throwable" "backtrace" "Ljava/lang/Object;") ∈ gw := gw_of (List.mem_of_getElem? (i := 224) (by decide +kernel)) (by decide +kernel)
theorem kw_226 : (Cond.instanceMethod ⟨"java/lang/Throwable", "<init>", "()V"⟩) ∈ gw := gw_of (List.mem_of_getElem? (i := 226) (by decide +kernel)) (by decide +kernel)
set_option maxRecDepth 20000 in
theorem kw_227 : (Cond.code ⟨"java/lang/Throwable", "<init>", "()V"⟩ prog_15_method_1_code 1 none) ∈ gw := gw_of (List.mem_of_getElem? (i := 227) (by rfl)) (by decide +kernel)
theorem kw_228 : (Cond.methodLink "java/lang/Throwable" 1 objectInit) ∈ gw := gw_of (List.mem_of_getElem? (i := 228) (by decide +kernel)) (by decide +kernel)
theorem kw_229 : (Cond.fieldLink "java/lang/Throwable" 13 "java/lang/Throwable" "UNASSIGNED_STACK" "[Ljava/lang/StackTraceElement;") ∈ gw := gw_of (List.mem_of_getElem? (i := 229) (by decide +kernel)) (by decide +kernel)
theorem kw_231 : (Cond.fieldLink "java/lang/Throwable" 20 "java/lang/Throwable" "SUPPRESSED_SENTINEL" "Ljava/util/List;") ∈ gw := gw_of (List.mem_of_getElem? (i := 231) (by decide +kernel)) (by decide +kernel)
theorem kw_233 : (Cond.methodLink "java/lang/Throwable" 27 ⟨"java/lang/Throwable", "fillInStackTrace", "()Ljava/lang/Throwable;"⟩) ∈ gw := gw_of (List.mem_of_getElem? (i := 233) (by decide +kernel)) (by decide +kernel)
theorem kw_234 : (Cond.instanceMethod ⟨"java/lang/Throwable", "fillInStackTrace", "()Ljava/lang/Throwable;"⟩) ∈ gw := gw_of (List.mem_of_getElem? (i := 234) (by decide +kernel)) (by decide +kernel)
theorem kw_236 : (Cond.selects "java/lang/IllegalArgumentException" ⟨"java/lang/Throwable", "fillInStackTrace", "()Ljava/lang/Throwable;"⟩ ⟨"java/lang/Throwable", "fillInStackTrace", "()Ljava/lang/Throwable;"⟩) ∈ gw := gw_of (List.mem_of_getElem? (i := 236) (by decide +kernel)) (by decide +kernel)
theorem kw_237 : (Cond.selects "java/lang/IndexOutOfBoundsException" ⟨"java/lang/Throwable", "fillInStackTrace", "()Ljava/lang/Throwable;"⟩ ⟨"java/lang/Throwable", "fillInStackTrace", "()Ljava/lang/Throwable;"⟩) ∈ gw := gw_of (List.mem_of_getElem? (i := 237) (by decide +kernel)) (by decide +kernel)
theorem kw_238 : (Cond.selects "java/lang/UnsupportedOperationException" ⟨"java/lang/Throwable", "fillInStackTrace", "()Ljava/lang/Throwable;"⟩ ⟨"java/lang/Throwable", "fillInStackTrace", "()Ljava/lang/Throwable;"⟩) ∈ gw := gw_of (List.mem_of_getElem? (i := 238) (by decide +kernel)) (by decide +kernel)
theorem kw_240 : (Cond.methodLink "java/lang/Throwable" 202 ⟨"java/lang/Throwable", "fillInStackTrace", "(I)Ljava/lang/Throwable;"⟩) ∈ gw := gw_of (List.mem_of_getElem? (i := 240) (by decide +kernel)) (by decide +kernel)
theorem kw_242 : (Cond.instanceMethod ⟨"java/lang/Throwable", "fillInStackTrace", "(I)Ljava/lang/Throwable;"⟩) ∈ gw := gw_of (List.mem_of_getElem? (i := 242) (by decide +kernel)) (by decide +kernel)
theorem kw_243 : (Cond.instantiable "java/lang/Throwable" 6) ∈ gw := gw_of (List.mem_of_getElem? (i := 243) (by decide +kernel)) (by decide +kernel)
theorem kw_246 : (Cond.methodLink "FewChanges" 51 ⟨"java/lang/IllegalStateException", "<init>", "(Ljava/lang/String;)V"⟩) ∈ gw := gw_of (List.mem_of_getElem? (i := 246) (by decide +kernel)) (by decide +kernel)
theorem kw_247 : (Cond.instanceMethod ⟨"java/lang/IllegalStateException", "<init>", "(Ljava/lang/String;)V"⟩) ∈ gw := gw_of (List.mem_of_getElem? (i := 247) (by decide +kernel)) (by decide +kernel)
set_option maxRecDepth 20000 in
theorem kw_248 : (Cond.code ⟨"java/lang/IllegalStateException", "<init>", "(Ljava/lang/String;)V"⟩ prog_9_method_2_code 2 none) ∈ gw := gw_of (List.mem_of_getElem? (i := 248) (by rfl)) (by decide +kernel)
theorem kw_249 : (Cond.methodLink "java/lang/IllegalStateException" 7 ⟨"java/lang/RuntimeException", "<init>", "(Ljava/lang/String;)V"⟩) ∈ gw := gw_of (List.mem_of_getElem? (i := 249) (by decide +kernel)) (by decide +kernel)
theorem kw_250 : (Cond.instanceMethod ⟨"java/lang/RuntimeException", "<init>", "(Ljava/lang/String;)V"⟩) ∈ gw := gw_of (List.mem_of_getElem? (i := 250) (by decide +kernel)) (by decide +kernel)
set_option maxRecDepth 20000 in
theorem kw_251 : (Cond.code ⟨"java/lang/RuntimeException", "<init>", "(Ljava/lang/String;)V"⟩ prog_13_method_2_code 2 none) ∈ gw := gw_of (List.mem_of_getElem? (i := 251) (by rfl)) (by decide +kernel)
theorem kw_252 : (Cond.methodLink "java/lang/RuntimeException" 7 ⟨"java/lang/Exception", "<init>", "(Ljava/lang/String;)V"⟩) ∈ gw := gw_of (List.mem_of_getElem? (i := 252) (by decide +kernel)) (by decide +kernel)
theorem kw_253 : (Cond.instanceMethod ⟨"java/lang/Exception", "<init>", "(Ljava/lang/String;)V"⟩) ∈ gw := gw_of (List.mem_of_getElem? (i := 253) (by decide +kernel)) (by decide +kernel)
set_option maxRecDepth 20000 in
theorem kw_254 : (Cond.code ⟨"java/lang/Exception", "<init>", "(Ljava/lang/String;)V"⟩ prog_7_method_2_code 2 none) ∈ gw := gw_of (List.mem_of_getElem? (i := 254) (by rfl)) (by decide +kernel)
theorem kw_255 : (Cond.methodLink "java/lang/Exception" 7 ⟨"java/lang/Throwable", "<init>", "(Ljava/lang/String;)V"⟩) ∈ gw := gw_of (List.mem_of_getElem? (i := 255) (by decide +kernel)) (by decide +kernel)
theorem kw_256 : (Cond.instanceMethod ⟨"java/lang/Throwable", "<init>", "(Ljava/lang/String;)V"⟩) ∈ gw := gw_of (List.mem_of_getElem? (i := 256) (by decide +kernel)) (by decide +kernel)
set_option maxRecDepth 20000 in
theorem kw_257 : (Cond.code ⟨"java/lang/Throwable", "<init>", "(Ljava/lang/String;)V"⟩ prog_15_method_2_code 2 none) ∈ gw := gw_of (List.mem_of_getElem? (i := 257) (by rfl)) (by decide +kernel)
theorem kw_259 : (Cond.fieldLink "java/lang/Throwable" 31 "java/lang/Throwable" "detailMessage" "Ljava/lang/String;") ∈ gw := gw_of (List.mem_of_getElem? (i := 259) (by decide +kernel)) (by decide +kernel)
theorem kw_260 : (Cond.fieldLink "java/lang/Throwable" 7 "java/lang/Throwable" "cause" "Ljava/lang/Throwable;") ∈ gw := gw_of (List.mem_of_getElem? (i := 260) (by decide +kernel)) (by decide +kernel)
theorem kw_261 : (Cond.fieldLink "java/lang/Throwable" 17 "java/lang/Throwable" "stackTrace" "[Ljava/lang/StackTraceElement;") ∈ gw := gw_of (List.mem_of_getElem? (i := 261) (by decide +kernel)) (by decide +kernel)
theorem kw_262 : (Cond.fieldLink "java/lang/Throwable" 24 "java/lang/Throwable" "suppressedExceptions" "Ljava/util/List;") ∈ gw := gw_of (List.mem_of_getElem? (i := 262) (by decide +kernel)) (by decide +kernel)
theorem kw_267 : (Cond.lays "java/lang/IllegalStateException" "java/lang/Throwable" "depth" "I") ∈ gw := gw_of (List.mem_of_getElem? (i := 267) (by decide +kernel)) (by decide +kernel)
theorem kw_271 : (Cond.arrayClass .byte) ∈ gw := gw_of (List.mem_of_getElem? (i := 271) (by decide +kernel)) (by decide +kernel)
theorem kw_272 : (Cond.methodLink "FewChanges" 54 y_F_isWithin) ∈ gw := gw_of (List.mem_of_getElem? (i := 272) (by decide +kernel)) (by decide +kernel)
theorem kw_273 : (Cond.static y_F_isWithin) ∈ gw := gw_of (List.mem_of_getElem? (i := 273) (by decide +kernel)) (by decide +kernel)
set_option maxRecDepth 20000 in
theorem kw_274 : (Cond.code y_F_isWithin b_F_isWithin 3 (some .boolean)) ∈ gw := gw_of (List.mem_of_getElem? (i := 274) (by rfl)) (by decide +kernel)
theorem kw_275 : (Cond.classLink "FewChanges" 58 "java/lang/IllegalArgumentException") ∈ gw := gw_of (List.mem_of_getElem? (i := 275) (by decide +kernel)) (by decide +kernel)
theorem kw_276 : (Cond.instantiable "java/lang/IllegalArgumentException" 6) ∈ gw := gw_of (List.mem_of_getElem? (i := 276) (by decide +kernel)) (by decide +kernel)
theorem kw_278 : (Cond.selects "java/lang/IllegalArgumentException" ⟨"java/lang/Throwable", "fillInStackTrace", "(I)Ljava/lang/Throwable;"⟩ ⟨"java/lang/Throwable", "fillInStackTrace", "(I)Ljava/lang/Throwable;"⟩) ∈ gw := gw_of (List.mem_of_getElem? (i := 278) (by decide +kernel)) (by decide +kernel)
theorem kw_279 : (Cond.lays "java/lang/IllegalArgumentException" "java/lang/Throwable" "cause" "Ljava/lang/Throwable;") ∈ gw := gw_of (List.mem_of_getElem? (i := 279) (by decide +kernel)) (by decide +kernel)
theorem kw_280 : (Cond.lays "java/lang/IllegalArgumentException" "java/lang/Throwable" "stackTrace" "[Ljava/lang/StackTraceElement;") ∈ gw := gw_of (List.mem_of_getElem? (i := 280) (by decide +kernel)) (by decide +kernel)
theorem kw_281 : (Cond.lays "java/lang/IllegalArgumentException" "java/lang/Throwable" "suppressedExceptions" "Ljava/util/List;") ∈ gw := gw_of (List.mem_of_getElem? (i := 281) (by decide +kernel)) (by decide +kernel)
theorem kw_282 : (Cond.lays "java/lang/IllegalArgumentException" "java/lang/Throwable" "detailMessage" "Ljava/lang/String;") ∈ gw := gw_of (List.mem_of_getElem? (i := 282) (by decide +kernel)) (by decide +kernel)
theorem kw_283 : (Cond.lays "java/lang/IllegalArgumentException" "java/lang/Throwable" "backtrace" "Ljava/lang/Object;") ∈ gw := gw_of (List.mem_of_getElem? (i := 283) (by decide +kernel)) (by decide +kernel)
theorem kw_285 : (Cond.methodLink "FewChanges" 62 ⟨"java/lang/IllegalArgumentException", "<init>", "(Ljava/lang/String;)V"⟩) ∈ gw := gw_of (List.mem_of_getElem? (i := 285) (by decide +kernel)) (by decide +kernel)
theorem kw_286 : (Cond.instanceMethod ⟨"java/lang/IllegalArgumentException", "<init>", "(Ljava/lang/String;)V"⟩) ∈ gw := gw_of (List.mem_of_getElem? (i := 286) (by decide +kernel)) (by decide +kernel)
set_option maxRecDepth 20000 in
theorem kw_287 : (Cond.code ⟨"java/lang/IllegalArgumentException", "<init>", "(Ljava/lang/String;)V"⟩ prog_8_method_2_code 2 none) ∈ gw := gw_of (List.mem_of_getElem? (i := 287) (by rfl)) (by decide +kernel)
theorem kw_288 : (Cond.methodLink "java/lang/IllegalArgumentException" 7 ⟨"java/lang/RuntimeException", "<init>", "(Ljava/lang/String;)V"⟩) ∈ gw := gw_of (List.mem_of_getElem? (i := 288) (by decide +kernel)) (by decide +kernel)
theorem kw_289 : (Cond.lays "java/lang/IllegalArgumentException" "java/lang/Throwable" "depth" "I") ∈ gw := gw_of (List.mem_of_getElem? (i := 289) (by decide +kernel)) (by decide +kernel)
theorem kw_291 : (Cond.methodLink "FewChanges" 63 y_S_addOrder) ∈ gw := gw_of (List.mem_of_getElem? (i := 291) (by decide +kernel)) (by decide +kernel)
theorem kw_292 : (Cond.instanceMethod y_S_addOrder) ∈ gw := gw_of (List.mem_of_getElem? (i := 292) (by decide +kernel)) (by decide +kernel)
theorem kw_293 : (Cond.selects "FewChanges$Shop" y_S_addOrder y_S_addOrder) ∈ gw := gw_of (List.mem_of_getElem? (i := 293) (by decide +kernel)) (by decide +kernel)
set_option maxRecDepth 20000 in
theorem kw_294 : (Cond.code y_S_addOrder b_S_addOrder 3 (some .int)) ∈ gw := gw_of (List.mem_of_getElem? (i := 294) (by rfl)) (by decide +kernel)
theorem kw_295 : (Cond.methodLink "FewChangesLaw" 80 y_L_heat) ∈ gw := gw_of (List.mem_of_getElem? (i := 295) (by decide +kernel)) (by decide +kernel)
theorem kw_296 : (Cond.static y_L_heat) ∈ gw := gw_of (List.mem_of_getElem? (i := 296) (by decide +kernel)) (by decide +kernel)
set_option maxRecDepth 20000 in
theorem kw_297 : (Cond.codeWith y_L_heat b_L_heat 8 (some .int) [(0, 16, 19, 21), (0, 16, 23, 13), (0, 16, 27, 15), (0, 16, 31, 23)]) ∈ gw := gw_of (List.mem_of_getElem? (i := 297) (by rfl)) (by decide +kernel)
theorem kw_298 : (Cond.classLink "FewChangesLaw" 21 "java/lang/IndexOutOfBoundsException") ∈ gw := gw_of (List.mem_of_getElem? (i := 298) (by decide +kernel)) (by decide +kernel)
theorem kw_299 : (Cond.classLink "FewChangesLaw" 23 "java/lang/UnsupportedOperationException") ∈ gw := gw_of (List.mem_of_getElem? (i := 299) (by decide +kernel)) (by decide +kernel)
theorem kw_300 : (Cond.methodLink "FewChangesLaw" 17 y_F_heat) ∈ gw := gw_of (List.mem_of_getElem? (i := 300) (by decide +kernel)) (by decide +kernel)
theorem kw_301 : (Cond.instanceMethod y_F_heat) ∈ gw := gw_of (List.mem_of_getElem? (i := 301) (by decide +kernel)) (by decide +kernel)
theorem kw_302 : (Cond.selects "FewChanges" y_F_heat y_F_heat) ∈ gw := gw_of (List.mem_of_getElem? (i := 302) (by decide +kernel)) (by decide +kernel)
set_option maxRecDepth 20000 in
theorem kw_303 : (Cond.code y_F_heat b_F_heat 7 (some .int)) ∈ gw := gw_of (List.mem_of_getElem? (i := 303) (by rfl)) (by decide +kernel)
theorem kw_304 : (Cond.methodLink "FewChanges" 67 y_F_isOrder) ∈ gw := gw_of (List.mem_of_getElem? (i := 304) (by decide +kernel)) (by decide +kernel)
theorem kw_306 : (Cond.instanceMethod y_F_isOrder) ∈ gw := gw_of (List.mem_of_getElem? (i := 306) (by decide +kernel)) (by decide +kernel)
set_option maxRecDepth 20000 in
theorem kw_307 : (Cond.code y_F_isOrder b_F_isOrder 2 (some .boolean)) ∈ gw := gw_of (List.mem_of_getElem? (i := 307) (by rfl)) (by decide +kernel)
theorem kw_308 : (Cond.methodLink "FewChanges" 71 y_F_isUnit) ∈ gw := gw_of (List.mem_of_getElem? (i := 308) (by decide +kernel)) (by decide +kernel)
theorem kw_309 : (Cond.static y_F_isUnit) ∈ gw := gw_of (List.mem_of_getElem? (i := 309) (by decide +kernel)) (by decide +kernel)
set_option maxRecDepth 20000 in
theorem kw_310 : (Cond.code y_F_isUnit b_F_isUnit 1 (some .boolean)) ∈ gw := gw_of (List.mem_of_getElem? (i := 310) (by rfl)) (by decide +kernel)
theorem kw_311 : (Cond.classLink "FewChanges" 74 "java/lang/IndexOutOfBoundsException") ∈ gw := gw_of (List.mem_of_getElem? (i := 311) (by decide +kernel)) (by decide +kernel)
theorem kw_312 : (Cond.instantiable "java/lang/IndexOutOfBoundsException" 6) ∈ gw := gw_of (List.mem_of_getElem? (i := 312) (by decide +kernel)) (by decide +kernel)
theorem kw_314 : (Cond.selects "java/lang/IndexOutOfBoundsException" ⟨"java/lang/Throwable", "fillInStackTrace", "(I)Ljava/lang/Throwable;"⟩ ⟨"java/lang/Throwable", "fillInStackTrace", "(I)Ljava/lang/Throwable;"⟩) ∈ gw := gw_of (List.mem_of_getElem? (i := 314) (by decide +kernel)) (by decide +kernel)
theorem kw_315 : (Cond.lays "java/lang/IndexOutOfBoundsException" "java/lang/Throwable" "cause" "Ljava/lang/Throwable;") ∈ gw := gw_of (List.mem_of_getElem? (i := 315) (by decide +kernel)) (by decide +kernel)
theorem kw_316 : (Cond.lays "java/lang/IndexOutOfBoundsException" "java/lang/Throwable" "stackTrace" "[Ljava/lang/StackTraceElement;") ∈ gw := gw_of (List.mem_of_getElem? (i := 316) (by decide +kernel)) (by decide +kernel)
theorem kw_317 : (Cond.lays "java/lang/IndexOutOfBoundsException" "java/lang/Throwable" "suppressedExceptions" "Ljava/util/List;") ∈ gw := gw_of (List.mem_of_getElem? (i := 317) (by decide +kernel)) (by decide +kernel)
theorem kw_318 : (Cond.lays "java/lang/IndexOutOfBoundsException" "java/lang/Throwable" "detailMessage" "Ljava/lang/String;") ∈ gw := gw_of (List.mem_of_getElem? (i := 318) (by decide +kernel)) (by decide +kernel)
theorem kw_319 : (Cond.lays "java/lang/IndexOutOfBoundsException" "java/lang/Throwable" "backtrace" "Ljava/lang/Object;") ∈ gw := gw_of (List.mem_of_getElem? (i := 319) (by decide +kernel)) (by decide +kernel)
theorem kw_321 : (Cond.methodLink "FewChanges" 78 ⟨"java/lang/IndexOutOfBoundsException", "<init>", "(Ljava/lang/String;)V"⟩) ∈ gw := gw_of (List.mem_of_getElem? (i := 321) (by decide +kernel)) (by decide +kernel)
theorem kw_322 : (Cond.instanceMethod ⟨"java/lang/IndexOutOfBoundsException", "<init>", "(Ljava/lang/String;)V"⟩) ∈ gw := gw_of (List.mem_of_getElem? (i := 322) (by decide +kernel)) (by decide +kernel)
set_option maxRecDepth 20000 in
theorem kw_323 : (Cond.code ⟨"java/lang/IndexOutOfBoundsException", "<init>", "(Ljava/lang/String;)V"⟩ prog_10_method_2_code 2 none) ∈ gw := gw_of (List.mem_of_getElem? (i := 323) (by rfl)) (by decide +kernel)
theorem kw_324 : (Cond.methodLink "java/lang/IndexOutOfBoundsException" 7 ⟨"java/lang/RuntimeException", "<init>", "(Ljava/lang/String;)V"⟩) ∈ gw := gw_of (List.mem_of_getElem? (i := 324) (by decide +kernel)) (by decide +kernel)
theorem kw_325 : (Cond.lays "java/lang/IndexOutOfBoundsException" "java/lang/Throwable" "depth" "I") ∈ gw := gw_of (List.mem_of_getElem? (i := 325) (by decide +kernel)) (by decide +kernel)
theorem kw_328 : (Cond.methodLink "FewChanges" 84 y_F_isMinute) ∈ gw := gw_of (List.mem_of_getElem? (i := 328) (by decide +kernel)) (by decide +kernel)
theorem kw_329 : (Cond.static y_F_isMinute) ∈ gw := gw_of (List.mem_of_getElem? (i := 329) (by decide +kernel)) (by decide +kernel)
set_option maxRecDepth 20000 in
theorem kw_330 : (Cond.code y_F_isMinute b_F_isMinute 1 (some .boolean)) ∈ gw := gw_of (List.mem_of_getElem? (i := 330) (by rfl)) (by decide +kernel)
theorem kw_332 : (Cond.methodLink "FewChanges" 89 y_F_mayTake) ∈ gw := gw_of (List.mem_of_getElem? (i := 332) (by decide +kernel)) (by decide +kernel)
theorem kw_333 : (Cond.static y_F_mayTake) ∈ gw := gw_of (List.mem_of_getElem? (i := 333) (by decide +kernel)) (by decide +kernel)
set_option maxRecDepth 20000 in
theorem kw_334 : (Cond.code y_F_mayTake b_F_mayTake 2 (some .boolean)) ∈ gw := gw_of (List.mem_of_getElem? (i := 334) (by rfl)) (by decide +kernel)
theorem kw_335 : (Cond.methodLink "FewChanges" 93 y_S_hasRoom) ∈ gw := gw_of (List.mem_of_getElem? (i := 335) (by decide +kernel)) (by decide +kernel)
theorem kw_336 : (Cond.instanceMethod y_S_hasRoom) ∈ gw := gw_of (List.mem_of_getElem? (i := 336) (by decide +kernel)) (by decide +kernel)
theorem kw_337 : (Cond.selects "FewChanges$Shop" y_S_hasRoom y_S_hasRoom) ∈ gw := gw_of (List.mem_of_getElem? (i := 337) (by decide +kernel)) (by decide +kernel)
set_option maxRecDepth 20000 in
theorem kw_338 : (Cond.code y_S_hasRoom b_S_hasRoom 9 (some .boolean)) ∈ gw := gw_of (List.mem_of_getElem? (i := 338) (by rfl)) (by decide +kernel)
theorem kw_340 : (Cond.static y_F_minutesAsBits) ∈ gw := gw_of (List.mem_of_getElem? (i := 340) (by decide +kernel)) (by decide +kernel)
set_option maxRecDepth 20000 in
theorem kw_341 : (Cond.code y_F_minutesAsBits b_F_minutesAsBits 2 (some .long)) ∈ gw := gw_of (List.mem_of_getElem? (i := 341) (by rfl)) (by decide +kernel)
theorem kw_342 : (Cond.classLink "FewChanges" 97 "java/lang/UnsupportedOperationException") ∈ gw := gw_of (List.mem_of_getElem? (i := 342) (by decide +kernel)) (by decide +kernel)
theorem kw_343 : (Cond.instantiable "java/lang/UnsupportedOperationException" 6) ∈ gw := gw_of (List.mem_of_getElem? (i := 343) (by decide +kernel)) (by decide +kernel)
theorem kw_345 : (Cond.selects "java/lang/UnsupportedOperationException" ⟨"java/lang/Throwable", "fillInStackTrace", "(I)Ljava/lang/Throwable;"⟩ ⟨"java/lang/Throwable", "fillInStackTrace", "(I)Ljava/lang/Throwable;"⟩) ∈ gw := gw_of (List.mem_of_getElem? (i := 345) (by decide +kernel)) (by decide +kernel)
theorem kw_346 : (Cond.lays "java/lang/UnsupportedOperationException" "java/lang/Throwable" "cause" "Ljava/lang/Throwable;") ∈ gw := gw_of (List.mem_of_getElem? (i := 346) (by decide +kernel)) (by decide +kernel)
theorem kw_347 : (Cond.lays "java/lang/UnsupportedOperationException" "java/lang/Throwable" "stackTrace" "[Ljava/lang/StackTraceElement;") ∈ gw := gw_of (List.mem_of_getElem? (i := 347) (by decide +kernel)) (by decide +kernel)
theorem kw_348 : (Cond.lays "java/lang/UnsupportedOperationException" "java/lang/Throwable" "suppressedExceptions" "Ljava/util/List;") ∈ gw := gw_of (List.mem_of_getElem? (i := 348) (by decide +kernel)) (by decide +kernel)
theorem kw_349 : (Cond.lays "java/lang/UnsupportedOperationException" "java/lang/Throwable" "detailMessage" "Ljava/lang/String;") ∈ gw := gw_of (List.mem_of_getElem? (i := 349) (by decide +kernel)) (by decide +kernel)
theorem kw_350 : (Cond.lays "java/lang/UnsupportedOperationException" "java/lang/Throwable" "backtrace" "Ljava/lang/Object;") ∈ gw := gw_of (List.mem_of_getElem? (i := 350) (by decide +kernel)) (by decide +kernel)
theorem kw_352 : (Cond.methodLink "FewChanges" 101 ⟨"java/lang/UnsupportedOperationException", "<init>", "(Ljava/lang/String;)V"⟩) ∈ gw := gw_of (List.mem_of_getElem? (i := 352) (by decide +kernel)) (by decide +kernel)
theorem kw_353 : (Cond.instanceMethod ⟨"java/lang/UnsupportedOperationException", "<init>", "(Ljava/lang/String;)V"⟩) ∈ gw := gw_of (List.mem_of_getElem? (i := 353) (by decide +kernel)) (by decide +kernel)
set_option maxRecDepth 20000 in
theorem kw_354 : (Cond.code ⟨"java/lang/UnsupportedOperationException", "<init>", "(Ljava/lang/String;)V"⟩ prog_16_method_2_code 2 none) ∈ gw := gw_of (List.mem_of_getElem? (i := 354) (by rfl)) (by decide +kernel)
theorem kw_355 : (Cond.methodLink "java/lang/UnsupportedOperationException" 7 ⟨"java/lang/RuntimeException", "<init>", "(Ljava/lang/String;)V"⟩) ∈ gw := gw_of (List.mem_of_getElem? (i := 355) (by decide +kernel)) (by decide +kernel)
theorem kw_356 : (Cond.lays "java/lang/UnsupportedOperationException" "java/lang/Throwable" "depth" "I") ∈ gw := gw_of (List.mem_of_getElem? (i := 356) (by decide +kernel)) (by decide +kernel)
theorem kw_358 : (Cond.methodLink "FewChanges" 102 y_S_addHeat) ∈ gw := gw_of (List.mem_of_getElem? (i := 358) (by decide +kernel)) (by decide +kernel)
theorem kw_359 : (Cond.instanceMethod y_S_addHeat) ∈ gw := gw_of (List.mem_of_getElem? (i := 359) (by decide +kernel)) (by decide +kernel)
theorem kw_360 : (Cond.selects "FewChanges$Shop" y_S_addHeat y_S_addHeat) ∈ gw := gw_of (List.mem_of_getElem? (i := 360) (by decide +kernel)) (by decide +kernel)
set_option maxRecDepth 20000 in
theorem kw_361 : (Cond.code y_S_addHeat b_S_addHeat 3 (some .int)) ∈ gw := gw_of (List.mem_of_getElem? (i := 361) (by rfl)) (by decide +kernel)
theorem kw_362 : (Cond.methodLink "FewChanges" 105 y_P_put) ∈ gw := gw_of (List.mem_of_getElem? (i := 362) (by decide +kernel)) (by decide +kernel)
theorem kw_363 : (Cond.instanceMethod y_P_put) ∈ gw := gw_of (List.mem_of_getElem? (i := 363) (by decide +kernel)) (by decide +kernel)
theorem kw_364 : (Cond.selects "FewChanges$Plan" y_P_put y_P_put) ∈ gw := gw_of (List.mem_of_getElem? (i := 364) (by decide +kernel)) (by decide +kernel)
set_option maxRecDepth 20000 in
theorem kw_365 : (Cond.code y_P_put b_P_put 4 none) ∈ gw := gw_of (List.mem_of_getElem? (i := 365) (by rfl)) (by decide +kernel)
theorem kw_366 : (Cond.methodLink "FewChanges" 113 y_F_forgetCopiesAndUndo) ∈ gw := gw_of (List.mem_of_getElem? (i := 366) (by decide +kernel)) (by decide +kernel)
theorem kw_368 : (Cond.instanceMethod y_F_forgetCopiesAndUndo) ∈ gw := gw_of (List.mem_of_getElem? (i := 368) (by decide +kernel)) (by decide +kernel)
set_option maxRecDepth 20000 in
theorem kw_369 : (Cond.code y_F_forgetCopiesAndUndo b_F_forgetCopiesAndUndo 2 none) ∈ gw := gw_of (List.mem_of_getElem? (i := 369) (by rfl)) (by decide +kernel)
theorem kw_370 : (Cond.methodLink "FewChangesLaw" 84 y_L_stop) ∈ gw := gw_of (List.mem_of_getElem? (i := 370) (by decide +kernel)) (by decide +kernel)
theorem kw_371 : (Cond.static y_L_stop) ∈ gw := gw_of (List.mem_of_getElem? (i := 371) (by decide +kernel)) (by decide +kernel)
set_option maxRecDepth 20000 in
theorem kw_372 : (Cond.codeWith y_L_stop b_L_stop 6 (some .int) [(0, 12, 15, 21), (0, 12, 19, 13), (0, 12, 23, 15)]) ∈ gw := gw_of (List.mem_of_getElem? (i := 372) (by rfl)) (by decide +kernel)
theorem kw_373 : (Cond.methodLink "FewChangesLaw" 25 y_F_stop) ∈ gw := gw_of (List.mem_of_getElem? (i := 373) (by decide +kernel)) (by decide +kernel)
theorem kw_374 : (Cond.instanceMethod y_F_stop) ∈ gw := gw_of (List.mem_of_getElem? (i := 374) (by decide +kernel)) (by decide +kernel)
theorem kw_375 : (Cond.selects "FewChanges" y_F_stop y_F_stop) ∈ gw := gw_of (List.mem_of_getElem? (i := 375) (by decide +kernel)) (by decide +kernel)
set_option maxRecDepth 20000 in
theorem kw_376 : (Cond.code y_F_stop b_F_stop 4 (some .int)) ∈ gw := gw_of (List.mem_of_getElem? (i := 376) (by rfl)) (by decide +kernel)
theorem kw_380 : (Cond.methodLink "FewChanges" 125 y_S_addStop) ∈ gw := gw_of (List.mem_of_getElem? (i := 380) (by decide +kernel)) (by decide +kernel)
theorem kw_381 : (Cond.instanceMethod y_S_addStop) ∈ gw := gw_of (List.mem_of_getElem? (i := 381) (by decide +kernel)) (by decide +kernel)
theorem kw_382 : (Cond.selects "FewChanges$Shop" y_S_addStop y_S_addStop) ∈ gw := gw_of (List.mem_of_getElem? (i := 382) (by decide +kernel)) (by decide +kernel)
set_option maxRecDepth 20000 in
theorem kw_383 : (Cond.code y_S_addStop b_S_addStop 4 (some .int)) ∈ gw := gw_of (List.mem_of_getElem? (i := 383) (by rfl)) (by decide +kernel)
theorem kw_384 : (Cond.methodLink "FewChangesLaw" 92 y_L_clock) ∈ gw := gw_of (List.mem_of_getElem? (i := 384) (by decide +kernel)) (by decide +kernel)
theorem kw_385 : (Cond.static y_L_clock) ∈ gw := gw_of (List.mem_of_getElem? (i := 385) (by decide +kernel)) (by decide +kernel)
set_option maxRecDepth 20000 in
theorem kw_386 : (Cond.codeWith y_L_clock b_L_clock 4 (some .int) [(0, 6, 9, 15)]) ∈ gw := gw_of (List.mem_of_getElem? (i := 386) (by rfl)) (by decide +kernel)
theorem kw_387 : (Cond.methodLink "FewChangesLaw" 29 y_F_clock) ∈ gw := gw_of (List.mem_of_getElem? (i := 387) (by decide +kernel)) (by decide +kernel)
theorem kw_388 : (Cond.instanceMethod y_F_clock) ∈ gw := gw_of (List.mem_of_getElem? (i := 388) (by decide +kernel)) (by decide +kernel)
theorem kw_389 : (Cond.selects "FewChanges" y_F_clock y_F_clock) ∈ gw := gw_of (List.mem_of_getElem? (i := 389) (by decide +kernel)) (by decide +kernel)
set_option maxRecDepth 20000 in
theorem kw_390 : (Cond.code y_F_clock b_F_clock 3 none) ∈ gw := gw_of (List.mem_of_getElem? (i := 390) (by rfl)) (by decide +kernel)
theorem kw_392 : (Cond.methodLink "FewChangesLaw" 96 y_L_place) ∈ gw := gw_of (List.mem_of_getElem? (i := 392) (by decide +kernel)) (by decide +kernel)
theorem kw_393 : (Cond.static y_L_place) ∈ gw := gw_of (List.mem_of_getElem? (i := 393) (by decide +kernel)) (by decide +kernel)
set_option maxRecDepth 20000 in
theorem kw_394 : (Cond.codeWith y_L_place b_L_place 5 (some .int) [(0, 7, 10, 21), (0, 7, 14, 13), (0, 7, 18, 15), (0, 7, 22, 23)]) ∈ gw := gw_of (List.mem_of_getElem? (i := 394) (by rfl)) (by decide +kernel)
theorem kw_395 : (Cond.methodLink "FewChangesLaw" 33 y_F_place) ∈ gw := gw_of (List.mem_of_getElem? (i := 395) (by decide +kernel)) (by decide +kernel)
theorem kw_396 : (Cond.instanceMethod y_F_place) ∈ gw := gw_of (List.mem_of_getElem? (i := 396) (by decide +kernel)) (by decide +kernel)
theorem kw_397 : (Cond.selects "FewChanges" y_F_place y_F_place) ∈ gw := gw_of (List.mem_of_getElem? (i := 397) (by decide +kernel)) (by decide +kernel)
set_option maxRecDepth 20000 in
theorem kw_398 : (Cond.code y_F_place b_F_place 4 none) ∈ gw := gw_of (List.mem_of_getElem? (i := 398) (by rfl)) (by decide +kernel)
theorem kw_399 : (Cond.methodLink "FewChanges" 140 y_F_isHeat) ∈ gw := gw_of (List.mem_of_getElem? (i := 399) (by decide +kernel)) (by decide +kernel)
theorem kw_401 : (Cond.instanceMethod y_F_isHeat) ∈ gw := gw_of (List.mem_of_getElem? (i := 401) (by decide +kernel)) (by decide +kernel)
set_option maxRecDepth 20000 in
theorem kw_402 : (Cond.code y_F_isHeat b_F_isHeat 2 (some .boolean)) ∈ gw := gw_of (List.mem_of_getElem? (i := 402) (by rfl)) (by decide +kernel)
theorem kw_404 : (Cond.methodLink "FewChanges" 145 y_S_isFrozen) ∈ gw := gw_of (List.mem_of_getElem? (i := 404) (by decide +kernel)) (by decide +kernel)
theorem kw_405 : (Cond.instanceMethod y_S_isFrozen) ∈ gw := gw_of (List.mem_of_getElem? (i := 405) (by decide +kernel)) (by decide +kernel)
theorem kw_406 : (Cond.selects "FewChanges$Shop" y_S_isFrozen y_S_isFrozen) ∈ gw := gw_of (List.mem_of_getElem? (i := 406) (by decide +kernel)) (by decide +kernel)
set_option maxRecDepth 20000 in
theorem kw_407 : (Cond.code y_S_isFrozen b_S_isFrozen 3 (some .boolean)) ∈ gw := gw_of (List.mem_of_getElem? (i := 407) (by rfl)) (by decide +kernel)
theorem kw_410 : (Cond.methodLink "FewChanges" 153 y_S_fits) ∈ gw := gw_of (List.mem_of_getElem? (i := 410) (by decide +kernel)) (by decide +kernel)
theorem kw_411 : (Cond.instanceMethod y_S_fits) ∈ gw := gw_of (List.mem_of_getElem? (i := 411) (by decide +kernel)) (by decide +kernel)
theorem kw_412 : (Cond.selects "FewChanges$Shop" y_S_fits y_S_fits) ∈ gw := gw_of (List.mem_of_getElem? (i := 412) (by decide +kernel)) (by decide +kernel)
set_option maxRecDepth 20000 in
theorem kw_413 : (Cond.code y_S_fits b_S_fits 5 (some .boolean)) ∈ gw := gw_of (List.mem_of_getElem? (i := 413) (by rfl)) (by decide +kernel)
theorem kw_415 : (Cond.methodLink "FewChanges$Shop" 63 y_S_hasRoom) ∈ gw := gw_of (List.mem_of_getElem? (i := 415) (by decide +kernel)) (by decide +kernel)
theorem kw_417 : (Cond.methodLink "FewChanges" 159 y_F_rememberForUndo) ∈ gw := gw_of (List.mem_of_getElem? (i := 417) (by decide +kernel)) (by decide +kernel)
theorem kw_419 : (Cond.instanceMethod y_F_rememberForUndo) ∈ gw := gw_of (List.mem_of_getElem? (i := 419) (by decide +kernel)) (by decide +kernel)
set_option maxRecDepth 20000 in
theorem kw_420 : (Cond.code y_F_rememberForUndo b_F_rememberForUndo 1 none) ∈ gw := gw_of (List.mem_of_getElem? (i := 420) (by rfl)) (by decide +kernel)
theorem kw_421 : (Cond.methodLink "FewChanges" 186 y_P_takeFrom) ∈ gw := gw_of (List.mem_of_getElem? (i := 421) (by decide +kernel)) (by decide +kernel)
theorem kw_422 : (Cond.instanceMethod y_P_takeFrom) ∈ gw := gw_of (List.mem_of_getElem? (i := 422) (by decide +kernel)) (by decide +kernel)
theorem kw_423 : (Cond.selects "FewChanges$Plan" y_P_takeFrom y_P_takeFrom) ∈ gw := gw_of (List.mem_of_getElem? (i := 423) (by decide +kernel)) (by decide +kernel)
set_option maxRecDepth 20000 in
theorem kw_424 : (Cond.code y_P_takeFrom b_P_takeFrom 3 none) ∈ gw := gw_of (List.mem_of_getElem? (i := 424) (by rfl)) (by decide +kernel)
theorem kw_425 : (Cond.methodLink "FewChangesLaw" 100 y_L_divert) ∈ gw := gw_of (List.mem_of_getElem? (i := 425) (by decide +kernel)) (by decide +kernel)
theorem kw_426 : (Cond.static y_L_divert) ∈ gw := gw_of (List.mem_of_getElem? (i := 426) (by decide +kernel)) (by decide +kernel)
set_option maxRecDepth 20000 in
theorem kw_427 : (Cond.codeWith y_L_divert b_L_divert 4 (some .int) [(0, 6, 9, 21), (0, 6, 12, 23)]) ∈ gw := gw_of (List.mem_of_getElem? (i := 427) (by rfl)) (by decide +kernel)
theorem kw_428 : (Cond.methodLink "FewChangesLaw" 37 y_F_divert) ∈ gw := gw_of (List.mem_of_getElem? (i := 428) (by decide +kernel)) (by decide +kernel)
theorem kw_429 : (Cond.instanceMethod y_F_divert) ∈ gw := gw_of (List.mem_of_getElem? (i := 429) (by decide +kernel)) (by decide +kernel)
theorem kw_430 : (Cond.selects "FewChanges" y_F_divert y_F_divert) ∈ gw := gw_of (List.mem_of_getElem? (i := 430) (by decide +kernel)) (by decide +kernel)
set_option maxRecDepth 20000 in
theorem kw_431 : (Cond.code y_F_divert b_F_divert 4 none) ∈ gw := gw_of (List.mem_of_getElem? (i := 431) (by rfl)) (by decide +kernel)
theorem kw_434 : (Cond.methodLink "FewChangesLaw" 103 y_L_run) ∈ gw := gw_of (List.mem_of_getElem? (i := 434) (by decide +kernel)) (by decide +kernel)
theorem kw_435 : (Cond.static y_L_run) ∈ gw := gw_of (List.mem_of_getElem? (i := 435) (by decide +kernel)) (by decide +kernel)
set_option maxRecDepth 20000 in
theorem kw_436 : (Cond.codeWith y_L_run b_L_run 4 (some .int) [(0, 9, 12, 15)]) ∈ gw := gw_of (List.mem_of_getElem? (i := 436) (by rfl)) (by decide +kernel)
theorem kw_437 : (Cond.methodLink "FewChangesLaw" 40 y_F_run) ∈ gw := gw_of (List.mem_of_getElem? (i := 437) (by decide +kernel)) (by decide +kernel)
theorem kw_438 : (Cond.instanceMethod y_F_run) ∈ gw := gw_of (List.mem_of_getElem? (i := 438) (by decide +kernel)) (by decide +kernel)
theorem kw_439 : (Cond.selects "FewChanges" y_F_run y_F_run) ∈ gw := gw_of (List.mem_of_getElem? (i := 439) (by decide +kernel)) (by decide +kernel)
set_option maxRecDepth 20000 in
theorem kw_440 : (Cond.code y_F_run b_F_run 2 (some .int)) ∈ gw := gw_of (List.mem_of_getElem? (i := 440) (by rfl)) (by decide +kernel)
theorem kw_441 : (Cond.constant "FewChanges" 169 100000) ∈ gw := gw_of (List.mem_of_getElem? (i := 441) (by decide +kernel)) (by decide +kernel)
theorem kw_443 : (Cond.methodLink "FewChanges" 172 y_Q_replan) ∈ gw := gw_of (List.mem_of_getElem? (i := 443) (by decide +kernel)) (by decide +kernel)
theorem kw_444 : (Cond.instanceMethod y_Q_replan) ∈ gw := gw_of (List.mem_of_getElem? (i := 444) (by decide +kernel)) (by decide +kernel)
theorem kw_445 : (Cond.selects "FewChanges$Search" y_Q_replan y_Q_replan) ∈ gw := gw_of (List.mem_of_getElem? (i := 445) (by decide +kernel)) (by decide +kernel)
set_option maxRecDepth 20000 in
theorem kw_446 : (Cond.code y_Q_replan b_Q_replan 4 none) ∈ gw := gw_of (List.mem_of_getElem? (i := 446) (by rfl)) (by decide +kernel)
theorem kw_447 : (Cond.constant "FewChanges$Search" 36 1000000) ∈ gw := gw_of (List.mem_of_getElem? (i := 447) (by decide +kernel)) (by decide +kernel)
theorem kw_448 : (Cond.methodLink "FewChanges$Search" 56 y_P_takeFrom) ∈ gw := gw_of (List.mem_of_getElem? (i := 448) (by decide +kernel)) (by decide +kernel)
theorem kw_449 : (Cond.methodLink "FewChanges$Search" 60 y_Q_looseHeats) ∈ gw := gw_of (List.mem_of_getElem? (i := 449) (by decide +kernel)) (by decide +kernel)
theorem kw_451 : (Cond.instanceMethod y_Q_looseHeats) ∈ gw := gw_of (List.mem_of_getElem? (i := 451) (by decide +kernel)) (by decide +kernel)
set_option maxRecDepth 20000 in
theorem kw_452 : (Cond.code y_Q_looseHeats b_Q_looseHeats 3 (some .int)) ∈ gw := gw_of (List.mem_of_getElem? (i := 452) (by rfl)) (by decide +kernel)
theorem kw_453 : (Cond.methodLink "FewChanges$Search" 83 y_S_isFrozen) ∈ gw := gw_of (List.mem_of_getElem? (i := 453) (by decide +kernel)) (by decide +kernel)
theorem kw_454 : (Cond.methodLink "FewChanges$Search" 64 y_I_bitCount) ∈ gw := gw_of (List.mem_of_getElem? (i := 454) (by decide +kernel)) (by decide +kernel)
theorem kw_455 : (Cond.static y_I_bitCount) ∈ gw := gw_of (List.mem_of_getElem? (i := 455) (by decide +kernel)) (by decide +kernel)
set_option maxRecDepth 20000 in
theorem kw_456 : (Cond.code y_I_bitCount b_I_bitCount 1 (some .int)) ∈ gw := gw_of (List.mem_of_getElem? (i := 456) (by rfl)) (by decide +kernel)
theorem kw_457 : (Cond.constant "java/lang/Integer" 265 1431655765) ∈ gw := gw_of (List.mem_of_getElem? (i := 457) (by decide +kernel)) (by decide +kernel)
theorem kw_458 : (Cond.constant "java/lang/Integer" 266 858993459) ∈ gw := gw_of (List.mem_of_getElem? (i := 458) (by decide +kernel)) (by decide +kernel)
theorem kw_459 : (Cond.constant "java/lang/Integer" 267 252645135) ∈ gw := gw_of (List.mem_of_getElem? (i := 459) (by decide +kernel)) (by decide +kernel)
theorem kw_460 : (Cond.methodLink "FewChanges$Search" 70 y_Q_searchRound) ∈ gw := gw_of (List.mem_of_getElem? (i := 460) (by decide +kernel)) (by decide +kernel)
theorem kw_462 : (Cond.instanceMethod y_Q_searchRound) ∈ gw := gw_of (List.mem_of_getElem? (i := 462) (by decide +kernel)) (by decide +kernel)
set_option maxRecDepth 20000 in
theorem kw_463 : (Cond.code y_Q_searchRound b_Q_searchRound 3 none) ∈ gw := gw_of (List.mem_of_getElem? (i := 463) (by rfl)) (by decide +kernel)
theorem kw_464 : (Cond.methodLink "FewChanges$Search" 87 y_Q_searchSet) ∈ gw := gw_of (List.mem_of_getElem? (i := 464) (by decide +kernel)) (by decide +kernel)
theorem kw_466 : (Cond.instanceMethod y_Q_searchSet) ∈ gw := gw_of (List.mem_of_getElem? (i := 466) (by decide +kernel)) (by decide +kernel)
set_option maxRecDepth 20000 in
theorem kw_467 : (Cond.code y_Q_searchSet b_Q_searchSet 3 none) ∈ gw := gw_of (List.mem_of_getElem? (i := 467) (by rfl)) (by decide +kernel)
theorem kw_468 : (Cond.methodLink "FewChanges$Search" 93 y_Q_canOthersStay) ∈ gw := gw_of (List.mem_of_getElem? (i := 468) (by decide +kernel)) (by decide +kernel)
theorem kw_470 : (Cond.instanceMethod y_Q_canOthersStay) ∈ gw := gw_of (List.mem_of_getElem? (i := 470) (by decide +kernel)) (by decide +kernel)
set_option maxRecDepth 20000 in
theorem kw_471 : (Cond.code y_Q_canOthersStay b_Q_canOthersStay 5 (some .boolean)) ∈ gw := gw_of (List.mem_of_getElem? (i := 471) (by rfl)) (by decide +kernel)
theorem kw_472 : (Cond.methodLink "FewChanges$Search" 106 y_Q_isInSet) ∈ gw := gw_of (List.mem_of_getElem? (i := 472) (by decide +kernel)) (by decide +kernel)
theorem kw_474 : (Cond.instanceMethod y_Q_isInSet) ∈ gw := gw_of (List.mem_of_getElem? (i := 474) (by decide +kernel)) (by decide +kernel)
set_option maxRecDepth 20000 in
theorem kw_475 : (Cond.code y_Q_isInSet b_Q_isInSet 2 (some .boolean)) ∈ gw := gw_of (List.mem_of_getElem? (i := 475) (by rfl)) (by decide +kernel)
theorem kw_477 : (Cond.methodLink "FewChanges$Search" 124 y_P_put) ∈ gw := gw_of (List.mem_of_getElem? (i := 477) (by decide +kernel)) (by decide +kernel)
theorem kw_478 : (Cond.methodLink "FewChanges$Search" 96 y_Q_costOfOthers) ∈ gw := gw_of (List.mem_of_getElem? (i := 478) (by decide +kernel)) (by decide +kernel)
theorem kw_480 : (Cond.instanceMethod y_Q_costOfOthers) ∈ gw := gw_of (List.mem_of_getElem? (i := 480) (by decide +kernel)) (by decide +kernel)
set_option maxRecDepth 20000 in
theorem kw_481 : (Cond.code y_Q_costOfOthers b_Q_costOfOthers 3 (some .int)) ∈ gw := gw_of (List.mem_of_getElem? (i := 481) (by rfl)) (by decide +kernel)
theorem kw_482 : (Cond.methodLink "FewChanges$Search" 131 y_S_lateness) ∈ gw := gw_of (List.mem_of_getElem? (i := 482) (by decide +kernel)) (by decide +kernel)
theorem kw_483 : (Cond.methodLink "FewChanges$Search" 99 y_Q_placeFrom) ∈ gw := gw_of (List.mem_of_getElem? (i := 483) (by decide +kernel)) (by decide +kernel)
theorem kw_485 : (Cond.instanceMethod y_Q_placeFrom) ∈ gw := gw_of (List.mem_of_getElem? (i := 485) (by decide +kernel)) (by decide +kernel)
set_option maxRecDepth 20000 in
theorem kw_486 : (Cond.code y_Q_placeFrom b_Q_placeFrom 4 none) ∈ gw := gw_of (List.mem_of_getElem? (i := 486) (by rfl)) (by decide +kernel)
theorem kw_488 : (Cond.methodLink "FewChanges$Search" 142 y_Q_tryUnit) ∈ gw := gw_of (List.mem_of_getElem? (i := 488) (by decide +kernel)) (by decide +kernel)
theorem kw_490 : (Cond.instanceMethod y_Q_tryUnit) ∈ gw := gw_of (List.mem_of_getElem? (i := 490) (by decide +kernel)) (by decide +kernel)
set_option maxRecDepth 20000 in
theorem kw_491 : (Cond.code y_Q_tryUnit b_Q_tryUnit 8 none) ∈ gw := gw_of (List.mem_of_getElem? (i := 491) (by rfl)) (by decide +kernel)
theorem kw_492 : (Cond.methodLink "FewChanges$Search" 145 y_P_isAt) ∈ gw := gw_of (List.mem_of_getElem? (i := 492) (by decide +kernel)) (by decide +kernel)
theorem kw_493 : (Cond.instanceMethod y_P_isAt) ∈ gw := gw_of (List.mem_of_getElem? (i := 493) (by decide +kernel)) (by decide +kernel)
theorem kw_494 : (Cond.selects "FewChanges$Plan" y_P_isAt y_P_isAt) ∈ gw := gw_of (List.mem_of_getElem? (i := 494) (by decide +kernel)) (by decide +kernel)
set_option maxRecDepth 20000 in
theorem kw_495 : (Cond.code y_P_isAt b_P_isAt 4 (some .boolean)) ∈ gw := gw_of (List.mem_of_getElem? (i := 495) (by rfl)) (by decide +kernel)
theorem kw_496 : (Cond.methodLink "FewChanges$Search" 149 y_Q_tryPlace) ∈ gw := gw_of (List.mem_of_getElem? (i := 496) (by decide +kernel)) (by decide +kernel)
theorem kw_498 : (Cond.instanceMethod y_Q_tryPlace) ∈ gw := gw_of (List.mem_of_getElem? (i := 498) (by decide +kernel)) (by decide +kernel)
set_option maxRecDepth 20000 in
theorem kw_499 : (Cond.code y_Q_tryPlace b_Q_tryPlace 8 none) ∈ gw := gw_of (List.mem_of_getElem? (i := 499) (by rfl)) (by decide +kernel)
theorem kw_500 : (Cond.constantLong "FewChanges$Search" 153 (-1)) ∈ gw := gw_of (List.mem_of_getElem? (i := 500) (by decide +kernel)) (by decide +kernel)
theorem kw_501 : (Cond.methodLink "FewChanges$Search" 74 y_Q_hasFound) ∈ gw := gw_of (List.mem_of_getElem? (i := 501) (by decide +kernel)) (by decide +kernel)
theorem kw_502 : (Cond.instanceMethod y_Q_hasFound) ∈ gw := gw_of (List.mem_of_getElem? (i := 502) (by decide +kernel)) (by decide +kernel)
theorem kw_503 : (Cond.selects "FewChanges$Search" y_Q_hasFound y_Q_hasFound) ∈ gw := gw_of (List.mem_of_getElem? (i := 503) (by decide +kernel)) (by decide +kernel)
set_option maxRecDepth 20000 in
theorem kw_504 : (Cond.code y_Q_hasFound b_Q_hasFound 1 (some .boolean)) ∈ gw := gw_of (List.mem_of_getElem? (i := 504) (by rfl)) (by decide +kernel)
theorem kw_505 : (Cond.methodLink "FewChanges" 176 y_Q_hasFound) ∈ gw := gw_of (List.mem_of_getElem? (i := 505) (by decide +kernel)) (by decide +kernel)
theorem kw_506 : (Cond.methodLink "FewChangesLaw" 107 y_L_told) ∈ gw := gw_of (List.mem_of_getElem? (i := 506) (by decide +kernel)) (by decide +kernel)
theorem kw_507 : (Cond.static y_L_told) ∈ gw := gw_of (List.mem_of_getElem? (i := 507) (by decide +kernel)) (by decide +kernel)
set_option maxRecDepth 20000 in
theorem kw_508 : (Cond.codeWith y_L_told b_L_told 4 (some .int) [(0, 9, 12, 21), (0, 9, 15, 13)]) ∈ gw := gw_of (List.mem_of_getElem? (i := 508) (by rfl)) (by decide +kernel)
theorem kw_509 : (Cond.methodLink "FewChangesLaw" 44 y_F_told) ∈ gw := gw_of (List.mem_of_getElem? (i := 509) (by decide +kernel)) (by decide +kernel)
theorem kw_510 : (Cond.instanceMethod y_F_told) ∈ gw := gw_of (List.mem_of_getElem? (i := 510) (by decide +kernel)) (by decide +kernel)
theorem kw_511 : (Cond.selects "FewChanges" y_F_told y_F_told) ∈ gw := gw_of (List.mem_of_getElem? (i := 511) (by decide +kernel)) (by decide +kernel)
set_option maxRecDepth 20000 in
theorem kw_512 : (Cond.code y_F_told b_F_told 2 (some .int)) ∈ gw := gw_of (List.mem_of_getElem? (i := 512) (by rfl)) (by decide +kernel)
theorem kw_515 : (Cond.methodLink "FewChangesLaw" 110 y_L_at) ∈ gw := gw_of (List.mem_of_getElem? (i := 515) (by decide +kernel)) (by decide +kernel)
theorem kw_516 : (Cond.static y_L_at) ∈ gw := gw_of (List.mem_of_getElem? (i := 516) (by decide +kernel)) (by decide +kernel)
set_option maxRecDepth 20000 in
theorem kw_517 : (Cond.codeWith y_L_at b_L_at 5 (some .int) [(0, 10, 13, 21)]) ∈ gw := gw_of (List.mem_of_getElem? (i := 517) (by rfl)) (by decide +kernel)
theorem kw_518 : (Cond.methodLink "FewChangesLaw" 47 y_F_at) ∈ gw := gw_of (List.mem_of_getElem? (i := 518) (by decide +kernel)) (by decide +kernel)
theorem kw_519 : (Cond.instanceMethod y_F_at) ∈ gw := gw_of (List.mem_of_getElem? (i := 519) (by decide +kernel)) (by decide +kernel)
theorem kw_520 : (Cond.selects "FewChanges" y_F_at y_F_at) ∈ gw := gw_of (List.mem_of_getElem? (i := 520) (by decide +kernel)) (by decide +kernel)
set_option maxRecDepth 20000 in
theorem kw_521 : (Cond.code y_F_at b_F_at 3 (some .int)) ∈ gw := gw_of (List.mem_of_getElem? (i := 521) (by rfl)) (by decide +kernel)
theorem kw_523 : (Cond.methodLink "FewChangesLaw" 117 y_L_on) ∈ gw := gw_of (List.mem_of_getElem? (i := 523) (by decide +kernel)) (by decide +kernel)
theorem kw_524 : (Cond.static y_L_on) ∈ gw := gw_of (List.mem_of_getElem? (i := 524) (by decide +kernel)) (by decide +kernel)
set_option maxRecDepth 20000 in
theorem kw_525 : (Cond.codeWith y_L_on b_L_on 5 (some .int) [(0, 10, 13, 21), (0, 10, 17, 15)]) ∈ gw := gw_of (List.mem_of_getElem? (i := 525) (by rfl)) (by decide +kernel)
theorem kw_526 : (Cond.methodLink "FewChangesLaw" 50 y_F_on) ∈ gw := gw_of (List.mem_of_getElem? (i := 526) (by decide +kernel)) (by decide +kernel)
theorem kw_527 : (Cond.instanceMethod y_F_on) ∈ gw := gw_of (List.mem_of_getElem? (i := 527) (by decide +kernel)) (by decide +kernel)
theorem kw_528 : (Cond.selects "FewChanges" y_F_on y_F_on) ∈ gw := gw_of (List.mem_of_getElem? (i := 528) (by decide +kernel)) (by decide +kernel)
set_option maxRecDepth 20000 in
theorem kw_529 : (Cond.code y_F_on b_F_on 5 (some .int)) ∈ gw := gw_of (List.mem_of_getElem? (i := 529) (by rfl)) (by decide +kernel)
theorem kw_530 : (Cond.methodLink "FewChangesLaw" 120 y_L_keep) ∈ gw := gw_of (List.mem_of_getElem? (i := 530) (by decide +kernel)) (by decide +kernel)
theorem kw_531 : (Cond.static y_L_keep) ∈ gw := gw_of (List.mem_of_getElem? (i := 531) (by decide +kernel)) (by decide +kernel)
set_option maxRecDepth 20000 in
theorem kw_532 : (Cond.codeWith y_L_keep b_L_keep 3 (some .int) [(0, 5, 8, 21)]) ∈ gw := gw_of (List.mem_of_getElem? (i := 532) (by rfl)) (by decide +kernel)
theorem kw_533 : (Cond.methodLink "FewChangesLaw" 53 y_F_keep) ∈ gw := gw_of (List.mem_of_getElem? (i := 533) (by decide +kernel)) (by decide +kernel)
theorem kw_534 : (Cond.instanceMethod y_F_keep) ∈ gw := gw_of (List.mem_of_getElem? (i := 534) (by decide +kernel)) (by decide +kernel)
theorem kw_535 : (Cond.selects "FewChanges" y_F_keep y_F_keep) ∈ gw := gw_of (List.mem_of_getElem? (i := 535) (by decide +kernel)) (by decide +kernel)
set_option maxRecDepth 20000 in
theorem kw_536 : (Cond.code y_F_keep b_F_keep 2 none) ∈ gw := gw_of (List.mem_of_getElem? (i := 536) (by rfl)) (by decide +kernel)
theorem kw_537 : (Cond.methodLink "FewChanges" 219 y_F_isCopy) ∈ gw := gw_of (List.mem_of_getElem? (i := 537) (by decide +kernel)) (by decide +kernel)
theorem kw_538 : (Cond.static y_F_isCopy) ∈ gw := gw_of (List.mem_of_getElem? (i := 538) (by decide +kernel)) (by decide +kernel)
set_option maxRecDepth 20000 in
theorem kw_539 : (Cond.code y_F_isCopy b_F_isCopy 1 (some .boolean)) ∈ gw := gw_of (List.mem_of_getElem? (i := 539) (by rfl)) (by decide +kernel)
theorem kw_541 : (Cond.methodLink "FewChangesLaw" 124 y_L_compare) ∈ gw := gw_of (List.mem_of_getElem? (i := 541) (by decide +kernel)) (by decide +kernel)
theorem kw_542 : (Cond.static y_L_compare) ∈ gw := gw_of (List.mem_of_getElem? (i := 542) (by decide +kernel)) (by decide +kernel)
set_option maxRecDepth 20000 in
theorem kw_543 : (Cond.codeWith y_L_compare b_L_compare 4 (some .int) [(0, 9, 12, 21), (0, 9, 15, 13)]) ∈ gw := gw_of (List.mem_of_getElem? (i := 543) (by rfl)) (by decide +kernel)
theorem kw_544 : (Cond.methodLink "FewChangesLaw" 57 y_F_compare) ∈ gw := gw_of (List.mem_of_getElem? (i := 544) (by decide +kernel)) (by decide +kernel)
theorem kw_545 : (Cond.instanceMethod y_F_compare) ∈ gw := gw_of (List.mem_of_getElem? (i := 545) (by decide +kernel)) (by decide +kernel)
theorem kw_546 : (Cond.selects "FewChanges" y_F_compare y_F_compare) ∈ gw := gw_of (List.mem_of_getElem? (i := 546) (by decide +kernel)) (by decide +kernel)
set_option maxRecDepth 20000 in
theorem kw_547 : (Cond.code y_F_compare b_F_compare 4 (some .int)) ∈ gw := gw_of (List.mem_of_getElem? (i := 547) (by rfl)) (by decide +kernel)
theorem kw_549 : (Cond.methodLink "FewChanges" 226 y_P_isSameIn) ∈ gw := gw_of (List.mem_of_getElem? (i := 549) (by decide +kernel)) (by decide +kernel)
theorem kw_550 : (Cond.instanceMethod y_P_isSameIn) ∈ gw := gw_of (List.mem_of_getElem? (i := 550) (by decide +kernel)) (by decide +kernel)
theorem kw_551 : (Cond.selects "FewChanges$Plan" y_P_isSameIn y_P_isSameIn) ∈ gw := gw_of (List.mem_of_getElem? (i := 551) (by decide +kernel)) (by decide +kernel)
set_option maxRecDepth 20000 in
theorem kw_552 : (Cond.code y_P_isSameIn b_P_isSameIn 3 (some .boolean)) ∈ gw := gw_of (List.mem_of_getElem? (i := 552) (by rfl)) (by decide +kernel)
theorem kw_553 : (Cond.methodLink "FewChanges$Plan" 21 y_P_isAt) ∈ gw := gw_of (List.mem_of_getElem? (i := 553) (by decide +kernel)) (by decide +kernel)
theorem kw_554 : (Cond.methodLink "FewChangesLaw" 127 y_L_use) ∈ gw := gw_of (List.mem_of_getElem? (i := 554) (by decide +kernel)) (by decide +kernel)
theorem kw_555 : (Cond.static y_L_use) ∈ gw := gw_of (List.mem_of_getElem? (i := 555) (by decide +kernel)) (by decide +kernel)
set_option maxRecDepth 20000 in
theorem kw_556 : (Cond.codeWith y_L_use b_L_use 3 (some .int) [(0, 5, 8, 21), (0, 5, 11, 13)]) ∈ gw := gw_of (List.mem_of_getElem? (i := 556) (by rfl)) (by decide +kernel)
theorem kw_557 : (Cond.methodLink "FewChangesLaw" 60 y_F_use) ∈ gw := gw_of (List.mem_of_getElem? (i := 557) (by decide +kernel)) (by decide +kernel)
theorem kw_558 : (Cond.instanceMethod y_F_use) ∈ gw := gw_of (List.mem_of_getElem? (i := 558) (by decide +kernel)) (by decide +kernel)
theorem kw_559 : (Cond.selects "FewChanges" y_F_use y_F_use) ∈ gw := gw_of (List.mem_of_getElem? (i := 559) (by decide +kernel)) (by decide +kernel)
set_option maxRecDepth 20000 in
theorem kw_560 : (Cond.code y_F_use b_F_use 2 none) ∈ gw := gw_of (List.mem_of_getElem? (i := 560) (by rfl)) (by decide +kernel)
theorem kw_561 : (Cond.methodLink "FewChangesLaw" 130 y_L_undo) ∈ gw := gw_of (List.mem_of_getElem? (i := 561) (by decide +kernel)) (by decide +kernel)
theorem kw_562 : (Cond.static y_L_undo) ∈ gw := gw_of (List.mem_of_getElem? (i := 562) (by decide +kernel)) (by decide +kernel)
set_option maxRecDepth 20000 in
theorem kw_563 : (Cond.codeWith y_L_undo b_L_undo 2 (some .int) [(0, 4, 7, 13)]) ∈ gw := gw_of (List.mem_of_getElem? (i := 563) (by rfl)) (by decide +kernel)
theorem kw_564 : (Cond.methodLink "FewChangesLaw" 63 y_F_undo) ∈ gw := gw_of (List.mem_of_getElem? (i := 564) (by decide +kernel)) (by decide +kernel)
theorem kw_565 : (Cond.instanceMethod y_F_undo) ∈ gw := gw_of (List.mem_of_getElem? (i := 565) (by decide +kernel)) (by decide +kernel)
theorem kw_566 : (Cond.selects "FewChanges" y_F_undo y_F_undo) ∈ gw := gw_of (List.mem_of_getElem? (i := 566) (by decide +kernel)) (by decide +kernel)
set_option maxRecDepth 20000 in
theorem kw_567 : (Cond.code y_F_undo b_F_undo 1 none) ∈ gw := gw_of (List.mem_of_getElem? (i := 567) (by rfl)) (by decide +kernel)
theorem kw_569 : (Cond.classLink "FewChangesLaw" 67 "FewChangesModel") ∈ gw := gw_of (List.mem_of_getElem? (i := 569) (by decide +kernel)) (by decide +kernel)
theorem kw_570 : (Cond.instantiable "FewChangesModel" 23) ∈ gw := gw_of (List.mem_of_getElem? (i := 570) (by decide +kernel)) (by decide +kernel)
theorem kw_571 : (Cond.methodLink "FewChangesLaw" 69 y_M_init) ∈ gw := gw_of (List.mem_of_getElem? (i := 571) (by decide +kernel)) (by decide +kernel)
theorem kw_572 : (Cond.instanceMethod y_M_init) ∈ gw := gw_of (List.mem_of_getElem? (i := 572) (by decide +kernel)) (by decide +kernel)
set_option maxRecDepth 20000 in
theorem kw_573 : (Cond.code y_M_init b_M_init 1 none) ∈ gw := gw_of (List.mem_of_getElem? (i := 573) (by rfl)) (by decide +kernel)
theorem kw_574 : (Cond.methodLink "FewChangesModel" 1 objectInit) ∈ gw := gw_of (List.mem_of_getElem? (i := 574) (by decide +kernel)) (by decide +kernel)
theorem kw_575 : (Cond.fieldLink "FewChangesModel" 38 "FewChangesModel" "thrown" "I") ∈ gw := gw_of (List.mem_of_getElem? (i := 575) (by decide +kernel)) (by decide +kernel)
theorem kw_576 : (Cond.fieldLink "FewChangesModel" 65 "FewChangesModel" "orders" "I") ∈ gw := gw_of (List.mem_of_getElem? (i := 576) (by decide +kernel)) (by decide +kernel)
theorem kw_577 : (Cond.fieldLink "FewChangesModel" 7 "FewChangesModel" "grade" "[I") ∈ gw := gw_of (List.mem_of_getElem? (i := 577) (by decide +kernel)) (by decide +kernel)
theorem kw_578 : (Cond.fieldLink "FewChangesModel" 13 "FewChangesModel" "due" "[I") ∈ gw := gw_of (List.mem_of_getElem? (i := 578) (by decide +kernel)) (by decide +kernel)
theorem kw_579 : (Cond.fieldLink "FewChangesModel" 42 "FewChangesModel" "heats" "I") ∈ gw := gw_of (List.mem_of_getElem? (i := 579) (by decide +kernel)) (by decide +kernel)
theorem kw_580 : (Cond.fieldLink "FewChangesModel" 16 "FewChangesModel" "length" "[I") ∈ gw := gw_of (List.mem_of_getElem? (i := 580) (by decide +kernel)) (by decide +kernel)
theorem kw_581 : (Cond.fieldLink "FewChangesModel" 19 "FewChangesModel" "units" "[I") ∈ gw := gw_of (List.mem_of_getElem? (i := 581) (by decide +kernel)) (by decide +kernel)
theorem kw_582 : (Cond.fieldLink "FewChangesModel" 22 "FewChangesModel" "plans" "[I") ∈ gw := gw_of (List.mem_of_getElem? (i := 582) (by decide +kernel)) (by decide +kernel)
theorem kw_583 : (Cond.fieldLink "FewChangesModel" 75 "FewChangesModel" "undoable" "Z") ∈ gw := gw_of (List.mem_of_getElem? (i := 583) (by decide +kernel)) (by decide +kernel)
theorem kw_584 : (Cond.fieldLink "FewChangesModel" 79 "FewChangesModel" "copies" "I") ∈ gw := gw_of (List.mem_of_getElem? (i := 584) (by decide +kernel)) (by decide +kernel)
theorem kw_585 : (Cond.fieldLink "FewChangesModel" 49 "FewChangesModel" "stops" "I") ∈ gw := gw_of (List.mem_of_getElem? (i := 585) (by decide +kernel)) (by decide +kernel)
theorem kw_586 : (Cond.fieldLink "FewChangesModel" 25 "FewChangesModel" "stopUnit" "[I") ∈ gw := gw_of (List.mem_of_getElem? (i := 586) (by decide +kernel)) (by decide +kernel)
theorem kw_587 : (Cond.fieldLink "FewChangesModel" 28 "FewChangesModel" "stopFrom" "[I") ∈ gw := gw_of (List.mem_of_getElem? (i := 587) (by decide +kernel)) (by decide +kernel)
theorem kw_588 : (Cond.fieldLink "FewChangesModel" 31 "FewChangesModel" "stopTo" "[I") ∈ gw := gw_of (List.mem_of_getElem? (i := 588) (by decide +kernel)) (by decide +kernel)
theorem kw_589 : (Cond.fieldLink "FewChangesModel" 59 "FewChangesModel" "now" "I") ∈ gw := gw_of (List.mem_of_getElem? (i := 589) (by decide +kernel)) (by decide +kernel)
theorem kw_590 : (Cond.fieldLink "FewChangesModel" 62 "FewChangesModel" "freeze" "I") ∈ gw := gw_of (List.mem_of_getElem? (i := 590) (by decide +kernel)) (by decide +kernel)
theorem kw_591 : (Cond.fieldLink "FewChangesModel" 131 "FewChangesModel" "ran" "Z") ∈ gw := gw_of (List.mem_of_getElem? (i := 591) (by decide +kernel)) (by decide +kernel)
theorem kw_592 : (Cond.fieldLink "FewChangesModel" 134 "FewChangesModel" "spent" "Z") ∈ gw := gw_of (List.mem_of_getElem? (i := 592) (by decide +kernel)) (by decide +kernel)
theorem kw_593 : (Cond.fieldLink "FewChangesModel" 127 "FewChangesModel" "nodes" "I") ∈ gw := gw_of (List.mem_of_getElem? (i := 593) (by decide +kernel)) (by decide +kernel)
theorem kw_594 : (Cond.fieldLink "FewChangesModel" 137 "FewChangesModel" "round" "I") ∈ gw := gw_of (List.mem_of_getElem? (i := 594) (by decide +kernel)) (by decide +kernel)
theorem kw_595 : (Cond.fieldLink "FewChangesModel" 107 "FewChangesModel" "list" "I") ∈ gw := gw_of (List.mem_of_getElem? (i := 595) (by decide +kernel)) (by decide +kernel)
theorem kw_596 : (Cond.fieldLink "FewChangesModel" 34 "FewChangesModel" "placed" "[Z") ∈ gw := gw_of (List.mem_of_getElem? (i := 596) (by decide +kernel)) (by decide +kernel)
theorem kw_597 : (Cond.fieldLink "FewChangesModel" 104 "FewChangesModel" "least" "I") ∈ gw := gw_of (List.mem_of_getElem? (i := 597) (by decide +kernel)) (by decide +kernel)
theorem kw_598 : (Cond.lays "FewChangesModel" "FewChangesModel" "thrown" "I") ∈ gw := gw_of (List.mem_of_getElem? (i := 598) (by decide +kernel)) (by decide +kernel)
theorem kw_600 : (Cond.lays "FewChangesModel" "FewChangesModel" "orders" "I") ∈ gw := gw_of (List.mem_of_getElem? (i := 600) (by decide +kernel)) (by decide +kernel)
theorem kw_602 : (Cond.laysFinal "FewChangesModel" "FewChangesModel" "grade" "[I") ∈ gw := gw_of (List.mem_of_getElem? (i := 602) (by decide +kernel)) (by decide +kernel)
theorem kw_604 : (Cond.laysFinal "FewChangesModel" "FewChangesModel" "due" "[I") ∈ gw := gw_of (List.mem_of_getElem? (i := 604) (by decide +kernel)) (by decide +kernel)
theorem kw_606 : (Cond.lays "FewChangesModel" "FewChangesModel" "heats" "I") ∈ gw := gw_of (List.mem_of_getElem? (i := 606) (by decide +kernel)) (by decide +kernel)
theorem kw_608 : (Cond.laysFinal "FewChangesModel" "FewChangesModel" "length" "[I") ∈ gw := gw_of (List.mem_of_getElem? (i := 608) (by decide +kernel)) (by decide +kernel)
theorem kw_610 : (Cond.laysFinal "FewChangesModel" "FewChangesModel" "units" "[I") ∈ gw := gw_of (List.mem_of_getElem? (i := 610) (by decide +kernel)) (by decide +kernel)
theorem kw_612 : (Cond.laysFinal "FewChangesModel" "FewChangesModel" "plans" "[I") ∈ gw := gw_of (List.mem_of_getElem? (i := 612) (by decide +kernel)) (by decide +kernel)
theorem kw_614 : (Cond.lays "FewChangesModel" "FewChangesModel" "undoable" "Z") ∈ gw := gw_of (List.mem_of_getElem? (i := 614) (by decide +kernel)) (by decide +kernel)
theorem kw_616 : (Cond.lays "FewChangesModel" "FewChangesModel" "copies" "I") ∈ gw := gw_of (List.mem_of_getElem? (i := 616) (by decide +kernel)) (by decide +kernel)
theorem kw_618 : (Cond.lays "FewChangesModel" "FewChangesModel" "stops" "I") ∈ gw := gw_of (List.mem_of_getElem? (i := 618) (by decide +kernel)) (by decide +kernel)
theorem kw_620 : (Cond.laysFinal "FewChangesModel" "FewChangesModel" "stopUnit" "[I") ∈ gw := gw_of (List.mem_of_getElem? (i := 620) (by decide +kernel)) (by decide +kernel)
theorem kw_622 : (Cond.laysFinal "FewChangesModel" "FewChangesModel" "stopFrom" "[I") ∈ gw := gw_of (List.mem_of_getElem? (i := 622) (by decide +kernel)) (by decide +kernel)
theorem kw_624 : (Cond.laysFinal "FewChangesModel" "FewChangesModel" "stopTo" "[I") ∈ gw := gw_of (List.mem_of_getElem? (i := 624) (by decide +kernel)) (by decide +kernel)
theorem kw_626 : (Cond.lays "FewChangesModel" "FewChangesModel" "now" "I") ∈ gw := gw_of (List.mem_of_getElem? (i := 626) (by decide +kernel)) (by decide +kernel)
theorem kw_628 : (Cond.lays "FewChangesModel" "FewChangesModel" "freeze" "I") ∈ gw := gw_of (List.mem_of_getElem? (i := 628) (by decide +kernel)) (by decide +kernel)
theorem kw_630 : (Cond.lays "FewChangesModel" "FewChangesModel" "ran" "Z") ∈ gw := gw_of (List.mem_of_getElem? (i := 630) (by decide +kernel)) (by decide +kernel)
theorem kw_632 : (Cond.lays "FewChangesModel" "FewChangesModel" "spent" "Z") ∈ gw := gw_of (List.mem_of_getElem? (i := 632) (by decide +kernel)) (by decide +kernel)
theorem kw_634 : (Cond.lays "FewChangesModel" "FewChangesModel" "nodes" "I") ∈ gw := gw_of (List.mem_of_getElem? (i := 634) (by decide +kernel)) (by decide +kernel)
theorem kw_636 : (Cond.lays "FewChangesModel" "FewChangesModel" "round" "I") ∈ gw := gw_of (List.mem_of_getElem? (i := 636) (by decide +kernel)) (by decide +kernel)
theorem kw_638 : (Cond.lays "FewChangesModel" "FewChangesModel" "list" "I") ∈ gw := gw_of (List.mem_of_getElem? (i := 638) (by decide +kernel)) (by decide +kernel)
theorem kw_640 : (Cond.laysFinal "FewChangesModel" "FewChangesModel" "placed" "[Z") ∈ gw := gw_of (List.mem_of_getElem? (i := 640) (by decide +kernel)) (by decide +kernel)
theorem kw_642 : (Cond.lays "FewChangesModel" "FewChangesModel" "least" "I") ∈ gw := gw_of (List.mem_of_getElem? (i := 642) (by decide +kernel)) (by decide +kernel)
theorem kw_645 : (Cond.methodLink "FewChangesLaw" 76 y_M_thrown) ∈ gw := gw_of (List.mem_of_getElem? (i := 645) (by decide +kernel)) (by decide +kernel)
theorem kw_646 : (Cond.instanceMethod y_M_thrown) ∈ gw := gw_of (List.mem_of_getElem? (i := 646) (by decide +kernel)) (by decide +kernel)
theorem kw_647 : (Cond.selects "FewChangesModel" y_M_thrown y_M_thrown) ∈ gw := gw_of (List.mem_of_getElem? (i := 647) (by decide +kernel)) (by decide +kernel)
set_option maxRecDepth 20000 in
theorem kw_648 : (Cond.code y_M_thrown b_M_thrown 1 (some .int)) ∈ gw := gw_of (List.mem_of_getElem? (i := 648) (by rfl)) (by decide +kernel)
theorem kw_649 : (Cond.methodLink "FewChangesLaw" 75 y_M_order) ∈ gw := gw_of (List.mem_of_getElem? (i := 649) (by decide +kernel)) (by decide +kernel)
theorem kw_650 : (Cond.instanceMethod y_M_order) ∈ gw := gw_of (List.mem_of_getElem? (i := 650) (by decide +kernel)) (by decide +kernel)
theorem kw_651 : (Cond.selects "FewChangesModel" y_M_order y_M_order) ∈ gw := gw_of (List.mem_of_getElem? (i := 651) (by decide +kernel)) (by decide +kernel)
set_option maxRecDepth 20000 in
theorem kw_652 : (Cond.code y_M_order b_M_order 3 (some .int)) ∈ gw := gw_of (List.mem_of_getElem? (i := 652) (by rfl)) (by decide +kernel)
theorem kw_653 : (Cond.methodLink "FewChangesModel" 45 y_M_in) ∈ gw := gw_of (List.mem_of_getElem? (i := 653) (by decide +kernel)) (by decide +kernel)
theorem kw_654 : (Cond.static y_M_in) ∈ gw := gw_of (List.mem_of_getElem? (i := 654) (by decide +kernel)) (by decide +kernel)
set_option maxRecDepth 20000 in
theorem kw_655 : (Cond.code y_M_in b_M_in 3 (some .boolean)) ∈ gw := gw_of (List.mem_of_getElem? (i := 655) (by rfl)) (by decide +kernel)
theorem kw_656 : (Cond.methodLink "FewChangesModel" 68 y_M_throwing) ∈ gw := gw_of (List.mem_of_getElem? (i := 656) (by decide +kernel)) (by decide +kernel)
theorem kw_658 : (Cond.instanceMethod y_M_throwing) ∈ gw := gw_of (List.mem_of_getElem? (i := 658) (by decide +kernel)) (by decide +kernel)
set_option maxRecDepth 20000 in
theorem kw_659 : (Cond.code y_M_throwing b_M_throwing 5 (some .boolean)) ∈ gw := gw_of (List.mem_of_getElem? (i := 659) (by rfl)) (by decide +kernel)
theorem kw_660 : (Cond.methodLink "FewChangesLaw" 83 y_M_heat) ∈ gw := gw_of (List.mem_of_getElem? (i := 660) (by decide +kernel)) (by decide +kernel)
theorem kw_661 : (Cond.instanceMethod y_M_heat) ∈ gw := gw_of (List.mem_of_getElem? (i := 661) (by decide +kernel)) (by decide +kernel)
theorem kw_662 : (Cond.selects "FewChangesModel" y_M_heat y_M_heat) ∈ gw := gw_of (List.mem_of_getElem? (i := 662) (by decide +kernel)) (by decide +kernel)
set_option maxRecDepth 20000 in
theorem kw_663 : (Cond.code y_M_heat b_M_heat 9 (some .int)) ∈ gw := gw_of (List.mem_of_getElem? (i := 663) (by rfl)) (by decide +kernel)
theorem kw_664 : (Cond.methodLink "FewChangesModel" 72 y_M_fits) ∈ gw := gw_of (List.mem_of_getElem? (i := 664) (by decide +kernel)) (by decide +kernel)
theorem kw_666 : (Cond.instanceMethod y_M_fits) ∈ gw := gw_of (List.mem_of_getElem? (i := 666) (by decide +kernel)) (by decide +kernel)
set_option maxRecDepth 20000 in
theorem kw_667 : (Cond.code y_M_fits b_M_fits 6 (some .boolean)) ∈ gw := gw_of (List.mem_of_getElem? (i := 667) (by rfl)) (by decide +kernel)
theorem kw_668 : (Cond.methodLink "FewChangesModel" 52 y_M_isFree) ∈ gw := gw_of (List.mem_of_getElem? (i := 668) (by decide +kernel)) (by decide +kernel)
theorem kw_670 : (Cond.instanceMethod y_M_isFree) ∈ gw := gw_of (List.mem_of_getElem? (i := 670) (by decide +kernel)) (by decide +kernel)
set_option maxRecDepth 20000 in
theorem kw_671 : (Cond.code y_M_isFree b_M_isFree 6 (some .boolean)) ∈ gw := gw_of (List.mem_of_getElem? (i := 671) (by rfl)) (by decide +kernel)
theorem kw_672 : (Cond.methodLink "FewChangesModel" 55 y_M_meets) ∈ gw := gw_of (List.mem_of_getElem? (i := 672) (by decide +kernel)) (by decide +kernel)
theorem kw_674 : (Cond.instanceMethod y_M_meets) ∈ gw := gw_of (List.mem_of_getElem? (i := 674) (by decide +kernel)) (by decide +kernel)
set_option maxRecDepth 20000 in
theorem kw_675 : (Cond.code y_M_meets b_M_meets 7 (some .boolean)) ∈ gw := gw_of (List.mem_of_getElem? (i := 675) (by rfl)) (by decide +kernel)
theorem kw_676 : (Cond.methodLink "FewChangesLaw" 87 y_M_stop) ∈ gw := gw_of (List.mem_of_getElem? (i := 676) (by decide +kernel)) (by decide +kernel)
theorem kw_677 : (Cond.instanceMethod y_M_stop) ∈ gw := gw_of (List.mem_of_getElem? (i := 677) (by decide +kernel)) (by decide +kernel)
theorem kw_678 : (Cond.selects "FewChangesModel" y_M_stop y_M_stop) ∈ gw := gw_of (List.mem_of_getElem? (i := 678) (by decide +kernel)) (by decide +kernel)
set_option maxRecDepth 20000 in
theorem kw_679 : (Cond.code y_M_stop b_M_stop 5 (some .int)) ∈ gw := gw_of (List.mem_of_getElem? (i := 679) (by rfl)) (by decide +kernel)
theorem kw_680 : (Cond.methodLink "FewChangesLaw" 91 y_M_go) ∈ gw := gw_of (List.mem_of_getElem? (i := 680) (by decide +kernel)) (by decide +kernel)
theorem kw_681 : (Cond.instanceMethod y_M_go) ∈ gw := gw_of (List.mem_of_getElem? (i := 681) (by decide +kernel)) (by decide +kernel)
theorem kw_682 : (Cond.selects "FewChangesModel" y_M_go y_M_go) ∈ gw := gw_of (List.mem_of_getElem? (i := 682) (by decide +kernel)) (by decide +kernel)
set_option maxRecDepth 20000 in
theorem kw_683 : (Cond.code y_M_go b_M_go 1 none) ∈ gw := gw_of (List.mem_of_getElem? (i := 683) (by rfl)) (by decide +kernel)
theorem kw_684 : (Cond.methodLink "FewChangesLaw" 95 y_M_clock) ∈ gw := gw_of (List.mem_of_getElem? (i := 684) (by decide +kernel)) (by decide +kernel)
theorem kw_685 : (Cond.instanceMethod y_M_clock) ∈ gw := gw_of (List.mem_of_getElem? (i := 685) (by decide +kernel)) (by decide +kernel)
theorem kw_686 : (Cond.selects "FewChangesModel" y_M_clock y_M_clock) ∈ gw := gw_of (List.mem_of_getElem? (i := 686) (by decide +kernel)) (by decide +kernel)
set_option maxRecDepth 20000 in
theorem kw_687 : (Cond.code y_M_clock b_M_clock 3 none) ∈ gw := gw_of (List.mem_of_getElem? (i := 687) (by rfl)) (by decide +kernel)
theorem kw_688 : (Cond.methodLink "FewChangesLaw" 99 y_M_place) ∈ gw := gw_of (List.mem_of_getElem? (i := 688) (by decide +kernel)) (by decide +kernel)
theorem kw_689 : (Cond.instanceMethod y_M_place) ∈ gw := gw_of (List.mem_of_getElem? (i := 689) (by decide +kernel)) (by decide +kernel)
theorem kw_690 : (Cond.selects "FewChangesModel" y_M_place y_M_place) ∈ gw := gw_of (List.mem_of_getElem? (i := 690) (by decide +kernel)) (by decide +kernel)
set_option maxRecDepth 20000 in
theorem kw_691 : (Cond.code y_M_place b_M_place 6 none) ∈ gw := gw_of (List.mem_of_getElem? (i := 691) (by rfl)) (by decide +kernel)
theorem kw_692 : (Cond.methodLink "FewChangesModel" 86 y_M_isHeat) ∈ gw := gw_of (List.mem_of_getElem? (i := 692) (by decide +kernel)) (by decide +kernel)
theorem kw_694 : (Cond.instanceMethod y_M_isHeat) ∈ gw := gw_of (List.mem_of_getElem? (i := 694) (by decide +kernel)) (by decide +kernel)
set_option maxRecDepth 20000 in
theorem kw_695 : (Cond.code y_M_isHeat b_M_isHeat 2 (some .boolean)) ∈ gw := gw_of (List.mem_of_getElem? (i := 695) (by rfl)) (by decide +kernel)
theorem kw_696 : (Cond.methodLink "FewChangesModel" 90 y_M_isFrozen) ∈ gw := gw_of (List.mem_of_getElem? (i := 696) (by decide +kernel)) (by decide +kernel)
theorem kw_698 : (Cond.instanceMethod y_M_isFrozen) ∈ gw := gw_of (List.mem_of_getElem? (i := 698) (by decide +kernel)) (by decide +kernel)
set_option maxRecDepth 20000 in
theorem kw_699 : (Cond.code y_M_isFrozen b_M_isFrozen 2 (some .boolean)) ∈ gw := gw_of (List.mem_of_getElem? (i := 699) (by rfl)) (by decide +kernel)
theorem kw_700 : (Cond.methodLink "FewChangesModel" 93 y_M_keepForUndo) ∈ gw := gw_of (List.mem_of_getElem? (i := 700) (by decide +kernel)) (by decide +kernel)
theorem kw_702 : (Cond.instanceMethod y_M_keepForUndo) ∈ gw := gw_of (List.mem_of_getElem? (i := 702) (by decide +kernel)) (by decide +kernel)
set_option maxRecDepth 20000 in
theorem kw_703 : (Cond.code y_M_keepForUndo b_M_keepForUndo 1 none) ∈ gw := gw_of (List.mem_of_getElem? (i := 703) (by rfl)) (by decide +kernel)
theorem kw_704 : (Cond.methodLink "FewChangesModel" 82 y_M_copy) ∈ gw := gw_of (List.mem_of_getElem? (i := 704) (by decide +kernel)) (by decide +kernel)
theorem kw_706 : (Cond.instanceMethod y_M_copy) ∈ gw := gw_of (List.mem_of_getElem? (i := 706) (by decide +kernel)) (by decide +kernel)
set_option maxRecDepth 20000 in
theorem kw_707 : (Cond.code y_M_copy b_M_copy 4 none) ∈ gw := gw_of (List.mem_of_getElem? (i := 707) (by rfl)) (by decide +kernel)
theorem kw_708 : (Cond.methodLink "FewChangesLaw" 102 y_M_divert) ∈ gw := gw_of (List.mem_of_getElem? (i := 708) (by decide +kernel)) (by decide +kernel)
theorem kw_709 : (Cond.instanceMethod y_M_divert) ∈ gw := gw_of (List.mem_of_getElem? (i := 709) (by decide +kernel)) (by decide +kernel)
theorem kw_710 : (Cond.selects "FewChangesModel" y_M_divert y_M_divert) ∈ gw := gw_of (List.mem_of_getElem? (i := 710) (by decide +kernel)) (by decide +kernel)
set_option maxRecDepth 20000 in
theorem kw_711 : (Cond.code y_M_divert b_M_divert 5 none) ∈ gw := gw_of (List.mem_of_getElem? (i := 711) (by rfl)) (by decide +kernel)
theorem kw_712 : (Cond.methodLink "FewChangesLaw" 106 y_M_run) ∈ gw := gw_of (List.mem_of_getElem? (i := 712) (by decide +kernel)) (by decide +kernel)
theorem kw_713 : (Cond.instanceMethod y_M_run) ∈ gw := gw_of (List.mem_of_getElem? (i := 713) (by decide +kernel)) (by decide +kernel)
theorem kw_714 : (Cond.selects "FewChangesModel" y_M_run y_M_run) ∈ gw := gw_of (List.mem_of_getElem? (i := 714) (by decide +kernel)) (by decide +kernel)
set_option maxRecDepth 20000 in
theorem kw_715 : (Cond.code y_M_run b_M_run 4 (some .int)) ∈ gw := gw_of (List.mem_of_getElem? (i := 715) (by rfl)) (by decide +kernel)
theorem kw_716 : (Cond.constant "FewChangesModel" 130 100000) ∈ gw := gw_of (List.mem_of_getElem? (i := 716) (by decide +kernel)) (by decide +kernel)
theorem kw_717 : (Cond.methodLink "FewChangesModel" 140 y_M_bits) ∈ gw := gw_of (List.mem_of_getElem? (i := 717) (by decide +kernel)) (by decide +kernel)
theorem kw_718 : (Cond.static y_M_bits) ∈ gw := gw_of (List.mem_of_getElem? (i := 718) (by decide +kernel)) (by decide +kernel)
set_option maxRecDepth 20000 in
theorem kw_719 : (Cond.code y_M_bits b_M_bits 3 (some .int)) ∈ gw := gw_of (List.mem_of_getElem? (i := 719) (by rfl)) (by decide +kernel)
theorem kw_720 : (Cond.methodLink "FewChangesModel" 144 y_M_tries) ∈ gw := gw_of (List.mem_of_getElem? (i := 720) (by decide +kernel)) (by decide +kernel)
theorem kw_722 : (Cond.instanceMethod y_M_tries) ∈ gw := gw_of (List.mem_of_getElem? (i := 722) (by decide +kernel)) (by decide +kernel)
set_option maxRecDepth 20000 in
theorem kw_723 : (Cond.code y_M_tries b_M_tries 8 (some .boolean)) ∈ gw := gw_of (List.mem_of_getElem? (i := 723) (by rfl)) (by decide +kernel)
theorem kw_724 : (Cond.methodLink "FewChangesModel" 110 y_M_fitsTried) ∈ gw := gw_of (List.mem_of_getElem? (i := 724) (by decide +kernel)) (by decide +kernel)
theorem kw_726 : (Cond.instanceMethod y_M_fitsTried) ∈ gw := gw_of (List.mem_of_getElem? (i := 726) (by decide +kernel)) (by decide +kernel)
set_option maxRecDepth 20000 in
theorem kw_727 : (Cond.code y_M_fitsTried b_M_fitsTried 6 (some .boolean)) ∈ gw := gw_of (List.mem_of_getElem? (i := 727) (by rfl)) (by decide +kernel)
theorem kw_728 : (Cond.methodLink "FewChangesModel" 100 y_M_costPlaced) ∈ gw := gw_of (List.mem_of_getElem? (i := 728) (by decide +kernel)) (by decide +kernel)
theorem kw_730 : (Cond.instanceMethod y_M_costPlaced) ∈ gw := gw_of (List.mem_of_getElem? (i := 730) (by decide +kernel)) (by decide +kernel)
set_option maxRecDepth 20000 in
theorem kw_731 : (Cond.code y_M_costPlaced b_M_costPlaced 3 (some .int)) ∈ gw := gw_of (List.mem_of_getElem? (i := 731) (by rfl)) (by decide +kernel)
theorem kw_732 : (Cond.methodLink "FewChangesModel" 96 y_M_costOf) ∈ gw := gw_of (List.mem_of_getElem? (i := 732) (by decide +kernel)) (by decide +kernel)
theorem kw_734 : (Cond.instanceMethod y_M_costOf) ∈ gw := gw_of (List.mem_of_getElem? (i := 734) (by decide +kernel)) (by decide +kernel)
set_option maxRecDepth 20000 in
theorem kw_735 : (Cond.code y_M_costOf b_M_costOf 4 (some .int)) ∈ gw := gw_of (List.mem_of_getElem? (i := 735) (by rfl)) (by decide +kernel)
theorem kw_736 : (Cond.methodLink "FewChangesModel" 113 y_M_after) ∈ gw := gw_of (List.mem_of_getElem? (i := 736) (by decide +kernel)) (by decide +kernel)
theorem kw_737 : (Cond.static y_M_after) ∈ gw := gw_of (List.mem_of_getElem? (i := 737) (by decide +kernel)) (by decide +kernel)
set_option maxRecDepth 20000 in
theorem kw_738 : (Cond.code y_M_after b_M_after 3 (some .int)) ∈ gw := gw_of (List.mem_of_getElem? (i := 738) (by rfl)) (by decide +kernel)
theorem kw_739 : (Cond.methodLink "FewChangesModel" 116 y_M_found) ∈ gw := gw_of (List.mem_of_getElem? (i := 739) (by decide +kernel)) (by decide +kernel)
theorem kw_741 : (Cond.instanceMethod y_M_found) ∈ gw := gw_of (List.mem_of_getElem? (i := 741) (by decide +kernel)) (by decide +kernel)
set_option maxRecDepth 20000 in
theorem kw_742 : (Cond.code y_M_found b_M_found 2 none) ∈ gw := gw_of (List.mem_of_getElem? (i := 742) (by rfl)) (by decide +kernel)
theorem kw_743 : (Cond.methodLink "FewChangesModel" 120 y_M_isOld) ∈ gw := gw_of (List.mem_of_getElem? (i := 743) (by decide +kernel)) (by decide +kernel)
theorem kw_745 : (Cond.instanceMethod y_M_isOld) ∈ gw := gw_of (List.mem_of_getElem? (i := 745) (by decide +kernel)) (by decide +kernel)
set_option maxRecDepth 20000 in
theorem kw_746 : (Cond.code y_M_isOld b_M_isOld 3 (some .boolean)) ∈ gw := gw_of (List.mem_of_getElem? (i := 746) (by rfl)) (by decide +kernel)
theorem kw_747 : (Cond.methodLink "FewChangesModel" 124 y_M_ahead) ∈ gw := gw_of (List.mem_of_getElem? (i := 747) (by decide +kernel)) (by decide +kernel)
theorem kw_748 : (Cond.static y_M_ahead) ∈ gw := gw_of (List.mem_of_getElem? (i := 748) (by decide +kernel)) (by decide +kernel)
set_option maxRecDepth 20000 in
theorem kw_749 : (Cond.code y_M_ahead b_M_ahead 3 (some .int)) ∈ gw := gw_of (List.mem_of_getElem? (i := 749) (by rfl)) (by decide +kernel)
theorem kw_750 : (Cond.methodLink "FewChangesLaw" 109 y_M_told) ∈ gw := gw_of (List.mem_of_getElem? (i := 750) (by decide +kernel)) (by decide +kernel)
theorem kw_751 : (Cond.instanceMethod y_M_told) ∈ gw := gw_of (List.mem_of_getElem? (i := 751) (by decide +kernel)) (by decide +kernel)
theorem kw_752 : (Cond.selects "FewChangesModel" y_M_told y_M_told) ∈ gw := gw_of (List.mem_of_getElem? (i := 752) (by decide +kernel)) (by decide +kernel)
set_option maxRecDepth 20000 in
theorem kw_753 : (Cond.code y_M_told b_M_told 2 (some .int)) ∈ gw := gw_of (List.mem_of_getElem? (i := 753) (by rfl)) (by decide +kernel)
theorem kw_754 : (Cond.methodLink "FewChangesLaw" 112 y_M_at) ∈ gw := gw_of (List.mem_of_getElem? (i := 754) (by decide +kernel)) (by decide +kernel)
theorem kw_755 : (Cond.instanceMethod y_M_at) ∈ gw := gw_of (List.mem_of_getElem? (i := 755) (by decide +kernel)) (by decide +kernel)
theorem kw_756 : (Cond.selects "FewChangesModel" y_M_at y_M_at) ∈ gw := gw_of (List.mem_of_getElem? (i := 756) (by decide +kernel)) (by decide +kernel)
set_option maxRecDepth 20000 in
theorem kw_757 : (Cond.code y_M_at b_M_at 3 (some .int)) ∈ gw := gw_of (List.mem_of_getElem? (i := 757) (by rfl)) (by decide +kernel)
theorem kw_758 : (Cond.methodLink "FewChangesLaw" 116 y_M_cost) ∈ gw := gw_of (List.mem_of_getElem? (i := 758) (by decide +kernel)) (by decide +kernel)
theorem kw_759 : (Cond.instanceMethod y_M_cost) ∈ gw := gw_of (List.mem_of_getElem? (i := 759) (by decide +kernel)) (by decide +kernel)
theorem kw_760 : (Cond.selects "FewChangesModel" y_M_cost y_M_cost) ∈ gw := gw_of (List.mem_of_getElem? (i := 760) (by decide +kernel)) (by decide +kernel)
set_option maxRecDepth 20000 in
theorem kw_761 : (Cond.code y_M_cost b_M_cost 3 (some .int)) ∈ gw := gw_of (List.mem_of_getElem? (i := 761) (by rfl)) (by decide +kernel)
theorem kw_762 : (Cond.methodLink "FewChangesLaw" 119 y_M_on) ∈ gw := gw_of (List.mem_of_getElem? (i := 762) (by decide +kernel)) (by decide +kernel)
theorem kw_763 : (Cond.instanceMethod y_M_on) ∈ gw := gw_of (List.mem_of_getElem? (i := 763) (by decide +kernel)) (by decide +kernel)
theorem kw_764 : (Cond.selects "FewChangesModel" y_M_on y_M_on) ∈ gw := gw_of (List.mem_of_getElem? (i := 764) (by decide +kernel)) (by decide +kernel)
set_option maxRecDepth 20000 in
theorem kw_765 : (Cond.code y_M_on b_M_on 6 (some .int)) ∈ gw := gw_of (List.mem_of_getElem? (i := 765) (by rfl)) (by decide +kernel)
theorem kw_766 : (Cond.methodLink "FewChangesLaw" 123 y_M_keep) ∈ gw := gw_of (List.mem_of_getElem? (i := 766) (by decide +kernel)) (by decide +kernel)
theorem kw_767 : (Cond.instanceMethod y_M_keep) ∈ gw := gw_of (List.mem_of_getElem? (i := 767) (by decide +kernel)) (by decide +kernel)
theorem kw_768 : (Cond.selects "FewChangesModel" y_M_keep y_M_keep) ∈ gw := gw_of (List.mem_of_getElem? (i := 768) (by decide +kernel)) (by decide +kernel)
set_option maxRecDepth 20000 in
theorem kw_769 : (Cond.code y_M_keep b_M_keep 2 none) ∈ gw := gw_of (List.mem_of_getElem? (i := 769) (by rfl)) (by decide +kernel)
theorem kw_770 : (Cond.methodLink "FewChangesLaw" 126 y_M_compare) ∈ gw := gw_of (List.mem_of_getElem? (i := 770) (by decide +kernel)) (by decide +kernel)
theorem kw_771 : (Cond.instanceMethod y_M_compare) ∈ gw := gw_of (List.mem_of_getElem? (i := 771) (by decide +kernel)) (by decide +kernel)
theorem kw_772 : (Cond.selects "FewChangesModel" y_M_compare y_M_compare) ∈ gw := gw_of (List.mem_of_getElem? (i := 772) (by decide +kernel)) (by decide +kernel)
set_option maxRecDepth 20000 in
theorem kw_773 : (Cond.code y_M_compare b_M_compare 6 (some .int)) ∈ gw := gw_of (List.mem_of_getElem? (i := 773) (by rfl)) (by decide +kernel)
theorem kw_774 : (Cond.methodLink "FewChangesModel" 147 y_M_isKept) ∈ gw := gw_of (List.mem_of_getElem? (i := 774) (by decide +kernel)) (by decide +kernel)
theorem kw_776 : (Cond.instanceMethod y_M_isKept) ∈ gw := gw_of (List.mem_of_getElem? (i := 776) (by decide +kernel)) (by decide +kernel)
set_option maxRecDepth 20000 in
theorem kw_777 : (Cond.code y_M_isKept b_M_isKept 2 (some .boolean)) ∈ gw := gw_of (List.mem_of_getElem? (i := 777) (by rfl)) (by decide +kernel)
theorem kw_778 : (Cond.methodLink "FewChangesLaw" 129 y_M_use) ∈ gw := gw_of (List.mem_of_getElem? (i := 778) (by decide +kernel)) (by decide +kernel)
theorem kw_779 : (Cond.instanceMethod y_M_use) ∈ gw := gw_of (List.mem_of_getElem? (i := 779) (by decide +kernel)) (by decide +kernel)
theorem kw_780 : (Cond.selects "FewChangesModel" y_M_use y_M_use) ∈ gw := gw_of (List.mem_of_getElem? (i := 780) (by decide +kernel)) (by decide +kernel)
set_option maxRecDepth 20000 in
theorem kw_781 : (Cond.code y_M_use b_M_use 2 none) ∈ gw := gw_of (List.mem_of_getElem? (i := 781) (by rfl)) (by decide +kernel)
theorem kw_782 : (Cond.methodLink "FewChangesLaw" 133 y_M_undo) ∈ gw := gw_of (List.mem_of_getElem? (i := 782) (by decide +kernel)) (by decide +kernel)
theorem kw_783 : (Cond.instanceMethod y_M_undo) ∈ gw := gw_of (List.mem_of_getElem? (i := 783) (by decide +kernel)) (by decide +kernel)
theorem kw_784 : (Cond.selects "FewChangesModel" y_M_undo y_M_undo) ∈ gw := gw_of (List.mem_of_getElem? (i := 784) (by decide +kernel)) (by decide +kernel)
set_option maxRecDepth 20000 in
theorem kw_785 : (Cond.code y_M_undo b_M_undo 1 none) ∈ gw := gw_of (List.mem_of_getElem? (i := 785) (by rfl)) (by decide +kernel)
theorem ks_F_isOrder : Cond.selects R_F y_F_isOrder y_F_isOrder ∈ gw := gw_sel (List.mem_of_getElem? (i := 1) (by decide +kernel)) (by decide +kernel)
theorem ks_F_forgetCopiesAndUndo : Cond.selects R_F y_F_forgetCopiesAndUndo y_F_forgetCopiesAndUndo ∈ gw := gw_sel (List.mem_of_getElem? (i := 2) (by decide +kernel)) (by decide +kernel)
theorem ks_F_isHeat : Cond.selects R_F y_F_isHeat y_F_isHeat ∈ gw := gw_sel (List.mem_of_getElem? (i := 3) (by decide +kernel)) (by decide +kernel)
theorem ks_F_rememberForUndo : Cond.selects R_F y_F_rememberForUndo y_F_rememberForUndo ∈ gw := gw_sel (List.mem_of_getElem? (i := 4) (by decide +kernel)) (by decide +kernel)
theorem ks_Q_looseHeats : Cond.selects R_Q y_Q_looseHeats y_Q_looseHeats ∈ gw := gw_sel (List.mem_of_getElem? (i := 5) (by decide +kernel)) (by decide +kernel)
theorem ks_Q_searchRound : Cond.selects R_Q y_Q_searchRound y_Q_searchRound ∈ gw := gw_sel (List.mem_of_getElem? (i := 6) (by decide +kernel)) (by decide +kernel)
theorem ks_Q_searchSet : Cond.selects R_Q y_Q_searchSet y_Q_searchSet ∈ gw := gw_sel (List.mem_of_getElem? (i := 7) (by decide +kernel)) (by decide +kernel)
theorem ks_Q_canOthersStay : Cond.selects R_Q y_Q_canOthersStay y_Q_canOthersStay ∈ gw := gw_sel (List.mem_of_getElem? (i := 8) (by decide +kernel)) (by decide +kernel)
theorem ks_Q_isInSet : Cond.selects R_Q y_Q_isInSet y_Q_isInSet ∈ gw := gw_sel (List.mem_of_getElem? (i := 9) (by decide +kernel)) (by decide +kernel)
theorem ks_Q_costOfOthers : Cond.selects R_Q y_Q_costOfOthers y_Q_costOfOthers ∈ gw := gw_sel (List.mem_of_getElem? (i := 10) (by decide +kernel)) (by decide +kernel)
theorem ks_Q_placeFrom : Cond.selects R_Q y_Q_placeFrom y_Q_placeFrom ∈ gw := gw_sel (List.mem_of_getElem? (i := 11) (by decide +kernel)) (by decide +kernel)
theorem ks_Q_tryUnit : Cond.selects R_Q y_Q_tryUnit y_Q_tryUnit ∈ gw := gw_sel (List.mem_of_getElem? (i := 12) (by decide +kernel)) (by decide +kernel)
theorem ks_Q_tryPlace : Cond.selects R_Q y_Q_tryPlace y_Q_tryPlace ∈ gw := gw_sel (List.mem_of_getElem? (i := 13) (by decide +kernel)) (by decide +kernel)
theorem ks_M_throwing : Cond.selects R_M y_M_throwing y_M_throwing ∈ gw := gw_sel (List.mem_of_getElem? (i := 14) (by decide +kernel)) (by decide +kernel)
theorem ks_M_fits : Cond.selects R_M y_M_fits y_M_fits ∈ gw := gw_sel (List.mem_of_getElem? (i := 15) (by decide +kernel)) (by decide +kernel)
theorem ks_M_isFree : Cond.selects R_M y_M_isFree y_M_isFree ∈ gw := gw_sel (List.mem_of_getElem? (i := 16) (by decide +kernel)) (by decide +kernel)
theorem ks_M_meets : Cond.selects R_M y_M_meets y_M_meets ∈ gw := gw_sel (List.mem_of_getElem? (i := 17) (by decide +kernel)) (by decide +kernel)
theorem ks_M_isHeat : Cond.selects R_M y_M_isHeat y_M_isHeat ∈ gw := gw_sel (List.mem_of_getElem? (i := 18) (by decide +kernel)) (by decide +kernel)
theorem ks_M_isFrozen : Cond.selects R_M y_M_isFrozen y_M_isFrozen ∈ gw := gw_sel (List.mem_of_getElem? (i := 19) (by decide +kernel)) (by decide +kernel)
theorem ks_M_keepForUndo : Cond.selects R_M y_M_keepForUndo y_M_keepForUndo ∈ gw := gw_sel (List.mem_of_getElem? (i := 20) (by decide +kernel)) (by decide +kernel)
theorem ks_M_copy : Cond.selects R_M y_M_copy y_M_copy ∈ gw := gw_sel (List.mem_of_getElem? (i := 21) (by decide +kernel)) (by decide +kernel)
theorem ks_M_tries : Cond.selects R_M y_M_tries y_M_tries ∈ gw := gw_sel (List.mem_of_getElem? (i := 22) (by decide +kernel)) (by decide +kernel)
theorem ks_M_fitsTried : Cond.selects R_M y_M_fitsTried y_M_fitsTried ∈ gw := gw_sel (List.mem_of_getElem? (i := 23) (by decide +kernel)) (by decide +kernel)
theorem ks_M_costPlaced : Cond.selects R_M y_M_costPlaced y_M_costPlaced ∈ gw := gw_sel (List.mem_of_getElem? (i := 24) (by decide +kernel)) (by decide +kernel)
theorem ks_M_costOf : Cond.selects R_M y_M_costOf y_M_costOf ∈ gw := gw_sel (List.mem_of_getElem? (i := 25) (by decide +kernel)) (by decide +kernel)
theorem ks_M_found : Cond.selects R_M y_M_found y_M_found ∈ gw := gw_sel (List.mem_of_getElem? (i := 26) (by decide +kernel)) (by decide +kernel)
theorem ks_M_isOld : Cond.selects R_M y_M_isOld y_M_isOld ∈ gw := gw_sel (List.mem_of_getElem? (i := 27) (by decide +kernel)) (by decide +kernel)
theorem ks_M_isKept : Cond.selects R_M y_M_isKept y_M_isKept ∈ gw := gw_sel (List.mem_of_getElem? (i := 28) (by decide +kernel)) (by decide +kernel)
end
section
theorem d_F_init_0 : decode b_F_init 0 = .ok (.aload_n 0, 1) := by decide +kernel
theorem d_F_init_1 : decode b_F_init 1 = .ok (.invokespecial 1, 3) := by decide +kernel
theorem d_F_init_4 : decode b_F_init 4 = .ok (.new 7, 3) := by decide +kernel
theorem d_F_init_7 : decode b_F_init 7 = .ok (.dup, 1) := by decide +kernel
theorem d_F_init_8 : decode b_F_init 8 = .ok (.invokespecial 9, 3) := by decide +kernel
theorem d_F_init_11 : decode b_F_init 11 = .ok (.astore_n 1, 1) := by decide +kernel
theorem d_F_init_12 : decode b_F_init 12 = .ok (.new 10, 3) := by decide +kernel
theorem d_F_init_15 : decode b_F_init 15 = .ok (.dup, 1) := by decide +kernel
theorem d_F_init_16 : decode b_F_init 16 = .ok (.invokespecial 12, 3) := by decide +kernel
theorem d_F_init_19 : decode b_F_init 19 = .ok (.astore_n 2, 1) := by decide +kernel
theorem d_F_init_20 : decode b_F_init 20 = .ok (.aload_n 0, 1) := by decide +kernel
theorem d_F_init_21 : decode b_F_init 21 = .ok (.aload_n 1, 1) := by decide +kernel
theorem d_F_init_22 : decode b_F_init 22 = .ok (.putfield 13, 3) := by decide +kernel
theorem d_F_init_25 : decode b_F_init 25 = .ok (.aload_n 0, 1) := by decide +kernel
theorem d_F_init_26 : decode b_F_init 26 = .ok (.aload_n 2, 1) := by decide +kernel
theorem d_F_init_27 : decode b_F_init 27 = .ok (.putfield 19, 3) := by decide +kernel
theorem d_F_init_30 : decode b_F_init 30 = .ok (.aload_n 0, 1) := by decide +kernel
theorem d_F_init_31 : decode b_F_init 31 = .ok (.new 10, 3) := by decide +kernel
theorem d_F_init_34 : decode b_F_init 34 = .ok (.dup, 1) := by decide +kernel
theorem d_F_init_35 : decode b_F_init 35 = .ok (.invokespecial 12, 3) := by decide +kernel
theorem d_F_init_38 : decode b_F_init 38 = .ok (.putfield 23, 3) := by decide +kernel
theorem d_F_init_41 : decode b_F_init 41 = .ok (.aload_n 0, 1) := by decide +kernel
theorem d_F_init_42 : decode b_F_init 42 = .ok (.iconst 4, 1) := by decide +kernel
theorem d_F_init_43 : decode b_F_init 43 = .ok (.anewarray 10, 3) := by decide +kernel
theorem d_F_init_46 : decode b_F_init 46 = .ok (.putfield 26, 3) := by decide +kernel
theorem d_F_init_49 : decode b_F_init 49 = .ok (.iconst 0, 1) := by decide +kernel
theorem d_F_init_50 : decode b_F_init 50 = .ok (.istore_n 3, 1) := by decide +kernel
theorem d_F_init_51 : decode b_F_init 51 = .ok (.iload_n 3, 1) := by decide +kernel
theorem d_F_init_52 : decode b_F_init 52 = .ok (.iconst 4, 1) := by decide +kernel
theorem d_F_init_53 : decode b_F_init 53 = .ok (.if_icmp .ge 22, 3) := by decide +kernel
theorem d_F_init_56 : decode b_F_init 56 = .ok (.aload_n 0, 1) := by decide +kernel
theorem d_F_init_57 : decode b_F_init 57 = .ok (.getfield 26, 3) := by decide +kernel
theorem d_F_init_60 : decode b_F_init 60 = .ok (.iload_n 3, 1) := by decide +kernel
theorem d_F_init_61 : decode b_F_init 61 = .ok (.new 10, 3) := by decide +kernel
theorem d_F_init_64 : decode b_F_init 64 = .ok (.dup, 1) := by decide +kernel
theorem d_F_init_65 : decode b_F_init 65 = .ok (.invokespecial 12, 3) := by decide +kernel
theorem d_F_init_68 : decode b_F_init 68 = .ok (.aastore, 1) := by decide +kernel
theorem d_F_init_69 : decode b_F_init 69 = .ok (.iinc 3 1, 3) := by decide +kernel
theorem d_F_init_72 : decode b_F_init 72 = .ok (.goto (-21), 3) := by decide +kernel
theorem d_F_init_75 : decode b_F_init 75 = .ok (.aload_n 0, 1) := by decide +kernel
theorem d_F_init_76 : decode b_F_init 76 = .ok (.iconst 4, 1) := by decide +kernel
theorem d_F_init_77 : decode b_F_init 77 = .ok (.newarray .boolean, 2) := by decide +kernel
theorem d_F_init_79 : decode b_F_init 79 = .ok (.putfield 30, 3) := by decide +kernel
theorem d_F_init_82 : decode b_F_init 82 = .ok (.aload_n 0, 1) := by decide +kernel
theorem d_F_init_83 : decode b_F_init 83 = .ok (.new 34, 3) := by decide +kernel
theorem d_F_init_86 : decode b_F_init 86 = .ok (.dup, 1) := by decide +kernel
theorem d_F_init_87 : decode b_F_init 87 = .ok (.aload_n 1, 1) := by decide +kernel
theorem d_F_init_88 : decode b_F_init 88 = .ok (.aload_n 2, 1) := by decide +kernel
theorem d_F_init_89 : decode b_F_init 89 = .ok (.invokespecial 36, 3) := by decide +kernel
theorem d_F_init_92 : decode b_F_init 92 = .ok (.putfield 39, 3) := by decide +kernel
theorem d_F_init_95 : decode b_F_init 95 = .ok (.return_, 1) := by decide +kernel
theorem d_F_order_0 : decode b_F_order 0 = .ok (.aload_n 0, 1) := by decide +kernel
theorem d_F_order_1 : decode b_F_order 1 = .ok (.getfield 13, 3) := by decide +kernel
theorem d_F_order_4 : decode b_F_order 4 = .ok (.getfield 43, 3) := by decide +kernel
theorem d_F_order_7 : decode b_F_order 7 = .ok (.bipush 8, 2) := by decide +kernel
theorem d_F_order_9 : decode b_F_order 9 = .ok (.if_icmp .lt 13, 3) := by decide +kernel
theorem d_F_order_12 : decode b_F_order 12 = .ok (.new 47, 3) := by decide +kernel
theorem d_F_order_15 : decode b_F_order 15 = .ok (.dup, 1) := by decide +kernel
theorem d_F_order_16 : decode b_F_order 16 = .ok (.ldc 49, 2) := by decide +kernel
theorem d_F_order_18 : decode b_F_order 18 = .ok (.invokespecial 51, 3) := by decide +kernel
theorem d_F_order_21 : decode b_F_order 21 = .ok (.athrow, 1) := by decide +kernel
theorem d_F_order_22 : decode b_F_order 22 = .ok (.iload_n 1, 1) := by decide +kernel
theorem d_F_order_23 : decode b_F_order 23 = .ok (.iconst 0, 1) := by decide +kernel
theorem d_F_order_24 : decode b_F_order 24 = .ok (.bipush 9, 2) := by decide +kernel
theorem d_F_order_26 : decode b_F_order 26 = .ok (.invokestatic 54, 3) := by decide +kernel
theorem d_F_order_29 : decode b_F_order 29 = .ok (.ifCond .eq 14, 3) := by decide +kernel
theorem d_F_order_32 : decode b_F_order 32 = .ok (.iload_n 2, 1) := by decide +kernel
theorem d_F_order_33 : decode b_F_order 33 = .ok (.iconst 0, 1) := by decide +kernel
theorem d_F_order_34 : decode b_F_order 34 = .ok (.sipush 200, 3) := by decide +kernel
theorem d_F_order_37 : decode b_F_order 37 = .ok (.invokestatic 54, 3) := by decide +kernel
theorem d_F_order_40 : decode b_F_order 40 = .ok (.ifCond .ne 13, 3) := by decide +kernel
theorem d_F_order_43 : decode b_F_order 43 = .ok (.new 58, 3) := by decide +kernel
theorem d_F_order_46 : decode b_F_order 46 = .ok (.dup, 1) := by decide +kernel
theorem d_F_order_47 : decode b_F_order 47 = .ok (.ldc 60, 2) := by decide +kernel
theorem d_F_order_49 : decode b_F_order 49 = .ok (.invokespecial 62, 3) := by decide +kernel
theorem d_F_order_52 : decode b_F_order 52 = .ok (.athrow, 1) := by decide +kernel
theorem d_F_order_53 : decode b_F_order 53 = .ok (.aload_n 0, 1) := by decide +kernel
theorem d_F_order_54 : decode b_F_order 54 = .ok (.getfield 13, 3) := by decide +kernel
theorem d_F_order_57 : decode b_F_order 57 = .ok (.iload_n 1, 1) := by decide +kernel
theorem d_F_order_58 : decode b_F_order 58 = .ok (.iload_n 2, 1) := by decide +kernel
theorem d_F_order_59 : decode b_F_order 59 = .ok (.invokevirtual 63, 3) := by decide +kernel
theorem d_F_order_62 : decode b_F_order 62 = .ok (.ireturn, 1) := by decide +kernel
theorem d_F_heat_0 : decode b_F_heat 0 = .ok (.aload_n 0, 1) := by decide +kernel
theorem d_F_heat_1 : decode b_F_heat 1 = .ok (.iload_n 1, 1) := by decide +kernel
theorem d_F_heat_2 : decode b_F_heat 2 = .ok (.invokevirtual 67, 3) := by decide +kernel
theorem d_F_heat_5 : decode b_F_heat 5 = .ok (.ifCond .eq 11, 3) := by decide +kernel
theorem d_F_heat_8 : decode b_F_heat 8 = .ok (.iload 4, 2) := by decide +kernel
theorem d_F_heat_10 : decode b_F_heat 10 = .ok (.invokestatic 71, 3) := by decide +kernel
theorem d_F_heat_13 : decode b_F_heat 13 = .ok (.ifCond .ne 13, 3) := by decide +kernel
theorem d_F_heat_16 : decode b_F_heat 16 = .ok (.new 74, 3) := by decide +kernel
theorem d_F_heat_19 : decode b_F_heat 19 = .ok (.dup, 1) := by decide +kernel
theorem d_F_heat_20 : decode b_F_heat 20 = .ok (.ldc 76, 2) := by decide +kernel
theorem d_F_heat_22 : decode b_F_heat 22 = .ok (.invokespecial 78, 3) := by decide +kernel
theorem d_F_heat_25 : decode b_F_heat 25 = .ok (.athrow, 1) := by decide +kernel
theorem d_F_heat_26 : decode b_F_heat 26 = .ok (.aload_n 0, 1) := by decide +kernel
theorem d_F_heat_27 : decode b_F_heat 27 = .ok (.getfield 13, 3) := by decide +kernel
theorem d_F_heat_30 : decode b_F_heat 30 = .ok (.getfield 79, 3) := by decide +kernel
theorem d_F_heat_33 : decode b_F_heat 33 = .ok (.bipush 6, 2) := by decide +kernel
theorem d_F_heat_35 : decode b_F_heat 35 = .ok (.if_icmp .lt 13, 3) := by decide +kernel
theorem d_F_heat_38 : decode b_F_heat 38 = .ok (.new 47, 3) := by decide +kernel
theorem d_F_heat_41 : decode b_F_heat 41 = .ok (.dup, 1) := by decide +kernel
theorem d_F_heat_42 : decode b_F_heat 42 = .ok (.ldc 82, 2) := by decide +kernel
theorem d_F_heat_44 : decode b_F_heat 44 = .ok (.invokespecial 51, 3) := by decide +kernel
theorem d_F_heat_47 : decode b_F_heat 47 = .ok (.athrow, 1) := by decide +kernel
theorem d_F_heat_48 : decode b_F_heat 48 = .ok (.iload_n 2, 1) := by decide +kernel
theorem d_F_heat_49 : decode b_F_heat 49 = .ok (.iconst 1, 1) := by decide +kernel
theorem d_F_heat_50 : decode b_F_heat 50 = .ok (.bipush 20, 2) := by decide +kernel
theorem d_F_heat_52 : decode b_F_heat 52 = .ok (.invokestatic 54, 3) := by decide +kernel
theorem d_F_heat_55 : decode b_F_heat 55 = .ok (.ifCond .eq 21, 3) := by decide +kernel
theorem d_F_heat_58 : decode b_F_heat 58 = .ok (.iload_n 3, 1) := by decide +kernel
theorem d_F_heat_59 : decode b_F_heat 59 = .ok (.iconst 1, 1) := by decide +kernel
theorem d_F_heat_60 : decode b_F_heat 60 = .ok (.bipush 7, 2) := by decide +kernel
theorem d_F_heat_62 : decode b_F_heat 62 = .ok (.invokestatic 54, 3) := by decide +kernel
theorem d_F_heat_65 : decode b_F_heat 65 = .ok (.ifCond .eq 11, 3) := by decide +kernel
theorem d_F_heat_68 : decode b_F_heat 68 = .ok (.iload 5, 2) := by decide +kernel
theorem d_F_heat_70 : decode b_F_heat 70 = .ok (.invokestatic 84, 3) := by decide +kernel
theorem d_F_heat_73 : decode b_F_heat 73 = .ok (.ifCond .ne 13, 3) := by decide +kernel
theorem d_F_heat_76 : decode b_F_heat 76 = .ok (.new 58, 3) := by decide +kernel
theorem d_F_heat_79 : decode b_F_heat 79 = .ok (.dup, 1) := by decide +kernel
theorem d_F_heat_80 : decode b_F_heat 80 = .ok (.ldc 87, 2) := by decide +kernel
theorem d_F_heat_82 : decode b_F_heat 82 = .ok (.invokespecial 62, 3) := by decide +kernel
theorem d_F_heat_85 : decode b_F_heat 85 = .ok (.athrow, 1) := by decide +kernel
theorem d_F_heat_86 : decode b_F_heat 86 = .ok (.iload_n 3, 1) := by decide +kernel
theorem d_F_heat_87 : decode b_F_heat 87 = .ok (.iload 4, 2) := by decide +kernel
theorem d_F_heat_89 : decode b_F_heat 89 = .ok (.invokestatic 89, 3) := by decide +kernel
theorem d_F_heat_92 : decode b_F_heat 92 = .ok (.ifCond .eq 29, 3) := by decide +kernel
theorem d_F_heat_95 : decode b_F_heat 95 = .ok (.aload_n 0, 1) := by decide +kernel
theorem d_F_heat_96 : decode b_F_heat 96 = .ok (.getfield 13, 3) := by decide +kernel
theorem d_F_heat_99 : decode b_F_heat 99 = .ok (.aload_n 0, 1) := by decide +kernel
theorem d_F_heat_100 : decode b_F_heat 100 = .ok (.getfield 19, 3) := by decide +kernel
theorem d_F_heat_103 : decode b_F_heat 103 = .ok (.aload_n 0, 1) := by decide +kernel
theorem d_F_heat_104 : decode b_F_heat 104 = .ok (.getfield 13, 3) := by decide +kernel
theorem d_F_heat_107 : decode b_F_heat 107 = .ok (.getfield 79, 3) := by decide +kernel
theorem d_F_heat_110 : decode b_F_heat 110 = .ok (.iload 4, 2) := by decide +kernel
theorem d_F_heat_112 : decode b_F_heat 112 = .ok (.iload 5, 2) := by decide +kernel
theorem d_F_heat_114 : decode b_F_heat 114 = .ok (.iload_n 2, 1) := by decide +kernel
theorem d_F_heat_115 : decode b_F_heat 115 = .ok (.invokevirtual 93, 3) := by decide +kernel
theorem d_F_heat_118 : decode b_F_heat 118 = .ok (.ifCond .ne 13, 3) := by decide +kernel
theorem d_F_heat_121 : decode b_F_heat 121 = .ok (.new 97, 3) := by decide +kernel
theorem d_F_heat_124 : decode b_F_heat 124 = .ok (.dup, 1) := by decide +kernel
theorem d_F_heat_125 : decode b_F_heat 125 = .ok (.ldc 99, 2) := by decide +kernel
theorem d_F_heat_127 : decode b_F_heat 127 = .ok (.invokespecial 101, 3) := by decide +kernel
theorem d_F_heat_130 : decode b_F_heat 130 = .ok (.athrow, 1) := by decide +kernel
theorem d_F_heat_131 : decode b_F_heat 131 = .ok (.aload_n 0, 1) := by decide +kernel
theorem d_F_heat_132 : decode b_F_heat 132 = .ok (.getfield 13, 3) := by decide +kernel
theorem d_F_heat_135 : decode b_F_heat 135 = .ok (.iload_n 2, 1) := by decide +kernel
theorem d_F_heat_136 : decode b_F_heat 136 = .ok (.iload_n 3, 1) := by decide +kernel
theorem d_F_heat_137 : decode b_F_heat 137 = .ok (.invokevirtual 102, 3) := by decide +kernel
theorem d_F_heat_140 : decode b_F_heat 140 = .ok (.istore 6, 2) := by decide +kernel
theorem d_F_heat_142 : decode b_F_heat 142 = .ok (.aload_n 0, 1) := by decide +kernel
theorem d_F_heat_143 : decode b_F_heat 143 = .ok (.getfield 19, 3) := by decide +kernel
theorem d_F_heat_146 : decode b_F_heat 146 = .ok (.iload 6, 2) := by decide +kernel
theorem d_F_heat_148 : decode b_F_heat 148 = .ok (.iload 4, 2) := by decide +kernel
theorem d_F_heat_150 : decode b_F_heat 150 = .ok (.iload 5, 2) := by decide +kernel
theorem d_F_heat_152 : decode b_F_heat 152 = .ok (.invokevirtual 105, 3) := by decide +kernel
theorem d_F_heat_155 : decode b_F_heat 155 = .ok (.aload_n 0, 1) := by decide +kernel
theorem d_F_heat_156 : decode b_F_heat 156 = .ok (.getfield 19, 3) := by decide +kernel
theorem d_F_heat_159 : decode b_F_heat 159 = .ok (.getfield 109, 3) := by decide +kernel
theorem d_F_heat_162 : decode b_F_heat 162 = .ok (.iload 6, 2) := by decide +kernel
theorem d_F_heat_164 : decode b_F_heat 164 = .ok (.iload_n 1, 1) := by decide +kernel
theorem d_F_heat_165 : decode b_F_heat 165 = .ok (.iastore, 1) := by decide +kernel
theorem d_F_heat_166 : decode b_F_heat 166 = .ok (.aload_n 0, 1) := by decide +kernel
theorem d_F_heat_167 : decode b_F_heat 167 = .ok (.invokevirtual 113, 3) := by decide +kernel
theorem d_F_heat_170 : decode b_F_heat 170 = .ok (.iload 6, 2) := by decide +kernel
theorem d_F_heat_172 : decode b_F_heat 172 = .ok (.ireturn, 1) := by decide +kernel
theorem d_F_stop_0 : decode b_F_stop 0 = .ok (.iload_n 1, 1) := by decide +kernel
theorem d_F_stop_1 : decode b_F_stop 1 = .ok (.invokestatic 71, 3) := by decide +kernel
theorem d_F_stop_4 : decode b_F_stop 4 = .ok (.ifCond .ne 13, 3) := by decide +kernel
theorem d_F_stop_7 : decode b_F_stop 7 = .ok (.new 74, 3) := by decide +kernel
theorem d_F_stop_10 : decode b_F_stop 10 = .ok (.dup, 1) := by decide +kernel
theorem d_F_stop_11 : decode b_F_stop 11 = .ok (.ldc 116, 2) := by decide +kernel
theorem d_F_stop_13 : decode b_F_stop 13 = .ok (.invokespecial 78, 3) := by decide +kernel
theorem d_F_stop_16 : decode b_F_stop 16 = .ok (.athrow, 1) := by decide +kernel
theorem d_F_stop_17 : decode b_F_stop 17 = .ok (.aload_n 0, 1) := by decide +kernel
theorem d_F_stop_18 : decode b_F_stop 18 = .ok (.getfield 13, 3) := by decide +kernel
theorem d_F_stop_21 : decode b_F_stop 21 = .ok (.getfield 118, 3) := by decide +kernel
theorem d_F_stop_24 : decode b_F_stop 24 = .ok (.bipush 10, 2) := by decide +kernel
theorem d_F_stop_26 : decode b_F_stop 26 = .ok (.if_icmp .lt 13, 3) := by decide +kernel
theorem d_F_stop_29 : decode b_F_stop 29 = .ok (.new 47, 3) := by decide +kernel
theorem d_F_stop_32 : decode b_F_stop 32 = .ok (.dup, 1) := by decide +kernel
theorem d_F_stop_33 : decode b_F_stop 33 = .ok (.ldc 121, 2) := by decide +kernel
theorem d_F_stop_35 : decode b_F_stop 35 = .ok (.invokespecial 51, 3) := by decide +kernel
theorem d_F_stop_38 : decode b_F_stop 38 = .ok (.athrow, 1) := by decide +kernel
theorem d_F_stop_39 : decode b_F_stop 39 = .ok (.iload_n 2, 1) := by decide +kernel
theorem d_F_stop_40 : decode b_F_stop 40 = .ok (.iconst 0, 1) := by decide +kernel
theorem d_F_stop_41 : decode b_F_stop 41 = .ok (.bipush 60, 2) := by decide +kernel
theorem d_F_stop_43 : decode b_F_stop 43 = .ok (.invokestatic 54, 3) := by decide +kernel
theorem d_F_stop_46 : decode b_F_stop 46 = .ok (.ifCond .eq 18, 3) := by decide +kernel
theorem d_F_stop_49 : decode b_F_stop 49 = .ok (.iload_n 3, 1) := by decide +kernel
theorem d_F_stop_50 : decode b_F_stop 50 = .ok (.iconst 0, 1) := by decide +kernel
theorem d_F_stop_51 : decode b_F_stop 51 = .ok (.bipush 60, 2) := by decide +kernel
theorem d_F_stop_53 : decode b_F_stop 53 = .ok (.invokestatic 54, 3) := by decide +kernel
theorem d_F_stop_56 : decode b_F_stop 56 = .ok (.ifCond .eq 8, 3) := by decide +kernel
theorem d_F_stop_59 : decode b_F_stop 59 = .ok (.iload_n 3, 1) := by decide +kernel
theorem d_F_stop_60 : decode b_F_stop 60 = .ok (.iload_n 2, 1) := by decide +kernel
theorem d_F_stop_61 : decode b_F_stop 61 = .ok (.if_icmp .gt 13, 3) := by decide +kernel
theorem d_F_stop_64 : decode b_F_stop 64 = .ok (.new 58, 3) := by decide +kernel
theorem d_F_stop_67 : decode b_F_stop 67 = .ok (.dup, 1) := by decide +kernel
theorem d_F_stop_68 : decode b_F_stop 68 = .ok (.ldc 123, 2) := by decide +kernel
theorem d_F_stop_70 : decode b_F_stop 70 = .ok (.invokespecial 62, 3) := by decide +kernel
theorem d_F_stop_73 : decode b_F_stop 73 = .ok (.athrow, 1) := by decide +kernel
theorem d_F_stop_74 : decode b_F_stop 74 = .ok (.aload_n 0, 1) := by decide +kernel
theorem d_F_stop_75 : decode b_F_stop 75 = .ok (.getfield 13, 3) := by decide +kernel
theorem d_F_stop_78 : decode b_F_stop 78 = .ok (.iload_n 1, 1) := by decide +kernel
theorem d_F_stop_79 : decode b_F_stop 79 = .ok (.iload_n 2, 1) := by decide +kernel
theorem d_F_stop_80 : decode b_F_stop 80 = .ok (.iload_n 3, 1) := by decide +kernel
theorem d_F_stop_81 : decode b_F_stop 81 = .ok (.invokevirtual 125, 3) := by decide +kernel
theorem d_F_stop_84 : decode b_F_stop 84 = .ok (.ireturn, 1) := by decide +kernel
theorem d_F_go_0 : decode b_F_go 0 = .ok (.aload_n 0, 1) := by decide +kernel
theorem d_F_go_1 : decode b_F_go 1 = .ok (.getfield 13, 3) := by decide +kernel
theorem d_F_go_4 : decode b_F_go 4 = .ok (.invokevirtual 129, 3) := by decide +kernel
theorem d_F_go_7 : decode b_F_go 7 = .ok (.return_, 1) := by decide +kernel
theorem d_F_clock_0 : decode b_F_clock 0 = .ok (.iload_n 1, 1) := by decide +kernel
theorem d_F_clock_1 : decode b_F_clock 1 = .ok (.iconst 0, 1) := by decide +kernel
theorem d_F_clock_2 : decode b_F_clock 2 = .ok (.bipush 60, 2) := by decide +kernel
theorem d_F_clock_4 : decode b_F_clock 4 = .ok (.invokestatic 54, 3) := by decide +kernel
theorem d_F_clock_7 : decode b_F_clock 7 = .ok (.ifCond .eq 13, 3) := by decide +kernel
theorem d_F_clock_10 : decode b_F_clock 10 = .ok (.iload_n 2, 1) := by decide +kernel
theorem d_F_clock_11 : decode b_F_clock 11 = .ok (.iconst 0, 1) := by decide +kernel
theorem d_F_clock_12 : decode b_F_clock 12 = .ok (.bipush 60, 2) := by decide +kernel
theorem d_F_clock_14 : decode b_F_clock 14 = .ok (.invokestatic 54, 3) := by decide +kernel
theorem d_F_clock_17 : decode b_F_clock 17 = .ok (.ifCond .ne 13, 3) := by decide +kernel
theorem d_F_clock_20 : decode b_F_clock 20 = .ok (.new 58, 3) := by decide +kernel
theorem d_F_clock_23 : decode b_F_clock 23 = .ok (.dup, 1) := by decide +kernel
theorem d_F_clock_24 : decode b_F_clock 24 = .ok (.ldc 132, 2) := by decide +kernel
theorem d_F_clock_26 : decode b_F_clock 26 = .ok (.invokespecial 62, 3) := by decide +kernel
theorem d_F_clock_29 : decode b_F_clock 29 = .ok (.athrow, 1) := by decide +kernel
theorem d_F_clock_30 : decode b_F_clock 30 = .ok (.aload_n 0, 1) := by decide +kernel
theorem d_F_clock_31 : decode b_F_clock 31 = .ok (.getfield 13, 3) := by decide +kernel
theorem d_F_clock_34 : decode b_F_clock 34 = .ok (.iload_n 1, 1) := by decide +kernel
theorem d_F_clock_35 : decode b_F_clock 35 = .ok (.putfield 134, 3) := by decide +kernel
theorem d_F_clock_38 : decode b_F_clock 38 = .ok (.aload_n 0, 1) := by decide +kernel
theorem d_F_clock_39 : decode b_F_clock 39 = .ok (.getfield 13, 3) := by decide +kernel
theorem d_F_clock_42 : decode b_F_clock 42 = .ok (.iload_n 2, 1) := by decide +kernel
theorem d_F_clock_43 : decode b_F_clock 43 = .ok (.putfield 137, 3) := by decide +kernel
theorem d_F_clock_46 : decode b_F_clock 46 = .ok (.return_, 1) := by decide +kernel
theorem d_F_place_0 : decode b_F_place 0 = .ok (.aload_n 0, 1) := by decide +kernel
theorem d_F_place_1 : decode b_F_place 1 = .ok (.iload_n 1, 1) := by decide +kernel
theorem d_F_place_2 : decode b_F_place 2 = .ok (.invokevirtual 140, 3) := by decide +kernel
theorem d_F_place_5 : decode b_F_place 5 = .ok (.ifCond .eq 10, 3) := by decide +kernel
theorem d_F_place_8 : decode b_F_place 8 = .ok (.iload_n 2, 1) := by decide +kernel
theorem d_F_place_9 : decode b_F_place 9 = .ok (.invokestatic 71, 3) := by decide +kernel
theorem d_F_place_12 : decode b_F_place 12 = .ok (.ifCond .ne 13, 3) := by decide +kernel
theorem d_F_place_15 : decode b_F_place 15 = .ok (.new 74, 3) := by decide +kernel
theorem d_F_place_18 : decode b_F_place 18 = .ok (.dup, 1) := by decide +kernel
theorem d_F_place_19 : decode b_F_place 19 = .ok (.ldc 143, 2) := by decide +kernel
theorem d_F_place_21 : decode b_F_place 21 = .ok (.invokespecial 78, 3) := by decide +kernel
theorem d_F_place_24 : decode b_F_place 24 = .ok (.athrow, 1) := by decide +kernel
theorem d_F_place_25 : decode b_F_place 25 = .ok (.aload_n 0, 1) := by decide +kernel
theorem d_F_place_26 : decode b_F_place 26 = .ok (.getfield 13, 3) := by decide +kernel
theorem d_F_place_29 : decode b_F_place 29 = .ok (.aload_n 0, 1) := by decide +kernel
theorem d_F_place_30 : decode b_F_place 30 = .ok (.getfield 19, 3) := by decide +kernel
theorem d_F_place_33 : decode b_F_place 33 = .ok (.iload_n 1, 1) := by decide +kernel
theorem d_F_place_34 : decode b_F_place 34 = .ok (.invokevirtual 145, 3) := by decide +kernel
theorem d_F_place_37 : decode b_F_place 37 = .ok (.ifCond .eq 13, 3) := by decide +kernel
theorem d_F_place_40 : decode b_F_place 40 = .ok (.new 47, 3) := by decide +kernel
theorem d_F_place_43 : decode b_F_place 43 = .ok (.dup, 1) := by decide +kernel
theorem d_F_place_44 : decode b_F_place 44 = .ok (.ldc 149, 2) := by decide +kernel
theorem d_F_place_46 : decode b_F_place 46 = .ok (.invokespecial 51, 3) := by decide +kernel
theorem d_F_place_49 : decode b_F_place 49 = .ok (.athrow, 1) := by decide +kernel
theorem d_F_place_50 : decode b_F_place 50 = .ok (.iload_n 3, 1) := by decide +kernel
theorem d_F_place_51 : decode b_F_place 51 = .ok (.invokestatic 84, 3) := by decide +kernel
theorem d_F_place_54 : decode b_F_place 54 = .ok (.ifCond .ne 13, 3) := by decide +kernel
theorem d_F_place_57 : decode b_F_place 57 = .ok (.new 58, 3) := by decide +kernel
theorem d_F_place_60 : decode b_F_place 60 = .ok (.dup, 1) := by decide +kernel
theorem d_F_place_61 : decode b_F_place 61 = .ok (.ldc 151, 2) := by decide +kernel
theorem d_F_place_63 : decode b_F_place 63 = .ok (.invokespecial 62, 3) := by decide +kernel
theorem d_F_place_66 : decode b_F_place 66 = .ok (.athrow, 1) := by decide +kernel
theorem d_F_place_67 : decode b_F_place 67 = .ok (.aload_n 0, 1) := by decide +kernel
theorem d_F_place_68 : decode b_F_place 68 = .ok (.getfield 13, 3) := by decide +kernel
theorem d_F_place_71 : decode b_F_place 71 = .ok (.aload_n 0, 1) := by decide +kernel
theorem d_F_place_72 : decode b_F_place 72 = .ok (.getfield 19, 3) := by decide +kernel
theorem d_F_place_75 : decode b_F_place 75 = .ok (.iload_n 1, 1) := by decide +kernel
theorem d_F_place_76 : decode b_F_place 76 = .ok (.iload_n 2, 1) := by decide +kernel
theorem d_F_place_77 : decode b_F_place 77 = .ok (.iload_n 3, 1) := by decide +kernel
theorem d_F_place_78 : decode b_F_place 78 = .ok (.invokevirtual 153, 3) := by decide +kernel
theorem d_F_place_81 : decode b_F_place 81 = .ok (.ifCond .ne 13, 3) := by decide +kernel
theorem d_F_place_84 : decode b_F_place 84 = .ok (.new 97, 3) := by decide +kernel
theorem d_F_place_87 : decode b_F_place 87 = .ok (.dup, 1) := by decide +kernel
theorem d_F_place_88 : decode b_F_place 88 = .ok (.ldc 157, 2) := by decide +kernel
theorem d_F_place_90 : decode b_F_place 90 = .ok (.invokespecial 101, 3) := by decide +kernel
theorem d_F_place_93 : decode b_F_place 93 = .ok (.athrow, 1) := by decide +kernel
theorem d_F_place_94 : decode b_F_place 94 = .ok (.aload_n 0, 1) := by decide +kernel
theorem d_F_place_95 : decode b_F_place 95 = .ok (.invokevirtual 159, 3) := by decide +kernel
theorem d_F_place_98 : decode b_F_place 98 = .ok (.aload_n 0, 1) := by decide +kernel
theorem d_F_place_99 : decode b_F_place 99 = .ok (.getfield 19, 3) := by decide +kernel
theorem d_F_place_102 : decode b_F_place 102 = .ok (.iload_n 1, 1) := by decide +kernel
theorem d_F_place_103 : decode b_F_place 103 = .ok (.iload_n 2, 1) := by decide +kernel
theorem d_F_place_104 : decode b_F_place 104 = .ok (.iload_n 3, 1) := by decide +kernel
theorem d_F_place_105 : decode b_F_place 105 = .ok (.invokevirtual 105, 3) := by decide +kernel
theorem d_F_place_108 : decode b_F_place 108 = .ok (.return_, 1) := by decide +kernel
theorem d_F_divert_0 : decode b_F_divert 0 = .ok (.aload_n 0, 1) := by decide +kernel
theorem d_F_divert_1 : decode b_F_divert 1 = .ok (.iload_n 1, 1) := by decide +kernel
theorem d_F_divert_2 : decode b_F_divert 2 = .ok (.invokevirtual 140, 3) := by decide +kernel
theorem d_F_divert_5 : decode b_F_divert 5 = .ok (.ifCond .eq 11, 3) := by decide +kernel
theorem d_F_divert_8 : decode b_F_divert 8 = .ok (.aload_n 0, 1) := by decide +kernel
theorem d_F_divert_9 : decode b_F_divert 9 = .ok (.iload_n 2, 1) := by decide +kernel
theorem d_F_divert_10 : decode b_F_divert 10 = .ok (.invokevirtual 67, 3) := by decide +kernel
theorem d_F_divert_13 : decode b_F_divert 13 = .ok (.ifCond .ne 13, 3) := by decide +kernel
theorem d_F_divert_16 : decode b_F_divert 16 = .ok (.new 74, 3) := by decide +kernel
theorem d_F_divert_19 : decode b_F_divert 19 = .ok (.dup, 1) := by decide +kernel
theorem d_F_divert_20 : decode b_F_divert 20 = .ok (.ldc 162, 2) := by decide +kernel
theorem d_F_divert_22 : decode b_F_divert 22 = .ok (.invokespecial 78, 3) := by decide +kernel
theorem d_F_divert_25 : decode b_F_divert 25 = .ok (.athrow, 1) := by decide +kernel
theorem d_F_divert_26 : decode b_F_divert 26 = .ok (.aload_n 0, 1) := by decide +kernel
theorem d_F_divert_27 : decode b_F_divert 27 = .ok (.getfield 19, 3) := by decide +kernel
theorem d_F_divert_30 : decode b_F_divert 30 = .ok (.getfield 109, 3) := by decide +kernel
theorem d_F_divert_33 : decode b_F_divert 33 = .ok (.iload_n 1, 1) := by decide +kernel
theorem d_F_divert_34 : decode b_F_divert 34 = .ok (.iaload, 1) := by decide +kernel
theorem d_F_divert_35 : decode b_F_divert 35 = .ok (.istore_n 3, 1) := by decide +kernel
theorem d_F_divert_36 : decode b_F_divert 36 = .ok (.iload_n 3, 1) := by decide +kernel
theorem d_F_divert_37 : decode b_F_divert 37 = .ok (.iload_n 2, 1) := by decide +kernel
theorem d_F_divert_38 : decode b_F_divert 38 = .ok (.if_icmp .eq 24, 3) := by decide +kernel
theorem d_F_divert_41 : decode b_F_divert 41 = .ok (.aload_n 0, 1) := by decide +kernel
theorem d_F_divert_42 : decode b_F_divert 42 = .ok (.getfield 13, 3) := by decide +kernel
theorem d_F_divert_45 : decode b_F_divert 45 = .ok (.getfield 164, 3) := by decide +kernel
theorem d_F_divert_48 : decode b_F_divert 48 = .ok (.iload_n 3, 1) := by decide +kernel
theorem d_F_divert_49 : decode b_F_divert 49 = .ok (.iaload, 1) := by decide +kernel
theorem d_F_divert_50 : decode b_F_divert 50 = .ok (.aload_n 0, 1) := by decide +kernel
theorem d_F_divert_51 : decode b_F_divert 51 = .ok (.getfield 13, 3) := by decide +kernel
theorem d_F_divert_54 : decode b_F_divert 54 = .ok (.getfield 164, 3) := by decide +kernel
theorem d_F_divert_57 : decode b_F_divert 57 = .ok (.iload_n 2, 1) := by decide +kernel
theorem d_F_divert_58 : decode b_F_divert 58 = .ok (.iaload, 1) := by decide +kernel
theorem d_F_divert_59 : decode b_F_divert 59 = .ok (.if_icmp .eq 13, 3) := by decide +kernel
theorem d_F_divert_62 : decode b_F_divert 62 = .ok (.new 97, 3) := by decide +kernel
theorem d_F_divert_65 : decode b_F_divert 65 = .ok (.dup, 1) := by decide +kernel
theorem d_F_divert_66 : decode b_F_divert 66 = .ok (.ldc 167, 2) := by decide +kernel
theorem d_F_divert_68 : decode b_F_divert 68 = .ok (.invokespecial 101, 3) := by decide +kernel
theorem d_F_divert_71 : decode b_F_divert 71 = .ok (.athrow, 1) := by decide +kernel
theorem d_F_divert_72 : decode b_F_divert 72 = .ok (.aload_n 0, 1) := by decide +kernel
theorem d_F_divert_73 : decode b_F_divert 73 = .ok (.invokevirtual 159, 3) := by decide +kernel
theorem d_F_divert_76 : decode b_F_divert 76 = .ok (.aload_n 0, 1) := by decide +kernel
theorem d_F_divert_77 : decode b_F_divert 77 = .ok (.getfield 19, 3) := by decide +kernel
theorem d_F_divert_80 : decode b_F_divert 80 = .ok (.getfield 109, 3) := by decide +kernel
theorem d_F_divert_83 : decode b_F_divert 83 = .ok (.iload_n 1, 1) := by decide +kernel
theorem d_F_divert_84 : decode b_F_divert 84 = .ok (.iload_n 2, 1) := by decide +kernel
theorem d_F_divert_85 : decode b_F_divert 85 = .ok (.iastore, 1) := by decide +kernel
theorem d_F_divert_86 : decode b_F_divert 86 = .ok (.return_, 1) := by decide +kernel
theorem d_F_run_0 : decode b_F_run 0 = .ok (.iload_n 1, 1) := by decide +kernel
theorem d_F_run_1 : decode b_F_run 1 = .ok (.iconst 0, 1) := by decide +kernel
theorem d_F_run_2 : decode b_F_run 2 = .ok (.ldc 169, 2) := by decide +kernel
theorem d_F_run_4 : decode b_F_run 4 = .ok (.invokestatic 54, 3) := by decide +kernel
theorem d_F_run_7 : decode b_F_run 7 = .ok (.ifCond .ne 13, 3) := by decide +kernel
theorem d_F_run_10 : decode b_F_run 10 = .ok (.new 58, 3) := by decide +kernel
theorem d_F_run_13 : decode b_F_run 13 = .ok (.dup, 1) := by decide +kernel
theorem d_F_run_14 : decode b_F_run 14 = .ok (.ldc 170, 2) := by decide +kernel
theorem d_F_run_16 : decode b_F_run 16 = .ok (.invokespecial 62, 3) := by decide +kernel
theorem d_F_run_19 : decode b_F_run 19 = .ok (.athrow, 1) := by decide +kernel
theorem d_F_run_20 : decode b_F_run 20 = .ok (.aload_n 0, 1) := by decide +kernel
theorem d_F_run_21 : decode b_F_run 21 = .ok (.getfield 39, 3) := by decide +kernel
theorem d_F_run_24 : decode b_F_run 24 = .ok (.iload_n 1, 1) := by decide +kernel
theorem d_F_run_25 : decode b_F_run 25 = .ok (.invokevirtual 172, 3) := by decide +kernel
theorem d_F_run_28 : decode b_F_run 28 = .ok (.aload_n 0, 1) := by decide +kernel
theorem d_F_run_29 : decode b_F_run 29 = .ok (.getfield 39, 3) := by decide +kernel
theorem d_F_run_32 : decode b_F_run 32 = .ok (.invokevirtual 176, 3) := by decide +kernel
theorem d_F_run_35 : decode b_F_run 35 = .ok (.ifCond .ne 5, 3) := by decide +kernel
theorem d_F_run_38 : decode b_F_run 38 = .ok (.iconst (-1), 1) := by decide +kernel
theorem d_F_run_39 : decode b_F_run 39 = .ok (.ireturn, 1) := by decide +kernel
theorem d_F_run_40 : decode b_F_run 40 = .ok (.aload_n 0, 1) := by decide +kernel
theorem d_F_run_41 : decode b_F_run 41 = .ok (.getfield 39, 3) := by decide +kernel
theorem d_F_run_44 : decode b_F_run 44 = .ok (.getfield 180, 3) := by decide +kernel
theorem d_F_run_47 : decode b_F_run 47 = .ok (.ifCond .le 21, 3) := by decide +kernel
theorem d_F_run_50 : decode b_F_run 50 = .ok (.aload_n 0, 1) := by decide +kernel
theorem d_F_run_51 : decode b_F_run 51 = .ok (.invokevirtual 159, 3) := by decide +kernel
theorem d_F_run_54 : decode b_F_run 54 = .ok (.aload_n 0, 1) := by decide +kernel
theorem d_F_run_55 : decode b_F_run 55 = .ok (.getfield 19, 3) := by decide +kernel
theorem d_F_run_58 : decode b_F_run 58 = .ok (.aload_n 0, 1) := by decide +kernel
theorem d_F_run_59 : decode b_F_run 59 = .ok (.getfield 39, 3) := by decide +kernel
theorem d_F_run_62 : decode b_F_run 62 = .ok (.getfield 183, 3) := by decide +kernel
theorem d_F_run_65 : decode b_F_run 65 = .ok (.invokevirtual 186, 3) := by decide +kernel
theorem d_F_run_68 : decode b_F_run 68 = .ok (.aload_n 0, 1) := by decide +kernel
theorem d_F_run_69 : decode b_F_run 69 = .ok (.getfield 39, 3) := by decide +kernel
theorem d_F_run_72 : decode b_F_run 72 = .ok (.getfield 180, 3) := by decide +kernel
theorem d_F_run_75 : decode b_F_run 75 = .ok (.ireturn, 1) := by decide +kernel
theorem d_F_told_0 : decode b_F_told 0 = .ok (.iload_n 1, 1) := by decide +kernel
theorem d_F_told_1 : decode b_F_told 1 = .ok (.iconst 0, 1) := by decide +kernel
theorem d_F_told_2 : decode b_F_told 2 = .ok (.iconst 3, 1) := by decide +kernel
theorem d_F_told_3 : decode b_F_told 3 = .ok (.invokestatic 54, 3) := by decide +kernel
theorem d_F_told_6 : decode b_F_told 6 = .ok (.ifCond .ne 13, 3) := by decide +kernel
theorem d_F_told_9 : decode b_F_told 9 = .ok (.new 74, 3) := by decide +kernel
theorem d_F_told_12 : decode b_F_told 12 = .ok (.dup, 1) := by decide +kernel
theorem d_F_told_13 : decode b_F_told 13 = .ok (.ldc 190, 2) := by decide +kernel
theorem d_F_told_15 : decode b_F_told 15 = .ok (.invokespecial 78, 3) := by decide +kernel
theorem d_F_told_18 : decode b_F_told 18 = .ok (.athrow, 1) := by decide +kernel
theorem d_F_told_19 : decode b_F_told 19 = .ok (.aload_n 0, 1) := by decide +kernel
theorem d_F_told_20 : decode b_F_told 20 = .ok (.getfield 39, 3) := by decide +kernel
theorem d_F_told_23 : decode b_F_told 23 = .ok (.getfield 192, 3) := by decide +kernel
theorem d_F_told_26 : decode b_F_told 26 = .ok (.ifCond .ne 13, 3) := by decide +kernel
theorem d_F_told_29 : decode b_F_told 29 = .ok (.new 47, 3) := by decide +kernel
theorem d_F_told_32 : decode b_F_told 32 = .ok (.dup, 1) := by decide +kernel
theorem d_F_told_33 : decode b_F_told 33 = .ok (.ldc 196, 2) := by decide +kernel
theorem d_F_told_35 : decode b_F_told 35 = .ok (.invokespecial 51, 3) := by decide +kernel
theorem d_F_told_38 : decode b_F_told 38 = .ok (.athrow, 1) := by decide +kernel
theorem d_F_told_39 : decode b_F_told 39 = .ok (.iload_n 1, 1) := by decide +kernel
theorem d_F_told_40 : decode b_F_told 40 = .ok (.tableswitch 60 0 2 #[28, 44, 52], 28) := by decide +kernel
theorem d_F_told_68 : decode b_F_told 68 = .ok (.aload_n 0, 1) := by decide +kernel
theorem d_F_told_69 : decode b_F_told 69 = .ok (.getfield 39, 3) := by decide +kernel
theorem d_F_told_72 : decode b_F_told 72 = .ok (.getfield 198, 3) := by decide +kernel
theorem d_F_told_75 : decode b_F_told 75 = .ok (.ifCond .eq 7, 3) := by decide +kernel
theorem d_F_told_78 : decode b_F_told 78 = .ok (.iconst 1, 1) := by decide +kernel
theorem d_F_told_79 : decode b_F_told 79 = .ok (.goto 4, 3) := by decide +kernel
theorem d_F_told_82 : decode b_F_told 82 = .ok (.iconst 0, 1) := by decide +kernel
theorem d_F_told_83 : decode b_F_told 83 = .ok (.ireturn, 1) := by decide +kernel
theorem d_F_told_84 : decode b_F_told 84 = .ok (.aload_n 0, 1) := by decide +kernel
theorem d_F_told_85 : decode b_F_told 85 = .ok (.getfield 39, 3) := by decide +kernel
theorem d_F_told_88 : decode b_F_told 88 = .ok (.getfield 201, 3) := by decide +kernel
theorem d_F_told_91 : decode b_F_told 91 = .ok (.ireturn, 1) := by decide +kernel
theorem d_F_told_92 : decode b_F_told 92 = .ok (.aload_n 0, 1) := by decide +kernel
theorem d_F_told_93 : decode b_F_told 93 = .ok (.getfield 39, 3) := by decide +kernel
theorem d_F_told_96 : decode b_F_told 96 = .ok (.getfield 180, 3) := by decide +kernel
theorem d_F_told_99 : decode b_F_told 99 = .ok (.ireturn, 1) := by decide +kernel
theorem d_F_told_100 : decode b_F_told 100 = .ok (.aload_n 0, 1) := by decide +kernel
theorem d_F_told_101 : decode b_F_told 101 = .ok (.getfield 39, 3) := by decide +kernel
theorem d_F_told_104 : decode b_F_told 104 = .ok (.getfield 203, 3) := by decide +kernel
theorem d_F_told_107 : decode b_F_told 107 = .ok (.ireturn, 1) := by decide +kernel
theorem d_F_at_0 : decode b_F_at 0 = .ok (.aload_n 0, 1) := by decide +kernel
theorem d_F_at_1 : decode b_F_at 1 = .ok (.iload_n 1, 1) := by decide +kernel
theorem d_F_at_2 : decode b_F_at 2 = .ok (.invokevirtual 140, 3) := by decide +kernel
theorem d_F_at_5 : decode b_F_at 5 = .ok (.ifCond .eq 12, 3) := by decide +kernel
theorem d_F_at_8 : decode b_F_at 8 = .ok (.iload_n 2, 1) := by decide +kernel
theorem d_F_at_9 : decode b_F_at 9 = .ok (.iconst 0, 1) := by decide +kernel
theorem d_F_at_10 : decode b_F_at 10 = .ok (.iconst 4, 1) := by decide +kernel
theorem d_F_at_11 : decode b_F_at 11 = .ok (.invokestatic 54, 3) := by decide +kernel
theorem d_F_at_14 : decode b_F_at 14 = .ok (.ifCond .ne 13, 3) := by decide +kernel
theorem d_F_at_17 : decode b_F_at 17 = .ok (.new 74, 3) := by decide +kernel
theorem d_F_at_20 : decode b_F_at 20 = .ok (.dup, 1) := by decide +kernel
theorem d_F_at_21 : decode b_F_at 21 = .ok (.ldc 206, 2) := by decide +kernel
theorem d_F_at_23 : decode b_F_at 23 = .ok (.invokespecial 78, 3) := by decide +kernel
theorem d_F_at_26 : decode b_F_at 26 = .ok (.athrow, 1) := by decide +kernel
theorem d_F_at_27 : decode b_F_at 27 = .ok (.iload_n 2, 1) := by decide +kernel
theorem d_F_at_28 : decode b_F_at 28 = .ok (.tableswitch 101 0 3 #[32, 42, 52, 62], 32) := by decide +kernel
theorem d_F_at_60 : decode b_F_at 60 = .ok (.aload_n 0, 1) := by decide +kernel
theorem d_F_at_61 : decode b_F_at 61 = .ok (.getfield 19, 3) := by decide +kernel
theorem d_F_at_64 : decode b_F_at 64 = .ok (.getfield 208, 3) := by decide +kernel
theorem d_F_at_67 : decode b_F_at 67 = .ok (.iload_n 1, 1) := by decide +kernel
theorem d_F_at_68 : decode b_F_at 68 = .ok (.iaload, 1) := by decide +kernel
theorem d_F_at_69 : decode b_F_at 69 = .ok (.ireturn, 1) := by decide +kernel
theorem d_F_at_70 : decode b_F_at 70 = .ok (.aload_n 0, 1) := by decide +kernel
theorem d_F_at_71 : decode b_F_at 71 = .ok (.getfield 19, 3) := by decide +kernel
theorem d_F_at_74 : decode b_F_at 74 = .ok (.getfield 211, 3) := by decide +kernel
theorem d_F_at_77 : decode b_F_at 77 = .ok (.iload_n 1, 1) := by decide +kernel
theorem d_F_at_78 : decode b_F_at 78 = .ok (.iaload, 1) := by decide +kernel
theorem d_F_at_79 : decode b_F_at 79 = .ok (.ireturn, 1) := by decide +kernel
theorem d_F_at_80 : decode b_F_at 80 = .ok (.aload_n 0, 1) := by decide +kernel
theorem d_F_at_81 : decode b_F_at 81 = .ok (.getfield 19, 3) := by decide +kernel
theorem d_F_at_84 : decode b_F_at 84 = .ok (.getfield 109, 3) := by decide +kernel
theorem d_F_at_87 : decode b_F_at 87 = .ok (.iload_n 1, 1) := by decide +kernel
theorem d_F_at_88 : decode b_F_at 88 = .ok (.iaload, 1) := by decide +kernel
theorem d_F_at_89 : decode b_F_at 89 = .ok (.ireturn, 1) := by decide +kernel
theorem d_F_at_90 : decode b_F_at 90 = .ok (.aload_n 0, 1) := by decide +kernel
theorem d_F_at_91 : decode b_F_at 91 = .ok (.getfield 13, 3) := by decide +kernel
theorem d_F_at_94 : decode b_F_at 94 = .ok (.aload_n 0, 1) := by decide +kernel
theorem d_F_at_95 : decode b_F_at 95 = .ok (.getfield 19, 3) := by decide +kernel
theorem d_F_at_98 : decode b_F_at 98 = .ok (.iload_n 1, 1) := by decide +kernel
theorem d_F_at_99 : decode b_F_at 99 = .ok (.aload_n 0, 1) := by decide +kernel
theorem d_F_at_100 : decode b_F_at 100 = .ok (.getfield 19, 3) := by decide +kernel
theorem d_F_at_103 : decode b_F_at 103 = .ok (.getfield 208, 3) := by decide +kernel
theorem d_F_at_106 : decode b_F_at 106 = .ok (.iload_n 1, 1) := by decide +kernel
theorem d_F_at_107 : decode b_F_at 107 = .ok (.iaload, 1) := by decide +kernel
theorem d_F_at_108 : decode b_F_at 108 = .ok (.aload_n 0, 1) := by decide +kernel
theorem d_F_at_109 : decode b_F_at 109 = .ok (.getfield 19, 3) := by decide +kernel
theorem d_F_at_112 : decode b_F_at 112 = .ok (.getfield 211, 3) := by decide +kernel
theorem d_F_at_115 : decode b_F_at 115 = .ok (.iload_n 1, 1) := by decide +kernel
theorem d_F_at_116 : decode b_F_at 116 = .ok (.iaload, 1) := by decide +kernel
theorem d_F_at_117 : decode b_F_at 117 = .ok (.invokevirtual 153, 3) := by decide +kernel
theorem d_F_at_120 : decode b_F_at 120 = .ok (.ifCond .eq 7, 3) := by decide +kernel
theorem d_F_at_123 : decode b_F_at 123 = .ok (.iconst 1, 1) := by decide +kernel
theorem d_F_at_124 : decode b_F_at 124 = .ok (.goto 4, 3) := by decide +kernel
theorem d_F_at_127 : decode b_F_at 127 = .ok (.iconst 0, 1) := by decide +kernel
theorem d_F_at_128 : decode b_F_at 128 = .ok (.ireturn, 1) := by decide +kernel
theorem d_F_at_129 : decode b_F_at 129 = .ok (.aload_n 0, 1) := by decide +kernel
theorem d_F_at_130 : decode b_F_at 130 = .ok (.getfield 13, 3) := by decide +kernel
theorem d_F_at_133 : decode b_F_at 133 = .ok (.aload_n 0, 1) := by decide +kernel
theorem d_F_at_134 : decode b_F_at 134 = .ok (.getfield 19, 3) := by decide +kernel
theorem d_F_at_137 : decode b_F_at 137 = .ok (.iload_n 1, 1) := by decide +kernel
theorem d_F_at_138 : decode b_F_at 138 = .ok (.invokevirtual 145, 3) := by decide +kernel
theorem d_F_at_141 : decode b_F_at 141 = .ok (.ifCond .eq 7, 3) := by decide +kernel
theorem d_F_at_144 : decode b_F_at 144 = .ok (.iconst 1, 1) := by decide +kernel
theorem d_F_at_145 : decode b_F_at 145 = .ok (.goto 4, 3) := by decide +kernel
theorem d_F_at_148 : decode b_F_at 148 = .ok (.iconst 0, 1) := by decide +kernel
theorem d_F_at_149 : decode b_F_at 149 = .ok (.ireturn, 1) := by decide +kernel
theorem d_F_cost_0 : decode b_F_cost 0 = .ok (.iconst 0, 1) := by decide +kernel
theorem d_F_cost_1 : decode b_F_cost 1 = .ok (.istore_n 1, 1) := by decide +kernel
theorem d_F_cost_2 : decode b_F_cost 2 = .ok (.iconst 0, 1) := by decide +kernel
theorem d_F_cost_3 : decode b_F_cost 3 = .ok (.istore_n 2, 1) := by decide +kernel
theorem d_F_cost_4 : decode b_F_cost 4 = .ok (.iload_n 2, 1) := by decide +kernel
theorem d_F_cost_5 : decode b_F_cost 5 = .ok (.aload_n 0, 1) := by decide +kernel
theorem d_F_cost_6 : decode b_F_cost 6 = .ok (.getfield 13, 3) := by decide +kernel
theorem d_F_cost_9 : decode b_F_cost 9 = .ok (.getfield 79, 3) := by decide +kernel
theorem d_F_cost_12 : decode b_F_cost 12 = .ok (.if_icmp .ge 38, 3) := by decide +kernel
theorem d_F_cost_15 : decode b_F_cost 15 = .ok (.iload_n 1, 1) := by decide +kernel
theorem d_F_cost_16 : decode b_F_cost 16 = .ok (.aload_n 0, 1) := by decide +kernel
theorem d_F_cost_17 : decode b_F_cost 17 = .ok (.getfield 13, 3) := by decide +kernel
theorem d_F_cost_20 : decode b_F_cost 20 = .ok (.iload_n 2, 1) := by decide +kernel
theorem d_F_cost_21 : decode b_F_cost 21 = .ok (.aload_n 0, 1) := by decide +kernel
theorem d_F_cost_22 : decode b_F_cost 22 = .ok (.getfield 19, 3) := by decide +kernel
theorem d_F_cost_25 : decode b_F_cost 25 = .ok (.getfield 109, 3) := by decide +kernel
theorem d_F_cost_28 : decode b_F_cost 28 = .ok (.iload_n 2, 1) := by decide +kernel
theorem d_F_cost_29 : decode b_F_cost 29 = .ok (.iaload, 1) := by decide +kernel
theorem d_F_cost_30 : decode b_F_cost 30 = .ok (.aload_n 0, 1) := by decide +kernel
theorem d_F_cost_31 : decode b_F_cost 31 = .ok (.getfield 19, 3) := by decide +kernel
theorem d_F_cost_34 : decode b_F_cost 34 = .ok (.getfield 211, 3) := by decide +kernel
theorem d_F_cost_37 : decode b_F_cost 37 = .ok (.iload_n 2, 1) := by decide +kernel
theorem d_F_cost_38 : decode b_F_cost 38 = .ok (.iaload, 1) := by decide +kernel
theorem d_F_cost_39 : decode b_F_cost 39 = .ok (.invokevirtual 213, 3) := by decide +kernel
theorem d_F_cost_42 : decode b_F_cost 42 = .ok (.iadd, 1) := by decide +kernel
theorem d_F_cost_43 : decode b_F_cost 43 = .ok (.istore_n 1, 1) := by decide +kernel
theorem d_F_cost_44 : decode b_F_cost 44 = .ok (.iinc 2 1, 3) := by decide +kernel
theorem d_F_cost_47 : decode b_F_cost 47 = .ok (.goto (-43), 3) := by decide +kernel
theorem d_F_cost_50 : decode b_F_cost 50 = .ok (.iload_n 1, 1) := by decide +kernel
theorem d_F_cost_51 : decode b_F_cost 51 = .ok (.ireturn, 1) := by decide +kernel
theorem d_F_on_0 : decode b_F_on 0 = .ok (.iload_n 1, 1) := by decide +kernel
theorem d_F_on_1 : decode b_F_on 1 = .ok (.invokestatic 71, 3) := by decide +kernel
theorem d_F_on_4 : decode b_F_on 4 = .ok (.ifCond .ne 13, 3) := by decide +kernel
theorem d_F_on_7 : decode b_F_on 7 = .ok (.new 74, 3) := by decide +kernel
theorem d_F_on_10 : decode b_F_on 10 = .ok (.dup, 1) := by decide +kernel
theorem d_F_on_11 : decode b_F_on 11 = .ok (.ldc 116, 2) := by decide +kernel
theorem d_F_on_13 : decode b_F_on 13 = .ok (.invokespecial 78, 3) := by decide +kernel
theorem d_F_on_16 : decode b_F_on 16 = .ok (.athrow, 1) := by decide +kernel
theorem d_F_on_17 : decode b_F_on 17 = .ok (.iload_n 2, 1) := by decide +kernel
theorem d_F_on_18 : decode b_F_on 18 = .ok (.invokestatic 84, 3) := by decide +kernel
theorem d_F_on_21 : decode b_F_on 21 = .ok (.ifCond .ne 13, 3) := by decide +kernel
theorem d_F_on_24 : decode b_F_on 24 = .ok (.new 58, 3) := by decide +kernel
theorem d_F_on_27 : decode b_F_on 27 = .ok (.dup, 1) := by decide +kernel
theorem d_F_on_28 : decode b_F_on 28 = .ok (.ldc 151, 2) := by decide +kernel
theorem d_F_on_30 : decode b_F_on 30 = .ok (.invokespecial 62, 3) := by decide +kernel
theorem d_F_on_33 : decode b_F_on 33 = .ok (.athrow, 1) := by decide +kernel
theorem d_F_on_34 : decode b_F_on 34 = .ok (.iconst 0, 1) := by decide +kernel
theorem d_F_on_35 : decode b_F_on 35 = .ok (.istore_n 3, 1) := by decide +kernel
theorem d_F_on_36 : decode b_F_on 36 = .ok (.iload_n 3, 1) := by decide +kernel
theorem d_F_on_37 : decode b_F_on 37 = .ok (.aload_n 0, 1) := by decide +kernel
theorem d_F_on_38 : decode b_F_on 38 = .ok (.getfield 13, 3) := by decide +kernel
theorem d_F_on_41 : decode b_F_on 41 = .ok (.getfield 79, 3) := by decide +kernel
theorem d_F_on_44 : decode b_F_on 44 = .ok (.if_icmp .ge 57, 3) := by decide +kernel
theorem d_F_on_47 : decode b_F_on 47 = .ok (.aload_n 0, 1) := by decide +kernel
theorem d_F_on_48 : decode b_F_on 48 = .ok (.getfield 19, 3) := by decide +kernel
theorem d_F_on_51 : decode b_F_on 51 = .ok (.getfield 211, 3) := by decide +kernel
theorem d_F_on_54 : decode b_F_on 54 = .ok (.iload_n 3, 1) := by decide +kernel
theorem d_F_on_55 : decode b_F_on 55 = .ok (.iaload, 1) := by decide +kernel
theorem d_F_on_56 : decode b_F_on 56 = .ok (.istore 4, 2) := by decide +kernel
theorem d_F_on_58 : decode b_F_on 58 = .ok (.aload_n 0, 1) := by decide +kernel
theorem d_F_on_59 : decode b_F_on 59 = .ok (.getfield 19, 3) := by decide +kernel
theorem d_F_on_62 : decode b_F_on 62 = .ok (.getfield 208, 3) := by decide +kernel
theorem d_F_on_65 : decode b_F_on 65 = .ok (.iload_n 3, 1) := by decide +kernel
theorem d_F_on_66 : decode b_F_on 66 = .ok (.iaload, 1) := by decide +kernel
theorem d_F_on_67 : decode b_F_on 67 = .ok (.iload_n 1, 1) := by decide +kernel
theorem d_F_on_68 : decode b_F_on 68 = .ok (.if_icmp .ne 27, 3) := by decide +kernel
theorem d_F_on_71 : decode b_F_on 71 = .ok (.iload 4, 2) := by decide +kernel
theorem d_F_on_73 : decode b_F_on 73 = .ok (.iload_n 2, 1) := by decide +kernel
theorem d_F_on_74 : decode b_F_on 74 = .ok (.if_icmp .gt 21, 3) := by decide +kernel
theorem d_F_on_77 : decode b_F_on 77 = .ok (.iload_n 2, 1) := by decide +kernel
theorem d_F_on_78 : decode b_F_on 78 = .ok (.iload 4, 2) := by decide +kernel
theorem d_F_on_80 : decode b_F_on 80 = .ok (.aload_n 0, 1) := by decide +kernel
theorem d_F_on_81 : decode b_F_on 81 = .ok (.getfield 13, 3) := by decide +kernel
theorem d_F_on_84 : decode b_F_on 84 = .ok (.getfield 216, 3) := by decide +kernel
theorem d_F_on_87 : decode b_F_on 87 = .ok (.iload_n 3, 1) := by decide +kernel
theorem d_F_on_88 : decode b_F_on 88 = .ok (.iaload, 1) := by decide +kernel
theorem d_F_on_89 : decode b_F_on 89 = .ok (.iadd, 1) := by decide +kernel
theorem d_F_on_90 : decode b_F_on 90 = .ok (.if_icmp .ge 5, 3) := by decide +kernel
theorem d_F_on_93 : decode b_F_on 93 = .ok (.iload_n 3, 1) := by decide +kernel
theorem d_F_on_94 : decode b_F_on 94 = .ok (.ireturn, 1) := by decide +kernel
theorem d_F_on_95 : decode b_F_on 95 = .ok (.iinc 3 1, 3) := by decide +kernel
theorem d_F_on_98 : decode b_F_on 98 = .ok (.goto (-62), 3) := by decide +kernel
theorem d_F_on_101 : decode b_F_on 101 = .ok (.iconst (-1), 1) := by decide +kernel
theorem d_F_on_102 : decode b_F_on 102 = .ok (.ireturn, 1) := by decide +kernel
theorem d_F_keep_0 : decode b_F_keep 0 = .ok (.iload_n 1, 1) := by decide +kernel
theorem d_F_keep_1 : decode b_F_keep 1 = .ok (.invokestatic 219, 3) := by decide +kernel
theorem d_F_keep_4 : decode b_F_keep 4 = .ok (.ifCond .ne 13, 3) := by decide +kernel
theorem d_F_keep_7 : decode b_F_keep 7 = .ok (.new 74, 3) := by decide +kernel
theorem d_F_keep_10 : decode b_F_keep 10 = .ok (.dup, 1) := by decide +kernel
theorem d_F_keep_11 : decode b_F_keep 11 = .ok (.ldc 222, 2) := by decide +kernel
theorem d_F_keep_13 : decode b_F_keep 13 = .ok (.invokespecial 78, 3) := by decide +kernel
theorem d_F_keep_16 : decode b_F_keep 16 = .ok (.athrow, 1) := by decide +kernel
theorem d_F_keep_17 : decode b_F_keep 17 = .ok (.aload_n 0, 1) := by decide +kernel
theorem d_F_keep_18 : decode b_F_keep 18 = .ok (.getfield 26, 3) := by decide +kernel
theorem d_F_keep_21 : decode b_F_keep 21 = .ok (.iload_n 1, 1) := by decide +kernel
theorem d_F_keep_22 : decode b_F_keep 22 = .ok (.aaload, 1) := by decide +kernel
theorem d_F_keep_23 : decode b_F_keep 23 = .ok (.aload_n 0, 1) := by decide +kernel
theorem d_F_keep_24 : decode b_F_keep 24 = .ok (.getfield 19, 3) := by decide +kernel
theorem d_F_keep_27 : decode b_F_keep 27 = .ok (.invokevirtual 186, 3) := by decide +kernel
theorem d_F_keep_30 : decode b_F_keep 30 = .ok (.aload_n 0, 1) := by decide +kernel
theorem d_F_keep_31 : decode b_F_keep 31 = .ok (.getfield 30, 3) := by decide +kernel
theorem d_F_keep_34 : decode b_F_keep 34 = .ok (.iload_n 1, 1) := by decide +kernel
theorem d_F_keep_35 : decode b_F_keep 35 = .ok (.iconst 1, 1) := by decide +kernel
theorem d_F_keep_36 : decode b_F_keep 36 = .ok (.bastore, 1) := by decide +kernel
theorem d_F_keep_37 : decode b_F_keep 37 = .ok (.return_, 1) := by decide +kernel
theorem d_F_compare_0 : decode b_F_compare 0 = .ok (.iload_n 1, 1) := by decide +kernel
theorem d_F_compare_1 : decode b_F_compare 1 = .ok (.invokestatic 219, 3) := by decide +kernel
theorem d_F_compare_4 : decode b_F_compare 4 = .ok (.ifCond .ne 13, 3) := by decide +kernel
theorem d_F_compare_7 : decode b_F_compare 7 = .ok (.new 74, 3) := by decide +kernel
theorem d_F_compare_10 : decode b_F_compare 10 = .ok (.dup, 1) := by decide +kernel
theorem d_F_compare_11 : decode b_F_compare 11 = .ok (.ldc 222, 2) := by decide +kernel
theorem d_F_compare_13 : decode b_F_compare 13 = .ok (.invokespecial 78, 3) := by decide +kernel
theorem d_F_compare_16 : decode b_F_compare 16 = .ok (.athrow, 1) := by decide +kernel
theorem d_F_compare_17 : decode b_F_compare 17 = .ok (.aload_n 0, 1) := by decide +kernel
theorem d_F_compare_18 : decode b_F_compare 18 = .ok (.getfield 30, 3) := by decide +kernel
theorem d_F_compare_21 : decode b_F_compare 21 = .ok (.iload_n 1, 1) := by decide +kernel
theorem d_F_compare_22 : decode b_F_compare 22 = .ok (.baload, 1) := by decide +kernel
theorem d_F_compare_23 : decode b_F_compare 23 = .ok (.ifCond .ne 13, 3) := by decide +kernel
theorem d_F_compare_26 : decode b_F_compare 26 = .ok (.new 47, 3) := by decide +kernel
theorem d_F_compare_29 : decode b_F_compare 29 = .ok (.dup, 1) := by decide +kernel
theorem d_F_compare_30 : decode b_F_compare 30 = .ok (.ldc 224, 2) := by decide +kernel
theorem d_F_compare_32 : decode b_F_compare 32 = .ok (.invokespecial 51, 3) := by decide +kernel
theorem d_F_compare_35 : decode b_F_compare 35 = .ok (.athrow, 1) := by decide +kernel
theorem d_F_compare_36 : decode b_F_compare 36 = .ok (.iconst 0, 1) := by decide +kernel
theorem d_F_compare_37 : decode b_F_compare 37 = .ok (.istore_n 2, 1) := by decide +kernel
theorem d_F_compare_38 : decode b_F_compare 38 = .ok (.iconst 0, 1) := by decide +kernel
theorem d_F_compare_39 : decode b_F_compare 39 = .ok (.istore_n 3, 1) := by decide +kernel
theorem d_F_compare_40 : decode b_F_compare 40 = .ok (.iload_n 3, 1) := by decide +kernel
theorem d_F_compare_41 : decode b_F_compare 41 = .ok (.aload_n 0, 1) := by decide +kernel
theorem d_F_compare_42 : decode b_F_compare 42 = .ok (.getfield 13, 3) := by decide +kernel
theorem d_F_compare_45 : decode b_F_compare 45 = .ok (.getfield 79, 3) := by decide +kernel
theorem d_F_compare_48 : decode b_F_compare 48 = .ok (.if_icmp .ge 29, 3) := by decide +kernel
theorem d_F_compare_51 : decode b_F_compare 51 = .ok (.aload_n 0, 1) := by decide +kernel
theorem d_F_compare_52 : decode b_F_compare 52 = .ok (.getfield 19, 3) := by decide +kernel
theorem d_F_compare_55 : decode b_F_compare 55 = .ok (.aload_n 0, 1) := by decide +kernel
theorem d_F_compare_56 : decode b_F_compare 56 = .ok (.getfield 26, 3) := by decide +kernel
theorem d_F_compare_59 : decode b_F_compare 59 = .ok (.iload_n 1, 1) := by decide +kernel
theorem d_F_compare_60 : decode b_F_compare 60 = .ok (.aaload, 1) := by decide +kernel
theorem d_F_compare_61 : decode b_F_compare 61 = .ok (.iload_n 3, 1) := by decide +kernel
theorem d_F_compare_62 : decode b_F_compare 62 = .ok (.invokevirtual 226, 3) := by decide +kernel
theorem d_F_compare_65 : decode b_F_compare 65 = .ok (.ifCond .ne 6, 3) := by decide +kernel
theorem d_F_compare_68 : decode b_F_compare 68 = .ok (.iinc 2 1, 3) := by decide +kernel
theorem d_F_compare_71 : decode b_F_compare 71 = .ok (.iinc 3 1, 3) := by decide +kernel
theorem d_F_compare_74 : decode b_F_compare 74 = .ok (.goto (-34), 3) := by decide +kernel
theorem d_F_compare_77 : decode b_F_compare 77 = .ok (.iload_n 2, 1) := by decide +kernel
theorem d_F_compare_78 : decode b_F_compare 78 = .ok (.ireturn, 1) := by decide +kernel
theorem d_F_use_0 : decode b_F_use 0 = .ok (.iload_n 1, 1) := by decide +kernel
theorem d_F_use_1 : decode b_F_use 1 = .ok (.invokestatic 219, 3) := by decide +kernel
theorem d_F_use_4 : decode b_F_use 4 = .ok (.ifCond .ne 13, 3) := by decide +kernel
theorem d_F_use_7 : decode b_F_use 7 = .ok (.new 74, 3) := by decide +kernel
theorem d_F_use_10 : decode b_F_use 10 = .ok (.dup, 1) := by decide +kernel
theorem d_F_use_11 : decode b_F_use 11 = .ok (.ldc 222, 2) := by decide +kernel
theorem d_F_use_13 : decode b_F_use 13 = .ok (.invokespecial 78, 3) := by decide +kernel
theorem d_F_use_16 : decode b_F_use 16 = .ok (.athrow, 1) := by decide +kernel
theorem d_F_use_17 : decode b_F_use 17 = .ok (.aload_n 0, 1) := by decide +kernel
theorem d_F_use_18 : decode b_F_use 18 = .ok (.getfield 30, 3) := by decide +kernel
theorem d_F_use_21 : decode b_F_use 21 = .ok (.iload_n 1, 1) := by decide +kernel
theorem d_F_use_22 : decode b_F_use 22 = .ok (.baload, 1) := by decide +kernel
theorem d_F_use_23 : decode b_F_use 23 = .ok (.ifCond .ne 13, 3) := by decide +kernel
theorem d_F_use_26 : decode b_F_use 26 = .ok (.new 47, 3) := by decide +kernel
theorem d_F_use_29 : decode b_F_use 29 = .ok (.dup, 1) := by decide +kernel
theorem d_F_use_30 : decode b_F_use 30 = .ok (.ldc 224, 2) := by decide +kernel
theorem d_F_use_32 : decode b_F_use 32 = .ok (.invokespecial 51, 3) := by decide +kernel
theorem d_F_use_35 : decode b_F_use 35 = .ok (.athrow, 1) := by decide +kernel
theorem d_F_use_36 : decode b_F_use 36 = .ok (.aload_n 0, 1) := by decide +kernel
theorem d_F_use_37 : decode b_F_use 37 = .ok (.invokevirtual 159, 3) := by decide +kernel
theorem d_F_use_40 : decode b_F_use 40 = .ok (.aload_n 0, 1) := by decide +kernel
theorem d_F_use_41 : decode b_F_use 41 = .ok (.getfield 19, 3) := by decide +kernel
theorem d_F_use_44 : decode b_F_use 44 = .ok (.aload_n 0, 1) := by decide +kernel
theorem d_F_use_45 : decode b_F_use 45 = .ok (.getfield 26, 3) := by decide +kernel
theorem d_F_use_48 : decode b_F_use 48 = .ok (.iload_n 1, 1) := by decide +kernel
theorem d_F_use_49 : decode b_F_use 49 = .ok (.aaload, 1) := by decide +kernel
theorem d_F_use_50 : decode b_F_use 50 = .ok (.invokevirtual 186, 3) := by decide +kernel
theorem d_F_use_53 : decode b_F_use 53 = .ok (.return_, 1) := by decide +kernel
theorem d_F_undo_0 : decode b_F_undo 0 = .ok (.aload_n 0, 1) := by decide +kernel
theorem d_F_undo_1 : decode b_F_undo 1 = .ok (.getfield 229, 3) := by decide +kernel
theorem d_F_undo_4 : decode b_F_undo 4 = .ok (.ifCond .ne 13, 3) := by decide +kernel
theorem d_F_undo_7 : decode b_F_undo 7 = .ok (.new 47, 3) := by decide +kernel
theorem d_F_undo_10 : decode b_F_undo 10 = .ok (.dup, 1) := by decide +kernel
theorem d_F_undo_11 : decode b_F_undo 11 = .ok (.ldc 232, 2) := by decide +kernel
theorem d_F_undo_13 : decode b_F_undo 13 = .ok (.invokespecial 51, 3) := by decide +kernel
theorem d_F_undo_16 : decode b_F_undo 16 = .ok (.athrow, 1) := by decide +kernel
theorem d_F_undo_17 : decode b_F_undo 17 = .ok (.aload_n 0, 1) := by decide +kernel
theorem d_F_undo_18 : decode b_F_undo 18 = .ok (.getfield 19, 3) := by decide +kernel
theorem d_F_undo_21 : decode b_F_undo 21 = .ok (.aload_n 0, 1) := by decide +kernel
theorem d_F_undo_22 : decode b_F_undo 22 = .ok (.getfield 23, 3) := by decide +kernel
theorem d_F_undo_25 : decode b_F_undo 25 = .ok (.invokevirtual 186, 3) := by decide +kernel
theorem d_F_undo_28 : decode b_F_undo 28 = .ok (.aload_n 0, 1) := by decide +kernel
theorem d_F_undo_29 : decode b_F_undo 29 = .ok (.iconst 0, 1) := by decide +kernel
theorem d_F_undo_30 : decode b_F_undo 30 = .ok (.putfield 229, 3) := by decide +kernel
theorem d_F_undo_33 : decode b_F_undo 33 = .ok (.return_, 1) := by decide +kernel
theorem d_F_rememberForUndo_0 : decode b_F_rememberForUndo 0 = .ok (.aload_n 0, 1) := by decide +kernel
theorem d_F_rememberForUndo_1 : decode b_F_rememberForUndo 1 = .ok (.getfield 23, 3) := by decide +kernel
theorem d_F_rememberForUndo_4 : decode b_F_rememberForUndo 4 = .ok (.aload_n 0, 1) := by decide +kernel
theorem d_F_rememberForUndo_5 : decode b_F_rememberForUndo 5 = .ok (.getfield 19, 3) := by decide +kernel
theorem d_F_rememberForUndo_8 : decode b_F_rememberForUndo 8 = .ok (.invokevirtual 186, 3) := by decide +kernel
theorem d_F_rememberForUndo_11 : decode b_F_rememberForUndo 11 = .ok (.aload_n 0, 1) := by decide +kernel
theorem d_F_rememberForUndo_12 : decode b_F_rememberForUndo 12 = .ok (.iconst 1, 1) := by decide +kernel
theorem d_F_rememberForUndo_13 : decode b_F_rememberForUndo 13 = .ok (.putfield 229, 3) := by decide +kernel
theorem d_F_rememberForUndo_16 : decode b_F_rememberForUndo 16 = .ok (.return_, 1) := by decide +kernel
theorem d_F_forgetCopiesAndUndo_0 : decode b_F_forgetCopiesAndUndo 0 = .ok (.aload_n 0, 1) := by decide +kernel
theorem d_F_forgetCopiesAndUndo_1 : decode b_F_forgetCopiesAndUndo 1 = .ok (.iconst 0, 1) := by decide +kernel
theorem d_F_forgetCopiesAndUndo_2 : decode b_F_forgetCopiesAndUndo 2 = .ok (.putfield 229, 3) := by decide +kernel
theorem d_F_forgetCopiesAndUndo_5 : decode b_F_forgetCopiesAndUndo 5 = .ok (.iconst 0, 1) := by decide +kernel
theorem d_F_forgetCopiesAndUndo_6 : decode b_F_forgetCopiesAndUndo 6 = .ok (.istore_n 1, 1) := by decide +kernel
theorem d_F_forgetCopiesAndUndo_7 : decode b_F_forgetCopiesAndUndo 7 = .ok (.iload_n 1, 1) := by decide +kernel
theorem d_F_forgetCopiesAndUndo_8 : decode b_F_forgetCopiesAndUndo 8 = .ok (.iconst 4, 1) := by decide +kernel
theorem d_F_forgetCopiesAndUndo_9 : decode b_F_forgetCopiesAndUndo 9 = .ok (.if_icmp .ge 16, 3) := by decide +kernel
theorem d_F_forgetCopiesAndUndo_12 : decode b_F_forgetCopiesAndUndo 12 = .ok (.aload_n 0, 1) := by decide +kernel
theorem d_F_forgetCopiesAndUndo_13 : decode b_F_forgetCopiesAndUndo 13 = .ok (.getfield 30, 3) := by decide +kernel
theorem d_F_forgetCopiesAndUndo_16 : decode b_F_forgetCopiesAndUndo 16 = .ok (.iload_n 1, 1) := by decide +kernel
theorem d_F_forgetCopiesAndUndo_17 : decode b_F_forgetCopiesAndUndo 17 = .ok (.iconst 0, 1) := by decide +kernel
theorem d_F_forgetCopiesAndUndo_18 : decode b_F_forgetCopiesAndUndo 18 = .ok (.bastore, 1) := by decide +kernel
theorem d_F_forgetCopiesAndUndo_19 : decode b_F_forgetCopiesAndUndo 19 = .ok (.iinc 1 1, 3) := by decide +kernel
theorem d_F_forgetCopiesAndUndo_22 : decode b_F_forgetCopiesAndUndo 22 = .ok (.goto (-15), 3) := by decide +kernel
theorem d_F_forgetCopiesAndUndo_25 : decode b_F_forgetCopiesAndUndo 25 = .ok (.return_, 1) := by decide +kernel
theorem d_F_isOrder_0 : decode b_F_isOrder 0 = .ok (.iload_n 1, 1) := by decide +kernel
theorem d_F_isOrder_1 : decode b_F_isOrder 1 = .ok (.iconst 0, 1) := by decide +kernel
theorem d_F_isOrder_2 : decode b_F_isOrder 2 = .ok (.aload_n 0, 1) := by decide +kernel
theorem d_F_isOrder_3 : decode b_F_isOrder 3 = .ok (.getfield 13, 3) := by decide +kernel
theorem d_F_isOrder_6 : decode b_F_isOrder 6 = .ok (.getfield 43, 3) := by decide +kernel
theorem d_F_isOrder_9 : decode b_F_isOrder 9 = .ok (.iconst 1, 1) := by decide +kernel
theorem d_F_isOrder_10 : decode b_F_isOrder 10 = .ok (.isub, 1) := by decide +kernel
theorem d_F_isOrder_11 : decode b_F_isOrder 11 = .ok (.invokestatic 54, 3) := by decide +kernel
theorem d_F_isOrder_14 : decode b_F_isOrder 14 = .ok (.ireturn, 1) := by decide +kernel
theorem d_F_isHeat_0 : decode b_F_isHeat 0 = .ok (.iload_n 1, 1) := by decide +kernel
theorem d_F_isHeat_1 : decode b_F_isHeat 1 = .ok (.iconst 0, 1) := by decide +kernel
theorem d_F_isHeat_2 : decode b_F_isHeat 2 = .ok (.aload_n 0, 1) := by decide +kernel
theorem d_F_isHeat_3 : decode b_F_isHeat 3 = .ok (.getfield 13, 3) := by decide +kernel
theorem d_F_isHeat_6 : decode b_F_isHeat 6 = .ok (.getfield 79, 3) := by decide +kernel
theorem d_F_isHeat_9 : decode b_F_isHeat 9 = .ok (.iconst 1, 1) := by decide +kernel
theorem d_F_isHeat_10 : decode b_F_isHeat 10 = .ok (.isub, 1) := by decide +kernel
theorem d_F_isHeat_11 : decode b_F_isHeat 11 = .ok (.invokestatic 54, 3) := by decide +kernel
theorem d_F_isHeat_14 : decode b_F_isHeat 14 = .ok (.ireturn, 1) := by decide +kernel
theorem d_F_isUnit_0 : decode b_F_isUnit 0 = .ok (.iload_n 0, 1) := by decide +kernel
theorem d_F_isUnit_1 : decode b_F_isUnit 1 = .ok (.iconst 0, 1) := by decide +kernel
theorem d_F_isUnit_2 : decode b_F_isUnit 2 = .ok (.iconst 2, 1) := by decide +kernel
theorem d_F_isUnit_3 : decode b_F_isUnit 3 = .ok (.invokestatic 54, 3) := by decide +kernel
theorem d_F_isUnit_6 : decode b_F_isUnit 6 = .ok (.ireturn, 1) := by decide +kernel
theorem d_F_isMinute_0 : decode b_F_isMinute 0 = .ok (.iload_n 0, 1) := by decide +kernel
theorem d_F_isMinute_1 : decode b_F_isMinute 1 = .ok (.iconst 0, 1) := by decide +kernel
theorem d_F_isMinute_2 : decode b_F_isMinute 2 = .ok (.bipush 59, 2) := by decide +kernel
theorem d_F_isMinute_4 : decode b_F_isMinute 4 = .ok (.invokestatic 54, 3) := by decide +kernel
theorem d_F_isMinute_7 : decode b_F_isMinute 7 = .ok (.ireturn, 1) := by decide +kernel
theorem d_F_isCopy_0 : decode b_F_isCopy 0 = .ok (.iload_n 0, 1) := by decide +kernel
theorem d_F_isCopy_1 : decode b_F_isCopy 1 = .ok (.iconst 0, 1) := by decide +kernel
theorem d_F_isCopy_2 : decode b_F_isCopy 2 = .ok (.iconst 3, 1) := by decide +kernel
theorem d_F_isCopy_3 : decode b_F_isCopy 3 = .ok (.invokestatic 54, 3) := by decide +kernel
theorem d_F_isCopy_6 : decode b_F_isCopy 6 = .ok (.ireturn, 1) := by decide +kernel
theorem d_F_isWithin_0 : decode b_F_isWithin 0 = .ok (.iload_n 0, 1) := by decide +kernel
theorem d_F_isWithin_1 : decode b_F_isWithin 1 = .ok (.iload_n 1, 1) := by decide +kernel
theorem d_F_isWithin_2 : decode b_F_isWithin 2 = .ok (.if_icmp .lt 12, 3) := by decide +kernel
theorem d_F_isWithin_5 : decode b_F_isWithin 5 = .ok (.iload_n 0, 1) := by decide +kernel
theorem d_F_isWithin_6 : decode b_F_isWithin 6 = .ok (.iload_n 2, 1) := by decide +kernel
theorem d_F_isWithin_7 : decode b_F_isWithin 7 = .ok (.if_icmp .gt 7, 3) := by decide +kernel
theorem d_F_isWithin_10 : decode b_F_isWithin 10 = .ok (.iconst 1, 1) := by decide +kernel
theorem d_F_isWithin_11 : decode b_F_isWithin 11 = .ok (.goto 4, 3) := by decide +kernel
theorem d_F_isWithin_14 : decode b_F_isWithin 14 = .ok (.iconst 0, 1) := by decide +kernel
theorem d_F_isWithin_15 : decode b_F_isWithin 15 = .ok (.ireturn, 1) := by decide +kernel
theorem d_F_mayTake_0 : decode b_F_mayTake 0 = .ok (.iload_n 0, 1) := by decide +kernel
theorem d_F_mayTake_1 : decode b_F_mayTake 1 = .ok (.iload_n 1, 1) := by decide +kernel
theorem d_F_mayTake_2 : decode b_F_mayTake 2 = .ok (.ishr, 1) := by decide +kernel
theorem d_F_mayTake_3 : decode b_F_mayTake 3 = .ok (.iconst 1, 1) := by decide +kernel
theorem d_F_mayTake_4 : decode b_F_mayTake 4 = .ok (.iand, 1) := by decide +kernel
theorem d_F_mayTake_5 : decode b_F_mayTake 5 = .ok (.iconst 1, 1) := by decide +kernel
theorem d_F_mayTake_6 : decode b_F_mayTake 6 = .ok (.if_icmp .ne 7, 3) := by decide +kernel
theorem d_F_mayTake_9 : decode b_F_mayTake 9 = .ok (.iconst 1, 1) := by decide +kernel
theorem d_F_mayTake_10 : decode b_F_mayTake 10 = .ok (.goto 4, 3) := by decide +kernel
theorem d_F_mayTake_13 : decode b_F_mayTake 13 = .ok (.iconst 0, 1) := by decide +kernel
theorem d_F_mayTake_14 : decode b_F_mayTake 14 = .ok (.ireturn, 1) := by decide +kernel
theorem d_F_minutesAsBits_0 : decode b_F_minutesAsBits 0 = .ok (.lconst 1, 1) := by decide +kernel
theorem d_F_minutesAsBits_1 : decode b_F_minutesAsBits 1 = .ok (.iload_n 1, 1) := by decide +kernel
theorem d_F_minutesAsBits_2 : decode b_F_minutesAsBits 2 = .ok (.lshl, 1) := by decide +kernel
theorem d_F_minutesAsBits_3 : decode b_F_minutesAsBits 3 = .ok (.lconst 1, 1) := by decide +kernel
theorem d_F_minutesAsBits_4 : decode b_F_minutesAsBits 4 = .ok (.lsub, 1) := by decide +kernel
theorem d_F_minutesAsBits_5 : decode b_F_minutesAsBits 5 = .ok (.iload_n 0, 1) := by decide +kernel
theorem d_F_minutesAsBits_6 : decode b_F_minutesAsBits 6 = .ok (.lshl, 1) := by decide +kernel
theorem d_F_minutesAsBits_7 : decode b_F_minutesAsBits 7 = .ok (.lreturn, 1) := by decide +kernel
theorem d_P_init_0 : decode b_P_init 0 = .ok (.aload_n 0, 1) := by decide +kernel
theorem d_P_init_1 : decode b_P_init 1 = .ok (.invokespecial 3, 3) := by decide +kernel
theorem d_P_init_4 : decode b_P_init 4 = .ok (.aload_n 0, 1) := by decide +kernel
theorem d_P_init_5 : decode b_P_init 5 = .ok (.bipush 6, 2) := by decide +kernel
theorem d_P_init_7 : decode b_P_init 7 = .ok (.newarray .int, 2) := by decide +kernel
theorem d_P_init_9 : decode b_P_init 9 = .ok (.putfield 9, 3) := by decide +kernel
theorem d_P_init_12 : decode b_P_init 12 = .ok (.aload_n 0, 1) := by decide +kernel
theorem d_P_init_13 : decode b_P_init 13 = .ok (.bipush 6, 2) := by decide +kernel
theorem d_P_init_15 : decode b_P_init 15 = .ok (.newarray .int, 2) := by decide +kernel
theorem d_P_init_17 : decode b_P_init 17 = .ok (.putfield 15, 3) := by decide +kernel
theorem d_P_init_20 : decode b_P_init 20 = .ok (.aload_n 0, 1) := by decide +kernel
theorem d_P_init_21 : decode b_P_init 21 = .ok (.bipush 6, 2) := by decide +kernel
theorem d_P_init_23 : decode b_P_init 23 = .ok (.newarray .int, 2) := by decide +kernel
theorem d_P_init_25 : decode b_P_init 25 = .ok (.putfield 18, 3) := by decide +kernel
theorem d_P_init_28 : decode b_P_init 28 = .ok (.return_, 1) := by decide +kernel
theorem d_P_put_0 : decode b_P_put 0 = .ok (.aload_n 0, 1) := by decide +kernel
theorem d_P_put_1 : decode b_P_put 1 = .ok (.getfield 9, 3) := by decide +kernel
theorem d_P_put_4 : decode b_P_put 4 = .ok (.iload_n 1, 1) := by decide +kernel
theorem d_P_put_5 : decode b_P_put 5 = .ok (.iload_n 2, 1) := by decide +kernel
theorem d_P_put_6 : decode b_P_put 6 = .ok (.iastore, 1) := by decide +kernel
theorem d_P_put_7 : decode b_P_put 7 = .ok (.aload_n 0, 1) := by decide +kernel
theorem d_P_put_8 : decode b_P_put 8 = .ok (.getfield 15, 3) := by decide +kernel
theorem d_P_put_11 : decode b_P_put 11 = .ok (.iload_n 1, 1) := by decide +kernel
theorem d_P_put_12 : decode b_P_put 12 = .ok (.iload_n 3, 1) := by decide +kernel
theorem d_P_put_13 : decode b_P_put 13 = .ok (.iastore, 1) := by decide +kernel
theorem d_P_put_14 : decode b_P_put 14 = .ok (.return_, 1) := by decide +kernel
theorem d_P_takeFrom_0 : decode b_P_takeFrom 0 = .ok (.iconst 0, 1) := by decide +kernel
theorem d_P_takeFrom_1 : decode b_P_takeFrom 1 = .ok (.istore_n 2, 1) := by decide +kernel
theorem d_P_takeFrom_2 : decode b_P_takeFrom 2 = .ok (.iload_n 2, 1) := by decide +kernel
theorem d_P_takeFrom_3 : decode b_P_takeFrom 3 = .ok (.bipush 6, 2) := by decide +kernel
theorem d_P_takeFrom_5 : decode b_P_takeFrom 5 = .ok (.if_icmp .ge 45, 3) := by decide +kernel
theorem d_P_takeFrom_8 : decode b_P_takeFrom 8 = .ok (.aload_n 0, 1) := by decide +kernel
theorem d_P_takeFrom_9 : decode b_P_takeFrom 9 = .ok (.getfield 9, 3) := by decide +kernel
theorem d_P_takeFrom_12 : decode b_P_takeFrom 12 = .ok (.iload_n 2, 1) := by decide +kernel
theorem d_P_takeFrom_13 : decode b_P_takeFrom 13 = .ok (.aload_n 1, 1) := by decide +kernel
theorem d_P_takeFrom_14 : decode b_P_takeFrom 14 = .ok (.getfield 9, 3) := by decide +kernel
theorem d_P_takeFrom_17 : decode b_P_takeFrom 17 = .ok (.iload_n 2, 1) := by decide +kernel
theorem d_P_takeFrom_18 : decode b_P_takeFrom 18 = .ok (.iaload, 1) := by decide +kernel
theorem d_P_takeFrom_19 : decode b_P_takeFrom 19 = .ok (.iastore, 1) := by decide +kernel
theorem d_P_takeFrom_20 : decode b_P_takeFrom 20 = .ok (.aload_n 0, 1) := by decide +kernel
theorem d_P_takeFrom_21 : decode b_P_takeFrom 21 = .ok (.getfield 15, 3) := by decide +kernel
theorem d_P_takeFrom_24 : decode b_P_takeFrom 24 = .ok (.iload_n 2, 1) := by decide +kernel
theorem d_P_takeFrom_25 : decode b_P_takeFrom 25 = .ok (.aload_n 1, 1) := by decide +kernel
theorem d_P_takeFrom_26 : decode b_P_takeFrom 26 = .ok (.getfield 15, 3) := by decide +kernel
theorem d_P_takeFrom_29 : decode b_P_takeFrom 29 = .ok (.iload_n 2, 1) := by decide +kernel
theorem d_P_takeFrom_30 : decode b_P_takeFrom 30 = .ok (.iaload, 1) := by decide +kernel
theorem d_P_takeFrom_31 : decode b_P_takeFrom 31 = .ok (.iastore, 1) := by decide +kernel
theorem d_P_takeFrom_32 : decode b_P_takeFrom 32 = .ok (.aload_n 0, 1) := by decide +kernel
theorem d_P_takeFrom_33 : decode b_P_takeFrom 33 = .ok (.getfield 18, 3) := by decide +kernel
theorem d_P_takeFrom_36 : decode b_P_takeFrom 36 = .ok (.iload_n 2, 1) := by decide +kernel
theorem d_P_takeFrom_37 : decode b_P_takeFrom 37 = .ok (.aload_n 1, 1) := by decide +kernel
theorem d_P_takeFrom_38 : decode b_P_takeFrom 38 = .ok (.getfield 18, 3) := by decide +kernel
theorem d_P_takeFrom_41 : decode b_P_takeFrom 41 = .ok (.iload_n 2, 1) := by decide +kernel
theorem d_P_takeFrom_42 : decode b_P_takeFrom 42 = .ok (.iaload, 1) := by decide +kernel
theorem d_P_takeFrom_43 : decode b_P_takeFrom 43 = .ok (.iastore, 1) := by decide +kernel
theorem d_P_takeFrom_44 : decode b_P_takeFrom 44 = .ok (.iinc 2 1, 3) := by decide +kernel
theorem d_P_takeFrom_47 : decode b_P_takeFrom 47 = .ok (.goto (-45), 3) := by decide +kernel
theorem d_P_takeFrom_50 : decode b_P_takeFrom 50 = .ok (.return_, 1) := by decide +kernel
theorem d_P_isAt_0 : decode b_P_isAt 0 = .ok (.aload_n 0, 1) := by decide +kernel
theorem d_P_isAt_1 : decode b_P_isAt 1 = .ok (.getfield 9, 3) := by decide +kernel
theorem d_P_isAt_4 : decode b_P_isAt 4 = .ok (.iload_n 1, 1) := by decide +kernel
theorem d_P_isAt_5 : decode b_P_isAt 5 = .ok (.iaload, 1) := by decide +kernel
theorem d_P_isAt_6 : decode b_P_isAt 6 = .ok (.iload_n 2, 1) := by decide +kernel
theorem d_P_isAt_7 : decode b_P_isAt 7 = .ok (.if_icmp .ne 17, 3) := by decide +kernel
theorem d_P_isAt_10 : decode b_P_isAt 10 = .ok (.aload_n 0, 1) := by decide +kernel
theorem d_P_isAt_11 : decode b_P_isAt 11 = .ok (.getfield 15, 3) := by decide +kernel
theorem d_P_isAt_14 : decode b_P_isAt 14 = .ok (.iload_n 1, 1) := by decide +kernel
theorem d_P_isAt_15 : decode b_P_isAt 15 = .ok (.iaload, 1) := by decide +kernel
theorem d_P_isAt_16 : decode b_P_isAt 16 = .ok (.iload_n 3, 1) := by decide +kernel
theorem d_P_isAt_17 : decode b_P_isAt 17 = .ok (.if_icmp .ne 7, 3) := by decide +kernel
theorem d_P_isAt_20 : decode b_P_isAt 20 = .ok (.iconst 1, 1) := by decide +kernel
theorem d_P_isAt_21 : decode b_P_isAt 21 = .ok (.goto 4, 3) := by decide +kernel
theorem d_P_isAt_24 : decode b_P_isAt 24 = .ok (.iconst 0, 1) := by decide +kernel
theorem d_P_isAt_25 : decode b_P_isAt 25 = .ok (.ireturn, 1) := by decide +kernel
theorem d_P_isSameIn_0 : decode b_P_isSameIn 0 = .ok (.aload_n 0, 1) := by decide +kernel
theorem d_P_isSameIn_1 : decode b_P_isSameIn 1 = .ok (.iload_n 2, 1) := by decide +kernel
theorem d_P_isSameIn_2 : decode b_P_isSameIn 2 = .ok (.aload_n 1, 1) := by decide +kernel
theorem d_P_isSameIn_3 : decode b_P_isSameIn 3 = .ok (.getfield 9, 3) := by decide +kernel
theorem d_P_isSameIn_6 : decode b_P_isSameIn 6 = .ok (.iload_n 2, 1) := by decide +kernel
theorem d_P_isSameIn_7 : decode b_P_isSameIn 7 = .ok (.iaload, 1) := by decide +kernel
theorem d_P_isSameIn_8 : decode b_P_isSameIn 8 = .ok (.aload_n 1, 1) := by decide +kernel
theorem d_P_isSameIn_9 : decode b_P_isSameIn 9 = .ok (.getfield 15, 3) := by decide +kernel
theorem d_P_isSameIn_12 : decode b_P_isSameIn 12 = .ok (.iload_n 2, 1) := by decide +kernel
theorem d_P_isSameIn_13 : decode b_P_isSameIn 13 = .ok (.iaload, 1) := by decide +kernel
theorem d_P_isSameIn_14 : decode b_P_isSameIn 14 = .ok (.invokevirtual 21, 3) := by decide +kernel
theorem d_P_isSameIn_17 : decode b_P_isSameIn 17 = .ok (.ifCond .eq 22, 3) := by decide +kernel
theorem d_P_isSameIn_20 : decode b_P_isSameIn 20 = .ok (.aload_n 0, 1) := by decide +kernel
theorem d_P_isSameIn_21 : decode b_P_isSameIn 21 = .ok (.getfield 18, 3) := by decide +kernel
theorem d_P_isSameIn_24 : decode b_P_isSameIn 24 = .ok (.iload_n 2, 1) := by decide +kernel
theorem d_P_isSameIn_25 : decode b_P_isSameIn 25 = .ok (.iaload, 1) := by decide +kernel
theorem d_P_isSameIn_26 : decode b_P_isSameIn 26 = .ok (.aload_n 1, 1) := by decide +kernel
theorem d_P_isSameIn_27 : decode b_P_isSameIn 27 = .ok (.getfield 18, 3) := by decide +kernel
theorem d_P_isSameIn_30 : decode b_P_isSameIn 30 = .ok (.iload_n 2, 1) := by decide +kernel
theorem d_P_isSameIn_31 : decode b_P_isSameIn 31 = .ok (.iaload, 1) := by decide +kernel
theorem d_P_isSameIn_32 : decode b_P_isSameIn 32 = .ok (.if_icmp .ne 7, 3) := by decide +kernel
theorem d_P_isSameIn_35 : decode b_P_isSameIn 35 = .ok (.iconst 1, 1) := by decide +kernel
theorem d_P_isSameIn_36 : decode b_P_isSameIn 36 = .ok (.goto 4, 3) := by decide +kernel
theorem d_P_isSameIn_39 : decode b_P_isSameIn 39 = .ok (.iconst 0, 1) := by decide +kernel
theorem d_P_isSameIn_40 : decode b_P_isSameIn 40 = .ok (.ireturn, 1) := by decide +kernel
theorem d_Q_init_0 : decode b_Q_init 0 = .ok (.aload_n 0, 1) := by decide +kernel
theorem d_Q_init_1 : decode b_Q_init 1 = .ok (.invokespecial 3, 3) := by decide +kernel
theorem d_Q_init_4 : decode b_Q_init 4 = .ok (.aload_n 0, 1) := by decide +kernel
theorem d_Q_init_5 : decode b_Q_init 5 = .ok (.aload_n 1, 1) := by decide +kernel
theorem d_Q_init_6 : decode b_Q_init 6 = .ok (.putfield 9, 3) := by decide +kernel
theorem d_Q_init_9 : decode b_Q_init 9 = .ok (.aload_n 0, 1) := by decide +kernel
theorem d_Q_init_10 : decode b_Q_init 10 = .ok (.aload_n 2, 1) := by decide +kernel
theorem d_Q_init_11 : decode b_Q_init 11 = .ok (.putfield 15, 3) := by decide +kernel
theorem d_Q_init_14 : decode b_Q_init 14 = .ok (.aload_n 0, 1) := by decide +kernel
theorem d_Q_init_15 : decode b_Q_init 15 = .ok (.new 19, 3) := by decide +kernel
theorem d_Q_init_18 : decode b_Q_init 18 = .ok (.dup, 1) := by decide +kernel
theorem d_Q_init_19 : decode b_Q_init 19 = .ok (.invokespecial 21, 3) := by decide +kernel
theorem d_Q_init_22 : decode b_Q_init 22 = .ok (.putfield 22, 3) := by decide +kernel
theorem d_Q_init_25 : decode b_Q_init 25 = .ok (.aload_n 0, 1) := by decide +kernel
theorem d_Q_init_26 : decode b_Q_init 26 = .ok (.new 19, 3) := by decide +kernel
theorem d_Q_init_29 : decode b_Q_init 29 = .ok (.dup, 1) := by decide +kernel
theorem d_Q_init_30 : decode b_Q_init 30 = .ok (.invokespecial 21, 3) := by decide +kernel
theorem d_Q_init_33 : decode b_Q_init 33 = .ok (.putfield 25, 3) := by decide +kernel
theorem d_Q_init_36 : decode b_Q_init 36 = .ok (.aload_n 0, 1) := by decide +kernel
theorem d_Q_init_37 : decode b_Q_init 37 = .ok (.iconst 3, 1) := by decide +kernel
theorem d_Q_init_38 : decode b_Q_init 38 = .ok (.newarray .long, 2) := by decide +kernel
theorem d_Q_init_40 : decode b_Q_init 40 = .ok (.putfield 28, 3) := by decide +kernel
theorem d_Q_init_43 : decode b_Q_init 43 = .ok (.return_, 1) := by decide +kernel
theorem d_Q_hasFound_0 : decode b_Q_hasFound 0 = .ok (.aload_n 0, 1) := by decide +kernel
theorem d_Q_hasFound_1 : decode b_Q_hasFound 1 = .ok (.getfield 32, 3) := by decide +kernel
theorem d_Q_hasFound_4 : decode b_Q_hasFound 4 = .ok (.ldc 36, 2) := by decide +kernel
theorem d_Q_hasFound_6 : decode b_Q_hasFound 6 = .ok (.if_icmp .ge 7, 3) := by decide +kernel
theorem d_Q_hasFound_9 : decode b_Q_hasFound 9 = .ok (.iconst 1, 1) := by decide +kernel
theorem d_Q_hasFound_10 : decode b_Q_hasFound 10 = .ok (.goto 4, 3) := by decide +kernel
theorem d_Q_hasFound_13 : decode b_Q_hasFound 13 = .ok (.iconst 0, 1) := by decide +kernel
theorem d_Q_hasFound_14 : decode b_Q_hasFound 14 = .ok (.ireturn, 1) := by decide +kernel
theorem d_Q_replan_0 : decode b_Q_replan 0 = .ok (.aload_n 0, 1) := by decide +kernel
theorem d_Q_replan_1 : decode b_Q_replan 1 = .ok (.iconst 1, 1) := by decide +kernel
theorem d_Q_replan_2 : decode b_Q_replan 2 = .ok (.putfield 37, 3) := by decide +kernel
theorem d_Q_replan_5 : decode b_Q_replan 5 = .ok (.aload_n 0, 1) := by decide +kernel
theorem d_Q_replan_6 : decode b_Q_replan 6 = .ok (.iload_n 1, 1) := by decide +kernel
theorem d_Q_replan_7 : decode b_Q_replan 7 = .ok (.putfield 41, 3) := by decide +kernel
theorem d_Q_replan_10 : decode b_Q_replan 10 = .ok (.aload_n 0, 1) := by decide +kernel
theorem d_Q_replan_11 : decode b_Q_replan 11 = .ok (.iconst 0, 1) := by decide +kernel
theorem d_Q_replan_12 : decode b_Q_replan 12 = .ok (.putfield 44, 3) := by decide +kernel
theorem d_Q_replan_15 : decode b_Q_replan 15 = .ok (.aload_n 0, 1) := by decide +kernel
theorem d_Q_replan_16 : decode b_Q_replan 16 = .ok (.iconst 0, 1) := by decide +kernel
theorem d_Q_replan_17 : decode b_Q_replan 17 = .ok (.putfield 47, 3) := by decide +kernel
theorem d_Q_replan_20 : decode b_Q_replan 20 = .ok (.aload_n 0, 1) := by decide +kernel
theorem d_Q_replan_21 : decode b_Q_replan 21 = .ok (.ldc 36, 2) := by decide +kernel
theorem d_Q_replan_23 : decode b_Q_replan 23 = .ok (.putfield 32, 3) := by decide +kernel
theorem d_Q_replan_26 : decode b_Q_replan 26 = .ok (.aload_n 0, 1) := by decide +kernel
theorem d_Q_replan_27 : decode b_Q_replan 27 = .ok (.iconst 0, 1) := by decide +kernel
theorem d_Q_replan_28 : decode b_Q_replan 28 = .ok (.putfield 50, 3) := by decide +kernel
theorem d_Q_replan_31 : decode b_Q_replan 31 = .ok (.aload_n 0, 1) := by decide +kernel
theorem d_Q_replan_32 : decode b_Q_replan 32 = .ok (.iconst 0, 1) := by decide +kernel
theorem d_Q_replan_33 : decode b_Q_replan 33 = .ok (.putfield 53, 3) := by decide +kernel
theorem d_Q_replan_36 : decode b_Q_replan 36 = .ok (.aload_n 0, 1) := by decide +kernel
theorem d_Q_replan_37 : decode b_Q_replan 37 = .ok (.getfield 22, 3) := by decide +kernel
theorem d_Q_replan_40 : decode b_Q_replan 40 = .ok (.aload_n 0, 1) := by decide +kernel
theorem d_Q_replan_41 : decode b_Q_replan 41 = .ok (.getfield 15, 3) := by decide +kernel
theorem d_Q_replan_44 : decode b_Q_replan 44 = .ok (.invokevirtual 56, 3) := by decide +kernel
theorem d_Q_replan_47 : decode b_Q_replan 47 = .ok (.aload_n 0, 1) := by decide +kernel
theorem d_Q_replan_48 : decode b_Q_replan 48 = .ok (.invokevirtual 60, 3) := by decide +kernel
theorem d_Q_replan_51 : decode b_Q_replan 51 = .ok (.istore_n 2, 1) := by decide +kernel
theorem d_Q_replan_52 : decode b_Q_replan 52 = .ok (.iload_n 2, 1) := by decide +kernel
theorem d_Q_replan_53 : decode b_Q_replan 53 = .ok (.invokestatic 64, 3) := by decide +kernel
theorem d_Q_replan_56 : decode b_Q_replan 56 = .ok (.istore_n 3, 1) := by decide +kernel
theorem d_Q_replan_57 : decode b_Q_replan 57 = .ok (.aload_n 0, 1) := by decide +kernel
theorem d_Q_replan_58 : decode b_Q_replan 58 = .ok (.iload_n 2, 1) := by decide +kernel
theorem d_Q_replan_59 : decode b_Q_replan 59 = .ok (.invokevirtual 70, 3) := by decide +kernel
theorem d_Q_replan_62 : decode b_Q_replan 62 = .ok (.aload_n 0, 1) := by decide +kernel
theorem d_Q_replan_63 : decode b_Q_replan 63 = .ok (.getfield 53, 3) := by decide +kernel
theorem d_Q_replan_66 : decode b_Q_replan 66 = .ok (.iload_n 3, 1) := by decide +kernel
theorem d_Q_replan_67 : decode b_Q_replan 67 = .ok (.if_icmp .ge 35, 3) := by decide +kernel
theorem d_Q_replan_70 : decode b_Q_replan 70 = .ok (.aload_n 0, 1) := by decide +kernel
theorem d_Q_replan_71 : decode b_Q_replan 71 = .ok (.getfield 47, 3) := by decide +kernel
theorem d_Q_replan_74 : decode b_Q_replan 74 = .ok (.ifCond .ne 28, 3) := by decide +kernel
theorem d_Q_replan_77 : decode b_Q_replan 77 = .ok (.aload_n 0, 1) := by decide +kernel
theorem d_Q_replan_78 : decode b_Q_replan 78 = .ok (.invokevirtual 74, 3) := by decide +kernel
theorem d_Q_replan_81 : decode b_Q_replan 81 = .ok (.ifCond .ne 21, 3) := by decide +kernel
theorem d_Q_replan_84 : decode b_Q_replan 84 = .ok (.aload_n 0, 1) := by decide +kernel
theorem d_Q_replan_85 : decode b_Q_replan 85 = .ok (.dup, 1) := by decide +kernel
theorem d_Q_replan_86 : decode b_Q_replan 86 = .ok (.getfield 53, 3) := by decide +kernel
theorem d_Q_replan_89 : decode b_Q_replan 89 = .ok (.iconst 1, 1) := by decide +kernel
theorem d_Q_replan_90 : decode b_Q_replan 90 = .ok (.iadd, 1) := by decide +kernel
theorem d_Q_replan_91 : decode b_Q_replan 91 = .ok (.putfield 53, 3) := by decide +kernel
theorem d_Q_replan_94 : decode b_Q_replan 94 = .ok (.aload_n 0, 1) := by decide +kernel
theorem d_Q_replan_95 : decode b_Q_replan 95 = .ok (.iload_n 2, 1) := by decide +kernel
theorem d_Q_replan_96 : decode b_Q_replan 96 = .ok (.invokevirtual 70, 3) := by decide +kernel
theorem d_Q_replan_99 : decode b_Q_replan 99 = .ok (.goto (-37), 3) := by decide +kernel
theorem d_Q_replan_102 : decode b_Q_replan 102 = .ok (.return_, 1) := by decide +kernel
theorem d_Q_looseHeats_0 : decode b_Q_looseHeats 0 = .ok (.iconst 0, 1) := by decide +kernel
theorem d_Q_looseHeats_1 : decode b_Q_looseHeats 1 = .ok (.istore_n 1, 1) := by decide +kernel
theorem d_Q_looseHeats_2 : decode b_Q_looseHeats 2 = .ok (.iconst 0, 1) := by decide +kernel
theorem d_Q_looseHeats_3 : decode b_Q_looseHeats 3 = .ok (.istore_n 2, 1) := by decide +kernel
theorem d_Q_looseHeats_4 : decode b_Q_looseHeats 4 = .ok (.iload_n 2, 1) := by decide +kernel
theorem d_Q_looseHeats_5 : decode b_Q_looseHeats 5 = .ok (.aload_n 0, 1) := by decide +kernel
theorem d_Q_looseHeats_6 : decode b_Q_looseHeats 6 = .ok (.getfield 9, 3) := by decide +kernel
theorem d_Q_looseHeats_9 : decode b_Q_looseHeats 9 = .ok (.getfield 78, 3) := by decide +kernel
theorem d_Q_looseHeats_12 : decode b_Q_looseHeats 12 = .ok (.if_icmp .ge 30, 3) := by decide +kernel
theorem d_Q_looseHeats_15 : decode b_Q_looseHeats 15 = .ok (.aload_n 0, 1) := by decide +kernel
theorem d_Q_looseHeats_16 : decode b_Q_looseHeats 16 = .ok (.getfield 9, 3) := by decide +kernel
theorem d_Q_looseHeats_19 : decode b_Q_looseHeats 19 = .ok (.aload_n 0, 1) := by decide +kernel
theorem d_Q_looseHeats_20 : decode b_Q_looseHeats 20 = .ok (.getfield 15, 3) := by decide +kernel
theorem d_Q_looseHeats_23 : decode b_Q_looseHeats 23 = .ok (.iload_n 2, 1) := by decide +kernel
theorem d_Q_looseHeats_24 : decode b_Q_looseHeats 24 = .ok (.invokevirtual 83, 3) := by decide +kernel
theorem d_Q_looseHeats_27 : decode b_Q_looseHeats 27 = .ok (.ifCond .ne 9, 3) := by decide +kernel
theorem d_Q_looseHeats_30 : decode b_Q_looseHeats 30 = .ok (.iload_n 1, 1) := by decide +kernel
theorem d_Q_looseHeats_31 : decode b_Q_looseHeats 31 = .ok (.iconst 1, 1) := by decide +kernel
theorem d_Q_looseHeats_32 : decode b_Q_looseHeats 32 = .ok (.iload_n 2, 1) := by decide +kernel
theorem d_Q_looseHeats_33 : decode b_Q_looseHeats 33 = .ok (.ishl, 1) := by decide +kernel
theorem d_Q_looseHeats_34 : decode b_Q_looseHeats 34 = .ok (.ior, 1) := by decide +kernel
theorem d_Q_looseHeats_35 : decode b_Q_looseHeats 35 = .ok (.istore_n 1, 1) := by decide +kernel
theorem d_Q_looseHeats_36 : decode b_Q_looseHeats 36 = .ok (.iinc 2 1, 3) := by decide +kernel
theorem d_Q_looseHeats_39 : decode b_Q_looseHeats 39 = .ok (.goto (-35), 3) := by decide +kernel
theorem d_Q_looseHeats_42 : decode b_Q_looseHeats 42 = .ok (.iload_n 1, 1) := by decide +kernel
theorem d_Q_looseHeats_43 : decode b_Q_looseHeats 43 = .ok (.ireturn, 1) := by decide +kernel
theorem d_Q_searchRound_0 : decode b_Q_searchRound 0 = .ok (.iconst 0, 1) := by decide +kernel
theorem d_Q_searchRound_1 : decode b_Q_searchRound 1 = .ok (.istore_n 2, 1) := by decide +kernel
theorem d_Q_searchRound_2 : decode b_Q_searchRound 2 = .ok (.iload_n 2, 1) := by decide +kernel
theorem d_Q_searchRound_3 : decode b_Q_searchRound 3 = .ok (.iload_n 1, 1) := by decide +kernel
theorem d_Q_searchRound_4 : decode b_Q_searchRound 4 = .ok (.if_icmp .gt 40, 3) := by decide +kernel
theorem d_Q_searchRound_7 : decode b_Q_searchRound 7 = .ok (.aload_n 0, 1) := by decide +kernel
theorem d_Q_searchRound_8 : decode b_Q_searchRound 8 = .ok (.getfield 47, 3) := by decide +kernel
theorem d_Q_searchRound_11 : decode b_Q_searchRound 11 = .ok (.ifCond .ne 33, 3) := by decide +kernel
theorem d_Q_searchRound_14 : decode b_Q_searchRound 14 = .ok (.iload_n 2, 1) := by decide +kernel
theorem d_Q_searchRound_15 : decode b_Q_searchRound 15 = .ok (.iload_n 1, 1) := by decide +kernel
theorem d_Q_searchRound_16 : decode b_Q_searchRound 16 = .ok (.iconst (-1), 1) := by decide +kernel
theorem d_Q_searchRound_17 : decode b_Q_searchRound 17 = .ok (.ixor, 1) := by decide +kernel
theorem d_Q_searchRound_18 : decode b_Q_searchRound 18 = .ok (.iand, 1) := by decide +kernel
theorem d_Q_searchRound_19 : decode b_Q_searchRound 19 = .ok (.ifCond .ne 19, 3) := by decide +kernel
theorem d_Q_searchRound_22 : decode b_Q_searchRound 22 = .ok (.iload_n 2, 1) := by decide +kernel
theorem d_Q_searchRound_23 : decode b_Q_searchRound 23 = .ok (.invokestatic 64, 3) := by decide +kernel
theorem d_Q_searchRound_26 : decode b_Q_searchRound 26 = .ok (.aload_n 0, 1) := by decide +kernel
theorem d_Q_searchRound_27 : decode b_Q_searchRound 27 = .ok (.getfield 53, 3) := by decide +kernel
theorem d_Q_searchRound_30 : decode b_Q_searchRound 30 = .ok (.if_icmp .ne 8, 3) := by decide +kernel
theorem d_Q_searchRound_33 : decode b_Q_searchRound 33 = .ok (.aload_n 0, 1) := by decide +kernel
theorem d_Q_searchRound_34 : decode b_Q_searchRound 34 = .ok (.iload_n 2, 1) := by decide +kernel
theorem d_Q_searchRound_35 : decode b_Q_searchRound 35 = .ok (.invokevirtual 87, 3) := by decide +kernel
theorem d_Q_searchRound_38 : decode b_Q_searchRound 38 = .ok (.iinc 2 1, 3) := by decide +kernel
theorem d_Q_searchRound_41 : decode b_Q_searchRound 41 = .ok (.goto (-39), 3) := by decide +kernel
theorem d_Q_searchRound_44 : decode b_Q_searchRound 44 = .ok (.return_, 1) := by decide +kernel
theorem d_Q_searchSet_0 : decode b_Q_searchSet 0 = .ok (.aload_n 0, 1) := by decide +kernel
theorem d_Q_searchSet_1 : decode b_Q_searchSet 1 = .ok (.iload_n 1, 1) := by decide +kernel
theorem d_Q_searchSet_2 : decode b_Q_searchSet 2 = .ok (.putfield 90, 3) := by decide +kernel
theorem d_Q_searchSet_5 : decode b_Q_searchSet 5 = .ok (.aload_n 0, 1) := by decide +kernel
theorem d_Q_searchSet_6 : decode b_Q_searchSet 6 = .ok (.invokevirtual 93, 3) := by decide +kernel
theorem d_Q_searchSet_9 : decode b_Q_searchSet 9 = .ok (.ifCond .ne 4, 3) := by decide +kernel
theorem d_Q_searchSet_12 : decode b_Q_searchSet 12 = .ok (.return_, 1) := by decide +kernel
theorem d_Q_searchSet_13 : decode b_Q_searchSet 13 = .ok (.aload_n 0, 1) := by decide +kernel
theorem d_Q_searchSet_14 : decode b_Q_searchSet 14 = .ok (.invokevirtual 96, 3) := by decide +kernel
theorem d_Q_searchSet_17 : decode b_Q_searchSet 17 = .ok (.istore_n 2, 1) := by decide +kernel
theorem d_Q_searchSet_18 : decode b_Q_searchSet 18 = .ok (.iload_n 2, 1) := by decide +kernel
theorem d_Q_searchSet_19 : decode b_Q_searchSet 19 = .ok (.aload_n 0, 1) := by decide +kernel
theorem d_Q_searchSet_20 : decode b_Q_searchSet 20 = .ok (.getfield 32, 3) := by decide +kernel
theorem d_Q_searchSet_23 : decode b_Q_searchSet 23 = .ok (.if_icmp .ge 9, 3) := by decide +kernel
theorem d_Q_searchSet_26 : decode b_Q_searchSet 26 = .ok (.aload_n 0, 1) := by decide +kernel
theorem d_Q_searchSet_27 : decode b_Q_searchSet 27 = .ok (.iconst 0, 1) := by decide +kernel
theorem d_Q_searchSet_28 : decode b_Q_searchSet 28 = .ok (.iload_n 2, 1) := by decide +kernel
theorem d_Q_searchSet_29 : decode b_Q_searchSet 29 = .ok (.invokevirtual 99, 3) := by decide +kernel
theorem d_Q_searchSet_32 : decode b_Q_searchSet 32 = .ok (.return_, 1) := by decide +kernel
theorem d_Q_isInSet_0 : decode b_Q_isInSet 0 = .ok (.aload_n 0, 1) := by decide +kernel
theorem d_Q_isInSet_1 : decode b_Q_isInSet 1 = .ok (.getfield 90, 3) := by decide +kernel
theorem d_Q_isInSet_4 : decode b_Q_isInSet 4 = .ok (.iload_n 1, 1) := by decide +kernel
theorem d_Q_isInSet_5 : decode b_Q_isInSet 5 = .ok (.ishr, 1) := by decide +kernel
theorem d_Q_isInSet_6 : decode b_Q_isInSet 6 = .ok (.iconst 1, 1) := by decide +kernel
theorem d_Q_isInSet_7 : decode b_Q_isInSet 7 = .ok (.iand, 1) := by decide +kernel
theorem d_Q_isInSet_8 : decode b_Q_isInSet 8 = .ok (.iconst 1, 1) := by decide +kernel
theorem d_Q_isInSet_9 : decode b_Q_isInSet 9 = .ok (.if_icmp .ne 7, 3) := by decide +kernel
theorem d_Q_isInSet_12 : decode b_Q_isInSet 12 = .ok (.iconst 1, 1) := by decide +kernel
theorem d_Q_isInSet_13 : decode b_Q_isInSet 13 = .ok (.goto 4, 3) := by decide +kernel
theorem d_Q_isInSet_16 : decode b_Q_isInSet 16 = .ok (.iconst 0, 1) := by decide +kernel
theorem d_Q_isInSet_17 : decode b_Q_isInSet 17 = .ok (.ireturn, 1) := by decide +kernel
theorem d_Q_canOthersStay_0 : decode b_Q_canOthersStay 0 = .ok (.iconst 0, 1) := by decide +kernel
theorem d_Q_canOthersStay_1 : decode b_Q_canOthersStay 1 = .ok (.istore_n 1, 1) := by decide +kernel
theorem d_Q_canOthersStay_2 : decode b_Q_canOthersStay 2 = .ok (.iload_n 1, 1) := by decide +kernel
theorem d_Q_canOthersStay_3 : decode b_Q_canOthersStay 3 = .ok (.iconst 3, 1) := by decide +kernel
theorem d_Q_canOthersStay_4 : decode b_Q_canOthersStay 4 = .ok (.if_icmp .ge 24, 3) := by decide +kernel
theorem d_Q_canOthersStay_7 : decode b_Q_canOthersStay 7 = .ok (.aload_n 0, 1) := by decide +kernel
theorem d_Q_canOthersStay_8 : decode b_Q_canOthersStay 8 = .ok (.getfield 28, 3) := by decide +kernel
theorem d_Q_canOthersStay_11 : decode b_Q_canOthersStay 11 = .ok (.iload_n 1, 1) := by decide +kernel
theorem d_Q_canOthersStay_12 : decode b_Q_canOthersStay 12 = .ok (.aload_n 0, 1) := by decide +kernel
theorem d_Q_canOthersStay_13 : decode b_Q_canOthersStay 13 = .ok (.getfield 9, 3) := by decide +kernel
theorem d_Q_canOthersStay_16 : decode b_Q_canOthersStay 16 = .ok (.getfield 103, 3) := by decide +kernel
theorem d_Q_canOthersStay_19 : decode b_Q_canOthersStay 19 = .ok (.iload_n 1, 1) := by decide +kernel
theorem d_Q_canOthersStay_20 : decode b_Q_canOthersStay 20 = .ok (.laload, 1) := by decide +kernel
theorem d_Q_canOthersStay_21 : decode b_Q_canOthersStay 21 = .ok (.lastore, 1) := by decide +kernel
theorem d_Q_canOthersStay_22 : decode b_Q_canOthersStay 22 = .ok (.iinc 1 1, 3) := by decide +kernel
theorem d_Q_canOthersStay_25 : decode b_Q_canOthersStay 25 = .ok (.goto (-23), 3) := by decide +kernel
theorem d_Q_canOthersStay_28 : decode b_Q_canOthersStay 28 = .ok (.iconst 0, 1) := by decide +kernel
theorem d_Q_canOthersStay_29 : decode b_Q_canOthersStay 29 = .ok (.istore_n 1, 1) := by decide +kernel
theorem d_Q_canOthersStay_30 : decode b_Q_canOthersStay 30 = .ok (.iload_n 1, 1) := by decide +kernel
theorem d_Q_canOthersStay_31 : decode b_Q_canOthersStay 31 = .ok (.aload_n 0, 1) := by decide +kernel
theorem d_Q_canOthersStay_32 : decode b_Q_canOthersStay 32 = .ok (.getfield 9, 3) := by decide +kernel
theorem d_Q_canOthersStay_35 : decode b_Q_canOthersStay 35 = .ok (.getfield 78, 3) := by decide +kernel
theorem d_Q_canOthersStay_38 : decode b_Q_canOthersStay 38 = .ok (.if_icmp .ge 92, 3) := by decide +kernel
theorem d_Q_canOthersStay_41 : decode b_Q_canOthersStay 41 = .ok (.aload_n 0, 1) := by decide +kernel
theorem d_Q_canOthersStay_42 : decode b_Q_canOthersStay 42 = .ok (.iload_n 1, 1) := by decide +kernel
theorem d_Q_canOthersStay_43 : decode b_Q_canOthersStay 43 = .ok (.invokevirtual 106, 3) := by decide +kernel
theorem d_Q_canOthersStay_46 : decode b_Q_canOthersStay 46 = .ok (.ifCond .ne 78, 3) := by decide +kernel
theorem d_Q_canOthersStay_49 : decode b_Q_canOthersStay 49 = .ok (.aload_n 0, 1) := by decide +kernel
theorem d_Q_canOthersStay_50 : decode b_Q_canOthersStay 50 = .ok (.getfield 15, 3) := by decide +kernel
theorem d_Q_canOthersStay_53 : decode b_Q_canOthersStay 53 = .ok (.getfield 110, 3) := by decide +kernel
theorem d_Q_canOthersStay_56 : decode b_Q_canOthersStay 56 = .ok (.iload_n 1, 1) := by decide +kernel
theorem d_Q_canOthersStay_57 : decode b_Q_canOthersStay 57 = .ok (.iaload, 1) := by decide +kernel
theorem d_Q_canOthersStay_58 : decode b_Q_canOthersStay 58 = .ok (.istore_n 2, 1) := by decide +kernel
theorem d_Q_canOthersStay_59 : decode b_Q_canOthersStay 59 = .ok (.aload_n 0, 1) := by decide +kernel
theorem d_Q_canOthersStay_60 : decode b_Q_canOthersStay 60 = .ok (.getfield 15, 3) := by decide +kernel
theorem d_Q_canOthersStay_63 : decode b_Q_canOthersStay 63 = .ok (.getfield 114, 3) := by decide +kernel
theorem d_Q_canOthersStay_66 : decode b_Q_canOthersStay 66 = .ok (.iload_n 1, 1) := by decide +kernel
theorem d_Q_canOthersStay_67 : decode b_Q_canOthersStay 67 = .ok (.iaload, 1) := by decide +kernel
theorem d_Q_canOthersStay_68 : decode b_Q_canOthersStay 68 = .ok (.aload_n 0, 1) := by decide +kernel
theorem d_Q_canOthersStay_69 : decode b_Q_canOthersStay 69 = .ok (.getfield 9, 3) := by decide +kernel
theorem d_Q_canOthersStay_72 : decode b_Q_canOthersStay 72 = .ok (.getfield 117, 3) := by decide +kernel
theorem d_Q_canOthersStay_75 : decode b_Q_canOthersStay 75 = .ok (.iload_n 1, 1) := by decide +kernel
theorem d_Q_canOthersStay_76 : decode b_Q_canOthersStay 76 = .ok (.iaload, 1) := by decide +kernel
theorem d_Q_canOthersStay_77 : decode b_Q_canOthersStay 77 = .ok (.invokestatic 120, 3) := by decide +kernel
theorem d_Q_canOthersStay_80 : decode b_Q_canOthersStay 80 = .ok (.lstore_n 3, 1) := by decide +kernel
theorem d_Q_canOthersStay_81 : decode b_Q_canOthersStay 81 = .ok (.aload_n 0, 1) := by decide +kernel
theorem d_Q_canOthersStay_82 : decode b_Q_canOthersStay 82 = .ok (.getfield 28, 3) := by decide +kernel
theorem d_Q_canOthersStay_85 : decode b_Q_canOthersStay 85 = .ok (.iload_n 2, 1) := by decide +kernel
theorem d_Q_canOthersStay_86 : decode b_Q_canOthersStay 86 = .ok (.laload, 1) := by decide +kernel
theorem d_Q_canOthersStay_87 : decode b_Q_canOthersStay 87 = .ok (.lload_n 3, 1) := by decide +kernel
theorem d_Q_canOthersStay_88 : decode b_Q_canOthersStay 88 = .ok (.land, 1) := by decide +kernel
theorem d_Q_canOthersStay_89 : decode b_Q_canOthersStay 89 = .ok (.lconst 0, 1) := by decide +kernel
theorem d_Q_canOthersStay_90 : decode b_Q_canOthersStay 90 = .ok (.lcmp, 1) := by decide +kernel
theorem d_Q_canOthersStay_91 : decode b_Q_canOthersStay 91 = .ok (.ifCond .eq 5, 3) := by decide +kernel
theorem d_Q_canOthersStay_94 : decode b_Q_canOthersStay 94 = .ok (.iconst 0, 1) := by decide +kernel
theorem d_Q_canOthersStay_95 : decode b_Q_canOthersStay 95 = .ok (.ireturn, 1) := by decide +kernel
theorem d_Q_canOthersStay_96 : decode b_Q_canOthersStay 96 = .ok (.aload_n 0, 1) := by decide +kernel
theorem d_Q_canOthersStay_97 : decode b_Q_canOthersStay 97 = .ok (.getfield 28, 3) := by decide +kernel
theorem d_Q_canOthersStay_100 : decode b_Q_canOthersStay 100 = .ok (.iload_n 2, 1) := by decide +kernel
theorem d_Q_canOthersStay_101 : decode b_Q_canOthersStay 101 = .ok (.dup2, 1) := by decide +kernel
theorem d_Q_canOthersStay_102 : decode b_Q_canOthersStay 102 = .ok (.laload, 1) := by decide +kernel
theorem d_Q_canOthersStay_103 : decode b_Q_canOthersStay 103 = .ok (.lload_n 3, 1) := by decide +kernel
theorem d_Q_canOthersStay_104 : decode b_Q_canOthersStay 104 = .ok (.lor, 1) := by decide +kernel
theorem d_Q_canOthersStay_105 : decode b_Q_canOthersStay 105 = .ok (.lastore, 1) := by decide +kernel
theorem d_Q_canOthersStay_106 : decode b_Q_canOthersStay 106 = .ok (.aload_n 0, 1) := by decide +kernel
theorem d_Q_canOthersStay_107 : decode b_Q_canOthersStay 107 = .ok (.getfield 22, 3) := by decide +kernel
theorem d_Q_canOthersStay_110 : decode b_Q_canOthersStay 110 = .ok (.iload_n 1, 1) := by decide +kernel
theorem d_Q_canOthersStay_111 : decode b_Q_canOthersStay 111 = .ok (.iload_n 2, 1) := by decide +kernel
theorem d_Q_canOthersStay_112 : decode b_Q_canOthersStay 112 = .ok (.aload_n 0, 1) := by decide +kernel
theorem d_Q_canOthersStay_113 : decode b_Q_canOthersStay 113 = .ok (.getfield 15, 3) := by decide +kernel
theorem d_Q_canOthersStay_116 : decode b_Q_canOthersStay 116 = .ok (.getfield 114, 3) := by decide +kernel
theorem d_Q_canOthersStay_119 : decode b_Q_canOthersStay 119 = .ok (.iload_n 1, 1) := by decide +kernel
theorem d_Q_canOthersStay_120 : decode b_Q_canOthersStay 120 = .ok (.iaload, 1) := by decide +kernel
theorem d_Q_canOthersStay_121 : decode b_Q_canOthersStay 121 = .ok (.invokevirtual 124, 3) := by decide +kernel
theorem d_Q_canOthersStay_124 : decode b_Q_canOthersStay 124 = .ok (.iinc 1 1, 3) := by decide +kernel
theorem d_Q_canOthersStay_127 : decode b_Q_canOthersStay 127 = .ok (.goto (-97), 3) := by decide +kernel
theorem d_Q_canOthersStay_130 : decode b_Q_canOthersStay 130 = .ok (.iconst 1, 1) := by decide +kernel
theorem d_Q_canOthersStay_131 : decode b_Q_canOthersStay 131 = .ok (.ireturn, 1) := by decide +kernel
theorem d_Q_costOfOthers_0 : decode b_Q_costOfOthers 0 = .ok (.iconst 0, 1) := by decide +kernel
theorem d_Q_costOfOthers_1 : decode b_Q_costOfOthers 1 = .ok (.istore_n 1, 1) := by decide +kernel
theorem d_Q_costOfOthers_2 : decode b_Q_costOfOthers 2 = .ok (.iconst 0, 1) := by decide +kernel
theorem d_Q_costOfOthers_3 : decode b_Q_costOfOthers 3 = .ok (.istore_n 2, 1) := by decide +kernel
theorem d_Q_costOfOthers_4 : decode b_Q_costOfOthers 4 = .ok (.iload_n 2, 1) := by decide +kernel
theorem d_Q_costOfOthers_5 : decode b_Q_costOfOthers 5 = .ok (.aload_n 0, 1) := by decide +kernel
theorem d_Q_costOfOthers_6 : decode b_Q_costOfOthers 6 = .ok (.getfield 9, 3) := by decide +kernel
theorem d_Q_costOfOthers_9 : decode b_Q_costOfOthers 9 = .ok (.getfield 78, 3) := by decide +kernel
theorem d_Q_costOfOthers_12 : decode b_Q_costOfOthers 12 = .ok (.if_icmp .ge 46, 3) := by decide +kernel
theorem d_Q_costOfOthers_15 : decode b_Q_costOfOthers 15 = .ok (.aload_n 0, 1) := by decide +kernel
theorem d_Q_costOfOthers_16 : decode b_Q_costOfOthers 16 = .ok (.iload_n 2, 1) := by decide +kernel
theorem d_Q_costOfOthers_17 : decode b_Q_costOfOthers 17 = .ok (.invokevirtual 106, 3) := by decide +kernel
theorem d_Q_costOfOthers_20 : decode b_Q_costOfOthers 20 = .ok (.ifCond .ne 32, 3) := by decide +kernel
theorem d_Q_costOfOthers_23 : decode b_Q_costOfOthers 23 = .ok (.iload_n 1, 1) := by decide +kernel
theorem d_Q_costOfOthers_24 : decode b_Q_costOfOthers 24 = .ok (.aload_n 0, 1) := by decide +kernel
theorem d_Q_costOfOthers_25 : decode b_Q_costOfOthers 25 = .ok (.getfield 9, 3) := by decide +kernel
theorem d_Q_costOfOthers_28 : decode b_Q_costOfOthers 28 = .ok (.iload_n 2, 1) := by decide +kernel
theorem d_Q_costOfOthers_29 : decode b_Q_costOfOthers 29 = .ok (.aload_n 0, 1) := by decide +kernel
theorem d_Q_costOfOthers_30 : decode b_Q_costOfOthers 30 = .ok (.getfield 15, 3) := by decide +kernel
theorem d_Q_costOfOthers_33 : decode b_Q_costOfOthers 33 = .ok (.getfield 128, 3) := by decide +kernel
theorem d_Q_costOfOthers_36 : decode b_Q_costOfOthers 36 = .ok (.iload_n 2, 1) := by decide +kernel
theorem d_Q_costOfOthers_37 : decode b_Q_costOfOthers 37 = .ok (.iaload, 1) := by decide +kernel
theorem d_Q_costOfOthers_38 : decode b_Q_costOfOthers 38 = .ok (.aload_n 0, 1) := by decide +kernel
theorem d_Q_costOfOthers_39 : decode b_Q_costOfOthers 39 = .ok (.getfield 15, 3) := by decide +kernel
theorem d_Q_costOfOthers_42 : decode b_Q_costOfOthers 42 = .ok (.getfield 114, 3) := by decide +kernel
theorem d_Q_costOfOthers_45 : decode b_Q_costOfOthers 45 = .ok (.iload_n 2, 1) := by decide +kernel
theorem d_Q_costOfOthers_46 : decode b_Q_costOfOthers 46 = .ok (.iaload, 1) := by decide +kernel
theorem d_Q_costOfOthers_47 : decode b_Q_costOfOthers 47 = .ok (.invokevirtual 131, 3) := by decide +kernel
theorem d_Q_costOfOthers_50 : decode b_Q_costOfOthers 50 = .ok (.iadd, 1) := by decide +kernel
theorem d_Q_costOfOthers_51 : decode b_Q_costOfOthers 51 = .ok (.istore_n 1, 1) := by decide +kernel
theorem d_Q_costOfOthers_52 : decode b_Q_costOfOthers 52 = .ok (.iinc 2 1, 3) := by decide +kernel
theorem d_Q_costOfOthers_55 : decode b_Q_costOfOthers 55 = .ok (.goto (-51), 3) := by decide +kernel
theorem d_Q_costOfOthers_58 : decode b_Q_costOfOthers 58 = .ok (.iload_n 1, 1) := by decide +kernel
theorem d_Q_costOfOthers_59 : decode b_Q_costOfOthers 59 = .ok (.ireturn, 1) := by decide +kernel
theorem d_Q_placeFrom_0 : decode b_Q_placeFrom 0 = .ok (.iload_n 1, 1) := by decide +kernel
theorem d_Q_placeFrom_1 : decode b_Q_placeFrom 1 = .ok (.aload_n 0, 1) := by decide +kernel
theorem d_Q_placeFrom_2 : decode b_Q_placeFrom 2 = .ok (.getfield 9, 3) := by decide +kernel
theorem d_Q_placeFrom_5 : decode b_Q_placeFrom 5 = .ok (.getfield 78, 3) := by decide +kernel
theorem d_Q_placeFrom_8 : decode b_Q_placeFrom 8 = .ok (.if_icmp .lt 28, 3) := by decide +kernel
theorem d_Q_placeFrom_11 : decode b_Q_placeFrom 11 = .ok (.aload_n 0, 1) := by decide +kernel
theorem d_Q_placeFrom_12 : decode b_Q_placeFrom 12 = .ok (.iload_n 2, 1) := by decide +kernel
theorem d_Q_placeFrom_13 : decode b_Q_placeFrom 13 = .ok (.putfield 32, 3) := by decide +kernel
theorem d_Q_placeFrom_16 : decode b_Q_placeFrom 16 = .ok (.aload_n 0, 1) := by decide +kernel
theorem d_Q_placeFrom_17 : decode b_Q_placeFrom 17 = .ok (.getfield 25, 3) := by decide +kernel
theorem d_Q_placeFrom_20 : decode b_Q_placeFrom 20 = .ok (.aload_n 0, 1) := by decide +kernel
theorem d_Q_placeFrom_21 : decode b_Q_placeFrom 21 = .ok (.getfield 22, 3) := by decide +kernel
theorem d_Q_placeFrom_24 : decode b_Q_placeFrom 24 = .ok (.invokevirtual 56, 3) := by decide +kernel
theorem d_Q_placeFrom_27 : decode b_Q_placeFrom 27 = .ok (.aload_n 0, 1) := by decide +kernel
theorem d_Q_placeFrom_28 : decode b_Q_placeFrom 28 = .ok (.aload_n 0, 1) := by decide +kernel
theorem d_Q_placeFrom_29 : decode b_Q_placeFrom 29 = .ok (.getfield 90, 3) := by decide +kernel
theorem d_Q_placeFrom_32 : decode b_Q_placeFrom 32 = .ok (.putfield 50, 3) := by decide +kernel
theorem d_Q_placeFrom_35 : decode b_Q_placeFrom 35 = .ok (.return_, 1) := by decide +kernel
theorem d_Q_placeFrom_36 : decode b_Q_placeFrom 36 = .ok (.aload_n 0, 1) := by decide +kernel
theorem d_Q_placeFrom_37 : decode b_Q_placeFrom 37 = .ok (.iload_n 1, 1) := by decide +kernel
theorem d_Q_placeFrom_38 : decode b_Q_placeFrom 38 = .ok (.invokevirtual 106, 3) := by decide +kernel
theorem d_Q_placeFrom_41 : decode b_Q_placeFrom 41 = .ok (.ifCond .ne 12, 3) := by decide +kernel
theorem d_Q_placeFrom_44 : decode b_Q_placeFrom 44 = .ok (.aload_n 0, 1) := by decide +kernel
theorem d_Q_placeFrom_45 : decode b_Q_placeFrom 45 = .ok (.iload_n 1, 1) := by decide +kernel
theorem d_Q_placeFrom_46 : decode b_Q_placeFrom 46 = .ok (.iconst 1, 1) := by decide +kernel
theorem d_Q_placeFrom_47 : decode b_Q_placeFrom 47 = .ok (.iadd, 1) := by decide +kernel
theorem d_Q_placeFrom_48 : decode b_Q_placeFrom 48 = .ok (.iload_n 2, 1) := by decide +kernel
theorem d_Q_placeFrom_49 : decode b_Q_placeFrom 49 = .ok (.invokevirtual 99, 3) := by decide +kernel
theorem d_Q_placeFrom_52 : decode b_Q_placeFrom 52 = .ok (.return_, 1) := by decide +kernel
theorem d_Q_placeFrom_53 : decode b_Q_placeFrom 53 = .ok (.iconst 0, 1) := by decide +kernel
theorem d_Q_placeFrom_54 : decode b_Q_placeFrom 54 = .ok (.istore_n 3, 1) := by decide +kernel
theorem d_Q_placeFrom_55 : decode b_Q_placeFrom 55 = .ok (.iload_n 3, 1) := by decide +kernel
theorem d_Q_placeFrom_56 : decode b_Q_placeFrom 56 = .ok (.iconst 3, 1) := by decide +kernel
theorem d_Q_placeFrom_57 : decode b_Q_placeFrom 57 = .ok (.if_icmp .ge 39, 3) := by decide +kernel
theorem d_Q_placeFrom_60 : decode b_Q_placeFrom 60 = .ok (.aload_n 0, 1) := by decide +kernel
theorem d_Q_placeFrom_61 : decode b_Q_placeFrom 61 = .ok (.getfield 47, 3) := by decide +kernel
theorem d_Q_placeFrom_64 : decode b_Q_placeFrom 64 = .ok (.ifCond .ne 32, 3) := by decide +kernel
theorem d_Q_placeFrom_67 : decode b_Q_placeFrom 67 = .ok (.aload_n 0, 1) := by decide +kernel
theorem d_Q_placeFrom_68 : decode b_Q_placeFrom 68 = .ok (.getfield 9, 3) := by decide +kernel
theorem d_Q_placeFrom_71 : decode b_Q_placeFrom 71 = .ok (.getfield 135, 3) := by decide +kernel
theorem d_Q_placeFrom_74 : decode b_Q_placeFrom 74 = .ok (.iload_n 1, 1) := by decide +kernel
theorem d_Q_placeFrom_75 : decode b_Q_placeFrom 75 = .ok (.iaload, 1) := by decide +kernel
theorem d_Q_placeFrom_76 : decode b_Q_placeFrom 76 = .ok (.iload_n 3, 1) := by decide +kernel
theorem d_Q_placeFrom_77 : decode b_Q_placeFrom 77 = .ok (.invokestatic 138, 3) := by decide +kernel
theorem d_Q_placeFrom_80 : decode b_Q_placeFrom 80 = .ok (.ifCond .eq 10, 3) := by decide +kernel
theorem d_Q_placeFrom_83 : decode b_Q_placeFrom 83 = .ok (.aload_n 0, 1) := by decide +kernel
theorem d_Q_placeFrom_84 : decode b_Q_placeFrom 84 = .ok (.iload_n 1, 1) := by decide +kernel
theorem d_Q_placeFrom_85 : decode b_Q_placeFrom 85 = .ok (.iload_n 3, 1) := by decide +kernel
theorem d_Q_placeFrom_86 : decode b_Q_placeFrom 86 = .ok (.iload_n 2, 1) := by decide +kernel
theorem d_Q_placeFrom_87 : decode b_Q_placeFrom 87 = .ok (.invokevirtual 142, 3) := by decide +kernel
theorem d_Q_placeFrom_90 : decode b_Q_placeFrom 90 = .ok (.iinc 3 1, 3) := by decide +kernel
theorem d_Q_placeFrom_93 : decode b_Q_placeFrom 93 = .ok (.goto (-38), 3) := by decide +kernel
theorem d_Q_placeFrom_96 : decode b_Q_placeFrom 96 = .ok (.return_, 1) := by decide +kernel
theorem d_Q_tryUnit_0 : decode b_Q_tryUnit 0 = .ok (.aload_n 0, 1) := by decide +kernel
theorem d_Q_tryUnit_1 : decode b_Q_tryUnit 1 = .ok (.getfield 9, 3) := by decide +kernel
theorem d_Q_tryUnit_4 : decode b_Q_tryUnit 4 = .ok (.getfield 117, 3) := by decide +kernel
theorem d_Q_tryUnit_7 : decode b_Q_tryUnit 7 = .ok (.iload_n 1, 1) := by decide +kernel
theorem d_Q_tryUnit_8 : decode b_Q_tryUnit 8 = .ok (.iaload, 1) := by decide +kernel
theorem d_Q_tryUnit_9 : decode b_Q_tryUnit 9 = .ok (.istore 4, 2) := by decide +kernel
theorem d_Q_tryUnit_11 : decode b_Q_tryUnit 11 = .ok (.iconst 0, 1) := by decide +kernel
theorem d_Q_tryUnit_12 : decode b_Q_tryUnit 12 = .ok (.istore 5, 2) := by decide +kernel
theorem d_Q_tryUnit_14 : decode b_Q_tryUnit 14 = .ok (.iload 5, 2) := by decide +kernel
theorem d_Q_tryUnit_16 : decode b_Q_tryUnit 16 = .ok (.iload 4, 2) := by decide +kernel
theorem d_Q_tryUnit_18 : decode b_Q_tryUnit 18 = .ok (.iadd, 1) := by decide +kernel
theorem d_Q_tryUnit_19 : decode b_Q_tryUnit 19 = .ok (.bipush 60, 2) := by decide +kernel
theorem d_Q_tryUnit_21 : decode b_Q_tryUnit 21 = .ok (.if_icmp .gt 62, 3) := by decide +kernel
theorem d_Q_tryUnit_24 : decode b_Q_tryUnit 24 = .ok (.aload_n 0, 1) := by decide +kernel
theorem d_Q_tryUnit_25 : decode b_Q_tryUnit 25 = .ok (.getfield 47, 3) := by decide +kernel
theorem d_Q_tryUnit_28 : decode b_Q_tryUnit 28 = .ok (.ifCond .ne 55, 3) := by decide +kernel
theorem d_Q_tryUnit_31 : decode b_Q_tryUnit 31 = .ok (.iload 5, 2) := by decide +kernel
theorem d_Q_tryUnit_33 : decode b_Q_tryUnit 33 = .ok (.iload 4, 2) := by decide +kernel
theorem d_Q_tryUnit_35 : decode b_Q_tryUnit 35 = .ok (.invokestatic 120, 3) := by decide +kernel
theorem d_Q_tryUnit_38 : decode b_Q_tryUnit 38 = .ok (.lstore 6, 2) := by decide +kernel
theorem d_Q_tryUnit_40 : decode b_Q_tryUnit 40 = .ok (.aload_n 0, 1) := by decide +kernel
theorem d_Q_tryUnit_41 : decode b_Q_tryUnit 41 = .ok (.getfield 28, 3) := by decide +kernel
theorem d_Q_tryUnit_44 : decode b_Q_tryUnit 44 = .ok (.iload_n 2, 1) := by decide +kernel
theorem d_Q_tryUnit_45 : decode b_Q_tryUnit 45 = .ok (.laload, 1) := by decide +kernel
theorem d_Q_tryUnit_46 : decode b_Q_tryUnit 46 = .ok (.lload 6, 2) := by decide +kernel
theorem d_Q_tryUnit_48 : decode b_Q_tryUnit 48 = .ok (.land, 1) := by decide +kernel
theorem d_Q_tryUnit_49 : decode b_Q_tryUnit 49 = .ok (.lconst 0, 1) := by decide +kernel
theorem d_Q_tryUnit_50 : decode b_Q_tryUnit 50 = .ok (.lcmp, 1) := by decide +kernel
theorem d_Q_tryUnit_51 : decode b_Q_tryUnit 51 = .ok (.ifCond .ne 26, 3) := by decide +kernel
theorem d_Q_tryUnit_54 : decode b_Q_tryUnit 54 = .ok (.aload_n 0, 1) := by decide +kernel
theorem d_Q_tryUnit_55 : decode b_Q_tryUnit 55 = .ok (.getfield 15, 3) := by decide +kernel
theorem d_Q_tryUnit_58 : decode b_Q_tryUnit 58 = .ok (.iload_n 1, 1) := by decide +kernel
theorem d_Q_tryUnit_59 : decode b_Q_tryUnit 59 = .ok (.iload_n 2, 1) := by decide +kernel
theorem d_Q_tryUnit_60 : decode b_Q_tryUnit 60 = .ok (.iload 5, 2) := by decide +kernel
theorem d_Q_tryUnit_62 : decode b_Q_tryUnit 62 = .ok (.invokevirtual 145, 3) := by decide +kernel
theorem d_Q_tryUnit_65 : decode b_Q_tryUnit 65 = .ok (.ifCond .ne 12, 3) := by decide +kernel
theorem d_Q_tryUnit_68 : decode b_Q_tryUnit 68 = .ok (.aload_n 0, 1) := by decide +kernel
theorem d_Q_tryUnit_69 : decode b_Q_tryUnit 69 = .ok (.iload_n 1, 1) := by decide +kernel
theorem d_Q_tryUnit_70 : decode b_Q_tryUnit 70 = .ok (.iload_n 2, 1) := by decide +kernel
theorem d_Q_tryUnit_71 : decode b_Q_tryUnit 71 = .ok (.iload 5, 2) := by decide +kernel
theorem d_Q_tryUnit_73 : decode b_Q_tryUnit 73 = .ok (.iload_n 3, 1) := by decide +kernel
theorem d_Q_tryUnit_74 : decode b_Q_tryUnit 74 = .ok (.invokevirtual 149, 3) := by decide +kernel
theorem d_Q_tryUnit_77 : decode b_Q_tryUnit 77 = .ok (.iinc 5 1, 3) := by decide +kernel
theorem d_Q_tryUnit_80 : decode b_Q_tryUnit 80 = .ok (.goto (-66), 3) := by decide +kernel
theorem d_Q_tryUnit_83 : decode b_Q_tryUnit 83 = .ok (.return_, 1) := by decide +kernel
theorem d_Q_tryPlace_0 : decode b_Q_tryPlace 0 = .ok (.aload_n 0, 1) := by decide +kernel
theorem d_Q_tryPlace_1 : decode b_Q_tryPlace 1 = .ok (.getfield 44, 3) := by decide +kernel
theorem d_Q_tryPlace_4 : decode b_Q_tryPlace 4 = .ok (.aload_n 0, 1) := by decide +kernel
theorem d_Q_tryPlace_5 : decode b_Q_tryPlace 5 = .ok (.getfield 41, 3) := by decide +kernel
theorem d_Q_tryPlace_8 : decode b_Q_tryPlace 8 = .ok (.if_icmp .lt 9, 3) := by decide +kernel
theorem d_Q_tryPlace_11 : decode b_Q_tryPlace 11 = .ok (.aload_n 0, 1) := by decide +kernel
theorem d_Q_tryPlace_12 : decode b_Q_tryPlace 12 = .ok (.iconst 1, 1) := by decide +kernel
theorem d_Q_tryPlace_13 : decode b_Q_tryPlace 13 = .ok (.putfield 47, 3) := by decide +kernel
theorem d_Q_tryPlace_16 : decode b_Q_tryPlace 16 = .ok (.return_, 1) := by decide +kernel
theorem d_Q_tryPlace_17 : decode b_Q_tryPlace 17 = .ok (.aload_n 0, 1) := by decide +kernel
theorem d_Q_tryPlace_18 : decode b_Q_tryPlace 18 = .ok (.dup, 1) := by decide +kernel
theorem d_Q_tryPlace_19 : decode b_Q_tryPlace 19 = .ok (.getfield 44, 3) := by decide +kernel
theorem d_Q_tryPlace_22 : decode b_Q_tryPlace 22 = .ok (.iconst 1, 1) := by decide +kernel
theorem d_Q_tryPlace_23 : decode b_Q_tryPlace 23 = .ok (.iadd, 1) := by decide +kernel
theorem d_Q_tryPlace_24 : decode b_Q_tryPlace 24 = .ok (.putfield 44, 3) := by decide +kernel
theorem d_Q_tryPlace_27 : decode b_Q_tryPlace 27 = .ok (.iload 4, 2) := by decide +kernel
theorem d_Q_tryPlace_29 : decode b_Q_tryPlace 29 = .ok (.aload_n 0, 1) := by decide +kernel
theorem d_Q_tryPlace_30 : decode b_Q_tryPlace 30 = .ok (.getfield 9, 3) := by decide +kernel
theorem d_Q_tryPlace_33 : decode b_Q_tryPlace 33 = .ok (.iload_n 1, 1) := by decide +kernel
theorem d_Q_tryPlace_34 : decode b_Q_tryPlace 34 = .ok (.aload_n 0, 1) := by decide +kernel
theorem d_Q_tryPlace_35 : decode b_Q_tryPlace 35 = .ok (.getfield 15, 3) := by decide +kernel
theorem d_Q_tryPlace_38 : decode b_Q_tryPlace 38 = .ok (.getfield 128, 3) := by decide +kernel
theorem d_Q_tryPlace_41 : decode b_Q_tryPlace 41 = .ok (.iload_n 1, 1) := by decide +kernel
theorem d_Q_tryPlace_42 : decode b_Q_tryPlace 42 = .ok (.iaload, 1) := by decide +kernel
theorem d_Q_tryPlace_43 : decode b_Q_tryPlace 43 = .ok (.iload_n 3, 1) := by decide +kernel
theorem d_Q_tryPlace_44 : decode b_Q_tryPlace 44 = .ok (.invokevirtual 131, 3) := by decide +kernel
theorem d_Q_tryPlace_47 : decode b_Q_tryPlace 47 = .ok (.iadd, 1) := by decide +kernel
theorem d_Q_tryPlace_48 : decode b_Q_tryPlace 48 = .ok (.istore 5, 2) := by decide +kernel
theorem d_Q_tryPlace_50 : decode b_Q_tryPlace 50 = .ok (.iload 5, 2) := by decide +kernel
theorem d_Q_tryPlace_52 : decode b_Q_tryPlace 52 = .ok (.aload_n 0, 1) := by decide +kernel
theorem d_Q_tryPlace_53 : decode b_Q_tryPlace 53 = .ok (.getfield 32, 3) := by decide +kernel
theorem d_Q_tryPlace_56 : decode b_Q_tryPlace 56 = .ok (.if_icmp .lt 4, 3) := by decide +kernel
theorem d_Q_tryPlace_59 : decode b_Q_tryPlace 59 = .ok (.return_, 1) := by decide +kernel
theorem d_Q_tryPlace_60 : decode b_Q_tryPlace 60 = .ok (.iload_n 3, 1) := by decide +kernel
theorem d_Q_tryPlace_61 : decode b_Q_tryPlace 61 = .ok (.aload_n 0, 1) := by decide +kernel
theorem d_Q_tryPlace_62 : decode b_Q_tryPlace 62 = .ok (.getfield 9, 3) := by decide +kernel
theorem d_Q_tryPlace_65 : decode b_Q_tryPlace 65 = .ok (.getfield 117, 3) := by decide +kernel
theorem d_Q_tryPlace_68 : decode b_Q_tryPlace 68 = .ok (.iload_n 1, 1) := by decide +kernel
theorem d_Q_tryPlace_69 : decode b_Q_tryPlace 69 = .ok (.iaload, 1) := by decide +kernel
theorem d_Q_tryPlace_70 : decode b_Q_tryPlace 70 = .ok (.invokestatic 120, 3) := by decide +kernel
theorem d_Q_tryPlace_73 : decode b_Q_tryPlace 73 = .ok (.lstore 6, 2) := by decide +kernel
theorem d_Q_tryPlace_75 : decode b_Q_tryPlace 75 = .ok (.aload_n 0, 1) := by decide +kernel
theorem d_Q_tryPlace_76 : decode b_Q_tryPlace 76 = .ok (.getfield 28, 3) := by decide +kernel
theorem d_Q_tryPlace_79 : decode b_Q_tryPlace 79 = .ok (.iload_n 2, 1) := by decide +kernel
theorem d_Q_tryPlace_80 : decode b_Q_tryPlace 80 = .ok (.dup2, 1) := by decide +kernel
theorem d_Q_tryPlace_81 : decode b_Q_tryPlace 81 = .ok (.laload, 1) := by decide +kernel
theorem d_Q_tryPlace_82 : decode b_Q_tryPlace 82 = .ok (.lload 6, 2) := by decide +kernel
theorem d_Q_tryPlace_84 : decode b_Q_tryPlace 84 = .ok (.lor, 1) := by decide +kernel
theorem d_Q_tryPlace_85 : decode b_Q_tryPlace 85 = .ok (.lastore, 1) := by decide +kernel
theorem d_Q_tryPlace_86 : decode b_Q_tryPlace 86 = .ok (.aload_n 0, 1) := by decide +kernel
theorem d_Q_tryPlace_87 : decode b_Q_tryPlace 87 = .ok (.getfield 22, 3) := by decide +kernel
theorem d_Q_tryPlace_90 : decode b_Q_tryPlace 90 = .ok (.iload_n 1, 1) := by decide +kernel
theorem d_Q_tryPlace_91 : decode b_Q_tryPlace 91 = .ok (.iload_n 2, 1) := by decide +kernel
theorem d_Q_tryPlace_92 : decode b_Q_tryPlace 92 = .ok (.iload_n 3, 1) := by decide +kernel
theorem d_Q_tryPlace_93 : decode b_Q_tryPlace 93 = .ok (.invokevirtual 124, 3) := by decide +kernel
theorem d_Q_tryPlace_96 : decode b_Q_tryPlace 96 = .ok (.aload_n 0, 1) := by decide +kernel
theorem d_Q_tryPlace_97 : decode b_Q_tryPlace 97 = .ok (.iload_n 1, 1) := by decide +kernel
theorem d_Q_tryPlace_98 : decode b_Q_tryPlace 98 = .ok (.iconst 1, 1) := by decide +kernel
theorem d_Q_tryPlace_99 : decode b_Q_tryPlace 99 = .ok (.iadd, 1) := by decide +kernel
theorem d_Q_tryPlace_100 : decode b_Q_tryPlace 100 = .ok (.iload 5, 2) := by decide +kernel
theorem d_Q_tryPlace_102 : decode b_Q_tryPlace 102 = .ok (.invokevirtual 99, 3) := by decide +kernel
theorem d_Q_tryPlace_105 : decode b_Q_tryPlace 105 = .ok (.aload_n 0, 1) := by decide +kernel
theorem d_Q_tryPlace_106 : decode b_Q_tryPlace 106 = .ok (.getfield 28, 3) := by decide +kernel
theorem d_Q_tryPlace_109 : decode b_Q_tryPlace 109 = .ok (.iload_n 2, 1) := by decide +kernel
theorem d_Q_tryPlace_110 : decode b_Q_tryPlace 110 = .ok (.dup2, 1) := by decide +kernel
theorem d_Q_tryPlace_111 : decode b_Q_tryPlace 111 = .ok (.laload, 1) := by decide +kernel
theorem d_Q_tryPlace_112 : decode b_Q_tryPlace 112 = .ok (.lload 6, 2) := by decide +kernel
theorem d_Q_tryPlace_114 : decode b_Q_tryPlace 114 = .ok (.ldc2_w 153, 3) := by decide +kernel
theorem d_Q_tryPlace_117 : decode b_Q_tryPlace 117 = .ok (.lxor, 1) := by decide +kernel
theorem d_Q_tryPlace_118 : decode b_Q_tryPlace 118 = .ok (.land, 1) := by decide +kernel
theorem d_Q_tryPlace_119 : decode b_Q_tryPlace 119 = .ok (.lastore, 1) := by decide +kernel
theorem d_Q_tryPlace_120 : decode b_Q_tryPlace 120 = .ok (.return_, 1) := by decide +kernel
theorem d_S_init_0 : decode b_S_init 0 = .ok (.aload_n 0, 1) := by decide +kernel
theorem d_S_init_1 : decode b_S_init 1 = .ok (.invokespecial 3, 3) := by decide +kernel
theorem d_S_init_4 : decode b_S_init 4 = .ok (.aload_n 0, 1) := by decide +kernel
theorem d_S_init_5 : decode b_S_init 5 = .ok (.bipush 8, 2) := by decide +kernel
theorem d_S_init_7 : decode b_S_init 7 = .ok (.newarray .int, 2) := by decide +kernel
theorem d_S_init_9 : decode b_S_init 9 = .ok (.putfield 9, 3) := by decide +kernel
theorem d_S_init_12 : decode b_S_init 12 = .ok (.aload_n 0, 1) := by decide +kernel
theorem d_S_init_13 : decode b_S_init 13 = .ok (.bipush 8, 2) := by decide +kernel
theorem d_S_init_15 : decode b_S_init 15 = .ok (.newarray .int, 2) := by decide +kernel
theorem d_S_init_17 : decode b_S_init 17 = .ok (.putfield 15, 3) := by decide +kernel
theorem d_S_init_20 : decode b_S_init 20 = .ok (.aload_n 0, 1) := by decide +kernel
theorem d_S_init_21 : decode b_S_init 21 = .ok (.bipush 6, 2) := by decide +kernel
theorem d_S_init_23 : decode b_S_init 23 = .ok (.newarray .int, 2) := by decide +kernel
theorem d_S_init_25 : decode b_S_init 25 = .ok (.putfield 18, 3) := by decide +kernel
theorem d_S_init_28 : decode b_S_init 28 = .ok (.aload_n 0, 1) := by decide +kernel
theorem d_S_init_29 : decode b_S_init 29 = .ok (.bipush 6, 2) := by decide +kernel
theorem d_S_init_31 : decode b_S_init 31 = .ok (.newarray .int, 2) := by decide +kernel
theorem d_S_init_33 : decode b_S_init 33 = .ok (.putfield 21, 3) := by decide +kernel
theorem d_S_init_36 : decode b_S_init 36 = .ok (.aload_n 0, 1) := by decide +kernel
theorem d_S_init_37 : decode b_S_init 37 = .ok (.iconst 3, 1) := by decide +kernel
theorem d_S_init_38 : decode b_S_init 38 = .ok (.newarray .long, 2) := by decide +kernel
theorem d_S_init_40 : decode b_S_init 40 = .ok (.putfield 24, 3) := by decide +kernel
theorem d_S_init_43 : decode b_S_init 43 = .ok (.return_, 1) := by decide +kernel
theorem d_S_addOrder_0 : decode b_S_addOrder 0 = .ok (.aload_n 0, 1) := by decide +kernel
theorem d_S_addOrder_1 : decode b_S_addOrder 1 = .ok (.getfield 9, 3) := by decide +kernel
theorem d_S_addOrder_4 : decode b_S_addOrder 4 = .ok (.aload_n 0, 1) := by decide +kernel
theorem d_S_addOrder_5 : decode b_S_addOrder 5 = .ok (.getfield 28, 3) := by decide +kernel
theorem d_S_addOrder_8 : decode b_S_addOrder 8 = .ok (.iload_n 1, 1) := by decide +kernel
theorem d_S_addOrder_9 : decode b_S_addOrder 9 = .ok (.iastore, 1) := by decide +kernel
theorem d_S_addOrder_10 : decode b_S_addOrder 10 = .ok (.aload_n 0, 1) := by decide +kernel
theorem d_S_addOrder_11 : decode b_S_addOrder 11 = .ok (.getfield 15, 3) := by decide +kernel
theorem d_S_addOrder_14 : decode b_S_addOrder 14 = .ok (.aload_n 0, 1) := by decide +kernel
theorem d_S_addOrder_15 : decode b_S_addOrder 15 = .ok (.getfield 28, 3) := by decide +kernel
theorem d_S_addOrder_18 : decode b_S_addOrder 18 = .ok (.iload_n 2, 1) := by decide +kernel
theorem d_S_addOrder_19 : decode b_S_addOrder 19 = .ok (.iastore, 1) := by decide +kernel
theorem d_S_addOrder_20 : decode b_S_addOrder 20 = .ok (.aload_n 0, 1) := by decide +kernel
theorem d_S_addOrder_21 : decode b_S_addOrder 21 = .ok (.dup, 1) := by decide +kernel
theorem d_S_addOrder_22 : decode b_S_addOrder 22 = .ok (.getfield 28, 3) := by decide +kernel
theorem d_S_addOrder_25 : decode b_S_addOrder 25 = .ok (.iconst 1, 1) := by decide +kernel
theorem d_S_addOrder_26 : decode b_S_addOrder 26 = .ok (.iadd, 1) := by decide +kernel
theorem d_S_addOrder_27 : decode b_S_addOrder 27 = .ok (.putfield 28, 3) := by decide +kernel
theorem d_S_addOrder_30 : decode b_S_addOrder 30 = .ok (.aload_n 0, 1) := by decide +kernel
theorem d_S_addOrder_31 : decode b_S_addOrder 31 = .ok (.getfield 28, 3) := by decide +kernel
theorem d_S_addOrder_34 : decode b_S_addOrder 34 = .ok (.iconst 1, 1) := by decide +kernel
theorem d_S_addOrder_35 : decode b_S_addOrder 35 = .ok (.isub, 1) := by decide +kernel
theorem d_S_addOrder_36 : decode b_S_addOrder 36 = .ok (.ireturn, 1) := by decide +kernel
theorem d_S_addHeat_0 : decode b_S_addHeat 0 = .ok (.aload_n 0, 1) := by decide +kernel
theorem d_S_addHeat_1 : decode b_S_addHeat 1 = .ok (.getfield 18, 3) := by decide +kernel
theorem d_S_addHeat_4 : decode b_S_addHeat 4 = .ok (.aload_n 0, 1) := by decide +kernel
theorem d_S_addHeat_5 : decode b_S_addHeat 5 = .ok (.getfield 32, 3) := by decide +kernel
theorem d_S_addHeat_8 : decode b_S_addHeat 8 = .ok (.iload_n 1, 1) := by decide +kernel
theorem d_S_addHeat_9 : decode b_S_addHeat 9 = .ok (.iastore, 1) := by decide +kernel
theorem d_S_addHeat_10 : decode b_S_addHeat 10 = .ok (.aload_n 0, 1) := by decide +kernel
theorem d_S_addHeat_11 : decode b_S_addHeat 11 = .ok (.getfield 21, 3) := by decide +kernel
theorem d_S_addHeat_14 : decode b_S_addHeat 14 = .ok (.aload_n 0, 1) := by decide +kernel
theorem d_S_addHeat_15 : decode b_S_addHeat 15 = .ok (.getfield 32, 3) := by decide +kernel
theorem d_S_addHeat_18 : decode b_S_addHeat 18 = .ok (.iload_n 2, 1) := by decide +kernel
theorem d_S_addHeat_19 : decode b_S_addHeat 19 = .ok (.iastore, 1) := by decide +kernel
theorem d_S_addHeat_20 : decode b_S_addHeat 20 = .ok (.aload_n 0, 1) := by decide +kernel
theorem d_S_addHeat_21 : decode b_S_addHeat 21 = .ok (.dup, 1) := by decide +kernel
theorem d_S_addHeat_22 : decode b_S_addHeat 22 = .ok (.getfield 32, 3) := by decide +kernel
theorem d_S_addHeat_25 : decode b_S_addHeat 25 = .ok (.iconst 1, 1) := by decide +kernel
theorem d_S_addHeat_26 : decode b_S_addHeat 26 = .ok (.iadd, 1) := by decide +kernel
theorem d_S_addHeat_27 : decode b_S_addHeat 27 = .ok (.putfield 32, 3) := by decide +kernel
theorem d_S_addHeat_30 : decode b_S_addHeat 30 = .ok (.aload_n 0, 1) := by decide +kernel
theorem d_S_addHeat_31 : decode b_S_addHeat 31 = .ok (.getfield 32, 3) := by decide +kernel
theorem d_S_addHeat_34 : decode b_S_addHeat 34 = .ok (.iconst 1, 1) := by decide +kernel
theorem d_S_addHeat_35 : decode b_S_addHeat 35 = .ok (.isub, 1) := by decide +kernel
theorem d_S_addHeat_36 : decode b_S_addHeat 36 = .ok (.ireturn, 1) := by decide +kernel
theorem d_S_addStop_0 : decode b_S_addStop 0 = .ok (.aload_n 0, 1) := by decide +kernel
theorem d_S_addStop_1 : decode b_S_addStop 1 = .ok (.getfield 24, 3) := by decide +kernel
theorem d_S_addStop_4 : decode b_S_addStop 4 = .ok (.iload_n 1, 1) := by decide +kernel
theorem d_S_addStop_5 : decode b_S_addStop 5 = .ok (.dup2, 1) := by decide +kernel
theorem d_S_addStop_6 : decode b_S_addStop 6 = .ok (.laload, 1) := by decide +kernel
theorem d_S_addStop_7 : decode b_S_addStop 7 = .ok (.iload_n 2, 1) := by decide +kernel
theorem d_S_addStop_8 : decode b_S_addStop 8 = .ok (.iload_n 3, 1) := by decide +kernel
theorem d_S_addStop_9 : decode b_S_addStop 9 = .ok (.iload_n 2, 1) := by decide +kernel
theorem d_S_addStop_10 : decode b_S_addStop 10 = .ok (.isub, 1) := by decide +kernel
theorem d_S_addStop_11 : decode b_S_addStop 11 = .ok (.invokestatic 35, 3) := by decide +kernel
theorem d_S_addStop_14 : decode b_S_addStop 14 = .ok (.lor, 1) := by decide +kernel
theorem d_S_addStop_15 : decode b_S_addStop 15 = .ok (.lastore, 1) := by decide +kernel
theorem d_S_addStop_16 : decode b_S_addStop 16 = .ok (.aload_n 0, 1) := by decide +kernel
theorem d_S_addStop_17 : decode b_S_addStop 17 = .ok (.dup, 1) := by decide +kernel
theorem d_S_addStop_18 : decode b_S_addStop 18 = .ok (.getfield 39, 3) := by decide +kernel
theorem d_S_addStop_21 : decode b_S_addStop 21 = .ok (.iconst 1, 1) := by decide +kernel
theorem d_S_addStop_22 : decode b_S_addStop 22 = .ok (.iadd, 1) := by decide +kernel
theorem d_S_addStop_23 : decode b_S_addStop 23 = .ok (.putfield 39, 3) := by decide +kernel
theorem d_S_addStop_26 : decode b_S_addStop 26 = .ok (.aload_n 0, 1) := by decide +kernel
theorem d_S_addStop_27 : decode b_S_addStop 27 = .ok (.getfield 39, 3) := by decide +kernel
theorem d_S_addStop_30 : decode b_S_addStop 30 = .ok (.ireturn, 1) := by decide +kernel
theorem d_S_forgetStops_0 : decode b_S_forgetStops 0 = .ok (.iconst 0, 1) := by decide +kernel
theorem d_S_forgetStops_1 : decode b_S_forgetStops 1 = .ok (.istore_n 1, 1) := by decide +kernel
theorem d_S_forgetStops_2 : decode b_S_forgetStops 2 = .ok (.iload_n 1, 1) := by decide +kernel
theorem d_S_forgetStops_3 : decode b_S_forgetStops 3 = .ok (.iconst 3, 1) := by decide +kernel
theorem d_S_forgetStops_4 : decode b_S_forgetStops 4 = .ok (.if_icmp .ge 16, 3) := by decide +kernel
theorem d_S_forgetStops_7 : decode b_S_forgetStops 7 = .ok (.aload_n 0, 1) := by decide +kernel
theorem d_S_forgetStops_8 : decode b_S_forgetStops 8 = .ok (.getfield 24, 3) := by decide +kernel
theorem d_S_forgetStops_11 : decode b_S_forgetStops 11 = .ok (.iload_n 1, 1) := by decide +kernel
theorem d_S_forgetStops_12 : decode b_S_forgetStops 12 = .ok (.lconst 0, 1) := by decide +kernel
theorem d_S_forgetStops_13 : decode b_S_forgetStops 13 = .ok (.lastore, 1) := by decide +kernel
theorem d_S_forgetStops_14 : decode b_S_forgetStops 14 = .ok (.iinc 1 1, 3) := by decide +kernel
theorem d_S_forgetStops_17 : decode b_S_forgetStops 17 = .ok (.goto (-15), 3) := by decide +kernel
theorem d_S_forgetStops_20 : decode b_S_forgetStops 20 = .ok (.aload_n 0, 1) := by decide +kernel
theorem d_S_forgetStops_21 : decode b_S_forgetStops 21 = .ok (.iconst 0, 1) := by decide +kernel
theorem d_S_forgetStops_22 : decode b_S_forgetStops 22 = .ok (.putfield 39, 3) := by decide +kernel
theorem d_S_forgetStops_25 : decode b_S_forgetStops 25 = .ok (.return_, 1) := by decide +kernel
theorem d_S_isFrozen_0 : decode b_S_isFrozen 0 = .ok (.aload_n 1, 1) := by decide +kernel
theorem d_S_isFrozen_1 : decode b_S_isFrozen 1 = .ok (.getfield 42, 3) := by decide +kernel
theorem d_S_isFrozen_4 : decode b_S_isFrozen 4 = .ok (.iload_n 2, 1) := by decide +kernel
theorem d_S_isFrozen_5 : decode b_S_isFrozen 5 = .ok (.iaload, 1) := by decide +kernel
theorem d_S_isFrozen_6 : decode b_S_isFrozen 6 = .ok (.aload_n 0, 1) := by decide +kernel
theorem d_S_isFrozen_7 : decode b_S_isFrozen 7 = .ok (.getfield 47, 3) := by decide +kernel
theorem d_S_isFrozen_10 : decode b_S_isFrozen 10 = .ok (.aload_n 0, 1) := by decide +kernel
theorem d_S_isFrozen_11 : decode b_S_isFrozen 11 = .ok (.getfield 50, 3) := by decide +kernel
theorem d_S_isFrozen_14 : decode b_S_isFrozen 14 = .ok (.iadd, 1) := by decide +kernel
theorem d_S_isFrozen_15 : decode b_S_isFrozen 15 = .ok (.if_icmp .ge 7, 3) := by decide +kernel
theorem d_S_isFrozen_18 : decode b_S_isFrozen 18 = .ok (.iconst 1, 1) := by decide +kernel
theorem d_S_isFrozen_19 : decode b_S_isFrozen 19 = .ok (.goto 4, 3) := by decide +kernel
theorem d_S_isFrozen_22 : decode b_S_isFrozen 22 = .ok (.iconst 0, 1) := by decide +kernel
theorem d_S_isFrozen_23 : decode b_S_isFrozen 23 = .ok (.ireturn, 1) := by decide +kernel
theorem d_S_lateness_0 : decode b_S_lateness 0 = .ok (.iconst 0, 1) := by decide +kernel
theorem d_S_lateness_1 : decode b_S_lateness 1 = .ok (.iload_n 3, 1) := by decide +kernel
theorem d_S_lateness_2 : decode b_S_lateness 2 = .ok (.aload_n 0, 1) := by decide +kernel
theorem d_S_lateness_3 : decode b_S_lateness 3 = .ok (.getfield 18, 3) := by decide +kernel
theorem d_S_lateness_6 : decode b_S_lateness 6 = .ok (.iload_n 1, 1) := by decide +kernel
theorem d_S_lateness_7 : decode b_S_lateness 7 = .ok (.iaload, 1) := by decide +kernel
theorem d_S_lateness_8 : decode b_S_lateness 8 = .ok (.iadd, 1) := by decide +kernel
theorem d_S_lateness_9 : decode b_S_lateness 9 = .ok (.aload_n 0, 1) := by decide +kernel
theorem d_S_lateness_10 : decode b_S_lateness 10 = .ok (.getfield 15, 3) := by decide +kernel
theorem d_S_lateness_13 : decode b_S_lateness 13 = .ok (.iload_n 2, 1) := by decide +kernel
theorem d_S_lateness_14 : decode b_S_lateness 14 = .ok (.iaload, 1) := by decide +kernel
theorem d_S_lateness_15 : decode b_S_lateness 15 = .ok (.isub, 1) := by decide +kernel
theorem d_S_lateness_16 : decode b_S_lateness 16 = .ok (.invokestatic 53, 3) := by decide +kernel
theorem d_S_lateness_19 : decode b_S_lateness 19 = .ok (.ireturn, 1) := by decide +kernel
theorem d_S_fits_0 : decode b_S_fits 0 = .ok (.aload_n 0, 1) := by decide +kernel
theorem d_S_fits_1 : decode b_S_fits 1 = .ok (.getfield 21, 3) := by decide +kernel
theorem d_S_fits_4 : decode b_S_fits 4 = .ok (.iload_n 2, 1) := by decide +kernel
theorem d_S_fits_5 : decode b_S_fits 5 = .ok (.iaload, 1) := by decide +kernel
theorem d_S_fits_6 : decode b_S_fits 6 = .ok (.iload_n 3, 1) := by decide +kernel
theorem d_S_fits_7 : decode b_S_fits 7 = .ok (.invokestatic 59, 3) := by decide +kernel
theorem d_S_fits_10 : decode b_S_fits 10 = .ok (.ifCond .eq 25, 3) := by decide +kernel
theorem d_S_fits_13 : decode b_S_fits 13 = .ok (.aload_n 0, 1) := by decide +kernel
theorem d_S_fits_14 : decode b_S_fits 14 = .ok (.aload_n 1, 1) := by decide +kernel
theorem d_S_fits_15 : decode b_S_fits 15 = .ok (.iload_n 2, 1) := by decide +kernel
theorem d_S_fits_16 : decode b_S_fits 16 = .ok (.iload_n 3, 1) := by decide +kernel
theorem d_S_fits_17 : decode b_S_fits 17 = .ok (.iload 4, 2) := by decide +kernel
theorem d_S_fits_19 : decode b_S_fits 19 = .ok (.aload_n 0, 1) := by decide +kernel
theorem d_S_fits_20 : decode b_S_fits 20 = .ok (.getfield 18, 3) := by decide +kernel
theorem d_S_fits_23 : decode b_S_fits 23 = .ok (.iload_n 2, 1) := by decide +kernel
theorem d_S_fits_24 : decode b_S_fits 24 = .ok (.iaload, 1) := by decide +kernel
theorem d_S_fits_25 : decode b_S_fits 25 = .ok (.invokevirtual 63, 3) := by decide +kernel
theorem d_S_fits_28 : decode b_S_fits 28 = .ok (.ifCond .eq 7, 3) := by decide +kernel
theorem d_S_fits_31 : decode b_S_fits 31 = .ok (.iconst 1, 1) := by decide +kernel
theorem d_S_fits_32 : decode b_S_fits 32 = .ok (.goto 4, 3) := by decide +kernel
theorem d_S_fits_35 : decode b_S_fits 35 = .ok (.iconst 0, 1) := by decide +kernel
theorem d_S_fits_36 : decode b_S_fits 36 = .ok (.ireturn, 1) := by decide +kernel
theorem d_S_hasRoom_0 : decode b_S_hasRoom 0 = .ok (.iload 4, 2) := by decide +kernel
theorem d_S_hasRoom_2 : decode b_S_hasRoom 2 = .ok (.iload 5, 2) := by decide +kernel
theorem d_S_hasRoom_4 : decode b_S_hasRoom 4 = .ok (.iadd, 1) := by decide +kernel
theorem d_S_hasRoom_5 : decode b_S_hasRoom 5 = .ok (.bipush 60, 2) := by decide +kernel
theorem d_S_hasRoom_7 : decode b_S_hasRoom 7 = .ok (.if_icmp .le 5, 3) := by decide +kernel
theorem d_S_hasRoom_10 : decode b_S_hasRoom 10 = .ok (.iconst 0, 1) := by decide +kernel
theorem d_S_hasRoom_11 : decode b_S_hasRoom 11 = .ok (.ireturn, 1) := by decide +kernel
theorem d_S_hasRoom_12 : decode b_S_hasRoom 12 = .ok (.aload_n 0, 1) := by decide +kernel
theorem d_S_hasRoom_13 : decode b_S_hasRoom 13 = .ok (.getfield 24, 3) := by decide +kernel
theorem d_S_hasRoom_16 : decode b_S_hasRoom 16 = .ok (.iload_n 3, 1) := by decide +kernel
theorem d_S_hasRoom_17 : decode b_S_hasRoom 17 = .ok (.laload, 1) := by decide +kernel
theorem d_S_hasRoom_18 : decode b_S_hasRoom 18 = .ok (.lstore 6, 2) := by decide +kernel
theorem d_S_hasRoom_20 : decode b_S_hasRoom 20 = .ok (.iconst 0, 1) := by decide +kernel
theorem d_S_hasRoom_21 : decode b_S_hasRoom 21 = .ok (.istore 8, 2) := by decide +kernel
theorem d_S_hasRoom_23 : decode b_S_hasRoom 23 = .ok (.iload 8, 2) := by decide +kernel
theorem d_S_hasRoom_25 : decode b_S_hasRoom 25 = .ok (.aload_n 0, 1) := by decide +kernel
theorem d_S_hasRoom_26 : decode b_S_hasRoom 26 = .ok (.getfield 32, 3) := by decide +kernel
theorem d_S_hasRoom_29 : decode b_S_hasRoom 29 = .ok (.if_icmp .ge 48, 3) := by decide +kernel
theorem d_S_hasRoom_32 : decode b_S_hasRoom 32 = .ok (.iload 8, 2) := by decide +kernel
theorem d_S_hasRoom_34 : decode b_S_hasRoom 34 = .ok (.iload_n 2, 1) := by decide +kernel
theorem d_S_hasRoom_35 : decode b_S_hasRoom 35 = .ok (.if_icmp .eq 36, 3) := by decide +kernel
theorem d_S_hasRoom_38 : decode b_S_hasRoom 38 = .ok (.aload_n 1, 1) := by decide +kernel
theorem d_S_hasRoom_39 : decode b_S_hasRoom 39 = .ok (.getfield 67, 3) := by decide +kernel
theorem d_S_hasRoom_42 : decode b_S_hasRoom 42 = .ok (.iload 8, 2) := by decide +kernel
theorem d_S_hasRoom_44 : decode b_S_hasRoom 44 = .ok (.iaload, 1) := by decide +kernel
theorem d_S_hasRoom_45 : decode b_S_hasRoom 45 = .ok (.iload_n 3, 1) := by decide +kernel
theorem d_S_hasRoom_46 : decode b_S_hasRoom 46 = .ok (.if_icmp .ne 25, 3) := by decide +kernel
theorem d_S_hasRoom_49 : decode b_S_hasRoom 49 = .ok (.lload 6, 2) := by decide +kernel
theorem d_S_hasRoom_51 : decode b_S_hasRoom 51 = .ok (.aload_n 1, 1) := by decide +kernel
theorem d_S_hasRoom_52 : decode b_S_hasRoom 52 = .ok (.getfield 42, 3) := by decide +kernel
theorem d_S_hasRoom_55 : decode b_S_hasRoom 55 = .ok (.iload 8, 2) := by decide +kernel
theorem d_S_hasRoom_57 : decode b_S_hasRoom 57 = .ok (.iaload, 1) := by decide +kernel
theorem d_S_hasRoom_58 : decode b_S_hasRoom 58 = .ok (.aload_n 0, 1) := by decide +kernel
theorem d_S_hasRoom_59 : decode b_S_hasRoom 59 = .ok (.getfield 18, 3) := by decide +kernel
theorem d_S_hasRoom_62 : decode b_S_hasRoom 62 = .ok (.iload 8, 2) := by decide +kernel
theorem d_S_hasRoom_64 : decode b_S_hasRoom 64 = .ok (.iaload, 1) := by decide +kernel
theorem d_S_hasRoom_65 : decode b_S_hasRoom 65 = .ok (.invokestatic 35, 3) := by decide +kernel
theorem d_S_hasRoom_68 : decode b_S_hasRoom 68 = .ok (.lor, 1) := by decide +kernel
theorem d_S_hasRoom_69 : decode b_S_hasRoom 69 = .ok (.lstore 6, 2) := by decide +kernel
theorem d_S_hasRoom_71 : decode b_S_hasRoom 71 = .ok (.iinc 8 1, 3) := by decide +kernel
theorem d_S_hasRoom_74 : decode b_S_hasRoom 74 = .ok (.goto (-51), 3) := by decide +kernel
theorem d_S_hasRoom_77 : decode b_S_hasRoom 77 = .ok (.lload 6, 2) := by decide +kernel
theorem d_S_hasRoom_79 : decode b_S_hasRoom 79 = .ok (.iload 4, 2) := by decide +kernel
theorem d_S_hasRoom_81 : decode b_S_hasRoom 81 = .ok (.iload 5, 2) := by decide +kernel
theorem d_S_hasRoom_83 : decode b_S_hasRoom 83 = .ok (.invokestatic 35, 3) := by decide +kernel
theorem d_S_hasRoom_86 : decode b_S_hasRoom 86 = .ok (.land, 1) := by decide +kernel
theorem d_S_hasRoom_87 : decode b_S_hasRoom 87 = .ok (.lconst 0, 1) := by decide +kernel
theorem d_S_hasRoom_88 : decode b_S_hasRoom 88 = .ok (.lcmp, 1) := by decide +kernel
theorem d_S_hasRoom_89 : decode b_S_hasRoom 89 = .ok (.ifCond .ne 7, 3) := by decide +kernel
theorem d_S_hasRoom_92 : decode b_S_hasRoom 92 = .ok (.iconst 1, 1) := by decide +kernel
theorem d_S_hasRoom_93 : decode b_S_hasRoom 93 = .ok (.goto 4, 3) := by decide +kernel
theorem d_S_hasRoom_96 : decode b_S_hasRoom 96 = .ok (.iconst 0, 1) := by decide +kernel
theorem d_S_hasRoom_97 : decode b_S_hasRoom 97 = .ok (.ireturn, 1) := by decide +kernel
theorem d_I_bitCount_0 : decode b_I_bitCount 0 = .ok (.iload_n 0, 1) := by decide +kernel
theorem d_I_bitCount_1 : decode b_I_bitCount 1 = .ok (.iload_n 0, 1) := by decide +kernel
theorem d_I_bitCount_2 : decode b_I_bitCount 2 = .ok (.iconst 1, 1) := by decide +kernel
theorem d_I_bitCount_3 : decode b_I_bitCount 3 = .ok (.iushr, 1) := by decide +kernel
theorem d_I_bitCount_4 : decode b_I_bitCount 4 = .ok (.ldc_w 265, 3) := by decide +kernel
theorem d_I_bitCount_7 : decode b_I_bitCount 7 = .ok (.iand, 1) := by decide +kernel
theorem d_I_bitCount_8 : decode b_I_bitCount 8 = .ok (.isub, 1) := by decide +kernel
theorem d_I_bitCount_9 : decode b_I_bitCount 9 = .ok (.istore_n 0, 1) := by decide +kernel
theorem d_I_bitCount_10 : decode b_I_bitCount 10 = .ok (.iload_n 0, 1) := by decide +kernel
theorem d_I_bitCount_11 : decode b_I_bitCount 11 = .ok (.ldc_w 266, 3) := by decide +kernel
theorem d_I_bitCount_14 : decode b_I_bitCount 14 = .ok (.iand, 1) := by decide +kernel
theorem d_I_bitCount_15 : decode b_I_bitCount 15 = .ok (.iload_n 0, 1) := by decide +kernel
theorem d_I_bitCount_16 : decode b_I_bitCount 16 = .ok (.iconst 2, 1) := by decide +kernel
theorem d_I_bitCount_17 : decode b_I_bitCount 17 = .ok (.iushr, 1) := by decide +kernel
theorem d_I_bitCount_18 : decode b_I_bitCount 18 = .ok (.ldc_w 266, 3) := by decide +kernel
theorem d_I_bitCount_21 : decode b_I_bitCount 21 = .ok (.iand, 1) := by decide +kernel
theorem d_I_bitCount_22 : decode b_I_bitCount 22 = .ok (.iadd, 1) := by decide +kernel
theorem d_I_bitCount_23 : decode b_I_bitCount 23 = .ok (.istore_n 0, 1) := by decide +kernel
theorem d_I_bitCount_24 : decode b_I_bitCount 24 = .ok (.iload_n 0, 1) := by decide +kernel
theorem d_I_bitCount_25 : decode b_I_bitCount 25 = .ok (.iload_n 0, 1) := by decide +kernel
theorem d_I_bitCount_26 : decode b_I_bitCount 26 = .ok (.iconst 4, 1) := by decide +kernel
theorem d_I_bitCount_27 : decode b_I_bitCount 27 = .ok (.iushr, 1) := by decide +kernel
theorem d_I_bitCount_28 : decode b_I_bitCount 28 = .ok (.iadd, 1) := by decide +kernel
theorem d_I_bitCount_29 : decode b_I_bitCount 29 = .ok (.ldc_w 267, 3) := by decide +kernel
theorem d_I_bitCount_32 : decode b_I_bitCount 32 = .ok (.iand, 1) := by decide +kernel
theorem d_I_bitCount_33 : decode b_I_bitCount 33 = .ok (.istore_n 0, 1) := by decide +kernel
theorem d_I_bitCount_34 : decode b_I_bitCount 34 = .ok (.iload_n 0, 1) := by decide +kernel
theorem d_I_bitCount_35 : decode b_I_bitCount 35 = .ok (.iload_n 0, 1) := by decide +kernel
theorem d_I_bitCount_36 : decode b_I_bitCount 36 = .ok (.bipush 8, 2) := by decide +kernel
theorem d_I_bitCount_38 : decode b_I_bitCount 38 = .ok (.iushr, 1) := by decide +kernel
theorem d_I_bitCount_39 : decode b_I_bitCount 39 = .ok (.iadd, 1) := by decide +kernel
theorem d_I_bitCount_40 : decode b_I_bitCount 40 = .ok (.istore_n 0, 1) := by decide +kernel
theorem d_I_bitCount_41 : decode b_I_bitCount 41 = .ok (.iload_n 0, 1) := by decide +kernel
theorem d_I_bitCount_42 : decode b_I_bitCount 42 = .ok (.iload_n 0, 1) := by decide +kernel
theorem d_I_bitCount_43 : decode b_I_bitCount 43 = .ok (.bipush 16, 2) := by decide +kernel
theorem d_I_bitCount_45 : decode b_I_bitCount 45 = .ok (.iushr, 1) := by decide +kernel
theorem d_I_bitCount_46 : decode b_I_bitCount 46 = .ok (.iadd, 1) := by decide +kernel
theorem d_I_bitCount_47 : decode b_I_bitCount 47 = .ok (.istore_n 0, 1) := by decide +kernel
theorem d_I_bitCount_48 : decode b_I_bitCount 48 = .ok (.iload_n 0, 1) := by decide +kernel
theorem d_I_bitCount_49 : decode b_I_bitCount 49 = .ok (.bipush 63, 2) := by decide +kernel
theorem d_I_bitCount_51 : decode b_I_bitCount 51 = .ok (.iand, 1) := by decide +kernel
theorem d_I_bitCount_52 : decode b_I_bitCount 52 = .ok (.ireturn, 1) := by decide +kernel
end
section
theorem d_M_init_0 : decode b_M_init 0 = .ok (.aload_n 0, 1) := by decide +kernel
theorem d_M_init_1 : decode b_M_init 1 = .ok (.invokespecial 1, 3) := by decide +kernel
theorem d_M_init_4 : decode b_M_init 4 = .ok (.aload_n 0, 1) := by decide +kernel
theorem d_M_init_5 : decode b_M_init 5 = .ok (.bipush 8, 2) := by decide +kernel
theorem d_M_init_7 : decode b_M_init 7 = .ok (.newarray .int, 2) := by decide +kernel
theorem d_M_init_9 : decode b_M_init 9 = .ok (.putfield 7, 3) := by decide +kernel
theorem d_M_init_12 : decode b_M_init 12 = .ok (.aload_n 0, 1) := by decide +kernel
theorem d_M_init_13 : decode b_M_init 13 = .ok (.bipush 8, 2) := by decide +kernel
theorem d_M_init_15 : decode b_M_init 15 = .ok (.newarray .int, 2) := by decide +kernel
theorem d_M_init_17 : decode b_M_init 17 = .ok (.putfield 13, 3) := by decide +kernel
theorem d_M_init_20 : decode b_M_init 20 = .ok (.aload_n 0, 1) := by decide +kernel
theorem d_M_init_21 : decode b_M_init 21 = .ok (.bipush 6, 2) := by decide +kernel
theorem d_M_init_23 : decode b_M_init 23 = .ok (.newarray .int, 2) := by decide +kernel
theorem d_M_init_25 : decode b_M_init 25 = .ok (.putfield 16, 3) := by decide +kernel
theorem d_M_init_28 : decode b_M_init 28 = .ok (.aload_n 0, 1) := by decide +kernel
theorem d_M_init_29 : decode b_M_init 29 = .ok (.bipush 6, 2) := by decide +kernel
theorem d_M_init_31 : decode b_M_init 31 = .ok (.newarray .int, 2) := by decide +kernel
theorem d_M_init_33 : decode b_M_init 33 = .ok (.putfield 19, 3) := by decide +kernel
theorem d_M_init_36 : decode b_M_init 36 = .ok (.aload_n 0, 1) := by decide +kernel
theorem d_M_init_37 : decode b_M_init 37 = .ok (.sipush 144, 3) := by decide +kernel
theorem d_M_init_40 : decode b_M_init 40 = .ok (.newarray .int, 2) := by decide +kernel
theorem d_M_init_42 : decode b_M_init 42 = .ok (.putfield 22, 3) := by decide +kernel
theorem d_M_init_45 : decode b_M_init 45 = .ok (.aload_n 0, 1) := by decide +kernel
theorem d_M_init_46 : decode b_M_init 46 = .ok (.bipush 10, 2) := by decide +kernel
theorem d_M_init_48 : decode b_M_init 48 = .ok (.newarray .int, 2) := by decide +kernel
theorem d_M_init_50 : decode b_M_init 50 = .ok (.putfield 25, 3) := by decide +kernel
theorem d_M_init_53 : decode b_M_init 53 = .ok (.aload_n 0, 1) := by decide +kernel
theorem d_M_init_54 : decode b_M_init 54 = .ok (.bipush 10, 2) := by decide +kernel
theorem d_M_init_56 : decode b_M_init 56 = .ok (.newarray .int, 2) := by decide +kernel
theorem d_M_init_58 : decode b_M_init 58 = .ok (.putfield 28, 3) := by decide +kernel
theorem d_M_init_61 : decode b_M_init 61 = .ok (.aload_n 0, 1) := by decide +kernel
theorem d_M_init_62 : decode b_M_init 62 = .ok (.bipush 10, 2) := by decide +kernel
theorem d_M_init_64 : decode b_M_init 64 = .ok (.newarray .int, 2) := by decide +kernel
theorem d_M_init_66 : decode b_M_init 66 = .ok (.putfield 31, 3) := by decide +kernel
theorem d_M_init_69 : decode b_M_init 69 = .ok (.aload_n 0, 1) := by decide +kernel
theorem d_M_init_70 : decode b_M_init 70 = .ok (.bipush 6, 2) := by decide +kernel
theorem d_M_init_72 : decode b_M_init 72 = .ok (.newarray .boolean, 2) := by decide +kernel
theorem d_M_init_74 : decode b_M_init 74 = .ok (.putfield 34, 3) := by decide +kernel
theorem d_M_init_77 : decode b_M_init 77 = .ok (.return_, 1) := by decide +kernel
theorem d_M_thrown_0 : decode b_M_thrown 0 = .ok (.aload_n 0, 1) := by decide +kernel
theorem d_M_thrown_1 : decode b_M_thrown 1 = .ok (.getfield 38, 3) := by decide +kernel
theorem d_M_thrown_4 : decode b_M_thrown 4 = .ok (.ireturn, 1) := by decide +kernel
theorem d_M_throwing_0 : decode b_M_throwing 0 = .ok (.aload_n 0, 1) := by decide +kernel
theorem d_M_throwing_1 : decode b_M_throwing 1 = .ok (.iload_n 1, 1) := by decide +kernel
theorem d_M_throwing_2 : decode b_M_throwing 2 = .ok (.ifCond .eq 7, 3) := by decide +kernel
theorem d_M_throwing_5 : decode b_M_throwing 5 = .ok (.iconst 1, 1) := by decide +kernel
theorem d_M_throwing_6 : decode b_M_throwing 6 = .ok (.goto 29, 3) := by decide +kernel
theorem d_M_throwing_9 : decode b_M_throwing 9 = .ok (.iload_n 2, 1) := by decide +kernel
theorem d_M_throwing_10 : decode b_M_throwing 10 = .ok (.ifCond .eq 7, 3) := by decide +kernel
theorem d_M_throwing_13 : decode b_M_throwing 13 = .ok (.iconst 2, 1) := by decide +kernel
theorem d_M_throwing_14 : decode b_M_throwing 14 = .ok (.goto 21, 3) := by decide +kernel
theorem d_M_throwing_17 : decode b_M_throwing 17 = .ok (.iload_n 3, 1) := by decide +kernel
theorem d_M_throwing_18 : decode b_M_throwing 18 = .ok (.ifCond .eq 7, 3) := by decide +kernel
theorem d_M_throwing_21 : decode b_M_throwing 21 = .ok (.iconst 3, 1) := by decide +kernel
theorem d_M_throwing_22 : decode b_M_throwing 22 = .ok (.goto 13, 3) := by decide +kernel
theorem d_M_throwing_25 : decode b_M_throwing 25 = .ok (.iload 4, 2) := by decide +kernel
theorem d_M_throwing_27 : decode b_M_throwing 27 = .ok (.ifCond .eq 7, 3) := by decide +kernel
theorem d_M_throwing_30 : decode b_M_throwing 30 = .ok (.iconst 4, 1) := by decide +kernel
theorem d_M_throwing_31 : decode b_M_throwing 31 = .ok (.goto 4, 3) := by decide +kernel
theorem d_M_throwing_34 : decode b_M_throwing 34 = .ok (.iconst 0, 1) := by decide +kernel
theorem d_M_throwing_35 : decode b_M_throwing 35 = .ok (.putfield 38, 3) := by decide +kernel
theorem d_M_throwing_38 : decode b_M_throwing 38 = .ok (.aload_n 0, 1) := by decide +kernel
theorem d_M_throwing_39 : decode b_M_throwing 39 = .ok (.getfield 38, 3) := by decide +kernel
theorem d_M_throwing_42 : decode b_M_throwing 42 = .ok (.ifCond .le 7, 3) := by decide +kernel
theorem d_M_throwing_45 : decode b_M_throwing 45 = .ok (.iconst 1, 1) := by decide +kernel
theorem d_M_throwing_46 : decode b_M_throwing 46 = .ok (.goto 4, 3) := by decide +kernel
theorem d_M_throwing_49 : decode b_M_throwing 49 = .ok (.iconst 0, 1) := by decide +kernel
theorem d_M_throwing_50 : decode b_M_throwing 50 = .ok (.ireturn, 1) := by decide +kernel
theorem d_M_in_0 : decode b_M_in 0 = .ok (.iload_n 0, 1) := by decide +kernel
theorem d_M_in_1 : decode b_M_in 1 = .ok (.iload_n 1, 1) := by decide +kernel
theorem d_M_in_2 : decode b_M_in 2 = .ok (.if_icmp .lt 12, 3) := by decide +kernel
theorem d_M_in_5 : decode b_M_in 5 = .ok (.iload_n 0, 1) := by decide +kernel
theorem d_M_in_6 : decode b_M_in 6 = .ok (.iload_n 2, 1) := by decide +kernel
theorem d_M_in_7 : decode b_M_in 7 = .ok (.if_icmp .gt 7, 3) := by decide +kernel
theorem d_M_in_10 : decode b_M_in 10 = .ok (.iconst 1, 1) := by decide +kernel
theorem d_M_in_11 : decode b_M_in 11 = .ok (.goto 4, 3) := by decide +kernel
theorem d_M_in_14 : decode b_M_in 14 = .ok (.iconst 0, 1) := by decide +kernel
theorem d_M_in_15 : decode b_M_in 15 = .ok (.ireturn, 1) := by decide +kernel
theorem d_M_isHeat_0 : decode b_M_isHeat 0 = .ok (.iload_n 1, 1) := by decide +kernel
theorem d_M_isHeat_1 : decode b_M_isHeat 1 = .ok (.iconst 0, 1) := by decide +kernel
theorem d_M_isHeat_2 : decode b_M_isHeat 2 = .ok (.aload_n 0, 1) := by decide +kernel
theorem d_M_isHeat_3 : decode b_M_isHeat 3 = .ok (.getfield 42, 3) := by decide +kernel
theorem d_M_isHeat_6 : decode b_M_isHeat 6 = .ok (.iconst 1, 1) := by decide +kernel
theorem d_M_isHeat_7 : decode b_M_isHeat 7 = .ok (.isub, 1) := by decide +kernel
theorem d_M_isHeat_8 : decode b_M_isHeat 8 = .ok (.invokestatic 45, 3) := by decide +kernel
theorem d_M_isHeat_11 : decode b_M_isHeat 11 = .ok (.ireturn, 1) := by decide +kernel
theorem d_M_copy_0 : decode b_M_copy 0 = .ok (.iconst 0, 1) := by decide +kernel
theorem d_M_copy_1 : decode b_M_copy 1 = .ok (.istore_n 3, 1) := by decide +kernel
theorem d_M_copy_2 : decode b_M_copy 2 = .ok (.iload_n 3, 1) := by decide +kernel
theorem d_M_copy_3 : decode b_M_copy 3 = .ok (.bipush 18, 2) := by decide +kernel
theorem d_M_copy_5 : decode b_M_copy 5 = .ok (.if_icmp .ge 25, 3) := by decide +kernel
theorem d_M_copy_8 : decode b_M_copy 8 = .ok (.aload_n 0, 1) := by decide +kernel
theorem d_M_copy_9 : decode b_M_copy 9 = .ok (.getfield 22, 3) := by decide +kernel
theorem d_M_copy_12 : decode b_M_copy 12 = .ok (.iload_n 2, 1) := by decide +kernel
theorem d_M_copy_13 : decode b_M_copy 13 = .ok (.iload_n 3, 1) := by decide +kernel
theorem d_M_copy_14 : decode b_M_copy 14 = .ok (.iadd, 1) := by decide +kernel
theorem d_M_copy_15 : decode b_M_copy 15 = .ok (.aload_n 0, 1) := by decide +kernel
theorem d_M_copy_16 : decode b_M_copy 16 = .ok (.getfield 22, 3) := by decide +kernel
theorem d_M_copy_19 : decode b_M_copy 19 = .ok (.iload_n 1, 1) := by decide +kernel
theorem d_M_copy_20 : decode b_M_copy 20 = .ok (.iload_n 3, 1) := by decide +kernel
theorem d_M_copy_21 : decode b_M_copy 21 = .ok (.iadd, 1) := by decide +kernel
theorem d_M_copy_22 : decode b_M_copy 22 = .ok (.iaload, 1) := by decide +kernel
theorem d_M_copy_23 : decode b_M_copy 23 = .ok (.iastore, 1) := by decide +kernel
theorem d_M_copy_24 : decode b_M_copy 24 = .ok (.iinc 3 1, 3) := by decide +kernel
theorem d_M_copy_27 : decode b_M_copy 27 = .ok (.goto (-25), 3) := by decide +kernel
theorem d_M_copy_30 : decode b_M_copy 30 = .ok (.return_, 1) := by decide +kernel
theorem d_M_isFree_0 : decode b_M_isFree 0 = .ok (.aload_n 0, 1) := by decide +kernel
theorem d_M_isFree_1 : decode b_M_isFree 1 = .ok (.getfield 19, 3) := by decide +kernel
theorem d_M_isFree_4 : decode b_M_isFree 4 = .ok (.iload_n 1, 1) := by decide +kernel
theorem d_M_isFree_5 : decode b_M_isFree 5 = .ok (.iaload, 1) := by decide +kernel
theorem d_M_isFree_6 : decode b_M_isFree 6 = .ok (.iload_n 2, 1) := by decide +kernel
theorem d_M_isFree_7 : decode b_M_isFree 7 = .ok (.ishr, 1) := by decide +kernel
theorem d_M_isFree_8 : decode b_M_isFree 8 = .ok (.iconst 1, 1) := by decide +kernel
theorem d_M_isFree_9 : decode b_M_isFree 9 = .ok (.iand, 1) := by decide +kernel
theorem d_M_isFree_10 : decode b_M_isFree 10 = .ok (.iconst 1, 1) := by decide +kernel
theorem d_M_isFree_11 : decode b_M_isFree 11 = .ok (.if_icmp .ne 20, 3) := by decide +kernel
theorem d_M_isFree_14 : decode b_M_isFree 14 = .ok (.iload_n 3, 1) := by decide +kernel
theorem d_M_isFree_15 : decode b_M_isFree 15 = .ok (.aload_n 0, 1) := by decide +kernel
theorem d_M_isFree_16 : decode b_M_isFree 16 = .ok (.getfield 16, 3) := by decide +kernel
theorem d_M_isFree_19 : decode b_M_isFree 19 = .ok (.iload_n 1, 1) := by decide +kernel
theorem d_M_isFree_20 : decode b_M_isFree 20 = .ok (.iaload, 1) := by decide +kernel
theorem d_M_isFree_21 : decode b_M_isFree 21 = .ok (.iadd, 1) := by decide +kernel
theorem d_M_isFree_22 : decode b_M_isFree 22 = .ok (.bipush 60, 2) := by decide +kernel
theorem d_M_isFree_24 : decode b_M_isFree 24 = .ok (.if_icmp .gt 7, 3) := by decide +kernel
theorem d_M_isFree_27 : decode b_M_isFree 27 = .ok (.iconst 1, 1) := by decide +kernel
theorem d_M_isFree_28 : decode b_M_isFree 28 = .ok (.goto 4, 3) := by decide +kernel
theorem d_M_isFree_31 : decode b_M_isFree 31 = .ok (.iconst 0, 1) := by decide +kernel
theorem d_M_isFree_32 : decode b_M_isFree 32 = .ok (.istore 4, 2) := by decide +kernel
theorem d_M_isFree_34 : decode b_M_isFree 34 = .ok (.iconst 0, 1) := by decide +kernel
theorem d_M_isFree_35 : decode b_M_isFree 35 = .ok (.istore 5, 2) := by decide +kernel
theorem d_M_isFree_37 : decode b_M_isFree 37 = .ok (.iload 5, 2) := by decide +kernel
theorem d_M_isFree_39 : decode b_M_isFree 39 = .ok (.aload_n 0, 1) := by decide +kernel
theorem d_M_isFree_40 : decode b_M_isFree 40 = .ok (.getfield 49, 3) := by decide +kernel
theorem d_M_isFree_43 : decode b_M_isFree 43 = .ok (.if_icmp .ge 61, 3) := by decide +kernel
theorem d_M_isFree_46 : decode b_M_isFree 46 = .ok (.iload 4, 2) := by decide +kernel
theorem d_M_isFree_48 : decode b_M_isFree 48 = .ok (.ifCond .eq 47, 3) := by decide +kernel
theorem d_M_isFree_51 : decode b_M_isFree 51 = .ok (.aload_n 0, 1) := by decide +kernel
theorem d_M_isFree_52 : decode b_M_isFree 52 = .ok (.getfield 25, 3) := by decide +kernel
theorem d_M_isFree_55 : decode b_M_isFree 55 = .ok (.iload 5, 2) := by decide +kernel
theorem d_M_isFree_57 : decode b_M_isFree 57 = .ok (.iaload, 1) := by decide +kernel
theorem d_M_isFree_58 : decode b_M_isFree 58 = .ok (.iload_n 2, 1) := by decide +kernel
theorem d_M_isFree_59 : decode b_M_isFree 59 = .ok (.if_icmp .ne 32, 3) := by decide +kernel
theorem d_M_isFree_62 : decode b_M_isFree 62 = .ok (.iload_n 3, 1) := by decide +kernel
theorem d_M_isFree_63 : decode b_M_isFree 63 = .ok (.aload_n 0, 1) := by decide +kernel
theorem d_M_isFree_64 : decode b_M_isFree 64 = .ok (.getfield 31, 3) := by decide +kernel
theorem d_M_isFree_67 : decode b_M_isFree 67 = .ok (.iload 5, 2) := by decide +kernel
theorem d_M_isFree_69 : decode b_M_isFree 69 = .ok (.iaload, 1) := by decide +kernel
theorem d_M_isFree_70 : decode b_M_isFree 70 = .ok (.if_icmp .ge 21, 3) := by decide +kernel
theorem d_M_isFree_73 : decode b_M_isFree 73 = .ok (.iload_n 3, 1) := by decide +kernel
theorem d_M_isFree_74 : decode b_M_isFree 74 = .ok (.aload_n 0, 1) := by decide +kernel
theorem d_M_isFree_75 : decode b_M_isFree 75 = .ok (.getfield 16, 3) := by decide +kernel
theorem d_M_isFree_78 : decode b_M_isFree 78 = .ok (.iload_n 1, 1) := by decide +kernel
theorem d_M_isFree_79 : decode b_M_isFree 79 = .ok (.iaload, 1) := by decide +kernel
theorem d_M_isFree_80 : decode b_M_isFree 80 = .ok (.iadd, 1) := by decide +kernel
theorem d_M_isFree_81 : decode b_M_isFree 81 = .ok (.aload_n 0, 1) := by decide +kernel
theorem d_M_isFree_82 : decode b_M_isFree 82 = .ok (.getfield 28, 3) := by decide +kernel
theorem d_M_isFree_85 : decode b_M_isFree 85 = .ok (.iload 5, 2) := by decide +kernel
theorem d_M_isFree_87 : decode b_M_isFree 87 = .ok (.iaload, 1) := by decide +kernel
theorem d_M_isFree_88 : decode b_M_isFree 88 = .ok (.if_icmp .gt 7, 3) := by decide +kernel
theorem d_M_isFree_91 : decode b_M_isFree 91 = .ok (.iconst 1, 1) := by decide +kernel
theorem d_M_isFree_92 : decode b_M_isFree 92 = .ok (.goto 4, 3) := by decide +kernel
theorem d_M_isFree_95 : decode b_M_isFree 95 = .ok (.iconst 0, 1) := by decide +kernel
theorem d_M_isFree_96 : decode b_M_isFree 96 = .ok (.istore 4, 2) := by decide +kernel
theorem d_M_isFree_98 : decode b_M_isFree 98 = .ok (.iinc 5 1, 3) := by decide +kernel
theorem d_M_isFree_101 : decode b_M_isFree 101 = .ok (.goto (-64), 3) := by decide +kernel
theorem d_M_isFree_104 : decode b_M_isFree 104 = .ok (.iload 4, 2) := by decide +kernel
theorem d_M_isFree_106 : decode b_M_isFree 106 = .ok (.ireturn, 1) := by decide +kernel
theorem d_M_meets_0 : decode b_M_meets 0 = .ok (.iload_n 1, 1) := by decide +kernel
theorem d_M_meets_1 : decode b_M_meets 1 = .ok (.iconst 3, 1) := by decide +kernel
theorem d_M_meets_2 : decode b_M_meets 2 = .ok (.iload_n 3, 1) := by decide +kernel
theorem d_M_meets_3 : decode b_M_meets 3 = .ok (.imul, 1) := by decide +kernel
theorem d_M_meets_4 : decode b_M_meets 4 = .ok (.iadd, 1) := by decide +kernel
theorem d_M_meets_5 : decode b_M_meets 5 = .ok (.istore 6, 2) := by decide +kernel
theorem d_M_meets_7 : decode b_M_meets 7 = .ok (.iload_n 3, 1) := by decide +kernel
theorem d_M_meets_8 : decode b_M_meets 8 = .ok (.iload_n 2, 1) := by decide +kernel
theorem d_M_meets_9 : decode b_M_meets 9 = .ok (.if_icmp .eq 61, 3) := by decide +kernel
theorem d_M_meets_12 : decode b_M_meets 12 = .ok (.aload_n 0, 1) := by decide +kernel
theorem d_M_meets_13 : decode b_M_meets 13 = .ok (.getfield 22, 3) := by decide +kernel
theorem d_M_meets_16 : decode b_M_meets 16 = .ok (.iload 6, 2) := by decide +kernel
theorem d_M_meets_18 : decode b_M_meets 18 = .ok (.iaload, 1) := by decide +kernel
theorem d_M_meets_19 : decode b_M_meets 19 = .ok (.iload 4, 2) := by decide +kernel
theorem d_M_meets_21 : decode b_M_meets 21 = .ok (.if_icmp .ne 49, 3) := by decide +kernel
theorem d_M_meets_24 : decode b_M_meets 24 = .ok (.aload_n 0, 1) := by decide +kernel
theorem d_M_meets_25 : decode b_M_meets 25 = .ok (.getfield 22, 3) := by decide +kernel
theorem d_M_meets_28 : decode b_M_meets 28 = .ok (.iload 6, 2) := by decide +kernel
theorem d_M_meets_30 : decode b_M_meets 30 = .ok (.iconst 1, 1) := by decide +kernel
theorem d_M_meets_31 : decode b_M_meets 31 = .ok (.iadd, 1) := by decide +kernel
theorem d_M_meets_32 : decode b_M_meets 32 = .ok (.iaload, 1) := by decide +kernel
theorem d_M_meets_33 : decode b_M_meets 33 = .ok (.iload 5, 2) := by decide +kernel
theorem d_M_meets_35 : decode b_M_meets 35 = .ok (.aload_n 0, 1) := by decide +kernel
theorem d_M_meets_36 : decode b_M_meets 36 = .ok (.getfield 16, 3) := by decide +kernel
theorem d_M_meets_39 : decode b_M_meets 39 = .ok (.iload_n 2, 1) := by decide +kernel
theorem d_M_meets_40 : decode b_M_meets 40 = .ok (.iaload, 1) := by decide +kernel
theorem d_M_meets_41 : decode b_M_meets 41 = .ok (.iadd, 1) := by decide +kernel
theorem d_M_meets_42 : decode b_M_meets 42 = .ok (.if_icmp .ge 28, 3) := by decide +kernel
theorem d_M_meets_45 : decode b_M_meets 45 = .ok (.iload 5, 2) := by decide +kernel
theorem d_M_meets_47 : decode b_M_meets 47 = .ok (.aload_n 0, 1) := by decide +kernel
theorem d_M_meets_48 : decode b_M_meets 48 = .ok (.getfield 22, 3) := by decide +kernel
theorem d_M_meets_51 : decode b_M_meets 51 = .ok (.iload 6, 2) := by decide +kernel
theorem d_M_meets_53 : decode b_M_meets 53 = .ok (.iconst 1, 1) := by decide +kernel
theorem d_M_meets_54 : decode b_M_meets 54 = .ok (.iadd, 1) := by decide +kernel
theorem d_M_meets_55 : decode b_M_meets 55 = .ok (.iaload, 1) := by decide +kernel
theorem d_M_meets_56 : decode b_M_meets 56 = .ok (.aload_n 0, 1) := by decide +kernel
theorem d_M_meets_57 : decode b_M_meets 57 = .ok (.getfield 16, 3) := by decide +kernel
theorem d_M_meets_60 : decode b_M_meets 60 = .ok (.iload_n 3, 1) := by decide +kernel
theorem d_M_meets_61 : decode b_M_meets 61 = .ok (.iaload, 1) := by decide +kernel
theorem d_M_meets_62 : decode b_M_meets 62 = .ok (.iadd, 1) := by decide +kernel
theorem d_M_meets_63 : decode b_M_meets 63 = .ok (.if_icmp .ge 7, 3) := by decide +kernel
theorem d_M_meets_66 : decode b_M_meets 66 = .ok (.iconst 1, 1) := by decide +kernel
theorem d_M_meets_67 : decode b_M_meets 67 = .ok (.goto 4, 3) := by decide +kernel
theorem d_M_meets_70 : decode b_M_meets 70 = .ok (.iconst 0, 1) := by decide +kernel
theorem d_M_meets_71 : decode b_M_meets 71 = .ok (.ireturn, 1) := by decide +kernel
theorem d_M_fits_0 : decode b_M_fits 0 = .ok (.aload_n 0, 1) := by decide +kernel
theorem d_M_fits_1 : decode b_M_fits 1 = .ok (.iload_n 1, 1) := by decide +kernel
theorem d_M_fits_2 : decode b_M_fits 2 = .ok (.iload_n 2, 1) := by decide +kernel
theorem d_M_fits_3 : decode b_M_fits 3 = .ok (.iload_n 3, 1) := by decide +kernel
theorem d_M_fits_4 : decode b_M_fits 4 = .ok (.invokevirtual 52, 3) := by decide +kernel
theorem d_M_fits_7 : decode b_M_fits 7 = .ok (.istore 4, 2) := by decide +kernel
theorem d_M_fits_9 : decode b_M_fits 9 = .ok (.iconst 0, 1) := by decide +kernel
theorem d_M_fits_10 : decode b_M_fits 10 = .ok (.istore 5, 2) := by decide +kernel
theorem d_M_fits_12 : decode b_M_fits 12 = .ok (.iload 5, 2) := by decide +kernel
theorem d_M_fits_14 : decode b_M_fits 14 = .ok (.aload_n 0, 1) := by decide +kernel
theorem d_M_fits_15 : decode b_M_fits 15 = .ok (.getfield 42, 3) := by decide +kernel
theorem d_M_fits_18 : decode b_M_fits 18 = .ok (.if_icmp .ge 34, 3) := by decide +kernel
theorem d_M_fits_21 : decode b_M_fits 21 = .ok (.iload 4, 2) := by decide +kernel
theorem d_M_fits_23 : decode b_M_fits 23 = .ok (.ifCond .eq 20, 3) := by decide +kernel
theorem d_M_fits_26 : decode b_M_fits 26 = .ok (.aload_n 0, 1) := by decide +kernel
theorem d_M_fits_27 : decode b_M_fits 27 = .ok (.iconst 0, 1) := by decide +kernel
theorem d_M_fits_28 : decode b_M_fits 28 = .ok (.iload_n 1, 1) := by decide +kernel
theorem d_M_fits_29 : decode b_M_fits 29 = .ok (.iload 5, 2) := by decide +kernel
theorem d_M_fits_31 : decode b_M_fits 31 = .ok (.iload_n 2, 1) := by decide +kernel
theorem d_M_fits_32 : decode b_M_fits 32 = .ok (.iload_n 3, 1) := by decide +kernel
theorem d_M_fits_33 : decode b_M_fits 33 = .ok (.invokevirtual 55, 3) := by decide +kernel
theorem d_M_fits_36 : decode b_M_fits 36 = .ok (.ifCond .ne 7, 3) := by decide +kernel
theorem d_M_fits_39 : decode b_M_fits 39 = .ok (.iconst 1, 1) := by decide +kernel
theorem d_M_fits_40 : decode b_M_fits 40 = .ok (.goto 4, 3) := by decide +kernel
theorem d_M_fits_43 : decode b_M_fits 43 = .ok (.iconst 0, 1) := by decide +kernel
theorem d_M_fits_44 : decode b_M_fits 44 = .ok (.istore 4, 2) := by decide +kernel
theorem d_M_fits_46 : decode b_M_fits 46 = .ok (.iinc 5 1, 3) := by decide +kernel
theorem d_M_fits_49 : decode b_M_fits 49 = .ok (.goto (-37), 3) := by decide +kernel
theorem d_M_fits_52 : decode b_M_fits 52 = .ok (.iload 4, 2) := by decide +kernel
theorem d_M_fits_54 : decode b_M_fits 54 = .ok (.ireturn, 1) := by decide +kernel
theorem d_M_fitsTried_0 : decode b_M_fitsTried 0 = .ok (.aload_n 0, 1) := by decide +kernel
theorem d_M_fitsTried_1 : decode b_M_fitsTried 1 = .ok (.iload_n 1, 1) := by decide +kernel
theorem d_M_fitsTried_2 : decode b_M_fitsTried 2 = .ok (.iload_n 2, 1) := by decide +kernel
theorem d_M_fitsTried_3 : decode b_M_fitsTried 3 = .ok (.iload_n 3, 1) := by decide +kernel
theorem d_M_fitsTried_4 : decode b_M_fitsTried 4 = .ok (.invokevirtual 52, 3) := by decide +kernel
theorem d_M_fitsTried_7 : decode b_M_fitsTried 7 = .ok (.istore 4, 2) := by decide +kernel
theorem d_M_fitsTried_9 : decode b_M_fitsTried 9 = .ok (.iconst 0, 1) := by decide +kernel
theorem d_M_fitsTried_10 : decode b_M_fitsTried 10 = .ok (.istore 5, 2) := by decide +kernel
theorem d_M_fitsTried_12 : decode b_M_fitsTried 12 = .ok (.iload 5, 2) := by decide +kernel
theorem d_M_fitsTried_14 : decode b_M_fitsTried 14 = .ok (.aload_n 0, 1) := by decide +kernel
theorem d_M_fitsTried_15 : decode b_M_fitsTried 15 = .ok (.getfield 42, 3) := by decide +kernel
theorem d_M_fitsTried_18 : decode b_M_fitsTried 18 = .ok (.if_icmp .ge 45, 3) := by decide +kernel
theorem d_M_fitsTried_21 : decode b_M_fitsTried 21 = .ok (.iload 4, 2) := by decide +kernel
theorem d_M_fitsTried_23 : decode b_M_fitsTried 23 = .ok (.ifCond .eq 31, 3) := by decide +kernel
theorem d_M_fitsTried_26 : decode b_M_fitsTried 26 = .ok (.aload_n 0, 1) := by decide +kernel
theorem d_M_fitsTried_27 : decode b_M_fitsTried 27 = .ok (.getfield 34, 3) := by decide +kernel
theorem d_M_fitsTried_30 : decode b_M_fitsTried 30 = .ok (.iload 5, 2) := by decide +kernel
theorem d_M_fitsTried_32 : decode b_M_fitsTried 32 = .ok (.baload, 1) := by decide +kernel
theorem d_M_fitsTried_33 : decode b_M_fitsTried 33 = .ok (.ifCond .eq 17, 3) := by decide +kernel
theorem d_M_fitsTried_36 : decode b_M_fitsTried 36 = .ok (.aload_n 0, 1) := by decide +kernel
theorem d_M_fitsTried_37 : decode b_M_fitsTried 37 = .ok (.bipush 18, 2) := by decide +kernel
theorem d_M_fitsTried_39 : decode b_M_fitsTried 39 = .ok (.iload_n 1, 1) := by decide +kernel
theorem d_M_fitsTried_40 : decode b_M_fitsTried 40 = .ok (.iload 5, 2) := by decide +kernel
theorem d_M_fitsTried_42 : decode b_M_fitsTried 42 = .ok (.iload_n 2, 1) := by decide +kernel
theorem d_M_fitsTried_43 : decode b_M_fitsTried 43 = .ok (.iload_n 3, 1) := by decide +kernel
theorem d_M_fitsTried_44 : decode b_M_fitsTried 44 = .ok (.invokevirtual 55, 3) := by decide +kernel
theorem d_M_fitsTried_47 : decode b_M_fitsTried 47 = .ok (.ifCond .ne 7, 3) := by decide +kernel
theorem d_M_fitsTried_50 : decode b_M_fitsTried 50 = .ok (.iconst 1, 1) := by decide +kernel
theorem d_M_fitsTried_51 : decode b_M_fitsTried 51 = .ok (.goto 4, 3) := by decide +kernel
theorem d_M_fitsTried_54 : decode b_M_fitsTried 54 = .ok (.iconst 0, 1) := by decide +kernel
theorem d_M_fitsTried_55 : decode b_M_fitsTried 55 = .ok (.istore 4, 2) := by decide +kernel
theorem d_M_fitsTried_57 : decode b_M_fitsTried 57 = .ok (.iinc 5 1, 3) := by decide +kernel
theorem d_M_fitsTried_60 : decode b_M_fitsTried 60 = .ok (.goto (-48), 3) := by decide +kernel
theorem d_M_fitsTried_63 : decode b_M_fitsTried 63 = .ok (.iload 4, 2) := by decide +kernel
theorem d_M_fitsTried_65 : decode b_M_fitsTried 65 = .ok (.ireturn, 1) := by decide +kernel
theorem d_M_isFrozen_0 : decode b_M_isFrozen 0 = .ok (.aload_n 0, 1) := by decide +kernel
theorem d_M_isFrozen_1 : decode b_M_isFrozen 1 = .ok (.getfield 22, 3) := by decide +kernel
theorem d_M_isFrozen_4 : decode b_M_isFrozen 4 = .ok (.iconst 3, 1) := by decide +kernel
theorem d_M_isFrozen_5 : decode b_M_isFrozen 5 = .ok (.iload_n 1, 1) := by decide +kernel
theorem d_M_isFrozen_6 : decode b_M_isFrozen 6 = .ok (.imul, 1) := by decide +kernel
theorem d_M_isFrozen_7 : decode b_M_isFrozen 7 = .ok (.iconst 1, 1) := by decide +kernel
theorem d_M_isFrozen_8 : decode b_M_isFrozen 8 = .ok (.iadd, 1) := by decide +kernel
theorem d_M_isFrozen_9 : decode b_M_isFrozen 9 = .ok (.iaload, 1) := by decide +kernel
theorem d_M_isFrozen_10 : decode b_M_isFrozen 10 = .ok (.aload_n 0, 1) := by decide +kernel
theorem d_M_isFrozen_11 : decode b_M_isFrozen 11 = .ok (.getfield 59, 3) := by decide +kernel
theorem d_M_isFrozen_14 : decode b_M_isFrozen 14 = .ok (.aload_n 0, 1) := by decide +kernel
theorem d_M_isFrozen_15 : decode b_M_isFrozen 15 = .ok (.getfield 62, 3) := by decide +kernel
theorem d_M_isFrozen_18 : decode b_M_isFrozen 18 = .ok (.iadd, 1) := by decide +kernel
theorem d_M_isFrozen_19 : decode b_M_isFrozen 19 = .ok (.if_icmp .ge 7, 3) := by decide +kernel
theorem d_M_isFrozen_22 : decode b_M_isFrozen 22 = .ok (.iconst 1, 1) := by decide +kernel
theorem d_M_isFrozen_23 : decode b_M_isFrozen 23 = .ok (.goto 4, 3) := by decide +kernel
theorem d_M_isFrozen_26 : decode b_M_isFrozen 26 = .ok (.iconst 0, 1) := by decide +kernel
theorem d_M_isFrozen_27 : decode b_M_isFrozen 27 = .ok (.ireturn, 1) := by decide +kernel
theorem d_M_costOf_0 : decode b_M_costOf 0 = .ok (.aload_n 0, 1) := by decide +kernel
theorem d_M_costOf_1 : decode b_M_costOf 1 = .ok (.getfield 22, 3) := by decide +kernel
theorem d_M_costOf_4 : decode b_M_costOf 4 = .ok (.iload_n 1, 1) := by decide +kernel
theorem d_M_costOf_5 : decode b_M_costOf 5 = .ok (.iconst 3, 1) := by decide +kernel
theorem d_M_costOf_6 : decode b_M_costOf 6 = .ok (.iload_n 2, 1) := by decide +kernel
theorem d_M_costOf_7 : decode b_M_costOf 7 = .ok (.imul, 1) := by decide +kernel
theorem d_M_costOf_8 : decode b_M_costOf 8 = .ok (.iadd, 1) := by decide +kernel
theorem d_M_costOf_9 : decode b_M_costOf 9 = .ok (.iconst 1, 1) := by decide +kernel
theorem d_M_costOf_10 : decode b_M_costOf 10 = .ok (.iadd, 1) := by decide +kernel
theorem d_M_costOf_11 : decode b_M_costOf 11 = .ok (.iaload, 1) := by decide +kernel
theorem d_M_costOf_12 : decode b_M_costOf 12 = .ok (.aload_n 0, 1) := by decide +kernel
theorem d_M_costOf_13 : decode b_M_costOf 13 = .ok (.getfield 16, 3) := by decide +kernel
theorem d_M_costOf_16 : decode b_M_costOf 16 = .ok (.iload_n 2, 1) := by decide +kernel
theorem d_M_costOf_17 : decode b_M_costOf 17 = .ok (.iaload, 1) := by decide +kernel
theorem d_M_costOf_18 : decode b_M_costOf 18 = .ok (.iadd, 1) := by decide +kernel
theorem d_M_costOf_19 : decode b_M_costOf 19 = .ok (.aload_n 0, 1) := by decide +kernel
theorem d_M_costOf_20 : decode b_M_costOf 20 = .ok (.getfield 13, 3) := by decide +kernel
theorem d_M_costOf_23 : decode b_M_costOf 23 = .ok (.aload_n 0, 1) := by decide +kernel
theorem d_M_costOf_24 : decode b_M_costOf 24 = .ok (.getfield 22, 3) := by decide +kernel
theorem d_M_costOf_27 : decode b_M_costOf 27 = .ok (.iload_n 1, 1) := by decide +kernel
theorem d_M_costOf_28 : decode b_M_costOf 28 = .ok (.iconst 3, 1) := by decide +kernel
theorem d_M_costOf_29 : decode b_M_costOf 29 = .ok (.iload_n 2, 1) := by decide +kernel
theorem d_M_costOf_30 : decode b_M_costOf 30 = .ok (.imul, 1) := by decide +kernel
theorem d_M_costOf_31 : decode b_M_costOf 31 = .ok (.iadd, 1) := by decide +kernel
theorem d_M_costOf_32 : decode b_M_costOf 32 = .ok (.iconst 2, 1) := by decide +kernel
theorem d_M_costOf_33 : decode b_M_costOf 33 = .ok (.iadd, 1) := by decide +kernel
theorem d_M_costOf_34 : decode b_M_costOf 34 = .ok (.iaload, 1) := by decide +kernel
theorem d_M_costOf_35 : decode b_M_costOf 35 = .ok (.iaload, 1) := by decide +kernel
theorem d_M_costOf_36 : decode b_M_costOf 36 = .ok (.isub, 1) := by decide +kernel
theorem d_M_costOf_37 : decode b_M_costOf 37 = .ok (.istore_n 3, 1) := by decide +kernel
theorem d_M_costOf_38 : decode b_M_costOf 38 = .ok (.iload_n 3, 1) := by decide +kernel
theorem d_M_costOf_39 : decode b_M_costOf 39 = .ok (.ifCond .le 7, 3) := by decide +kernel
theorem d_M_costOf_42 : decode b_M_costOf 42 = .ok (.iload_n 3, 1) := by decide +kernel
theorem d_M_costOf_43 : decode b_M_costOf 43 = .ok (.goto 4, 3) := by decide +kernel
theorem d_M_costOf_46 : decode b_M_costOf 46 = .ok (.iconst 0, 1) := by decide +kernel
theorem d_M_costOf_47 : decode b_M_costOf 47 = .ok (.ireturn, 1) := by decide +kernel
theorem d_M_order_0 : decode b_M_order 0 = .ok (.aload_n 0, 1) := by decide +kernel
theorem d_M_order_1 : decode b_M_order 1 = .ok (.aload_n 0, 1) := by decide +kernel
theorem d_M_order_2 : decode b_M_order 2 = .ok (.getfield 65, 3) := by decide +kernel
theorem d_M_order_5 : decode b_M_order 5 = .ok (.bipush 8, 2) := by decide +kernel
theorem d_M_order_7 : decode b_M_order 7 = .ok (.if_icmp .ne 7, 3) := by decide +kernel
theorem d_M_order_10 : decode b_M_order 10 = .ok (.iconst 1, 1) := by decide +kernel
theorem d_M_order_11 : decode b_M_order 11 = .ok (.goto 4, 3) := by decide +kernel
theorem d_M_order_14 : decode b_M_order 14 = .ok (.iconst 0, 1) := by decide +kernel
theorem d_M_order_15 : decode b_M_order 15 = .ok (.iload_n 1, 1) := by decide +kernel
theorem d_M_order_16 : decode b_M_order 16 = .ok (.iconst 0, 1) := by decide +kernel
theorem d_M_order_17 : decode b_M_order 17 = .ok (.bipush 9, 2) := by decide +kernel
theorem d_M_order_19 : decode b_M_order 19 = .ok (.invokestatic 45, 3) := by decide +kernel
theorem d_M_order_22 : decode b_M_order 22 = .ok (.ifCond .eq 14, 3) := by decide +kernel
theorem d_M_order_25 : decode b_M_order 25 = .ok (.iload_n 2, 1) := by decide +kernel
theorem d_M_order_26 : decode b_M_order 26 = .ok (.iconst 0, 1) := by decide +kernel
theorem d_M_order_27 : decode b_M_order 27 = .ok (.sipush 200, 3) := by decide +kernel
theorem d_M_order_30 : decode b_M_order 30 = .ok (.invokestatic 45, 3) := by decide +kernel
theorem d_M_order_33 : decode b_M_order 33 = .ok (.ifCond .ne 7, 3) := by decide +kernel
theorem d_M_order_36 : decode b_M_order 36 = .ok (.iconst 1, 1) := by decide +kernel
theorem d_M_order_37 : decode b_M_order 37 = .ok (.goto 4, 3) := by decide +kernel
theorem d_M_order_40 : decode b_M_order 40 = .ok (.iconst 0, 1) := by decide +kernel
theorem d_M_order_41 : decode b_M_order 41 = .ok (.iconst 0, 1) := by decide +kernel
theorem d_M_order_42 : decode b_M_order 42 = .ok (.iconst 0, 1) := by decide +kernel
theorem d_M_order_43 : decode b_M_order 43 = .ok (.invokevirtual 68, 3) := by decide +kernel
theorem d_M_order_46 : decode b_M_order 46 = .ok (.ifCond .eq 5, 3) := by decide +kernel
theorem d_M_order_49 : decode b_M_order 49 = .ok (.iconst 0, 1) := by decide +kernel
theorem d_M_order_50 : decode b_M_order 50 = .ok (.ireturn, 1) := by decide +kernel
theorem d_M_order_51 : decode b_M_order 51 = .ok (.aload_n 0, 1) := by decide +kernel
theorem d_M_order_52 : decode b_M_order 52 = .ok (.getfield 7, 3) := by decide +kernel
theorem d_M_order_55 : decode b_M_order 55 = .ok (.aload_n 0, 1) := by decide +kernel
theorem d_M_order_56 : decode b_M_order 56 = .ok (.getfield 65, 3) := by decide +kernel
theorem d_M_order_59 : decode b_M_order 59 = .ok (.iload_n 1, 1) := by decide +kernel
theorem d_M_order_60 : decode b_M_order 60 = .ok (.iastore, 1) := by decide +kernel
theorem d_M_order_61 : decode b_M_order 61 = .ok (.aload_n 0, 1) := by decide +kernel
theorem d_M_order_62 : decode b_M_order 62 = .ok (.getfield 13, 3) := by decide +kernel
theorem d_M_order_65 : decode b_M_order 65 = .ok (.aload_n 0, 1) := by decide +kernel
theorem d_M_order_66 : decode b_M_order 66 = .ok (.getfield 65, 3) := by decide +kernel
theorem d_M_order_69 : decode b_M_order 69 = .ok (.iload_n 2, 1) := by decide +kernel
theorem d_M_order_70 : decode b_M_order 70 = .ok (.iastore, 1) := by decide +kernel
theorem d_M_order_71 : decode b_M_order 71 = .ok (.aload_n 0, 1) := by decide +kernel
theorem d_M_order_72 : decode b_M_order 72 = .ok (.dup, 1) := by decide +kernel
theorem d_M_order_73 : decode b_M_order 73 = .ok (.getfield 65, 3) := by decide +kernel
theorem d_M_order_76 : decode b_M_order 76 = .ok (.iconst 1, 1) := by decide +kernel
theorem d_M_order_77 : decode b_M_order 77 = .ok (.iadd, 1) := by decide +kernel
theorem d_M_order_78 : decode b_M_order 78 = .ok (.putfield 65, 3) := by decide +kernel
theorem d_M_order_81 : decode b_M_order 81 = .ok (.aload_n 0, 1) := by decide +kernel
theorem d_M_order_82 : decode b_M_order 82 = .ok (.getfield 65, 3) := by decide +kernel
theorem d_M_order_85 : decode b_M_order 85 = .ok (.iconst 1, 1) := by decide +kernel
theorem d_M_order_86 : decode b_M_order 86 = .ok (.isub, 1) := by decide +kernel
theorem d_M_order_87 : decode b_M_order 87 = .ok (.ireturn, 1) := by decide +kernel
theorem d_M_heat_0 : decode b_M_heat 0 = .ok (.iload_n 1, 1) := by decide +kernel
theorem d_M_heat_1 : decode b_M_heat 1 = .ok (.iconst 0, 1) := by decide +kernel
theorem d_M_heat_2 : decode b_M_heat 2 = .ok (.aload_n 0, 1) := by decide +kernel
theorem d_M_heat_3 : decode b_M_heat 3 = .ok (.getfield 65, 3) := by decide +kernel
theorem d_M_heat_6 : decode b_M_heat 6 = .ok (.iconst 1, 1) := by decide +kernel
theorem d_M_heat_7 : decode b_M_heat 7 = .ok (.isub, 1) := by decide +kernel
theorem d_M_heat_8 : decode b_M_heat 8 = .ok (.invokestatic 45, 3) := by decide +kernel
theorem d_M_heat_11 : decode b_M_heat 11 = .ok (.ifCond .eq 13, 3) := by decide +kernel
theorem d_M_heat_14 : decode b_M_heat 14 = .ok (.iload 4, 2) := by decide +kernel
theorem d_M_heat_16 : decode b_M_heat 16 = .ok (.iconst 0, 1) := by decide +kernel
theorem d_M_heat_17 : decode b_M_heat 17 = .ok (.iconst 2, 1) := by decide +kernel
theorem d_M_heat_18 : decode b_M_heat 18 = .ok (.invokestatic 45, 3) := by decide +kernel
theorem d_M_heat_21 : decode b_M_heat 21 = .ok (.ifCond .ne 7, 3) := by decide +kernel
theorem d_M_heat_24 : decode b_M_heat 24 = .ok (.iconst 1, 1) := by decide +kernel
theorem d_M_heat_25 : decode b_M_heat 25 = .ok (.goto 4, 3) := by decide +kernel
theorem d_M_heat_28 : decode b_M_heat 28 = .ok (.iconst 0, 1) := by decide +kernel
theorem d_M_heat_29 : decode b_M_heat 29 = .ok (.istore 6, 2) := by decide +kernel
theorem d_M_heat_31 : decode b_M_heat 31 = .ok (.iload_n 2, 1) := by decide +kernel
theorem d_M_heat_32 : decode b_M_heat 32 = .ok (.iconst 1, 1) := by decide +kernel
theorem d_M_heat_33 : decode b_M_heat 33 = .ok (.bipush 20, 2) := by decide +kernel
theorem d_M_heat_35 : decode b_M_heat 35 = .ok (.invokestatic 45, 3) := by decide +kernel
theorem d_M_heat_38 : decode b_M_heat 38 = .ok (.ifCond .eq 24, 3) := by decide +kernel
theorem d_M_heat_41 : decode b_M_heat 41 = .ok (.iload_n 3, 1) := by decide +kernel
theorem d_M_heat_42 : decode b_M_heat 42 = .ok (.iconst 1, 1) := by decide +kernel
theorem d_M_heat_43 : decode b_M_heat 43 = .ok (.bipush 7, 2) := by decide +kernel
theorem d_M_heat_45 : decode b_M_heat 45 = .ok (.invokestatic 45, 3) := by decide +kernel
theorem d_M_heat_48 : decode b_M_heat 48 = .ok (.ifCond .eq 14, 3) := by decide +kernel
theorem d_M_heat_51 : decode b_M_heat 51 = .ok (.iload 5, 2) := by decide +kernel
theorem d_M_heat_53 : decode b_M_heat 53 = .ok (.iconst 0, 1) := by decide +kernel
theorem d_M_heat_54 : decode b_M_heat 54 = .ok (.bipush 59, 2) := by decide +kernel
theorem d_M_heat_56 : decode b_M_heat 56 = .ok (.invokestatic 45, 3) := by decide +kernel
theorem d_M_heat_59 : decode b_M_heat 59 = .ok (.ifCond .ne 7, 3) := by decide +kernel
theorem d_M_heat_62 : decode b_M_heat 62 = .ok (.iconst 1, 1) := by decide +kernel
theorem d_M_heat_63 : decode b_M_heat 63 = .ok (.goto 4, 3) := by decide +kernel
theorem d_M_heat_66 : decode b_M_heat 66 = .ok (.iconst 0, 1) := by decide +kernel
theorem d_M_heat_67 : decode b_M_heat 67 = .ok (.istore 7, 2) := by decide +kernel
theorem d_M_heat_69 : decode b_M_heat 69 = .ok (.iconst 0, 1) := by decide +kernel
theorem d_M_heat_70 : decode b_M_heat 70 = .ok (.istore 8, 2) := by decide +kernel
theorem d_M_heat_72 : decode b_M_heat 72 = .ok (.iload 6, 2) := by decide +kernel
theorem d_M_heat_74 : decode b_M_heat 74 = .ok (.ifCond .ne 59, 3) := by decide +kernel
theorem d_M_heat_77 : decode b_M_heat 77 = .ok (.aload_n 0, 1) := by decide +kernel
theorem d_M_heat_78 : decode b_M_heat 78 = .ok (.getfield 42, 3) := by decide +kernel
theorem d_M_heat_81 : decode b_M_heat 81 = .ok (.bipush 6, 2) := by decide +kernel
theorem d_M_heat_83 : decode b_M_heat 83 = .ok (.if_icmp .ge 50, 3) := by decide +kernel
theorem d_M_heat_86 : decode b_M_heat 86 = .ok (.iload 7, 2) := by decide +kernel
theorem d_M_heat_88 : decode b_M_heat 88 = .ok (.ifCond .ne 45, 3) := by decide +kernel
theorem d_M_heat_91 : decode b_M_heat 91 = .ok (.aload_n 0, 1) := by decide +kernel
theorem d_M_heat_92 : decode b_M_heat 92 = .ok (.getfield 16, 3) := by decide +kernel
theorem d_M_heat_95 : decode b_M_heat 95 = .ok (.aload_n 0, 1) := by decide +kernel
theorem d_M_heat_96 : decode b_M_heat 96 = .ok (.getfield 42, 3) := by decide +kernel
theorem d_M_heat_99 : decode b_M_heat 99 = .ok (.iload_n 2, 1) := by decide +kernel
theorem d_M_heat_100 : decode b_M_heat 100 = .ok (.iastore, 1) := by decide +kernel
theorem d_M_heat_101 : decode b_M_heat 101 = .ok (.aload_n 0, 1) := by decide +kernel
theorem d_M_heat_102 : decode b_M_heat 102 = .ok (.getfield 19, 3) := by decide +kernel
theorem d_M_heat_105 : decode b_M_heat 105 = .ok (.aload_n 0, 1) := by decide +kernel
theorem d_M_heat_106 : decode b_M_heat 106 = .ok (.getfield 42, 3) := by decide +kernel
theorem d_M_heat_109 : decode b_M_heat 109 = .ok (.iload_n 3, 1) := by decide +kernel
theorem d_M_heat_110 : decode b_M_heat 110 = .ok (.iastore, 1) := by decide +kernel
theorem d_M_heat_111 : decode b_M_heat 111 = .ok (.aload_n 0, 1) := by decide +kernel
theorem d_M_heat_112 : decode b_M_heat 112 = .ok (.aload_n 0, 1) := by decide +kernel
theorem d_M_heat_113 : decode b_M_heat 113 = .ok (.getfield 42, 3) := by decide +kernel
theorem d_M_heat_116 : decode b_M_heat 116 = .ok (.iload 4, 2) := by decide +kernel
theorem d_M_heat_118 : decode b_M_heat 118 = .ok (.iload 5, 2) := by decide +kernel
theorem d_M_heat_120 : decode b_M_heat 120 = .ok (.invokevirtual 72, 3) := by decide +kernel
theorem d_M_heat_123 : decode b_M_heat 123 = .ok (.ifCond .ne 7, 3) := by decide +kernel
theorem d_M_heat_126 : decode b_M_heat 126 = .ok (.iconst 1, 1) := by decide +kernel
theorem d_M_heat_127 : decode b_M_heat 127 = .ok (.goto 4, 3) := by decide +kernel
theorem d_M_heat_130 : decode b_M_heat 130 = .ok (.iconst 0, 1) := by decide +kernel
theorem d_M_heat_131 : decode b_M_heat 131 = .ok (.istore 8, 2) := by decide +kernel
theorem d_M_heat_133 : decode b_M_heat 133 = .ok (.aload_n 0, 1) := by decide +kernel
theorem d_M_heat_134 : decode b_M_heat 134 = .ok (.iload 6, 2) := by decide +kernel
theorem d_M_heat_136 : decode b_M_heat 136 = .ok (.aload_n 0, 1) := by decide +kernel
theorem d_M_heat_137 : decode b_M_heat 137 = .ok (.getfield 42, 3) := by decide +kernel
theorem d_M_heat_140 : decode b_M_heat 140 = .ok (.bipush 6, 2) := by decide +kernel
theorem d_M_heat_142 : decode b_M_heat 142 = .ok (.if_icmp .ne 7, 3) := by decide +kernel
theorem d_M_heat_145 : decode b_M_heat 145 = .ok (.iconst 1, 1) := by decide +kernel
theorem d_M_heat_146 : decode b_M_heat 146 = .ok (.goto 4, 3) := by decide +kernel
theorem d_M_heat_149 : decode b_M_heat 149 = .ok (.iconst 0, 1) := by decide +kernel
theorem d_M_heat_150 : decode b_M_heat 150 = .ok (.iload 7, 2) := by decide +kernel
theorem d_M_heat_152 : decode b_M_heat 152 = .ok (.iload 8, 2) := by decide +kernel
theorem d_M_heat_154 : decode b_M_heat 154 = .ok (.invokevirtual 68, 3) := by decide +kernel
theorem d_M_heat_157 : decode b_M_heat 157 = .ok (.ifCond .eq 5, 3) := by decide +kernel
theorem d_M_heat_160 : decode b_M_heat 160 = .ok (.iconst 0, 1) := by decide +kernel
theorem d_M_heat_161 : decode b_M_heat 161 = .ok (.ireturn, 1) := by decide +kernel
theorem d_M_heat_162 : decode b_M_heat 162 = .ok (.aload_n 0, 1) := by decide +kernel
theorem d_M_heat_163 : decode b_M_heat 163 = .ok (.getfield 22, 3) := by decide +kernel
theorem d_M_heat_166 : decode b_M_heat 166 = .ok (.iconst 3, 1) := by decide +kernel
theorem d_M_heat_167 : decode b_M_heat 167 = .ok (.aload_n 0, 1) := by decide +kernel
theorem d_M_heat_168 : decode b_M_heat 168 = .ok (.getfield 42, 3) := by decide +kernel
theorem d_M_heat_171 : decode b_M_heat 171 = .ok (.imul, 1) := by decide +kernel
theorem d_M_heat_172 : decode b_M_heat 172 = .ok (.iload 4, 2) := by decide +kernel
theorem d_M_heat_174 : decode b_M_heat 174 = .ok (.iastore, 1) := by decide +kernel
theorem d_M_heat_175 : decode b_M_heat 175 = .ok (.aload_n 0, 1) := by decide +kernel
theorem d_M_heat_176 : decode b_M_heat 176 = .ok (.getfield 22, 3) := by decide +kernel
theorem d_M_heat_179 : decode b_M_heat 179 = .ok (.iconst 3, 1) := by decide +kernel
theorem d_M_heat_180 : decode b_M_heat 180 = .ok (.aload_n 0, 1) := by decide +kernel
theorem d_M_heat_181 : decode b_M_heat 181 = .ok (.getfield 42, 3) := by decide +kernel
theorem d_M_heat_184 : decode b_M_heat 184 = .ok (.imul, 1) := by decide +kernel
theorem d_M_heat_185 : decode b_M_heat 185 = .ok (.iconst 1, 1) := by decide +kernel
theorem d_M_heat_186 : decode b_M_heat 186 = .ok (.iadd, 1) := by decide +kernel
theorem d_M_heat_187 : decode b_M_heat 187 = .ok (.iload 5, 2) := by decide +kernel
theorem d_M_heat_189 : decode b_M_heat 189 = .ok (.iastore, 1) := by decide +kernel
theorem d_M_heat_190 : decode b_M_heat 190 = .ok (.aload_n 0, 1) := by decide +kernel
theorem d_M_heat_191 : decode b_M_heat 191 = .ok (.getfield 22, 3) := by decide +kernel
theorem d_M_heat_194 : decode b_M_heat 194 = .ok (.iconst 3, 1) := by decide +kernel
theorem d_M_heat_195 : decode b_M_heat 195 = .ok (.aload_n 0, 1) := by decide +kernel
theorem d_M_heat_196 : decode b_M_heat 196 = .ok (.getfield 42, 3) := by decide +kernel
theorem d_M_heat_199 : decode b_M_heat 199 = .ok (.imul, 1) := by decide +kernel
theorem d_M_heat_200 : decode b_M_heat 200 = .ok (.iconst 2, 1) := by decide +kernel
theorem d_M_heat_201 : decode b_M_heat 201 = .ok (.iadd, 1) := by decide +kernel
theorem d_M_heat_202 : decode b_M_heat 202 = .ok (.iload_n 1, 1) := by decide +kernel
theorem d_M_heat_203 : decode b_M_heat 203 = .ok (.iastore, 1) := by decide +kernel
theorem d_M_heat_204 : decode b_M_heat 204 = .ok (.aload_n 0, 1) := by decide +kernel
theorem d_M_heat_205 : decode b_M_heat 205 = .ok (.dup, 1) := by decide +kernel
theorem d_M_heat_206 : decode b_M_heat 206 = .ok (.getfield 42, 3) := by decide +kernel
theorem d_M_heat_209 : decode b_M_heat 209 = .ok (.iconst 1, 1) := by decide +kernel
theorem d_M_heat_210 : decode b_M_heat 210 = .ok (.iadd, 1) := by decide +kernel
theorem d_M_heat_211 : decode b_M_heat 211 = .ok (.putfield 42, 3) := by decide +kernel
theorem d_M_heat_214 : decode b_M_heat 214 = .ok (.aload_n 0, 1) := by decide +kernel
theorem d_M_heat_215 : decode b_M_heat 215 = .ok (.iconst 0, 1) := by decide +kernel
theorem d_M_heat_216 : decode b_M_heat 216 = .ok (.putfield 75, 3) := by decide +kernel
theorem d_M_heat_219 : decode b_M_heat 219 = .ok (.aload_n 0, 1) := by decide +kernel
theorem d_M_heat_220 : decode b_M_heat 220 = .ok (.iconst 0, 1) := by decide +kernel
theorem d_M_heat_221 : decode b_M_heat 221 = .ok (.putfield 79, 3) := by decide +kernel
theorem d_M_heat_224 : decode b_M_heat 224 = .ok (.aload_n 0, 1) := by decide +kernel
theorem d_M_heat_225 : decode b_M_heat 225 = .ok (.getfield 42, 3) := by decide +kernel
theorem d_M_heat_228 : decode b_M_heat 228 = .ok (.iconst 1, 1) := by decide +kernel
theorem d_M_heat_229 : decode b_M_heat 229 = .ok (.isub, 1) := by decide +kernel
theorem d_M_heat_230 : decode b_M_heat 230 = .ok (.ireturn, 1) := by decide +kernel
theorem d_M_stop_0 : decode b_M_stop 0 = .ok (.iload_n 2, 1) := by decide +kernel
theorem d_M_stop_1 : decode b_M_stop 1 = .ok (.iconst 0, 1) := by decide +kernel
theorem d_M_stop_2 : decode b_M_stop 2 = .ok (.bipush 60, 2) := by decide +kernel
theorem d_M_stop_4 : decode b_M_stop 4 = .ok (.invokestatic 45, 3) := by decide +kernel
theorem d_M_stop_7 : decode b_M_stop 7 = .ok (.ifCond .eq 18, 3) := by decide +kernel
theorem d_M_stop_10 : decode b_M_stop 10 = .ok (.iload_n 3, 1) := by decide +kernel
theorem d_M_stop_11 : decode b_M_stop 11 = .ok (.iconst 0, 1) := by decide +kernel
theorem d_M_stop_12 : decode b_M_stop 12 = .ok (.bipush 60, 2) := by decide +kernel
theorem d_M_stop_14 : decode b_M_stop 14 = .ok (.invokestatic 45, 3) := by decide +kernel
theorem d_M_stop_17 : decode b_M_stop 17 = .ok (.ifCond .eq 8, 3) := by decide +kernel
theorem d_M_stop_20 : decode b_M_stop 20 = .ok (.iload_n 3, 1) := by decide +kernel
theorem d_M_stop_21 : decode b_M_stop 21 = .ok (.iload_n 2, 1) := by decide +kernel
theorem d_M_stop_22 : decode b_M_stop 22 = .ok (.if_icmp .gt 7, 3) := by decide +kernel
theorem d_M_stop_25 : decode b_M_stop 25 = .ok (.iconst 1, 1) := by decide +kernel
theorem d_M_stop_26 : decode b_M_stop 26 = .ok (.goto 4, 3) := by decide +kernel
theorem d_M_stop_29 : decode b_M_stop 29 = .ok (.iconst 0, 1) := by decide +kernel
theorem d_M_stop_30 : decode b_M_stop 30 = .ok (.istore 4, 2) := by decide +kernel
theorem d_M_stop_32 : decode b_M_stop 32 = .ok (.aload_n 0, 1) := by decide +kernel
theorem d_M_stop_33 : decode b_M_stop 33 = .ok (.iload_n 1, 1) := by decide +kernel
theorem d_M_stop_34 : decode b_M_stop 34 = .ok (.iconst 0, 1) := by decide +kernel
theorem d_M_stop_35 : decode b_M_stop 35 = .ok (.iconst 2, 1) := by decide +kernel
theorem d_M_stop_36 : decode b_M_stop 36 = .ok (.invokestatic 45, 3) := by decide +kernel
theorem d_M_stop_39 : decode b_M_stop 39 = .ok (.ifCond .ne 7, 3) := by decide +kernel
theorem d_M_stop_42 : decode b_M_stop 42 = .ok (.iconst 1, 1) := by decide +kernel
theorem d_M_stop_43 : decode b_M_stop 43 = .ok (.goto 4, 3) := by decide +kernel
theorem d_M_stop_46 : decode b_M_stop 46 = .ok (.iconst 0, 1) := by decide +kernel
theorem d_M_stop_47 : decode b_M_stop 47 = .ok (.aload_n 0, 1) := by decide +kernel
theorem d_M_stop_48 : decode b_M_stop 48 = .ok (.getfield 49, 3) := by decide +kernel
theorem d_M_stop_51 : decode b_M_stop 51 = .ok (.bipush 10, 2) := by decide +kernel
theorem d_M_stop_53 : decode b_M_stop 53 = .ok (.if_icmp .ne 7, 3) := by decide +kernel
theorem d_M_stop_56 : decode b_M_stop 56 = .ok (.iconst 1, 1) := by decide +kernel
theorem d_M_stop_57 : decode b_M_stop 57 = .ok (.goto 4, 3) := by decide +kernel
theorem d_M_stop_60 : decode b_M_stop 60 = .ok (.iconst 0, 1) := by decide +kernel
theorem d_M_stop_61 : decode b_M_stop 61 = .ok (.iload 4, 2) := by decide +kernel
theorem d_M_stop_63 : decode b_M_stop 63 = .ok (.iconst 0, 1) := by decide +kernel
theorem d_M_stop_64 : decode b_M_stop 64 = .ok (.invokevirtual 68, 3) := by decide +kernel
theorem d_M_stop_67 : decode b_M_stop 67 = .ok (.ifCond .eq 5, 3) := by decide +kernel
theorem d_M_stop_70 : decode b_M_stop 70 = .ok (.iconst 0, 1) := by decide +kernel
theorem d_M_stop_71 : decode b_M_stop 71 = .ok (.ireturn, 1) := by decide +kernel
theorem d_M_stop_72 : decode b_M_stop 72 = .ok (.aload_n 0, 1) := by decide +kernel
theorem d_M_stop_73 : decode b_M_stop 73 = .ok (.getfield 25, 3) := by decide +kernel
theorem d_M_stop_76 : decode b_M_stop 76 = .ok (.aload_n 0, 1) := by decide +kernel
theorem d_M_stop_77 : decode b_M_stop 77 = .ok (.getfield 49, 3) := by decide +kernel
theorem d_M_stop_80 : decode b_M_stop 80 = .ok (.iload_n 1, 1) := by decide +kernel
theorem d_M_stop_81 : decode b_M_stop 81 = .ok (.iastore, 1) := by decide +kernel
theorem d_M_stop_82 : decode b_M_stop 82 = .ok (.aload_n 0, 1) := by decide +kernel
theorem d_M_stop_83 : decode b_M_stop 83 = .ok (.getfield 28, 3) := by decide +kernel
theorem d_M_stop_86 : decode b_M_stop 86 = .ok (.aload_n 0, 1) := by decide +kernel
theorem d_M_stop_87 : decode b_M_stop 87 = .ok (.getfield 49, 3) := by decide +kernel
theorem d_M_stop_90 : decode b_M_stop 90 = .ok (.iload_n 2, 1) := by decide +kernel
theorem d_M_stop_91 : decode b_M_stop 91 = .ok (.iastore, 1) := by decide +kernel
theorem d_M_stop_92 : decode b_M_stop 92 = .ok (.aload_n 0, 1) := by decide +kernel
theorem d_M_stop_93 : decode b_M_stop 93 = .ok (.getfield 31, 3) := by decide +kernel
theorem d_M_stop_96 : decode b_M_stop 96 = .ok (.aload_n 0, 1) := by decide +kernel
theorem d_M_stop_97 : decode b_M_stop 97 = .ok (.getfield 49, 3) := by decide +kernel
theorem d_M_stop_100 : decode b_M_stop 100 = .ok (.iload_n 3, 1) := by decide +kernel
theorem d_M_stop_101 : decode b_M_stop 101 = .ok (.iastore, 1) := by decide +kernel
theorem d_M_stop_102 : decode b_M_stop 102 = .ok (.aload_n 0, 1) := by decide +kernel
theorem d_M_stop_103 : decode b_M_stop 103 = .ok (.dup, 1) := by decide +kernel
theorem d_M_stop_104 : decode b_M_stop 104 = .ok (.getfield 49, 3) := by decide +kernel
theorem d_M_stop_107 : decode b_M_stop 107 = .ok (.iconst 1, 1) := by decide +kernel
theorem d_M_stop_108 : decode b_M_stop 108 = .ok (.iadd, 1) := by decide +kernel
theorem d_M_stop_109 : decode b_M_stop 109 = .ok (.putfield 49, 3) := by decide +kernel
theorem d_M_stop_112 : decode b_M_stop 112 = .ok (.aload_n 0, 1) := by decide +kernel
theorem d_M_stop_113 : decode b_M_stop 113 = .ok (.getfield 49, 3) := by decide +kernel
theorem d_M_stop_116 : decode b_M_stop 116 = .ok (.ireturn, 1) := by decide +kernel
theorem d_M_go_0 : decode b_M_go 0 = .ok (.aload_n 0, 1) := by decide +kernel
theorem d_M_go_1 : decode b_M_go 1 = .ok (.iconst 0, 1) := by decide +kernel
theorem d_M_go_2 : decode b_M_go 2 = .ok (.putfield 38, 3) := by decide +kernel
theorem d_M_go_5 : decode b_M_go 5 = .ok (.aload_n 0, 1) := by decide +kernel
theorem d_M_go_6 : decode b_M_go 6 = .ok (.iconst 0, 1) := by decide +kernel
theorem d_M_go_7 : decode b_M_go 7 = .ok (.putfield 49, 3) := by decide +kernel
theorem d_M_go_10 : decode b_M_go 10 = .ok (.return_, 1) := by decide +kernel
theorem d_M_clock_0 : decode b_M_clock 0 = .ok (.aload_n 0, 1) := by decide +kernel
theorem d_M_clock_1 : decode b_M_clock 1 = .ok (.iload_n 1, 1) := by decide +kernel
theorem d_M_clock_2 : decode b_M_clock 2 = .ok (.iconst 0, 1) := by decide +kernel
theorem d_M_clock_3 : decode b_M_clock 3 = .ok (.bipush 60, 2) := by decide +kernel
theorem d_M_clock_5 : decode b_M_clock 5 = .ok (.invokestatic 45, 3) := by decide +kernel
theorem d_M_clock_8 : decode b_M_clock 8 = .ok (.ifCond .eq 13, 3) := by decide +kernel
theorem d_M_clock_11 : decode b_M_clock 11 = .ok (.iload_n 2, 1) := by decide +kernel
theorem d_M_clock_12 : decode b_M_clock 12 = .ok (.iconst 0, 1) := by decide +kernel
theorem d_M_clock_13 : decode b_M_clock 13 = .ok (.bipush 60, 2) := by decide +kernel
theorem d_M_clock_15 : decode b_M_clock 15 = .ok (.invokestatic 45, 3) := by decide +kernel
theorem d_M_clock_18 : decode b_M_clock 18 = .ok (.ifCond .ne 7, 3) := by decide +kernel
theorem d_M_clock_21 : decode b_M_clock 21 = .ok (.iconst 1, 1) := by decide +kernel
theorem d_M_clock_22 : decode b_M_clock 22 = .ok (.goto 4, 3) := by decide +kernel
theorem d_M_clock_25 : decode b_M_clock 25 = .ok (.iconst 0, 1) := by decide +kernel
theorem d_M_clock_26 : decode b_M_clock 26 = .ok (.iconst 0, 1) := by decide +kernel
theorem d_M_clock_27 : decode b_M_clock 27 = .ok (.iconst 0, 1) := by decide +kernel
theorem d_M_clock_28 : decode b_M_clock 28 = .ok (.iconst 0, 1) := by decide +kernel
theorem d_M_clock_29 : decode b_M_clock 29 = .ok (.invokevirtual 68, 3) := by decide +kernel
theorem d_M_clock_32 : decode b_M_clock 32 = .ok (.ifCond .eq 4, 3) := by decide +kernel
theorem d_M_clock_35 : decode b_M_clock 35 = .ok (.return_, 1) := by decide +kernel
theorem d_M_clock_36 : decode b_M_clock 36 = .ok (.aload_n 0, 1) := by decide +kernel
theorem d_M_clock_37 : decode b_M_clock 37 = .ok (.iload_n 1, 1) := by decide +kernel
theorem d_M_clock_38 : decode b_M_clock 38 = .ok (.putfield 59, 3) := by decide +kernel
theorem d_M_clock_41 : decode b_M_clock 41 = .ok (.aload_n 0, 1) := by decide +kernel
theorem d_M_clock_42 : decode b_M_clock 42 = .ok (.iload_n 2, 1) := by decide +kernel
theorem d_M_clock_43 : decode b_M_clock 43 = .ok (.putfield 62, 3) := by decide +kernel
theorem d_M_clock_46 : decode b_M_clock 46 = .ok (.return_, 1) := by decide +kernel
theorem d_M_keepForUndo_0 : decode b_M_keepForUndo 0 = .ok (.aload_n 0, 1) := by decide +kernel
theorem d_M_keepForUndo_1 : decode b_M_keepForUndo 1 = .ok (.iconst 0, 1) := by decide +kernel
theorem d_M_keepForUndo_2 : decode b_M_keepForUndo 2 = .ok (.bipush 54, 2) := by decide +kernel
theorem d_M_keepForUndo_4 : decode b_M_keepForUndo 4 = .ok (.invokevirtual 82, 3) := by decide +kernel
theorem d_M_keepForUndo_7 : decode b_M_keepForUndo 7 = .ok (.aload_n 0, 1) := by decide +kernel
theorem d_M_keepForUndo_8 : decode b_M_keepForUndo 8 = .ok (.iconst 1, 1) := by decide +kernel
theorem d_M_keepForUndo_9 : decode b_M_keepForUndo 9 = .ok (.putfield 75, 3) := by decide +kernel
theorem d_M_keepForUndo_12 : decode b_M_keepForUndo 12 = .ok (.return_, 1) := by decide +kernel
theorem d_M_place_0 : decode b_M_place 0 = .ok (.aload_n 0, 1) := by decide +kernel
theorem d_M_place_1 : decode b_M_place 1 = .ok (.iload_n 1, 1) := by decide +kernel
theorem d_M_place_2 : decode b_M_place 2 = .ok (.invokevirtual 86, 3) := by decide +kernel
theorem d_M_place_5 : decode b_M_place 5 = .ok (.ifCond .eq 12, 3) := by decide +kernel
theorem d_M_place_8 : decode b_M_place 8 = .ok (.iload_n 2, 1) := by decide +kernel
theorem d_M_place_9 : decode b_M_place 9 = .ok (.iconst 0, 1) := by decide +kernel
theorem d_M_place_10 : decode b_M_place 10 = .ok (.iconst 2, 1) := by decide +kernel
theorem d_M_place_11 : decode b_M_place 11 = .ok (.invokestatic 45, 3) := by decide +kernel
theorem d_M_place_14 : decode b_M_place 14 = .ok (.ifCond .ne 7, 3) := by decide +kernel
theorem d_M_place_17 : decode b_M_place 17 = .ok (.iconst 1, 1) := by decide +kernel
theorem d_M_place_18 : decode b_M_place 18 = .ok (.goto 4, 3) := by decide +kernel
theorem d_M_place_21 : decode b_M_place 21 = .ok (.iconst 0, 1) := by decide +kernel
theorem d_M_place_22 : decode b_M_place 22 = .ok (.istore 4, 2) := by decide +kernel
theorem d_M_place_24 : decode b_M_place 24 = .ok (.iload_n 3, 1) := by decide +kernel
theorem d_M_place_25 : decode b_M_place 25 = .ok (.iconst 0, 1) := by decide +kernel
theorem d_M_place_26 : decode b_M_place 26 = .ok (.bipush 59, 2) := by decide +kernel
theorem d_M_place_28 : decode b_M_place 28 = .ok (.invokestatic 45, 3) := by decide +kernel
theorem d_M_place_31 : decode b_M_place 31 = .ok (.ifCond .ne 7, 3) := by decide +kernel
theorem d_M_place_34 : decode b_M_place 34 = .ok (.iconst 1, 1) := by decide +kernel
theorem d_M_place_35 : decode b_M_place 35 = .ok (.goto 4, 3) := by decide +kernel
theorem d_M_place_38 : decode b_M_place 38 = .ok (.iconst 0, 1) := by decide +kernel
theorem d_M_place_39 : decode b_M_place 39 = .ok (.istore 5, 2) := by decide +kernel
theorem d_M_place_41 : decode b_M_place 41 = .ok (.aload_n 0, 1) := by decide +kernel
theorem d_M_place_42 : decode b_M_place 42 = .ok (.iload 4, 2) := by decide +kernel
theorem d_M_place_44 : decode b_M_place 44 = .ok (.iload 4, 2) := by decide +kernel
theorem d_M_place_46 : decode b_M_place 46 = .ok (.ifCond .ne 15, 3) := by decide +kernel
theorem d_M_place_49 : decode b_M_place 49 = .ok (.aload_n 0, 1) := by decide +kernel
theorem d_M_place_50 : decode b_M_place 50 = .ok (.iload_n 1, 1) := by decide +kernel
theorem d_M_place_51 : decode b_M_place 51 = .ok (.invokevirtual 90, 3) := by decide +kernel
theorem d_M_place_54 : decode b_M_place 54 = .ok (.ifCond .eq 7, 3) := by decide +kernel
theorem d_M_place_57 : decode b_M_place 57 = .ok (.iconst 1, 1) := by decide +kernel
theorem d_M_place_58 : decode b_M_place 58 = .ok (.goto 4, 3) := by decide +kernel
theorem d_M_place_61 : decode b_M_place 61 = .ok (.iconst 0, 1) := by decide +kernel
theorem d_M_place_62 : decode b_M_place 62 = .ok (.iload 5, 2) := by decide +kernel
theorem d_M_place_64 : decode b_M_place 64 = .ok (.iload 4, 2) := by decide +kernel
theorem d_M_place_66 : decode b_M_place 66 = .ok (.ifCond .ne 22, 3) := by decide +kernel
theorem d_M_place_69 : decode b_M_place 69 = .ok (.iload 5, 2) := by decide +kernel
theorem d_M_place_71 : decode b_M_place 71 = .ok (.ifCond .ne 17, 3) := by decide +kernel
theorem d_M_place_74 : decode b_M_place 74 = .ok (.aload_n 0, 1) := by decide +kernel
theorem d_M_place_75 : decode b_M_place 75 = .ok (.iload_n 1, 1) := by decide +kernel
theorem d_M_place_76 : decode b_M_place 76 = .ok (.iload_n 2, 1) := by decide +kernel
theorem d_M_place_77 : decode b_M_place 77 = .ok (.iload_n 3, 1) := by decide +kernel
theorem d_M_place_78 : decode b_M_place 78 = .ok (.invokevirtual 72, 3) := by decide +kernel
theorem d_M_place_81 : decode b_M_place 81 = .ok (.ifCond .ne 7, 3) := by decide +kernel
theorem d_M_place_84 : decode b_M_place 84 = .ok (.iconst 1, 1) := by decide +kernel
theorem d_M_place_85 : decode b_M_place 85 = .ok (.goto 4, 3) := by decide +kernel
theorem d_M_place_88 : decode b_M_place 88 = .ok (.iconst 0, 1) := by decide +kernel
theorem d_M_place_89 : decode b_M_place 89 = .ok (.invokevirtual 68, 3) := by decide +kernel
theorem d_M_place_92 : decode b_M_place 92 = .ok (.ifCond .eq 4, 3) := by decide +kernel
theorem d_M_place_95 : decode b_M_place 95 = .ok (.return_, 1) := by decide +kernel
theorem d_M_place_96 : decode b_M_place 96 = .ok (.aload_n 0, 1) := by decide +kernel
theorem d_M_place_97 : decode b_M_place 97 = .ok (.invokevirtual 93, 3) := by decide +kernel
theorem d_M_place_100 : decode b_M_place 100 = .ok (.aload_n 0, 1) := by decide +kernel
theorem d_M_place_101 : decode b_M_place 101 = .ok (.getfield 22, 3) := by decide +kernel
theorem d_M_place_104 : decode b_M_place 104 = .ok (.iconst 3, 1) := by decide +kernel
theorem d_M_place_105 : decode b_M_place 105 = .ok (.iload_n 1, 1) := by decide +kernel
theorem d_M_place_106 : decode b_M_place 106 = .ok (.imul, 1) := by decide +kernel
theorem d_M_place_107 : decode b_M_place 107 = .ok (.iload_n 2, 1) := by decide +kernel
theorem d_M_place_108 : decode b_M_place 108 = .ok (.iastore, 1) := by decide +kernel
theorem d_M_place_109 : decode b_M_place 109 = .ok (.aload_n 0, 1) := by decide +kernel
theorem d_M_place_110 : decode b_M_place 110 = .ok (.getfield 22, 3) := by decide +kernel
theorem d_M_place_113 : decode b_M_place 113 = .ok (.iconst 3, 1) := by decide +kernel
theorem d_M_place_114 : decode b_M_place 114 = .ok (.iload_n 1, 1) := by decide +kernel
theorem d_M_place_115 : decode b_M_place 115 = .ok (.imul, 1) := by decide +kernel
theorem d_M_place_116 : decode b_M_place 116 = .ok (.iconst 1, 1) := by decide +kernel
theorem d_M_place_117 : decode b_M_place 117 = .ok (.iadd, 1) := by decide +kernel
theorem d_M_place_118 : decode b_M_place 118 = .ok (.iload_n 3, 1) := by decide +kernel
theorem d_M_place_119 : decode b_M_place 119 = .ok (.iastore, 1) := by decide +kernel
theorem d_M_place_120 : decode b_M_place 120 = .ok (.return_, 1) := by decide +kernel
theorem d_M_divert_0 : decode b_M_divert 0 = .ok (.aload_n 0, 1) := by decide +kernel
theorem d_M_divert_1 : decode b_M_divert 1 = .ok (.iload_n 1, 1) := by decide +kernel
theorem d_M_divert_2 : decode b_M_divert 2 = .ok (.invokevirtual 86, 3) := by decide +kernel
theorem d_M_divert_5 : decode b_M_divert 5 = .ok (.ifCond .eq 17, 3) := by decide +kernel
theorem d_M_divert_8 : decode b_M_divert 8 = .ok (.iload_n 2, 1) := by decide +kernel
theorem d_M_divert_9 : decode b_M_divert 9 = .ok (.iconst 0, 1) := by decide +kernel
theorem d_M_divert_10 : decode b_M_divert 10 = .ok (.aload_n 0, 1) := by decide +kernel
theorem d_M_divert_11 : decode b_M_divert 11 = .ok (.getfield 65, 3) := by decide +kernel
theorem d_M_divert_14 : decode b_M_divert 14 = .ok (.iconst 1, 1) := by decide +kernel
theorem d_M_divert_15 : decode b_M_divert 15 = .ok (.isub, 1) := by decide +kernel
theorem d_M_divert_16 : decode b_M_divert 16 = .ok (.invokestatic 45, 3) := by decide +kernel
theorem d_M_divert_19 : decode b_M_divert 19 = .ok (.ifCond .ne 7, 3) := by decide +kernel
theorem d_M_divert_22 : decode b_M_divert 22 = .ok (.iconst 1, 1) := by decide +kernel
theorem d_M_divert_23 : decode b_M_divert 23 = .ok (.goto 4, 3) := by decide +kernel
theorem d_M_divert_26 : decode b_M_divert 26 = .ok (.iconst 0, 1) := by decide +kernel
theorem d_M_divert_27 : decode b_M_divert 27 = .ok (.istore_n 3, 1) := by decide +kernel
theorem d_M_divert_28 : decode b_M_divert 28 = .ok (.iload_n 3, 1) := by decide +kernel
theorem d_M_divert_29 : decode b_M_divert 29 = .ok (.ifCond .ne 45, 3) := by decide +kernel
theorem d_M_divert_32 : decode b_M_divert 32 = .ok (.aload_n 0, 1) := by decide +kernel
theorem d_M_divert_33 : decode b_M_divert 33 = .ok (.getfield 22, 3) := by decide +kernel
theorem d_M_divert_36 : decode b_M_divert 36 = .ok (.iconst 3, 1) := by decide +kernel
theorem d_M_divert_37 : decode b_M_divert 37 = .ok (.iload_n 1, 1) := by decide +kernel
theorem d_M_divert_38 : decode b_M_divert 38 = .ok (.imul, 1) := by decide +kernel
theorem d_M_divert_39 : decode b_M_divert 39 = .ok (.iconst 2, 1) := by decide +kernel
theorem d_M_divert_40 : decode b_M_divert 40 = .ok (.iadd, 1) := by decide +kernel
theorem d_M_divert_41 : decode b_M_divert 41 = .ok (.iaload, 1) := by decide +kernel
theorem d_M_divert_42 : decode b_M_divert 42 = .ok (.iload_n 2, 1) := by decide +kernel
theorem d_M_divert_43 : decode b_M_divert 43 = .ok (.if_icmp .eq 27, 3) := by decide +kernel
theorem d_M_divert_46 : decode b_M_divert 46 = .ok (.aload_n 0, 1) := by decide +kernel
theorem d_M_divert_47 : decode b_M_divert 47 = .ok (.getfield 7, 3) := by decide +kernel
theorem d_M_divert_50 : decode b_M_divert 50 = .ok (.aload_n 0, 1) := by decide +kernel
theorem d_M_divert_51 : decode b_M_divert 51 = .ok (.getfield 22, 3) := by decide +kernel
theorem d_M_divert_54 : decode b_M_divert 54 = .ok (.iconst 3, 1) := by decide +kernel
theorem d_M_divert_55 : decode b_M_divert 55 = .ok (.iload_n 1, 1) := by decide +kernel
theorem d_M_divert_56 : decode b_M_divert 56 = .ok (.imul, 1) := by decide +kernel
theorem d_M_divert_57 : decode b_M_divert 57 = .ok (.iconst 2, 1) := by decide +kernel
theorem d_M_divert_58 : decode b_M_divert 58 = .ok (.iadd, 1) := by decide +kernel
theorem d_M_divert_59 : decode b_M_divert 59 = .ok (.iaload, 1) := by decide +kernel
theorem d_M_divert_60 : decode b_M_divert 60 = .ok (.iaload, 1) := by decide +kernel
theorem d_M_divert_61 : decode b_M_divert 61 = .ok (.aload_n 0, 1) := by decide +kernel
theorem d_M_divert_62 : decode b_M_divert 62 = .ok (.getfield 7, 3) := by decide +kernel
theorem d_M_divert_65 : decode b_M_divert 65 = .ok (.iload_n 2, 1) := by decide +kernel
theorem d_M_divert_66 : decode b_M_divert 66 = .ok (.iaload, 1) := by decide +kernel
theorem d_M_divert_67 : decode b_M_divert 67 = .ok (.if_icmp .eq 7, 3) := by decide +kernel
theorem d_M_divert_70 : decode b_M_divert 70 = .ok (.iconst 1, 1) := by decide +kernel
theorem d_M_divert_71 : decode b_M_divert 71 = .ok (.goto 4, 3) := by decide +kernel
theorem d_M_divert_74 : decode b_M_divert 74 = .ok (.iconst 0, 1) := by decide +kernel
theorem d_M_divert_75 : decode b_M_divert 75 = .ok (.istore 4, 2) := by decide +kernel
theorem d_M_divert_77 : decode b_M_divert 77 = .ok (.aload_n 0, 1) := by decide +kernel
theorem d_M_divert_78 : decode b_M_divert 78 = .ok (.iload_n 3, 1) := by decide +kernel
theorem d_M_divert_79 : decode b_M_divert 79 = .ok (.iload 4, 2) := by decide +kernel
theorem d_M_divert_81 : decode b_M_divert 81 = .ok (.iconst 0, 1) := by decide +kernel
theorem d_M_divert_82 : decode b_M_divert 82 = .ok (.iconst 0, 1) := by decide +kernel
theorem d_M_divert_83 : decode b_M_divert 83 = .ok (.invokevirtual 68, 3) := by decide +kernel
theorem d_M_divert_86 : decode b_M_divert 86 = .ok (.ifCond .eq 4, 3) := by decide +kernel
theorem d_M_divert_89 : decode b_M_divert 89 = .ok (.return_, 1) := by decide +kernel
theorem d_M_divert_90 : decode b_M_divert 90 = .ok (.aload_n 0, 1) := by decide +kernel
theorem d_M_divert_91 : decode b_M_divert 91 = .ok (.invokevirtual 93, 3) := by decide +kernel
theorem d_M_divert_94 : decode b_M_divert 94 = .ok (.aload_n 0, 1) := by decide +kernel
theorem d_M_divert_95 : decode b_M_divert 95 = .ok (.getfield 22, 3) := by decide +kernel
theorem d_M_divert_98 : decode b_M_divert 98 = .ok (.iconst 3, 1) := by decide +kernel
theorem d_M_divert_99 : decode b_M_divert 99 = .ok (.iload_n 1, 1) := by decide +kernel
theorem d_M_divert_100 : decode b_M_divert 100 = .ok (.imul, 1) := by decide +kernel
theorem d_M_divert_101 : decode b_M_divert 101 = .ok (.iconst 2, 1) := by decide +kernel
theorem d_M_divert_102 : decode b_M_divert 102 = .ok (.iadd, 1) := by decide +kernel
theorem d_M_divert_103 : decode b_M_divert 103 = .ok (.iload_n 2, 1) := by decide +kernel
theorem d_M_divert_104 : decode b_M_divert 104 = .ok (.iastore, 1) := by decide +kernel
theorem d_M_divert_105 : decode b_M_divert 105 = .ok (.return_, 1) := by decide +kernel
theorem d_M_costPlaced_0 : decode b_M_costPlaced 0 = .ok (.iconst 0, 1) := by decide +kernel
theorem d_M_costPlaced_1 : decode b_M_costPlaced 1 = .ok (.istore_n 1, 1) := by decide +kernel
theorem d_M_costPlaced_2 : decode b_M_costPlaced 2 = .ok (.iconst 0, 1) := by decide +kernel
theorem d_M_costPlaced_3 : decode b_M_costPlaced 3 = .ok (.istore_n 2, 1) := by decide +kernel
theorem d_M_costPlaced_4 : decode b_M_costPlaced 4 = .ok (.iload_n 2, 1) := by decide +kernel
theorem d_M_costPlaced_5 : decode b_M_costPlaced 5 = .ok (.aload_n 0, 1) := by decide +kernel
theorem d_M_costPlaced_6 : decode b_M_costPlaced 6 = .ok (.getfield 42, 3) := by decide +kernel
theorem d_M_costPlaced_9 : decode b_M_costPlaced 9 = .ok (.if_icmp .ge 32, 3) := by decide +kernel
theorem d_M_costPlaced_12 : decode b_M_costPlaced 12 = .ok (.iload_n 1, 1) := by decide +kernel
theorem d_M_costPlaced_13 : decode b_M_costPlaced 13 = .ok (.aload_n 0, 1) := by decide +kernel
theorem d_M_costPlaced_14 : decode b_M_costPlaced 14 = .ok (.getfield 34, 3) := by decide +kernel
theorem d_M_costPlaced_17 : decode b_M_costPlaced 17 = .ok (.iload_n 2, 1) := by decide +kernel
theorem d_M_costPlaced_18 : decode b_M_costPlaced 18 = .ok (.baload, 1) := by decide +kernel
theorem d_M_costPlaced_19 : decode b_M_costPlaced 19 = .ok (.ifCond .eq 13, 3) := by decide +kernel
theorem d_M_costPlaced_22 : decode b_M_costPlaced 22 = .ok (.aload_n 0, 1) := by decide +kernel
theorem d_M_costPlaced_23 : decode b_M_costPlaced 23 = .ok (.bipush 18, 2) := by decide +kernel
theorem d_M_costPlaced_25 : decode b_M_costPlaced 25 = .ok (.iload_n 2, 1) := by decide +kernel
theorem d_M_costPlaced_26 : decode b_M_costPlaced 26 = .ok (.invokevirtual 96, 3) := by decide +kernel
theorem d_M_costPlaced_29 : decode b_M_costPlaced 29 = .ok (.goto 4, 3) := by decide +kernel
theorem d_M_costPlaced_32 : decode b_M_costPlaced 32 = .ok (.iconst 0, 1) := by decide +kernel
theorem d_M_costPlaced_33 : decode b_M_costPlaced 33 = .ok (.iadd, 1) := by decide +kernel
theorem d_M_costPlaced_34 : decode b_M_costPlaced 34 = .ok (.istore_n 1, 1) := by decide +kernel
theorem d_M_costPlaced_35 : decode b_M_costPlaced 35 = .ok (.iinc 2 1, 3) := by decide +kernel
theorem d_M_costPlaced_38 : decode b_M_costPlaced 38 = .ok (.goto (-34), 3) := by decide +kernel
theorem d_M_costPlaced_41 : decode b_M_costPlaced 41 = .ok (.iload_n 1, 1) := by decide +kernel
theorem d_M_costPlaced_42 : decode b_M_costPlaced 42 = .ok (.ireturn, 1) := by decide +kernel
theorem d_M_after_0 : decode b_M_after 0 = .ok (.iload_n 1, 1) := by decide +kernel
theorem d_M_after_1 : decode b_M_after 1 = .ok (.iconst 1, 1) := by decide +kernel
theorem d_M_after_2 : decode b_M_after 2 = .ok (.iadd, 1) := by decide +kernel
theorem d_M_after_3 : decode b_M_after 3 = .ok (.istore_n 2, 1) := by decide +kernel
theorem d_M_after_4 : decode b_M_after 4 = .ok (.iload_n 2, 1) := by decide +kernel
theorem d_M_after_5 : decode b_M_after 5 = .ok (.bipush 6, 2) := by decide +kernel
theorem d_M_after_7 : decode b_M_after 7 = .ok (.if_icmp .ge 17, 3) := by decide +kernel
theorem d_M_after_10 : decode b_M_after 10 = .ok (.iload_n 0, 1) := by decide +kernel
theorem d_M_after_11 : decode b_M_after 11 = .ok (.iload_n 2, 1) := by decide +kernel
theorem d_M_after_12 : decode b_M_after 12 = .ok (.ishr, 1) := by decide +kernel
theorem d_M_after_13 : decode b_M_after 13 = .ok (.iconst 1, 1) := by decide +kernel
theorem d_M_after_14 : decode b_M_after 14 = .ok (.iand, 1) := by decide +kernel
theorem d_M_after_15 : decode b_M_after 15 = .ok (.ifCond .ne 9, 3) := by decide +kernel
theorem d_M_after_18 : decode b_M_after 18 = .ok (.iinc 2 1, 3) := by decide +kernel
theorem d_M_after_21 : decode b_M_after 21 = .ok (.goto (-17), 3) := by decide +kernel
theorem d_M_after_24 : decode b_M_after 24 = .ok (.iload_n 2, 1) := by decide +kernel
theorem d_M_after_25 : decode b_M_after 25 = .ok (.bipush 6, 2) := by decide +kernel
theorem d_M_after_27 : decode b_M_after 27 = .ok (.if_icmp .ge 7, 3) := by decide +kernel
theorem d_M_after_30 : decode b_M_after 30 = .ok (.iload_n 2, 1) := by decide +kernel
theorem d_M_after_31 : decode b_M_after 31 = .ok (.goto 4, 3) := by decide +kernel
theorem d_M_after_34 : decode b_M_after 34 = .ok (.iconst (-1), 1) := by decide +kernel
theorem d_M_after_35 : decode b_M_after 35 = .ok (.ireturn, 1) := by decide +kernel
theorem d_M_ahead_0 : decode b_M_ahead 0 = .ok (.iload_n 1, 1) := by decide +kernel
theorem d_M_ahead_1 : decode b_M_ahead 1 = .ok (.iconst 1, 1) := by decide +kernel
theorem d_M_ahead_2 : decode b_M_ahead 2 = .ok (.isub, 1) := by decide +kernel
theorem d_M_ahead_3 : decode b_M_ahead 3 = .ok (.istore_n 2, 1) := by decide +kernel
theorem d_M_ahead_4 : decode b_M_ahead 4 = .ok (.iload_n 2, 1) := by decide +kernel
theorem d_M_ahead_5 : decode b_M_ahead 5 = .ok (.ifCond .lt 17, 3) := by decide +kernel
theorem d_M_ahead_8 : decode b_M_ahead 8 = .ok (.iload_n 0, 1) := by decide +kernel
theorem d_M_ahead_9 : decode b_M_ahead 9 = .ok (.iload_n 2, 1) := by decide +kernel
theorem d_M_ahead_10 : decode b_M_ahead 10 = .ok (.ishr, 1) := by decide +kernel
theorem d_M_ahead_11 : decode b_M_ahead 11 = .ok (.iconst 1, 1) := by decide +kernel
theorem d_M_ahead_12 : decode b_M_ahead 12 = .ok (.iand, 1) := by decide +kernel
theorem d_M_ahead_13 : decode b_M_ahead 13 = .ok (.ifCond .ne 9, 3) := by decide +kernel
theorem d_M_ahead_16 : decode b_M_ahead 16 = .ok (.iinc 2 (-1), 3) := by decide +kernel
theorem d_M_ahead_19 : decode b_M_ahead 19 = .ok (.goto (-15), 3) := by decide +kernel
theorem d_M_ahead_22 : decode b_M_ahead 22 = .ok (.iload_n 2, 1) := by decide +kernel
theorem d_M_ahead_23 : decode b_M_ahead 23 = .ok (.ireturn, 1) := by decide +kernel
theorem d_M_isOld_0 : decode b_M_isOld 0 = .ok (.iload_n 2, 1) := by decide +kernel
theorem d_M_isOld_1 : decode b_M_isOld 1 = .ok (.bipush 60, 2) := by decide +kernel
theorem d_M_isOld_3 : decode b_M_isOld 3 = .ok (.aload_n 0, 1) := by decide +kernel
theorem d_M_isOld_4 : decode b_M_isOld 4 = .ok (.getfield 22, 3) := by decide +kernel
theorem d_M_isOld_7 : decode b_M_isOld 7 = .ok (.iconst 3, 1) := by decide +kernel
theorem d_M_isOld_8 : decode b_M_isOld 8 = .ok (.iload_n 1, 1) := by decide +kernel
theorem d_M_isOld_9 : decode b_M_isOld 9 = .ok (.imul, 1) := by decide +kernel
theorem d_M_isOld_10 : decode b_M_isOld 10 = .ok (.iaload, 1) := by decide +kernel
theorem d_M_isOld_11 : decode b_M_isOld 11 = .ok (.imul, 1) := by decide +kernel
theorem d_M_isOld_12 : decode b_M_isOld 12 = .ok (.aload_n 0, 1) := by decide +kernel
theorem d_M_isOld_13 : decode b_M_isOld 13 = .ok (.getfield 22, 3) := by decide +kernel
theorem d_M_isOld_16 : decode b_M_isOld 16 = .ok (.iconst 3, 1) := by decide +kernel
theorem d_M_isOld_17 : decode b_M_isOld 17 = .ok (.iload_n 1, 1) := by decide +kernel
theorem d_M_isOld_18 : decode b_M_isOld 18 = .ok (.imul, 1) := by decide +kernel
theorem d_M_isOld_19 : decode b_M_isOld 19 = .ok (.iconst 1, 1) := by decide +kernel
theorem d_M_isOld_20 : decode b_M_isOld 20 = .ok (.iadd, 1) := by decide +kernel
theorem d_M_isOld_21 : decode b_M_isOld 21 = .ok (.iaload, 1) := by decide +kernel
theorem d_M_isOld_22 : decode b_M_isOld 22 = .ok (.iadd, 1) := by decide +kernel
theorem d_M_isOld_23 : decode b_M_isOld 23 = .ok (.if_icmp .ne 7, 3) := by decide +kernel
theorem d_M_isOld_26 : decode b_M_isOld 26 = .ok (.iconst 1, 1) := by decide +kernel
theorem d_M_isOld_27 : decode b_M_isOld 27 = .ok (.goto 4, 3) := by decide +kernel
theorem d_M_isOld_30 : decode b_M_isOld 30 = .ok (.iconst 0, 1) := by decide +kernel
theorem d_M_isOld_31 : decode b_M_isOld 31 = .ok (.ireturn, 1) := by decide +kernel
theorem d_M_found_0 : decode b_M_found 0 = .ok (.aload_n 0, 1) := by decide +kernel
theorem d_M_found_1 : decode b_M_found 1 = .ok (.aload_n 0, 1) := by decide +kernel
theorem d_M_found_2 : decode b_M_found 2 = .ok (.invokevirtual 100, 3) := by decide +kernel
theorem d_M_found_5 : decode b_M_found 5 = .ok (.putfield 104, 3) := by decide +kernel
theorem d_M_found_8 : decode b_M_found 8 = .ok (.aload_n 0, 1) := by decide +kernel
theorem d_M_found_9 : decode b_M_found 9 = .ok (.bipush 18, 2) := by decide +kernel
theorem d_M_found_11 : decode b_M_found 11 = .ok (.bipush 36, 2) := by decide +kernel
theorem d_M_found_13 : decode b_M_found 13 = .ok (.invokevirtual 82, 3) := by decide +kernel
theorem d_M_found_16 : decode b_M_found 16 = .ok (.aload_n 0, 1) := by decide +kernel
theorem d_M_found_17 : decode b_M_found 17 = .ok (.iload_n 1, 1) := by decide +kernel
theorem d_M_found_18 : decode b_M_found 18 = .ok (.putfield 107, 3) := by decide +kernel
theorem d_M_found_21 : decode b_M_found 21 = .ok (.return_, 1) := by decide +kernel
theorem d_M_tries_0 : decode b_M_tries 0 = .ok (.aload_n 0, 1) := by decide +kernel
theorem d_M_tries_1 : decode b_M_tries 1 = .ok (.iconst 0, 1) := by decide +kernel
theorem d_M_tries_2 : decode b_M_tries 2 = .ok (.bipush 18, 2) := by decide +kernel
theorem d_M_tries_4 : decode b_M_tries 4 = .ok (.invokevirtual 82, 3) := by decide +kernel
theorem d_M_tries_7 : decode b_M_tries 7 = .ok (.iconst 1, 1) := by decide +kernel
theorem d_M_tries_8 : decode b_M_tries 8 = .ok (.istore_n 3, 1) := by decide +kernel
theorem d_M_tries_9 : decode b_M_tries 9 = .ok (.iconst 0, 1) := by decide +kernel
theorem d_M_tries_10 : decode b_M_tries 10 = .ok (.istore 4, 2) := by decide +kernel
theorem d_M_tries_12 : decode b_M_tries 12 = .ok (.iload 4, 2) := by decide +kernel
theorem d_M_tries_14 : decode b_M_tries 14 = .ok (.aload_n 0, 1) := by decide +kernel
theorem d_M_tries_15 : decode b_M_tries 15 = .ok (.getfield 42, 3) := by decide +kernel
theorem d_M_tries_18 : decode b_M_tries 18 = .ok (.if_icmp .ge 30, 3) := by decide +kernel
theorem d_M_tries_21 : decode b_M_tries 21 = .ok (.aload_n 0, 1) := by decide +kernel
theorem d_M_tries_22 : decode b_M_tries 22 = .ok (.getfield 34, 3) := by decide +kernel
theorem d_M_tries_25 : decode b_M_tries 25 = .ok (.iload 4, 2) := by decide +kernel
theorem d_M_tries_27 : decode b_M_tries 27 = .ok (.iload_n 1, 1) := by decide +kernel
theorem d_M_tries_28 : decode b_M_tries 28 = .ok (.iload 4, 2) := by decide +kernel
theorem d_M_tries_30 : decode b_M_tries 30 = .ok (.ishr, 1) := by decide +kernel
theorem d_M_tries_31 : decode b_M_tries 31 = .ok (.iconst 1, 1) := by decide +kernel
theorem d_M_tries_32 : decode b_M_tries 32 = .ok (.iand, 1) := by decide +kernel
theorem d_M_tries_33 : decode b_M_tries 33 = .ok (.ifCond .ne 7, 3) := by decide +kernel
theorem d_M_tries_36 : decode b_M_tries 36 = .ok (.iconst 1, 1) := by decide +kernel
theorem d_M_tries_37 : decode b_M_tries 37 = .ok (.goto 4, 3) := by decide +kernel
theorem d_M_tries_40 : decode b_M_tries 40 = .ok (.iconst 0, 1) := by decide +kernel
theorem d_M_tries_41 : decode b_M_tries 41 = .ok (.bastore, 1) := by decide +kernel
theorem d_M_tries_42 : decode b_M_tries 42 = .ok (.iinc 4 1, 3) := by decide +kernel
theorem d_M_tries_45 : decode b_M_tries 45 = .ok (.goto (-33), 3) := by decide +kernel
theorem d_M_tries_48 : decode b_M_tries 48 = .ok (.iconst 0, 1) := by decide +kernel
theorem d_M_tries_49 : decode b_M_tries 49 = .ok (.istore 4, 2) := by decide +kernel
theorem d_M_tries_51 : decode b_M_tries 51 = .ok (.iload 4, 2) := by decide +kernel
theorem d_M_tries_53 : decode b_M_tries 53 = .ok (.aload_n 0, 1) := by decide +kernel
theorem d_M_tries_54 : decode b_M_tries 54 = .ok (.getfield 42, 3) := by decide +kernel
theorem d_M_tries_57 : decode b_M_tries 57 = .ok (.if_icmp .ge 58, 3) := by decide +kernel
theorem d_M_tries_60 : decode b_M_tries 60 = .ok (.iload_n 3, 1) := by decide +kernel
theorem d_M_tries_61 : decode b_M_tries 61 = .ok (.ifCond .eq 46, 3) := by decide +kernel
theorem d_M_tries_64 : decode b_M_tries 64 = .ok (.aload_n 0, 1) := by decide +kernel
theorem d_M_tries_65 : decode b_M_tries 65 = .ok (.getfield 34, 3) := by decide +kernel
theorem d_M_tries_68 : decode b_M_tries 68 = .ok (.iload 4, 2) := by decide +kernel
theorem d_M_tries_70 : decode b_M_tries 70 = .ok (.baload, 1) := by decide +kernel
theorem d_M_tries_71 : decode b_M_tries 71 = .ok (.ifCond .eq 32, 3) := by decide +kernel
theorem d_M_tries_74 : decode b_M_tries 74 = .ok (.aload_n 0, 1) := by decide +kernel
theorem d_M_tries_75 : decode b_M_tries 75 = .ok (.iload 4, 2) := by decide +kernel
theorem d_M_tries_77 : decode b_M_tries 77 = .ok (.aload_n 0, 1) := by decide +kernel
theorem d_M_tries_78 : decode b_M_tries 78 = .ok (.getfield 22, 3) := by decide +kernel
theorem d_M_tries_81 : decode b_M_tries 81 = .ok (.iconst 3, 1) := by decide +kernel
theorem d_M_tries_82 : decode b_M_tries 82 = .ok (.iload 4, 2) := by decide +kernel
theorem d_M_tries_84 : decode b_M_tries 84 = .ok (.imul, 1) := by decide +kernel
theorem d_M_tries_85 : decode b_M_tries 85 = .ok (.iaload, 1) := by decide +kernel
theorem d_M_tries_86 : decode b_M_tries 86 = .ok (.aload_n 0, 1) := by decide +kernel
theorem d_M_tries_87 : decode b_M_tries 87 = .ok (.getfield 22, 3) := by decide +kernel
theorem d_M_tries_90 : decode b_M_tries 90 = .ok (.iconst 3, 1) := by decide +kernel
theorem d_M_tries_91 : decode b_M_tries 91 = .ok (.iload 4, 2) := by decide +kernel
theorem d_M_tries_93 : decode b_M_tries 93 = .ok (.imul, 1) := by decide +kernel
theorem d_M_tries_94 : decode b_M_tries 94 = .ok (.iconst 1, 1) := by decide +kernel
theorem d_M_tries_95 : decode b_M_tries 95 = .ok (.iadd, 1) := by decide +kernel
theorem d_M_tries_96 : decode b_M_tries 96 = .ok (.iaload, 1) := by decide +kernel
theorem d_M_tries_97 : decode b_M_tries 97 = .ok (.invokevirtual 110, 3) := by decide +kernel
theorem d_M_tries_100 : decode b_M_tries 100 = .ok (.ifCond .eq 7, 3) := by decide +kernel
theorem d_M_tries_103 : decode b_M_tries 103 = .ok (.iconst 1, 1) := by decide +kernel
theorem d_M_tries_104 : decode b_M_tries 104 = .ok (.goto 4, 3) := by decide +kernel
theorem d_M_tries_107 : decode b_M_tries 107 = .ok (.iconst 0, 1) := by decide +kernel
theorem d_M_tries_108 : decode b_M_tries 108 = .ok (.istore_n 3, 1) := by decide +kernel
theorem d_M_tries_109 : decode b_M_tries 109 = .ok (.iinc 4 1, 3) := by decide +kernel
theorem d_M_tries_112 : decode b_M_tries 112 = .ok (.goto (-61), 3) := by decide +kernel
theorem d_M_tries_115 : decode b_M_tries 115 = .ok (.iload_n 3, 1) := by decide +kernel
theorem d_M_tries_116 : decode b_M_tries 116 = .ok (.ifCond .eq 21, 3) := by decide +kernel
theorem d_M_tries_119 : decode b_M_tries 119 = .ok (.aload_n 0, 1) := by decide +kernel
theorem d_M_tries_120 : decode b_M_tries 120 = .ok (.getfield 104, 3) := by decide +kernel
theorem d_M_tries_123 : decode b_M_tries 123 = .ok (.ifCond .lt 16, 3) := by decide +kernel
theorem d_M_tries_126 : decode b_M_tries 126 = .ok (.aload_n 0, 1) := by decide +kernel
theorem d_M_tries_127 : decode b_M_tries 127 = .ok (.invokevirtual 100, 3) := by decide +kernel
theorem d_M_tries_130 : decode b_M_tries 130 = .ok (.aload_n 0, 1) := by decide +kernel
theorem d_M_tries_131 : decode b_M_tries 131 = .ok (.getfield 104, 3) := by decide +kernel
theorem d_M_tries_134 : decode b_M_tries 134 = .ok (.if_icmp .lt 5, 3) := by decide +kernel
theorem d_M_tries_137 : decode b_M_tries 137 = .ok (.iconst 1, 1) := by decide +kernel
theorem d_M_tries_138 : decode b_M_tries 138 = .ok (.ireturn, 1) := by decide +kernel
theorem d_M_tries_139 : decode b_M_tries 139 = .ok (.iload_n 1, 1) := by decide +kernel
theorem d_M_tries_140 : decode b_M_tries 140 = .ok (.iconst (-1), 1) := by decide +kernel
theorem d_M_tries_141 : decode b_M_tries 141 = .ok (.invokestatic 113, 3) := by decide +kernel
theorem d_M_tries_144 : decode b_M_tries 144 = .ok (.istore 4, 2) := by decide +kernel
theorem d_M_tries_146 : decode b_M_tries 146 = .ok (.iload 4, 2) := by decide +kernel
theorem d_M_tries_148 : decode b_M_tries 148 = .ok (.ifCond .ge 10, 3) := by decide +kernel
theorem d_M_tries_151 : decode b_M_tries 151 = .ok (.aload_n 0, 1) := by decide +kernel
theorem d_M_tries_152 : decode b_M_tries 152 = .ok (.iload_n 1, 1) := by decide +kernel
theorem d_M_tries_153 : decode b_M_tries 153 = .ok (.invokevirtual 116, 3) := by decide +kernel
theorem d_M_tries_156 : decode b_M_tries 156 = .ok (.iconst 1, 1) := by decide +kernel
theorem d_M_tries_157 : decode b_M_tries 157 = .ok (.ireturn, 1) := by decide +kernel
theorem d_M_tries_158 : decode b_M_tries 158 = .ok (.aload_n 0, 1) := by decide +kernel
theorem d_M_tries_159 : decode b_M_tries 159 = .ok (.getfield 22, 3) := by decide +kernel
theorem d_M_tries_162 : decode b_M_tries 162 = .ok (.bipush 18, 2) := by decide +kernel
theorem d_M_tries_164 : decode b_M_tries 164 = .ok (.iconst 3, 1) := by decide +kernel
theorem d_M_tries_165 : decode b_M_tries 165 = .ok (.iload 4, 2) := by decide +kernel
theorem d_M_tries_167 : decode b_M_tries 167 = .ok (.imul, 1) := by decide +kernel
theorem d_M_tries_168 : decode b_M_tries 168 = .ok (.iadd, 1) := by decide +kernel
theorem d_M_tries_169 : decode b_M_tries 169 = .ok (.iconst 0, 1) := by decide +kernel
theorem d_M_tries_170 : decode b_M_tries 170 = .ok (.iastore, 1) := by decide +kernel
theorem d_M_tries_171 : decode b_M_tries 171 = .ok (.aload_n 0, 1) := by decide +kernel
theorem d_M_tries_172 : decode b_M_tries 172 = .ok (.getfield 22, 3) := by decide +kernel
theorem d_M_tries_175 : decode b_M_tries 175 = .ok (.bipush 18, 2) := by decide +kernel
theorem d_M_tries_177 : decode b_M_tries 177 = .ok (.iconst 3, 1) := by decide +kernel
theorem d_M_tries_178 : decode b_M_tries 178 = .ok (.iload 4, 2) := by decide +kernel
theorem d_M_tries_180 : decode b_M_tries 180 = .ok (.imul, 1) := by decide +kernel
theorem d_M_tries_181 : decode b_M_tries 181 = .ok (.iadd, 1) := by decide +kernel
theorem d_M_tries_182 : decode b_M_tries 182 = .ok (.iconst 1, 1) := by decide +kernel
theorem d_M_tries_183 : decode b_M_tries 183 = .ok (.iadd, 1) := by decide +kernel
theorem d_M_tries_184 : decode b_M_tries 184 = .ok (.iconst (-1), 1) := by decide +kernel
theorem d_M_tries_185 : decode b_M_tries 185 = .ok (.iastore, 1) := by decide +kernel
theorem d_M_tries_186 : decode b_M_tries 186 = .ok (.iload 4, 2) := by decide +kernel
theorem d_M_tries_188 : decode b_M_tries 188 = .ok (.ifCond .lt 265, 3) := by decide +kernel
theorem d_M_tries_191 : decode b_M_tries 191 = .ok (.bipush 60, 2) := by decide +kernel
theorem d_M_tries_193 : decode b_M_tries 193 = .ok (.aload_n 0, 1) := by decide +kernel
theorem d_M_tries_194 : decode b_M_tries 194 = .ok (.getfield 22, 3) := by decide +kernel
theorem d_M_tries_197 : decode b_M_tries 197 = .ok (.bipush 18, 2) := by decide +kernel
theorem d_M_tries_199 : decode b_M_tries 199 = .ok (.iconst 3, 1) := by decide +kernel
theorem d_M_tries_200 : decode b_M_tries 200 = .ok (.iload 4, 2) := by decide +kernel
theorem d_M_tries_202 : decode b_M_tries 202 = .ok (.imul, 1) := by decide +kernel
theorem d_M_tries_203 : decode b_M_tries 203 = .ok (.iadd, 1) := by decide +kernel
theorem d_M_tries_204 : decode b_M_tries 204 = .ok (.iaload, 1) := by decide +kernel
theorem d_M_tries_205 : decode b_M_tries 205 = .ok (.imul, 1) := by decide +kernel
theorem d_M_tries_206 : decode b_M_tries 206 = .ok (.aload_n 0, 1) := by decide +kernel
theorem d_M_tries_207 : decode b_M_tries 207 = .ok (.getfield 22, 3) := by decide +kernel
theorem d_M_tries_210 : decode b_M_tries 210 = .ok (.bipush 18, 2) := by decide +kernel
theorem d_M_tries_212 : decode b_M_tries 212 = .ok (.iconst 3, 1) := by decide +kernel
theorem d_M_tries_213 : decode b_M_tries 213 = .ok (.iload 4, 2) := by decide +kernel
theorem d_M_tries_215 : decode b_M_tries 215 = .ok (.imul, 1) := by decide +kernel
theorem d_M_tries_216 : decode b_M_tries 216 = .ok (.iadd, 1) := by decide +kernel
theorem d_M_tries_217 : decode b_M_tries 217 = .ok (.iconst 1, 1) := by decide +kernel
theorem d_M_tries_218 : decode b_M_tries 218 = .ok (.iadd, 1) := by decide +kernel
theorem d_M_tries_219 : decode b_M_tries 219 = .ok (.iaload, 1) := by decide +kernel
theorem d_M_tries_220 : decode b_M_tries 220 = .ok (.iadd, 1) := by decide +kernel
theorem d_M_tries_221 : decode b_M_tries 221 = .ok (.iconst 1, 1) := by decide +kernel
theorem d_M_tries_222 : decode b_M_tries 222 = .ok (.iadd, 1) := by decide +kernel
theorem d_M_tries_223 : decode b_M_tries 223 = .ok (.istore 5, 2) := by decide +kernel
theorem d_M_tries_225 : decode b_M_tries 225 = .ok (.aload_n 0, 1) := by decide +kernel
theorem d_M_tries_226 : decode b_M_tries 226 = .ok (.getfield 34, 3) := by decide +kernel
theorem d_M_tries_229 : decode b_M_tries 229 = .ok (.iload 4, 2) := by decide +kernel
theorem d_M_tries_231 : decode b_M_tries 231 = .ok (.iconst 0, 1) := by decide +kernel
theorem d_M_tries_232 : decode b_M_tries 232 = .ok (.bastore, 1) := by decide +kernel
theorem d_M_tries_233 : decode b_M_tries 233 = .ok (.iload 5, 2) := by decide +kernel
theorem d_M_tries_235 : decode b_M_tries 235 = .ok (.sipush 180, 3) := by decide +kernel
theorem d_M_tries_238 : decode b_M_tries 238 = .ok (.if_icmp .ge 39, 3) := by decide +kernel
theorem d_M_tries_241 : decode b_M_tries 241 = .ok (.aload_n 0, 1) := by decide +kernel
theorem d_M_tries_242 : decode b_M_tries 242 = .ok (.iload 4, 2) := by decide +kernel
theorem d_M_tries_244 : decode b_M_tries 244 = .ok (.iload 5, 2) := by decide +kernel
theorem d_M_tries_246 : decode b_M_tries 246 = .ok (.invokevirtual 120, 3) := by decide +kernel
theorem d_M_tries_249 : decode b_M_tries 249 = .ok (.ifCond .ne 22, 3) := by decide +kernel
theorem d_M_tries_252 : decode b_M_tries 252 = .ok (.aload_n 0, 1) := by decide +kernel
theorem d_M_tries_253 : decode b_M_tries 253 = .ok (.iload 4, 2) := by decide +kernel
theorem d_M_tries_255 : decode b_M_tries 255 = .ok (.iload 5, 2) := by decide +kernel
theorem d_M_tries_257 : decode b_M_tries 257 = .ok (.bipush 60, 2) := by decide +kernel
theorem d_M_tries_259 : decode b_M_tries 259 = .ok (.idiv, 1) := by decide +kernel
theorem d_M_tries_260 : decode b_M_tries 260 = .ok (.iload 5, 2) := by decide +kernel
theorem d_M_tries_262 : decode b_M_tries 262 = .ok (.bipush 60, 2) := by decide +kernel
theorem d_M_tries_264 : decode b_M_tries 264 = .ok (.irem, 1) := by decide +kernel
theorem d_M_tries_265 : decode b_M_tries 265 = .ok (.invokevirtual 110, 3) := by decide +kernel
theorem d_M_tries_268 : decode b_M_tries 268 = .ok (.ifCond .ne 9, 3) := by decide +kernel
theorem d_M_tries_271 : decode b_M_tries 271 = .ok (.iinc 5 1, 3) := by decide +kernel
theorem d_M_tries_274 : decode b_M_tries 274 = .ok (.goto (-41), 3) := by decide +kernel
theorem d_M_tries_277 : decode b_M_tries 277 = .ok (.iload 5, 2) := by decide +kernel
theorem d_M_tries_279 : decode b_M_tries 279 = .ok (.sipush 180, 3) := by decide +kernel
theorem d_M_tries_282 : decode b_M_tries 282 = .ok (.if_icmp .ne 14, 3) := by decide +kernel
theorem d_M_tries_285 : decode b_M_tries 285 = .ok (.iload_n 1, 1) := by decide +kernel
theorem d_M_tries_286 : decode b_M_tries 286 = .ok (.iload 4, 2) := by decide +kernel
theorem d_M_tries_288 : decode b_M_tries 288 = .ok (.invokestatic 124, 3) := by decide +kernel
theorem d_M_tries_291 : decode b_M_tries 291 = .ok (.istore 4, 2) := by decide +kernel
theorem d_M_tries_293 : decode b_M_tries 293 = .ok (.goto 157, 3) := by decide +kernel
theorem d_M_tries_296 : decode b_M_tries 296 = .ok (.aload_n 0, 1) := by decide +kernel
theorem d_M_tries_297 : decode b_M_tries 297 = .ok (.getfield 127, 3) := by decide +kernel
theorem d_M_tries_300 : decode b_M_tries 300 = .ok (.iload_n 2, 1) := by decide +kernel
theorem d_M_tries_301 : decode b_M_tries 301 = .ok (.if_icmp .ne 5, 3) := by decide +kernel
theorem d_M_tries_304 : decode b_M_tries 304 = .ok (.iconst 0, 1) := by decide +kernel
theorem d_M_tries_305 : decode b_M_tries 305 = .ok (.ireturn, 1) := by decide +kernel
theorem d_M_tries_306 : decode b_M_tries 306 = .ok (.aload_n 0, 1) := by decide +kernel
theorem d_M_tries_307 : decode b_M_tries 307 = .ok (.dup, 1) := by decide +kernel
theorem d_M_tries_308 : decode b_M_tries 308 = .ok (.getfield 127, 3) := by decide +kernel
theorem d_M_tries_311 : decode b_M_tries 311 = .ok (.iconst 1, 1) := by decide +kernel
theorem d_M_tries_312 : decode b_M_tries 312 = .ok (.iadd, 1) := by decide +kernel
theorem d_M_tries_313 : decode b_M_tries 313 = .ok (.putfield 127, 3) := by decide +kernel
theorem d_M_tries_316 : decode b_M_tries 316 = .ok (.aload_n 0, 1) := by decide +kernel
theorem d_M_tries_317 : decode b_M_tries 317 = .ok (.getfield 22, 3) := by decide +kernel
theorem d_M_tries_320 : decode b_M_tries 320 = .ok (.bipush 18, 2) := by decide +kernel
theorem d_M_tries_322 : decode b_M_tries 322 = .ok (.iconst 3, 1) := by decide +kernel
theorem d_M_tries_323 : decode b_M_tries 323 = .ok (.iload 4, 2) := by decide +kernel
theorem d_M_tries_325 : decode b_M_tries 325 = .ok (.imul, 1) := by decide +kernel
theorem d_M_tries_326 : decode b_M_tries 326 = .ok (.iadd, 1) := by decide +kernel
theorem d_M_tries_327 : decode b_M_tries 327 = .ok (.iload 5, 2) := by decide +kernel
theorem d_M_tries_329 : decode b_M_tries 329 = .ok (.bipush 60, 2) := by decide +kernel
theorem d_M_tries_331 : decode b_M_tries 331 = .ok (.idiv, 1) := by decide +kernel
theorem d_M_tries_332 : decode b_M_tries 332 = .ok (.iastore, 1) := by decide +kernel
theorem d_M_tries_333 : decode b_M_tries 333 = .ok (.aload_n 0, 1) := by decide +kernel
theorem d_M_tries_334 : decode b_M_tries 334 = .ok (.getfield 22, 3) := by decide +kernel
theorem d_M_tries_337 : decode b_M_tries 337 = .ok (.bipush 18, 2) := by decide +kernel
theorem d_M_tries_339 : decode b_M_tries 339 = .ok (.iconst 3, 1) := by decide +kernel
theorem d_M_tries_340 : decode b_M_tries 340 = .ok (.iload 4, 2) := by decide +kernel
theorem d_M_tries_342 : decode b_M_tries 342 = .ok (.imul, 1) := by decide +kernel
theorem d_M_tries_343 : decode b_M_tries 343 = .ok (.iadd, 1) := by decide +kernel
theorem d_M_tries_344 : decode b_M_tries 344 = .ok (.iconst 1, 1) := by decide +kernel
theorem d_M_tries_345 : decode b_M_tries 345 = .ok (.iadd, 1) := by decide +kernel
theorem d_M_tries_346 : decode b_M_tries 346 = .ok (.iload 5, 2) := by decide +kernel
theorem d_M_tries_348 : decode b_M_tries 348 = .ok (.bipush 60, 2) := by decide +kernel
theorem d_M_tries_350 : decode b_M_tries 350 = .ok (.irem, 1) := by decide +kernel
theorem d_M_tries_351 : decode b_M_tries 351 = .ok (.iastore, 1) := by decide +kernel
theorem d_M_tries_352 : decode b_M_tries 352 = .ok (.aload_n 0, 1) := by decide +kernel
theorem d_M_tries_353 : decode b_M_tries 353 = .ok (.getfield 34, 3) := by decide +kernel
theorem d_M_tries_356 : decode b_M_tries 356 = .ok (.iload 4, 2) := by decide +kernel
theorem d_M_tries_358 : decode b_M_tries 358 = .ok (.iconst 1, 1) := by decide +kernel
theorem d_M_tries_359 : decode b_M_tries 359 = .ok (.bastore, 1) := by decide +kernel
theorem d_M_tries_360 : decode b_M_tries 360 = .ok (.aload_n 0, 1) := by decide +kernel
theorem d_M_tries_361 : decode b_M_tries 361 = .ok (.getfield 104, 3) := by decide +kernel
theorem d_M_tries_364 : decode b_M_tries 364 = .ok (.ifCond .lt 18, 3) := by decide +kernel
theorem d_M_tries_367 : decode b_M_tries 367 = .ok (.aload_n 0, 1) := by decide +kernel
theorem d_M_tries_368 : decode b_M_tries 368 = .ok (.invokevirtual 100, 3) := by decide +kernel
theorem d_M_tries_371 : decode b_M_tries 371 = .ok (.aload_n 0, 1) := by decide +kernel
theorem d_M_tries_372 : decode b_M_tries 372 = .ok (.getfield 104, 3) := by decide +kernel
theorem d_M_tries_375 : decode b_M_tries 375 = .ok (.if_icmp .lt 7, 3) := by decide +kernel
theorem d_M_tries_378 : decode b_M_tries 378 = .ok (.iconst 1, 1) := by decide +kernel
theorem d_M_tries_379 : decode b_M_tries 379 = .ok (.goto 4, 3) := by decide +kernel
theorem d_M_tries_382 : decode b_M_tries 382 = .ok (.iconst 0, 1) := by decide +kernel
theorem d_M_tries_383 : decode b_M_tries 383 = .ok (.istore 6, 2) := by decide +kernel
theorem d_M_tries_385 : decode b_M_tries 385 = .ok (.iload_n 1, 1) := by decide +kernel
theorem d_M_tries_386 : decode b_M_tries 386 = .ok (.iload 4, 2) := by decide +kernel
theorem d_M_tries_388 : decode b_M_tries 388 = .ok (.invokestatic 113, 3) := by decide +kernel
theorem d_M_tries_391 : decode b_M_tries 391 = .ok (.istore 7, 2) := by decide +kernel
theorem d_M_tries_393 : decode b_M_tries 393 = .ok (.iload 6, 2) := by decide +kernel
theorem d_M_tries_395 : decode b_M_tries 395 = .ok (.ifCond .ne 13, 3) := by decide +kernel
theorem d_M_tries_398 : decode b_M_tries 398 = .ok (.iload 7, 2) := by decide +kernel
theorem d_M_tries_400 : decode b_M_tries 400 = .ok (.ifCond .ge 8, 3) := by decide +kernel
theorem d_M_tries_403 : decode b_M_tries 403 = .ok (.aload_n 0, 1) := by decide +kernel
theorem d_M_tries_404 : decode b_M_tries 404 = .ok (.iload_n 1, 1) := by decide +kernel
theorem d_M_tries_405 : decode b_M_tries 405 = .ok (.invokevirtual 116, 3) := by decide +kernel
theorem d_M_tries_408 : decode b_M_tries 408 = .ok (.iload 6, 2) := by decide +kernel
theorem d_M_tries_410 : decode b_M_tries 410 = .ok (.ifCond .ne 40, 3) := by decide +kernel
theorem d_M_tries_413 : decode b_M_tries 413 = .ok (.iload 7, 2) := by decide +kernel
theorem d_M_tries_415 : decode b_M_tries 415 = .ok (.ifCond .lt 35, 3) := by decide +kernel
theorem d_M_tries_418 : decode b_M_tries 418 = .ok (.iload 7, 2) := by decide +kernel
theorem d_M_tries_420 : decode b_M_tries 420 = .ok (.istore 4, 2) := by decide +kernel
theorem d_M_tries_422 : decode b_M_tries 422 = .ok (.aload_n 0, 1) := by decide +kernel
theorem d_M_tries_423 : decode b_M_tries 423 = .ok (.getfield 22, 3) := by decide +kernel
theorem d_M_tries_426 : decode b_M_tries 426 = .ok (.bipush 18, 2) := by decide +kernel
theorem d_M_tries_428 : decode b_M_tries 428 = .ok (.iconst 3, 1) := by decide +kernel
theorem d_M_tries_429 : decode b_M_tries 429 = .ok (.iload 4, 2) := by decide +kernel
theorem d_M_tries_431 : decode b_M_tries 431 = .ok (.imul, 1) := by decide +kernel
theorem d_M_tries_432 : decode b_M_tries 432 = .ok (.iadd, 1) := by decide +kernel
theorem d_M_tries_433 : decode b_M_tries 433 = .ok (.iconst 0, 1) := by decide +kernel
theorem d_M_tries_434 : decode b_M_tries 434 = .ok (.iastore, 1) := by decide +kernel
theorem d_M_tries_435 : decode b_M_tries 435 = .ok (.aload_n 0, 1) := by decide +kernel
theorem d_M_tries_436 : decode b_M_tries 436 = .ok (.getfield 22, 3) := by decide +kernel
theorem d_M_tries_439 : decode b_M_tries 439 = .ok (.bipush 18, 2) := by decide +kernel
theorem d_M_tries_441 : decode b_M_tries 441 = .ok (.iconst 3, 1) := by decide +kernel
theorem d_M_tries_442 : decode b_M_tries 442 = .ok (.iload 4, 2) := by decide +kernel
theorem d_M_tries_444 : decode b_M_tries 444 = .ok (.imul, 1) := by decide +kernel
theorem d_M_tries_445 : decode b_M_tries 445 = .ok (.iadd, 1) := by decide +kernel
theorem d_M_tries_446 : decode b_M_tries 446 = .ok (.iconst 1, 1) := by decide +kernel
theorem d_M_tries_447 : decode b_M_tries 447 = .ok (.iadd, 1) := by decide +kernel
theorem d_M_tries_448 : decode b_M_tries 448 = .ok (.iconst (-1), 1) := by decide +kernel
theorem d_M_tries_449 : decode b_M_tries 449 = .ok (.iastore, 1) := by decide +kernel
theorem d_M_tries_450 : decode b_M_tries 450 = .ok (.goto (-264), 3) := by decide +kernel
theorem d_M_tries_453 : decode b_M_tries 453 = .ok (.iconst 1, 1) := by decide +kernel
theorem d_M_tries_454 : decode b_M_tries 454 = .ok (.ireturn, 1) := by decide +kernel
theorem d_M_bits_0 : decode b_M_bits 0 = .ok (.iconst 0, 1) := by decide +kernel
theorem d_M_bits_1 : decode b_M_bits 1 = .ok (.istore_n 1, 1) := by decide +kernel
theorem d_M_bits_2 : decode b_M_bits 2 = .ok (.iconst 0, 1) := by decide +kernel
theorem d_M_bits_3 : decode b_M_bits 3 = .ok (.istore_n 2, 1) := by decide +kernel
theorem d_M_bits_4 : decode b_M_bits 4 = .ok (.iload_n 2, 1) := by decide +kernel
theorem d_M_bits_5 : decode b_M_bits 5 = .ok (.bipush 6, 2) := by decide +kernel
theorem d_M_bits_7 : decode b_M_bits 7 = .ok (.if_icmp .ge 17, 3) := by decide +kernel
theorem d_M_bits_10 : decode b_M_bits 10 = .ok (.iload_n 1, 1) := by decide +kernel
theorem d_M_bits_11 : decode b_M_bits 11 = .ok (.iload_n 0, 1) := by decide +kernel
theorem d_M_bits_12 : decode b_M_bits 12 = .ok (.iload_n 2, 1) := by decide +kernel
theorem d_M_bits_13 : decode b_M_bits 13 = .ok (.ishr, 1) := by decide +kernel
theorem d_M_bits_14 : decode b_M_bits 14 = .ok (.iconst 1, 1) := by decide +kernel
theorem d_M_bits_15 : decode b_M_bits 15 = .ok (.iand, 1) := by decide +kernel
theorem d_M_bits_16 : decode b_M_bits 16 = .ok (.iadd, 1) := by decide +kernel
theorem d_M_bits_17 : decode b_M_bits 17 = .ok (.istore_n 1, 1) := by decide +kernel
theorem d_M_bits_18 : decode b_M_bits 18 = .ok (.iinc 2 1, 3) := by decide +kernel
theorem d_M_bits_21 : decode b_M_bits 21 = .ok (.goto (-17), 3) := by decide +kernel
theorem d_M_bits_24 : decode b_M_bits 24 = .ok (.iload_n 1, 1) := by decide +kernel
theorem d_M_bits_25 : decode b_M_bits 25 = .ok (.ireturn, 1) := by decide +kernel
theorem d_M_run_0 : decode b_M_run 0 = .ok (.aload_n 0, 1) := by decide +kernel
theorem d_M_run_1 : decode b_M_run 1 = .ok (.iload_n 1, 1) := by decide +kernel
theorem d_M_run_2 : decode b_M_run 2 = .ok (.iconst 0, 1) := by decide +kernel
theorem d_M_run_3 : decode b_M_run 3 = .ok (.ldc 130, 2) := by decide +kernel
theorem d_M_run_5 : decode b_M_run 5 = .ok (.invokestatic 45, 3) := by decide +kernel
theorem d_M_run_8 : decode b_M_run 8 = .ok (.ifCond .ne 7, 3) := by decide +kernel
theorem d_M_run_11 : decode b_M_run 11 = .ok (.iconst 1, 1) := by decide +kernel
theorem d_M_run_12 : decode b_M_run 12 = .ok (.goto 4, 3) := by decide +kernel
theorem d_M_run_15 : decode b_M_run 15 = .ok (.iconst 0, 1) := by decide +kernel
theorem d_M_run_16 : decode b_M_run 16 = .ok (.iconst 0, 1) := by decide +kernel
theorem d_M_run_17 : decode b_M_run 17 = .ok (.iconst 0, 1) := by decide +kernel
theorem d_M_run_18 : decode b_M_run 18 = .ok (.iconst 0, 1) := by decide +kernel
theorem d_M_run_19 : decode b_M_run 19 = .ok (.invokevirtual 68, 3) := by decide +kernel
theorem d_M_run_22 : decode b_M_run 22 = .ok (.ifCond .eq 5, 3) := by decide +kernel
theorem d_M_run_25 : decode b_M_run 25 = .ok (.iconst 0, 1) := by decide +kernel
theorem d_M_run_26 : decode b_M_run 26 = .ok (.ireturn, 1) := by decide +kernel
theorem d_M_run_27 : decode b_M_run 27 = .ok (.aload_n 0, 1) := by decide +kernel
theorem d_M_run_28 : decode b_M_run 28 = .ok (.iconst 1, 1) := by decide +kernel
theorem d_M_run_29 : decode b_M_run 29 = .ok (.putfield 131, 3) := by decide +kernel
theorem d_M_run_32 : decode b_M_run 32 = .ok (.aload_n 0, 1) := by decide +kernel
theorem d_M_run_33 : decode b_M_run 33 = .ok (.iconst 0, 1) := by decide +kernel
theorem d_M_run_34 : decode b_M_run 34 = .ok (.putfield 134, 3) := by decide +kernel
theorem d_M_run_37 : decode b_M_run 37 = .ok (.aload_n 0, 1) := by decide +kernel
theorem d_M_run_38 : decode b_M_run 38 = .ok (.iconst 0, 1) := by decide +kernel
theorem d_M_run_39 : decode b_M_run 39 = .ok (.putfield 127, 3) := by decide +kernel
theorem d_M_run_42 : decode b_M_run 42 = .ok (.aload_n 0, 1) := by decide +kernel
theorem d_M_run_43 : decode b_M_run 43 = .ok (.iconst 0, 1) := by decide +kernel
theorem d_M_run_44 : decode b_M_run 44 = .ok (.putfield 107, 3) := by decide +kernel
theorem d_M_run_47 : decode b_M_run 47 = .ok (.aload_n 0, 1) := by decide +kernel
theorem d_M_run_48 : decode b_M_run 48 = .ok (.iconst (-1), 1) := by decide +kernel
theorem d_M_run_49 : decode b_M_run 49 = .ok (.putfield 104, 3) := by decide +kernel
theorem d_M_run_52 : decode b_M_run 52 = .ok (.iconst 0, 1) := by decide +kernel
theorem d_M_run_53 : decode b_M_run 53 = .ok (.istore_n 2, 1) := by decide +kernel
theorem d_M_run_54 : decode b_M_run 54 = .ok (.iconst 0, 1) := by decide +kernel
theorem d_M_run_55 : decode b_M_run 55 = .ok (.istore_n 3, 1) := by decide +kernel
theorem d_M_run_56 : decode b_M_run 56 = .ok (.iload_n 3, 1) := by decide +kernel
theorem d_M_run_57 : decode b_M_run 57 = .ok (.aload_n 0, 1) := by decide +kernel
theorem d_M_run_58 : decode b_M_run 58 = .ok (.getfield 42, 3) := by decide +kernel
theorem d_M_run_61 : decode b_M_run 61 = .ok (.if_icmp .ge 27, 3) := by decide +kernel
theorem d_M_run_64 : decode b_M_run 64 = .ok (.iload_n 2, 1) := by decide +kernel
theorem d_M_run_65 : decode b_M_run 65 = .ok (.aload_n 0, 1) := by decide +kernel
theorem d_M_run_66 : decode b_M_run 66 = .ok (.iload_n 3, 1) := by decide +kernel
theorem d_M_run_67 : decode b_M_run 67 = .ok (.invokevirtual 90, 3) := by decide +kernel
theorem d_M_run_70 : decode b_M_run 70 = .ok (.ifCond .eq 7, 3) := by decide +kernel
theorem d_M_run_73 : decode b_M_run 73 = .ok (.iconst 0, 1) := by decide +kernel
theorem d_M_run_74 : decode b_M_run 74 = .ok (.goto 6, 3) := by decide +kernel
theorem d_M_run_77 : decode b_M_run 77 = .ok (.iconst 1, 1) := by decide +kernel
theorem d_M_run_78 : decode b_M_run 78 = .ok (.iload_n 3, 1) := by decide +kernel
theorem d_M_run_79 : decode b_M_run 79 = .ok (.ishl, 1) := by decide +kernel
theorem d_M_run_80 : decode b_M_run 80 = .ok (.ior, 1) := by decide +kernel
theorem d_M_run_81 : decode b_M_run 81 = .ok (.istore_n 2, 1) := by decide +kernel
theorem d_M_run_82 : decode b_M_run 82 = .ok (.iinc 3 1, 3) := by decide +kernel
theorem d_M_run_85 : decode b_M_run 85 = .ok (.goto (-29), 3) := by decide +kernel
theorem d_M_run_88 : decode b_M_run 88 = .ok (.aload_n 0, 1) := by decide +kernel
theorem d_M_run_89 : decode b_M_run 89 = .ok (.iconst 0, 1) := by decide +kernel
theorem d_M_run_90 : decode b_M_run 90 = .ok (.putfield 137, 3) := by decide +kernel
theorem d_M_run_93 : decode b_M_run 93 = .ok (.aload_n 0, 1) := by decide +kernel
theorem d_M_run_94 : decode b_M_run 94 = .ok (.getfield 104, 3) := by decide +kernel
theorem d_M_run_97 : decode b_M_run 97 = .ok (.ifCond .ge 106, 3) := by decide +kernel
theorem d_M_run_100 : decode b_M_run 100 = .ok (.aload_n 0, 1) := by decide +kernel
theorem d_M_run_101 : decode b_M_run 101 = .ok (.getfield 134, 3) := by decide +kernel
theorem d_M_run_104 : decode b_M_run 104 = .ok (.ifCond .ne 99, 3) := by decide +kernel
theorem d_M_run_107 : decode b_M_run 107 = .ok (.aload_n 0, 1) := by decide +kernel
theorem d_M_run_108 : decode b_M_run 108 = .ok (.getfield 137, 3) := by decide +kernel
theorem d_M_run_111 : decode b_M_run 111 = .ok (.iload_n 2, 1) := by decide +kernel
theorem d_M_run_112 : decode b_M_run 112 = .ok (.invokestatic 140, 3) := by decide +kernel
theorem d_M_run_115 : decode b_M_run 115 = .ok (.if_icmp .gt 88, 3) := by decide +kernel
theorem d_M_run_118 : decode b_M_run 118 = .ok (.iconst 0, 1) := by decide +kernel
theorem d_M_run_119 : decode b_M_run 119 = .ok (.istore_n 3, 1) := by decide +kernel
theorem d_M_run_120 : decode b_M_run 120 = .ok (.iload_n 3, 1) := by decide +kernel
theorem d_M_run_121 : decode b_M_run 121 = .ok (.bipush 64, 2) := by decide +kernel
theorem d_M_run_123 : decode b_M_run 123 = .ok (.if_icmp .ge 53, 3) := by decide +kernel
theorem d_M_run_126 : decode b_M_run 126 = .ok (.aload_n 0, 1) := by decide +kernel
theorem d_M_run_127 : decode b_M_run 127 = .ok (.getfield 134, 3) := by decide +kernel
theorem d_M_run_130 : decode b_M_run 130 = .ok (.ifCond .ne 46, 3) := by decide +kernel
theorem d_M_run_133 : decode b_M_run 133 = .ok (.iload_n 3, 1) := by decide +kernel
theorem d_M_run_134 : decode b_M_run 134 = .ok (.iload_n 2, 1) := by decide +kernel
theorem d_M_run_135 : decode b_M_run 135 = .ok (.iconst (-1), 1) := by decide +kernel
theorem d_M_run_136 : decode b_M_run 136 = .ok (.ixor, 1) := by decide +kernel
theorem d_M_run_137 : decode b_M_run 137 = .ok (.iand, 1) := by decide +kernel
theorem d_M_run_138 : decode b_M_run 138 = .ok (.ifCond .ne 32, 3) := by decide +kernel
theorem d_M_run_141 : decode b_M_run 141 = .ok (.iload_n 3, 1) := by decide +kernel
theorem d_M_run_142 : decode b_M_run 142 = .ok (.invokestatic 140, 3) := by decide +kernel
theorem d_M_run_145 : decode b_M_run 145 = .ok (.aload_n 0, 1) := by decide +kernel
theorem d_M_run_146 : decode b_M_run 146 = .ok (.getfield 137, 3) := by decide +kernel
theorem d_M_run_149 : decode b_M_run 149 = .ok (.if_icmp .ne 21, 3) := by decide +kernel
theorem d_M_run_152 : decode b_M_run 152 = .ok (.aload_n 0, 1) := by decide +kernel
theorem d_M_run_153 : decode b_M_run 153 = .ok (.aload_n 0, 1) := by decide +kernel
theorem d_M_run_154 : decode b_M_run 154 = .ok (.iload_n 3, 1) := by decide +kernel
theorem d_M_run_155 : decode b_M_run 155 = .ok (.iload_n 1, 1) := by decide +kernel
theorem d_M_run_156 : decode b_M_run 156 = .ok (.invokevirtual 144, 3) := by decide +kernel
theorem d_M_run_159 : decode b_M_run 159 = .ok (.ifCond .ne 7, 3) := by decide +kernel
theorem d_M_run_162 : decode b_M_run 162 = .ok (.iconst 1, 1) := by decide +kernel
theorem d_M_run_163 : decode b_M_run 163 = .ok (.goto 4, 3) := by decide +kernel
theorem d_M_run_166 : decode b_M_run 166 = .ok (.iconst 0, 1) := by decide +kernel
theorem d_M_run_167 : decode b_M_run 167 = .ok (.putfield 134, 3) := by decide +kernel
theorem d_M_run_170 : decode b_M_run 170 = .ok (.iinc 3 1, 3) := by decide +kernel
theorem d_M_run_173 : decode b_M_run 173 = .ok (.goto (-53), 3) := by decide +kernel
theorem d_M_run_176 : decode b_M_run 176 = .ok (.aload_n 0, 1) := by decide +kernel
theorem d_M_run_177 : decode b_M_run 177 = .ok (.getfield 104, 3) := by decide +kernel
theorem d_M_run_180 : decode b_M_run 180 = .ok (.ifCond .ge (-87), 3) := by decide +kernel
theorem d_M_run_183 : decode b_M_run 183 = .ok (.aload_n 0, 1) := by decide +kernel
theorem d_M_run_184 : decode b_M_run 184 = .ok (.getfield 134, 3) := by decide +kernel
theorem d_M_run_187 : decode b_M_run 187 = .ok (.ifCond .ne (-94), 3) := by decide +kernel
theorem d_M_run_190 : decode b_M_run 190 = .ok (.aload_n 0, 1) := by decide +kernel
theorem d_M_run_191 : decode b_M_run 191 = .ok (.dup, 1) := by decide +kernel
theorem d_M_run_192 : decode b_M_run 192 = .ok (.getfield 137, 3) := by decide +kernel
theorem d_M_run_195 : decode b_M_run 195 = .ok (.iconst 1, 1) := by decide +kernel
theorem d_M_run_196 : decode b_M_run 196 = .ok (.iadd, 1) := by decide +kernel
theorem d_M_run_197 : decode b_M_run 197 = .ok (.putfield 137, 3) := by decide +kernel
theorem d_M_run_200 : decode b_M_run 200 = .ok (.goto (-107), 3) := by decide +kernel
theorem d_M_run_203 : decode b_M_run 203 = .ok (.aload_n 0, 1) := by decide +kernel
theorem d_M_run_204 : decode b_M_run 204 = .ok (.getfield 137, 3) := by decide +kernel
theorem d_M_run_207 : decode b_M_run 207 = .ok (.iload_n 2, 1) := by decide +kernel
theorem d_M_run_208 : decode b_M_run 208 = .ok (.invokestatic 140, 3) := by decide +kernel
theorem d_M_run_211 : decode b_M_run 211 = .ok (.if_icmp .le 11, 3) := by decide +kernel
theorem d_M_run_214 : decode b_M_run 214 = .ok (.aload_n 0, 1) := by decide +kernel
theorem d_M_run_215 : decode b_M_run 215 = .ok (.iload_n 2, 1) := by decide +kernel
theorem d_M_run_216 : decode b_M_run 216 = .ok (.invokestatic 140, 3) := by decide +kernel
theorem d_M_run_219 : decode b_M_run 219 = .ok (.putfield 137, 3) := by decide +kernel
theorem d_M_run_222 : decode b_M_run 222 = .ok (.aload_n 0, 1) := by decide +kernel
theorem d_M_run_223 : decode b_M_run 223 = .ok (.getfield 104, 3) := by decide +kernel
theorem d_M_run_226 : decode b_M_run 226 = .ok (.ifCond .ge 5, 3) := by decide +kernel
theorem d_M_run_229 : decode b_M_run 229 = .ok (.iconst (-1), 1) := by decide +kernel
theorem d_M_run_230 : decode b_M_run 230 = .ok (.ireturn, 1) := by decide +kernel
theorem d_M_run_231 : decode b_M_run 231 = .ok (.aload_n 0, 1) := by decide +kernel
theorem d_M_run_232 : decode b_M_run 232 = .ok (.getfield 137, 3) := by decide +kernel
theorem d_M_run_235 : decode b_M_run 235 = .ok (.ifCond .le 14, 3) := by decide +kernel
theorem d_M_run_238 : decode b_M_run 238 = .ok (.aload_n 0, 1) := by decide +kernel
theorem d_M_run_239 : decode b_M_run 239 = .ok (.invokevirtual 93, 3) := by decide +kernel
theorem d_M_run_242 : decode b_M_run 242 = .ok (.aload_n 0, 1) := by decide +kernel
theorem d_M_run_243 : decode b_M_run 243 = .ok (.bipush 36, 2) := by decide +kernel
theorem d_M_run_245 : decode b_M_run 245 = .ok (.iconst 0, 1) := by decide +kernel
theorem d_M_run_246 : decode b_M_run 246 = .ok (.invokevirtual 82, 3) := by decide +kernel
theorem d_M_run_249 : decode b_M_run 249 = .ok (.aload_n 0, 1) := by decide +kernel
theorem d_M_run_250 : decode b_M_run 250 = .ok (.getfield 137, 3) := by decide +kernel
theorem d_M_run_253 : decode b_M_run 253 = .ok (.ireturn, 1) := by decide +kernel
theorem d_M_told_0 : decode b_M_told 0 = .ok (.aload_n 0, 1) := by decide +kernel
theorem d_M_told_1 : decode b_M_told 1 = .ok (.iload_n 1, 1) := by decide +kernel
theorem d_M_told_2 : decode b_M_told 2 = .ok (.iconst 0, 1) := by decide +kernel
theorem d_M_told_3 : decode b_M_told 3 = .ok (.iconst 3, 1) := by decide +kernel
theorem d_M_told_4 : decode b_M_told 4 = .ok (.invokestatic 45, 3) := by decide +kernel
theorem d_M_told_7 : decode b_M_told 7 = .ok (.ifCond .ne 7, 3) := by decide +kernel
theorem d_M_told_10 : decode b_M_told 10 = .ok (.iconst 1, 1) := by decide +kernel
theorem d_M_told_11 : decode b_M_told 11 = .ok (.goto 4, 3) := by decide +kernel
theorem d_M_told_14 : decode b_M_told 14 = .ok (.iconst 0, 1) := by decide +kernel
theorem d_M_told_15 : decode b_M_told 15 = .ok (.aload_n 0, 1) := by decide +kernel
theorem d_M_told_16 : decode b_M_told 16 = .ok (.getfield 131, 3) := by decide +kernel
theorem d_M_told_19 : decode b_M_told 19 = .ok (.ifCond .ne 7, 3) := by decide +kernel
theorem d_M_told_22 : decode b_M_told 22 = .ok (.iconst 1, 1) := by decide +kernel
theorem d_M_told_23 : decode b_M_told 23 = .ok (.goto 4, 3) := by decide +kernel
theorem d_M_told_26 : decode b_M_told 26 = .ok (.iconst 0, 1) := by decide +kernel
theorem d_M_told_27 : decode b_M_told 27 = .ok (.iconst 0, 1) := by decide +kernel
theorem d_M_told_28 : decode b_M_told 28 = .ok (.iconst 0, 1) := by decide +kernel
theorem d_M_told_29 : decode b_M_told 29 = .ok (.invokevirtual 68, 3) := by decide +kernel
theorem d_M_told_32 : decode b_M_told 32 = .ok (.ifCond .eq 5, 3) := by decide +kernel
theorem d_M_told_35 : decode b_M_told 35 = .ok (.iconst 0, 1) := by decide +kernel
theorem d_M_told_36 : decode b_M_told 36 = .ok (.ireturn, 1) := by decide +kernel
theorem d_M_told_37 : decode b_M_told 37 = .ok (.iload_n 1, 1) := by decide +kernel
theorem d_M_told_38 : decode b_M_told 38 = .ok (.ifCond .ne 18, 3) := by decide +kernel
theorem d_M_told_41 : decode b_M_told 41 = .ok (.aload_n 0, 1) := by decide +kernel
theorem d_M_told_42 : decode b_M_told 42 = .ok (.getfield 134, 3) := by decide +kernel
theorem d_M_told_45 : decode b_M_told 45 = .ok (.ifCond .eq 7, 3) := by decide +kernel
theorem d_M_told_48 : decode b_M_told 48 = .ok (.iconst 1, 1) := by decide +kernel
theorem d_M_told_49 : decode b_M_told 49 = .ok (.goto 35, 3) := by decide +kernel
theorem d_M_told_52 : decode b_M_told 52 = .ok (.iconst 0, 1) := by decide +kernel
theorem d_M_told_53 : decode b_M_told 53 = .ok (.goto 31, 3) := by decide +kernel
theorem d_M_told_56 : decode b_M_told 56 = .ok (.iload_n 1, 1) := by decide +kernel
theorem d_M_told_57 : decode b_M_told 57 = .ok (.iconst 1, 1) := by decide +kernel
theorem d_M_told_58 : decode b_M_told 58 = .ok (.if_icmp .ne 10, 3) := by decide +kernel
theorem d_M_told_61 : decode b_M_told 61 = .ok (.aload_n 0, 1) := by decide +kernel
theorem d_M_told_62 : decode b_M_told 62 = .ok (.getfield 127, 3) := by decide +kernel
theorem d_M_told_65 : decode b_M_told 65 = .ok (.goto 19, 3) := by decide +kernel
theorem d_M_told_68 : decode b_M_told 68 = .ok (.iload_n 1, 1) := by decide +kernel
theorem d_M_told_69 : decode b_M_told 69 = .ok (.iconst 2, 1) := by decide +kernel
theorem d_M_told_70 : decode b_M_told 70 = .ok (.if_icmp .ne 10, 3) := by decide +kernel
theorem d_M_told_73 : decode b_M_told 73 = .ok (.aload_n 0, 1) := by decide +kernel
theorem d_M_told_74 : decode b_M_told 74 = .ok (.getfield 137, 3) := by decide +kernel
theorem d_M_told_77 : decode b_M_told 77 = .ok (.goto 7, 3) := by decide +kernel
theorem d_M_told_80 : decode b_M_told 80 = .ok (.aload_n 0, 1) := by decide +kernel
theorem d_M_told_81 : decode b_M_told 81 = .ok (.getfield 107, 3) := by decide +kernel
theorem d_M_told_84 : decode b_M_told 84 = .ok (.ireturn, 1) := by decide +kernel
theorem d_M_at_0 : decode b_M_at 0 = .ok (.aload_n 0, 1) := by decide +kernel
theorem d_M_at_1 : decode b_M_at 1 = .ok (.aload_n 0, 1) := by decide +kernel
theorem d_M_at_2 : decode b_M_at 2 = .ok (.iload_n 1, 1) := by decide +kernel
theorem d_M_at_3 : decode b_M_at 3 = .ok (.invokevirtual 86, 3) := by decide +kernel
theorem d_M_at_6 : decode b_M_at 6 = .ok (.ifCond .eq 12, 3) := by decide +kernel
theorem d_M_at_9 : decode b_M_at 9 = .ok (.iload_n 2, 1) := by decide +kernel
theorem d_M_at_10 : decode b_M_at 10 = .ok (.iconst 0, 1) := by decide +kernel
theorem d_M_at_11 : decode b_M_at 11 = .ok (.iconst 4, 1) := by decide +kernel
theorem d_M_at_12 : decode b_M_at 12 = .ok (.invokestatic 45, 3) := by decide +kernel
theorem d_M_at_15 : decode b_M_at 15 = .ok (.ifCond .ne 7, 3) := by decide +kernel
theorem d_M_at_18 : decode b_M_at 18 = .ok (.iconst 1, 1) := by decide +kernel
theorem d_M_at_19 : decode b_M_at 19 = .ok (.goto 4, 3) := by decide +kernel
theorem d_M_at_22 : decode b_M_at 22 = .ok (.iconst 0, 1) := by decide +kernel
theorem d_M_at_23 : decode b_M_at 23 = .ok (.iconst 0, 1) := by decide +kernel
theorem d_M_at_24 : decode b_M_at 24 = .ok (.iconst 0, 1) := by decide +kernel
theorem d_M_at_25 : decode b_M_at 25 = .ok (.iconst 0, 1) := by decide +kernel
theorem d_M_at_26 : decode b_M_at 26 = .ok (.invokevirtual 68, 3) := by decide +kernel
theorem d_M_at_29 : decode b_M_at 29 = .ok (.ifCond .eq 5, 3) := by decide +kernel
theorem d_M_at_32 : decode b_M_at 32 = .ok (.iconst 0, 1) := by decide +kernel
theorem d_M_at_33 : decode b_M_at 33 = .ok (.ireturn, 1) := by decide +kernel
theorem d_M_at_34 : decode b_M_at 34 = .ok (.iload_n 2, 1) := by decide +kernel
theorem d_M_at_35 : decode b_M_at 35 = .ok (.iconst 3, 1) := by decide +kernel
theorem d_M_at_36 : decode b_M_at 36 = .ok (.if_icmp .ge 14, 3) := by decide +kernel
theorem d_M_at_39 : decode b_M_at 39 = .ok (.aload_n 0, 1) := by decide +kernel
theorem d_M_at_40 : decode b_M_at 40 = .ok (.getfield 22, 3) := by decide +kernel
theorem d_M_at_43 : decode b_M_at 43 = .ok (.iconst 3, 1) := by decide +kernel
theorem d_M_at_44 : decode b_M_at 44 = .ok (.iload_n 1, 1) := by decide +kernel
theorem d_M_at_45 : decode b_M_at 45 = .ok (.imul, 1) := by decide +kernel
theorem d_M_at_46 : decode b_M_at 46 = .ok (.iload_n 2, 1) := by decide +kernel
theorem d_M_at_47 : decode b_M_at 47 = .ok (.iadd, 1) := by decide +kernel
theorem d_M_at_48 : decode b_M_at 48 = .ok (.iaload, 1) := by decide +kernel
theorem d_M_at_49 : decode b_M_at 49 = .ok (.ireturn, 1) := by decide +kernel
theorem d_M_at_50 : decode b_M_at 50 = .ok (.iload_n 2, 1) := by decide +kernel
theorem d_M_at_51 : decode b_M_at 51 = .ok (.iconst 3, 1) := by decide +kernel
theorem d_M_at_52 : decode b_M_at 52 = .ok (.if_icmp .ne 37, 3) := by decide +kernel
theorem d_M_at_55 : decode b_M_at 55 = .ok (.aload_n 0, 1) := by decide +kernel
theorem d_M_at_56 : decode b_M_at 56 = .ok (.iload_n 1, 1) := by decide +kernel
theorem d_M_at_57 : decode b_M_at 57 = .ok (.aload_n 0, 1) := by decide +kernel
theorem d_M_at_58 : decode b_M_at 58 = .ok (.getfield 22, 3) := by decide +kernel
theorem d_M_at_61 : decode b_M_at 61 = .ok (.iconst 3, 1) := by decide +kernel
theorem d_M_at_62 : decode b_M_at 62 = .ok (.iload_n 1, 1) := by decide +kernel
theorem d_M_at_63 : decode b_M_at 63 = .ok (.imul, 1) := by decide +kernel
theorem d_M_at_64 : decode b_M_at 64 = .ok (.iaload, 1) := by decide +kernel
theorem d_M_at_65 : decode b_M_at 65 = .ok (.aload_n 0, 1) := by decide +kernel
theorem d_M_at_66 : decode b_M_at 66 = .ok (.getfield 22, 3) := by decide +kernel
theorem d_M_at_69 : decode b_M_at 69 = .ok (.iconst 3, 1) := by decide +kernel
theorem d_M_at_70 : decode b_M_at 70 = .ok (.iload_n 1, 1) := by decide +kernel
theorem d_M_at_71 : decode b_M_at 71 = .ok (.imul, 1) := by decide +kernel
theorem d_M_at_72 : decode b_M_at 72 = .ok (.iconst 1, 1) := by decide +kernel
theorem d_M_at_73 : decode b_M_at 73 = .ok (.iadd, 1) := by decide +kernel
theorem d_M_at_74 : decode b_M_at 74 = .ok (.iaload, 1) := by decide +kernel
theorem d_M_at_75 : decode b_M_at 75 = .ok (.invokevirtual 72, 3) := by decide +kernel
theorem d_M_at_78 : decode b_M_at 78 = .ok (.ifCond .eq 7, 3) := by decide +kernel
theorem d_M_at_81 : decode b_M_at 81 = .ok (.iconst 1, 1) := by decide +kernel
theorem d_M_at_82 : decode b_M_at 82 = .ok (.goto 20, 3) := by decide +kernel
theorem d_M_at_85 : decode b_M_at 85 = .ok (.iconst 0, 1) := by decide +kernel
theorem d_M_at_86 : decode b_M_at 86 = .ok (.goto 16, 3) := by decide +kernel
theorem d_M_at_89 : decode b_M_at 89 = .ok (.aload_n 0, 1) := by decide +kernel
theorem d_M_at_90 : decode b_M_at 90 = .ok (.iload_n 1, 1) := by decide +kernel
theorem d_M_at_91 : decode b_M_at 91 = .ok (.invokevirtual 90, 3) := by decide +kernel
theorem d_M_at_94 : decode b_M_at 94 = .ok (.ifCond .eq 7, 3) := by decide +kernel
theorem d_M_at_97 : decode b_M_at 97 = .ok (.iconst 1, 1) := by decide +kernel
theorem d_M_at_98 : decode b_M_at 98 = .ok (.goto 4, 3) := by decide +kernel
theorem d_M_at_101 : decode b_M_at 101 = .ok (.iconst 0, 1) := by decide +kernel
theorem d_M_at_102 : decode b_M_at 102 = .ok (.ireturn, 1) := by decide +kernel
theorem d_M_cost_0 : decode b_M_cost 0 = .ok (.aload_n 0, 1) := by decide +kernel
theorem d_M_cost_1 : decode b_M_cost 1 = .ok (.iconst 0, 1) := by decide +kernel
theorem d_M_cost_2 : decode b_M_cost 2 = .ok (.putfield 38, 3) := by decide +kernel
theorem d_M_cost_5 : decode b_M_cost 5 = .ok (.iconst 0, 1) := by decide +kernel
theorem d_M_cost_6 : decode b_M_cost 6 = .ok (.istore_n 1, 1) := by decide +kernel
theorem d_M_cost_7 : decode b_M_cost 7 = .ok (.iconst 0, 1) := by decide +kernel
theorem d_M_cost_8 : decode b_M_cost 8 = .ok (.istore_n 2, 1) := by decide +kernel
theorem d_M_cost_9 : decode b_M_cost 9 = .ok (.iload_n 2, 1) := by decide +kernel
theorem d_M_cost_10 : decode b_M_cost 10 = .ok (.aload_n 0, 1) := by decide +kernel
theorem d_M_cost_11 : decode b_M_cost 11 = .ok (.getfield 42, 3) := by decide +kernel
theorem d_M_cost_14 : decode b_M_cost 14 = .ok (.if_icmp .ge 18, 3) := by decide +kernel
theorem d_M_cost_17 : decode b_M_cost 17 = .ok (.iload_n 1, 1) := by decide +kernel
theorem d_M_cost_18 : decode b_M_cost 18 = .ok (.aload_n 0, 1) := by decide +kernel
theorem d_M_cost_19 : decode b_M_cost 19 = .ok (.iconst 0, 1) := by decide +kernel
theorem d_M_cost_20 : decode b_M_cost 20 = .ok (.iload_n 2, 1) := by decide +kernel
theorem d_M_cost_21 : decode b_M_cost 21 = .ok (.invokevirtual 96, 3) := by decide +kernel
theorem d_M_cost_24 : decode b_M_cost 24 = .ok (.iadd, 1) := by decide +kernel
theorem d_M_cost_25 : decode b_M_cost 25 = .ok (.istore_n 1, 1) := by decide +kernel
theorem d_M_cost_26 : decode b_M_cost 26 = .ok (.iinc 2 1, 3) := by decide +kernel
theorem d_M_cost_29 : decode b_M_cost 29 = .ok (.goto (-20), 3) := by decide +kernel
theorem d_M_cost_32 : decode b_M_cost 32 = .ok (.iload_n 1, 1) := by decide +kernel
theorem d_M_cost_33 : decode b_M_cost 33 = .ok (.ireturn, 1) := by decide +kernel
theorem d_M_on_0 : decode b_M_on 0 = .ok (.aload_n 0, 1) := by decide +kernel
theorem d_M_on_1 : decode b_M_on 1 = .ok (.iload_n 1, 1) := by decide +kernel
theorem d_M_on_2 : decode b_M_on 2 = .ok (.iconst 0, 1) := by decide +kernel
theorem d_M_on_3 : decode b_M_on 3 = .ok (.iconst 2, 1) := by decide +kernel
theorem d_M_on_4 : decode b_M_on 4 = .ok (.invokestatic 45, 3) := by decide +kernel
theorem d_M_on_7 : decode b_M_on 7 = .ok (.ifCond .ne 7, 3) := by decide +kernel
theorem d_M_on_10 : decode b_M_on 10 = .ok (.iconst 1, 1) := by decide +kernel
theorem d_M_on_11 : decode b_M_on 11 = .ok (.goto 4, 3) := by decide +kernel
theorem d_M_on_14 : decode b_M_on 14 = .ok (.iconst 0, 1) := by decide +kernel
theorem d_M_on_15 : decode b_M_on 15 = .ok (.iload_n 2, 1) := by decide +kernel
theorem d_M_on_16 : decode b_M_on 16 = .ok (.iconst 0, 1) := by decide +kernel
theorem d_M_on_17 : decode b_M_on 17 = .ok (.bipush 59, 2) := by decide +kernel
theorem d_M_on_19 : decode b_M_on 19 = .ok (.invokestatic 45, 3) := by decide +kernel
theorem d_M_on_22 : decode b_M_on 22 = .ok (.ifCond .ne 7, 3) := by decide +kernel
theorem d_M_on_25 : decode b_M_on 25 = .ok (.iconst 1, 1) := by decide +kernel
theorem d_M_on_26 : decode b_M_on 26 = .ok (.goto 4, 3) := by decide +kernel
theorem d_M_on_29 : decode b_M_on 29 = .ok (.iconst 0, 1) := by decide +kernel
theorem d_M_on_30 : decode b_M_on 30 = .ok (.iconst 0, 1) := by decide +kernel
theorem d_M_on_31 : decode b_M_on 31 = .ok (.iconst 0, 1) := by decide +kernel
theorem d_M_on_32 : decode b_M_on 32 = .ok (.invokevirtual 68, 3) := by decide +kernel
theorem d_M_on_35 : decode b_M_on 35 = .ok (.ifCond .eq 5, 3) := by decide +kernel
theorem d_M_on_38 : decode b_M_on 38 = .ok (.iconst 0, 1) := by decide +kernel
theorem d_M_on_39 : decode b_M_on 39 = .ok (.ireturn, 1) := by decide +kernel
theorem d_M_on_40 : decode b_M_on 40 = .ok (.iconst (-1), 1) := by decide +kernel
theorem d_M_on_41 : decode b_M_on 41 = .ok (.istore_n 3, 1) := by decide +kernel
theorem d_M_on_42 : decode b_M_on 42 = .ok (.aload_n 0, 1) := by decide +kernel
theorem d_M_on_43 : decode b_M_on 43 = .ok (.getfield 42, 3) := by decide +kernel
theorem d_M_on_46 : decode b_M_on 46 = .ok (.iconst 1, 1) := by decide +kernel
theorem d_M_on_47 : decode b_M_on 47 = .ok (.isub, 1) := by decide +kernel
theorem d_M_on_48 : decode b_M_on 48 = .ok (.istore 4, 2) := by decide +kernel
theorem d_M_on_50 : decode b_M_on 50 = .ok (.iload 4, 2) := by decide +kernel
theorem d_M_on_52 : decode b_M_on 52 = .ok (.ifCond .lt 63, 3) := by decide +kernel
theorem d_M_on_55 : decode b_M_on 55 = .ok (.aload_n 0, 1) := by decide +kernel
theorem d_M_on_56 : decode b_M_on 56 = .ok (.getfield 22, 3) := by decide +kernel
theorem d_M_on_59 : decode b_M_on 59 = .ok (.iconst 3, 1) := by decide +kernel
theorem d_M_on_60 : decode b_M_on 60 = .ok (.iload 4, 2) := by decide +kernel
theorem d_M_on_62 : decode b_M_on 62 = .ok (.imul, 1) := by decide +kernel
theorem d_M_on_63 : decode b_M_on 63 = .ok (.iconst 1, 1) := by decide +kernel
theorem d_M_on_64 : decode b_M_on 64 = .ok (.iadd, 1) := by decide +kernel
theorem d_M_on_65 : decode b_M_on 65 = .ok (.iaload, 1) := by decide +kernel
theorem d_M_on_66 : decode b_M_on 66 = .ok (.istore 5, 2) := by decide +kernel
theorem d_M_on_68 : decode b_M_on 68 = .ok (.aload_n 0, 1) := by decide +kernel
theorem d_M_on_69 : decode b_M_on 69 = .ok (.getfield 22, 3) := by decide +kernel
theorem d_M_on_72 : decode b_M_on 72 = .ok (.iconst 3, 1) := by decide +kernel
theorem d_M_on_73 : decode b_M_on 73 = .ok (.iload 4, 2) := by decide +kernel
theorem d_M_on_75 : decode b_M_on 75 = .ok (.imul, 1) := by decide +kernel
theorem d_M_on_76 : decode b_M_on 76 = .ok (.iaload, 1) := by decide +kernel
theorem d_M_on_77 : decode b_M_on 77 = .ok (.iload_n 1, 1) := by decide +kernel
theorem d_M_on_78 : decode b_M_on 78 = .ok (.if_icmp .ne 29, 3) := by decide +kernel
theorem d_M_on_81 : decode b_M_on 81 = .ok (.iload_n 2, 1) := by decide +kernel
theorem d_M_on_82 : decode b_M_on 82 = .ok (.iload 5, 2) := by decide +kernel
theorem d_M_on_84 : decode b_M_on 84 = .ok (.iload 5, 2) := by decide +kernel
theorem d_M_on_86 : decode b_M_on 86 = .ok (.aload_n 0, 1) := by decide +kernel
theorem d_M_on_87 : decode b_M_on 87 = .ok (.getfield 16, 3) := by decide +kernel
theorem d_M_on_90 : decode b_M_on 90 = .ok (.iload 4, 2) := by decide +kernel
theorem d_M_on_92 : decode b_M_on 92 = .ok (.iaload, 1) := by decide +kernel
theorem d_M_on_93 : decode b_M_on 93 = .ok (.iadd, 1) := by decide +kernel
theorem d_M_on_94 : decode b_M_on 94 = .ok (.iconst 1, 1) := by decide +kernel
theorem d_M_on_95 : decode b_M_on 95 = .ok (.isub, 1) := by decide +kernel
theorem d_M_on_96 : decode b_M_on 96 = .ok (.invokestatic 45, 3) := by decide +kernel
theorem d_M_on_99 : decode b_M_on 99 = .ok (.ifCond .eq 8, 3) := by decide +kernel
theorem d_M_on_102 : decode b_M_on 102 = .ok (.iload 4, 2) := by decide +kernel
theorem d_M_on_104 : decode b_M_on 104 = .ok (.goto 4, 3) := by decide +kernel
theorem d_M_on_107 : decode b_M_on 107 = .ok (.iload_n 3, 1) := by decide +kernel
theorem d_M_on_108 : decode b_M_on 108 = .ok (.istore_n 3, 1) := by decide +kernel
theorem d_M_on_109 : decode b_M_on 109 = .ok (.iinc 4 (-1), 3) := by decide +kernel
theorem d_M_on_112 : decode b_M_on 112 = .ok (.goto (-62), 3) := by decide +kernel
theorem d_M_on_115 : decode b_M_on 115 = .ok (.iload_n 3, 1) := by decide +kernel
theorem d_M_on_116 : decode b_M_on 116 = .ok (.ireturn, 1) := by decide +kernel
theorem d_M_keep_0 : decode b_M_keep 0 = .ok (.aload_n 0, 1) := by decide +kernel
theorem d_M_keep_1 : decode b_M_keep 1 = .ok (.iload_n 1, 1) := by decide +kernel
theorem d_M_keep_2 : decode b_M_keep 2 = .ok (.iconst 0, 1) := by decide +kernel
theorem d_M_keep_3 : decode b_M_keep 3 = .ok (.iconst 3, 1) := by decide +kernel
theorem d_M_keep_4 : decode b_M_keep 4 = .ok (.invokestatic 45, 3) := by decide +kernel
theorem d_M_keep_7 : decode b_M_keep 7 = .ok (.ifCond .ne 7, 3) := by decide +kernel
theorem d_M_keep_10 : decode b_M_keep 10 = .ok (.iconst 1, 1) := by decide +kernel
theorem d_M_keep_11 : decode b_M_keep 11 = .ok (.goto 4, 3) := by decide +kernel
theorem d_M_keep_14 : decode b_M_keep 14 = .ok (.iconst 0, 1) := by decide +kernel
theorem d_M_keep_15 : decode b_M_keep 15 = .ok (.iconst 0, 1) := by decide +kernel
theorem d_M_keep_16 : decode b_M_keep 16 = .ok (.iconst 0, 1) := by decide +kernel
theorem d_M_keep_17 : decode b_M_keep 17 = .ok (.iconst 0, 1) := by decide +kernel
theorem d_M_keep_18 : decode b_M_keep 18 = .ok (.invokevirtual 68, 3) := by decide +kernel
theorem d_M_keep_21 : decode b_M_keep 21 = .ok (.ifCond .eq 4, 3) := by decide +kernel
theorem d_M_keep_24 : decode b_M_keep 24 = .ok (.return_, 1) := by decide +kernel
theorem d_M_keep_25 : decode b_M_keep 25 = .ok (.aload_n 0, 1) := by decide +kernel
theorem d_M_keep_26 : decode b_M_keep 26 = .ok (.iconst 0, 1) := by decide +kernel
theorem d_M_keep_27 : decode b_M_keep 27 = .ok (.bipush 72, 2) := by decide +kernel
theorem d_M_keep_29 : decode b_M_keep 29 = .ok (.bipush 18, 2) := by decide +kernel
theorem d_M_keep_31 : decode b_M_keep 31 = .ok (.iload_n 1, 1) := by decide +kernel
theorem d_M_keep_32 : decode b_M_keep 32 = .ok (.imul, 1) := by decide +kernel
theorem d_M_keep_33 : decode b_M_keep 33 = .ok (.iadd, 1) := by decide +kernel
theorem d_M_keep_34 : decode b_M_keep 34 = .ok (.invokevirtual 82, 3) := by decide +kernel
theorem d_M_keep_37 : decode b_M_keep 37 = .ok (.aload_n 0, 1) := by decide +kernel
theorem d_M_keep_38 : decode b_M_keep 38 = .ok (.dup, 1) := by decide +kernel
theorem d_M_keep_39 : decode b_M_keep 39 = .ok (.getfield 79, 3) := by decide +kernel
theorem d_M_keep_42 : decode b_M_keep 42 = .ok (.iconst 1, 1) := by decide +kernel
theorem d_M_keep_43 : decode b_M_keep 43 = .ok (.iload_n 1, 1) := by decide +kernel
theorem d_M_keep_44 : decode b_M_keep 44 = .ok (.ishl, 1) := by decide +kernel
theorem d_M_keep_45 : decode b_M_keep 45 = .ok (.ior, 1) := by decide +kernel
theorem d_M_keep_46 : decode b_M_keep 46 = .ok (.putfield 79, 3) := by decide +kernel
theorem d_M_keep_49 : decode b_M_keep 49 = .ok (.return_, 1) := by decide +kernel
theorem d_M_isKept_0 : decode b_M_isKept 0 = .ok (.iload_n 1, 1) := by decide +kernel
theorem d_M_isKept_1 : decode b_M_isKept 1 = .ok (.iconst 0, 1) := by decide +kernel
theorem d_M_isKept_2 : decode b_M_isKept 2 = .ok (.iconst 3, 1) := by decide +kernel
theorem d_M_isKept_3 : decode b_M_isKept 3 = .ok (.invokestatic 45, 3) := by decide +kernel
theorem d_M_isKept_6 : decode b_M_isKept 6 = .ok (.ifCond .eq 19, 3) := by decide +kernel
theorem d_M_isKept_9 : decode b_M_isKept 9 = .ok (.aload_n 0, 1) := by decide +kernel
theorem d_M_isKept_10 : decode b_M_isKept 10 = .ok (.getfield 79, 3) := by decide +kernel
theorem d_M_isKept_13 : decode b_M_isKept 13 = .ok (.iload_n 1, 1) := by decide +kernel
theorem d_M_isKept_14 : decode b_M_isKept 14 = .ok (.ishr, 1) := by decide +kernel
theorem d_M_isKept_15 : decode b_M_isKept 15 = .ok (.iconst 1, 1) := by decide +kernel
theorem d_M_isKept_16 : decode b_M_isKept 16 = .ok (.iand, 1) := by decide +kernel
theorem d_M_isKept_17 : decode b_M_isKept 17 = .ok (.iconst 1, 1) := by decide +kernel
theorem d_M_isKept_18 : decode b_M_isKept 18 = .ok (.if_icmp .ne 7, 3) := by decide +kernel
theorem d_M_isKept_21 : decode b_M_isKept 21 = .ok (.iconst 1, 1) := by decide +kernel
theorem d_M_isKept_22 : decode b_M_isKept 22 = .ok (.goto 4, 3) := by decide +kernel
theorem d_M_isKept_25 : decode b_M_isKept 25 = .ok (.iconst 0, 1) := by decide +kernel
theorem d_M_isKept_26 : decode b_M_isKept 26 = .ok (.ireturn, 1) := by decide +kernel
theorem d_M_compare_0 : decode b_M_compare 0 = .ok (.aload_n 0, 1) := by decide +kernel
theorem d_M_compare_1 : decode b_M_compare 1 = .ok (.iload_n 1, 1) := by decide +kernel
theorem d_M_compare_2 : decode b_M_compare 2 = .ok (.iconst 0, 1) := by decide +kernel
theorem d_M_compare_3 : decode b_M_compare 3 = .ok (.iconst 3, 1) := by decide +kernel
theorem d_M_compare_4 : decode b_M_compare 4 = .ok (.invokestatic 45, 3) := by decide +kernel
theorem d_M_compare_7 : decode b_M_compare 7 = .ok (.ifCond .ne 7, 3) := by decide +kernel
theorem d_M_compare_10 : decode b_M_compare 10 = .ok (.iconst 1, 1) := by decide +kernel
theorem d_M_compare_11 : decode b_M_compare 11 = .ok (.goto 4, 3) := by decide +kernel
theorem d_M_compare_14 : decode b_M_compare 14 = .ok (.iconst 0, 1) := by decide +kernel
theorem d_M_compare_15 : decode b_M_compare 15 = .ok (.aload_n 0, 1) := by decide +kernel
theorem d_M_compare_16 : decode b_M_compare 16 = .ok (.iload_n 1, 1) := by decide +kernel
theorem d_M_compare_17 : decode b_M_compare 17 = .ok (.invokevirtual 147, 3) := by decide +kernel
theorem d_M_compare_20 : decode b_M_compare 20 = .ok (.ifCond .ne 7, 3) := by decide +kernel
theorem d_M_compare_23 : decode b_M_compare 23 = .ok (.iconst 1, 1) := by decide +kernel
theorem d_M_compare_24 : decode b_M_compare 24 = .ok (.goto 4, 3) := by decide +kernel
theorem d_M_compare_27 : decode b_M_compare 27 = .ok (.iconst 0, 1) := by decide +kernel
theorem d_M_compare_28 : decode b_M_compare 28 = .ok (.iconst 0, 1) := by decide +kernel
theorem d_M_compare_29 : decode b_M_compare 29 = .ok (.iconst 0, 1) := by decide +kernel
theorem d_M_compare_30 : decode b_M_compare 30 = .ok (.invokevirtual 68, 3) := by decide +kernel
theorem d_M_compare_33 : decode b_M_compare 33 = .ok (.ifCond .eq 5, 3) := by decide +kernel
theorem d_M_compare_36 : decode b_M_compare 36 = .ok (.iconst 0, 1) := by decide +kernel
theorem d_M_compare_37 : decode b_M_compare 37 = .ok (.ireturn, 1) := by decide +kernel
theorem d_M_compare_38 : decode b_M_compare 38 = .ok (.iconst 0, 1) := by decide +kernel
theorem d_M_compare_39 : decode b_M_compare 39 = .ok (.istore_n 2, 1) := by decide +kernel
theorem d_M_compare_40 : decode b_M_compare 40 = .ok (.iconst 0, 1) := by decide +kernel
theorem d_M_compare_41 : decode b_M_compare 41 = .ok (.istore_n 3, 1) := by decide +kernel
theorem d_M_compare_42 : decode b_M_compare 42 = .ok (.iload_n 3, 1) := by decide +kernel
theorem d_M_compare_43 : decode b_M_compare 43 = .ok (.aload_n 0, 1) := by decide +kernel
theorem d_M_compare_44 : decode b_M_compare 44 = .ok (.getfield 42, 3) := by decide +kernel
theorem d_M_compare_47 : decode b_M_compare 47 = .ok (.if_icmp .ge 85, 3) := by decide +kernel
theorem d_M_compare_50 : decode b_M_compare 50 = .ok (.iconst 1, 1) := by decide +kernel
theorem d_M_compare_51 : decode b_M_compare 51 = .ok (.istore 4, 2) := by decide +kernel
theorem d_M_compare_53 : decode b_M_compare 53 = .ok (.iconst 0, 1) := by decide +kernel
theorem d_M_compare_54 : decode b_M_compare 54 = .ok (.istore 5, 2) := by decide +kernel
theorem d_M_compare_56 : decode b_M_compare 56 = .ok (.iload 5, 2) := by decide +kernel
theorem d_M_compare_58 : decode b_M_compare 58 = .ok (.iconst 3, 1) := by decide +kernel
theorem d_M_compare_59 : decode b_M_compare 59 = .ok (.if_icmp .ge 54, 3) := by decide +kernel
theorem d_M_compare_62 : decode b_M_compare 62 = .ok (.iload 4, 2) := by decide +kernel
theorem d_M_compare_64 : decode b_M_compare 64 = .ok (.ifCond .eq 40, 3) := by decide +kernel
theorem d_M_compare_67 : decode b_M_compare 67 = .ok (.aload_n 0, 1) := by decide +kernel
theorem d_M_compare_68 : decode b_M_compare 68 = .ok (.getfield 22, 3) := by decide +kernel
theorem d_M_compare_71 : decode b_M_compare 71 = .ok (.iconst 3, 1) := by decide +kernel
theorem d_M_compare_72 : decode b_M_compare 72 = .ok (.iload_n 3, 1) := by decide +kernel
theorem d_M_compare_73 : decode b_M_compare 73 = .ok (.imul, 1) := by decide +kernel
theorem d_M_compare_74 : decode b_M_compare 74 = .ok (.iload 5, 2) := by decide +kernel
theorem d_M_compare_76 : decode b_M_compare 76 = .ok (.iadd, 1) := by decide +kernel
theorem d_M_compare_77 : decode b_M_compare 77 = .ok (.iaload, 1) := by decide +kernel
theorem d_M_compare_78 : decode b_M_compare 78 = .ok (.aload_n 0, 1) := by decide +kernel
theorem d_M_compare_79 : decode b_M_compare 79 = .ok (.getfield 22, 3) := by decide +kernel
theorem d_M_compare_82 : decode b_M_compare 82 = .ok (.bipush 72, 2) := by decide +kernel
theorem d_M_compare_84 : decode b_M_compare 84 = .ok (.bipush 18, 2) := by decide +kernel
theorem d_M_compare_86 : decode b_M_compare 86 = .ok (.iload_n 1, 1) := by decide +kernel
theorem d_M_compare_87 : decode b_M_compare 87 = .ok (.imul, 1) := by decide +kernel
theorem d_M_compare_88 : decode b_M_compare 88 = .ok (.iadd, 1) := by decide +kernel
theorem d_M_compare_89 : decode b_M_compare 89 = .ok (.iconst 3, 1) := by decide +kernel
theorem d_M_compare_90 : decode b_M_compare 90 = .ok (.iload_n 3, 1) := by decide +kernel
theorem d_M_compare_91 : decode b_M_compare 91 = .ok (.imul, 1) := by decide +kernel
theorem d_M_compare_92 : decode b_M_compare 92 = .ok (.iadd, 1) := by decide +kernel
theorem d_M_compare_93 : decode b_M_compare 93 = .ok (.iload 5, 2) := by decide +kernel
theorem d_M_compare_95 : decode b_M_compare 95 = .ok (.iadd, 1) := by decide +kernel
theorem d_M_compare_96 : decode b_M_compare 96 = .ok (.iaload, 1) := by decide +kernel
theorem d_M_compare_97 : decode b_M_compare 97 = .ok (.if_icmp .ne 7, 3) := by decide +kernel
theorem d_M_compare_100 : decode b_M_compare 100 = .ok (.iconst 1, 1) := by decide +kernel
theorem d_M_compare_101 : decode b_M_compare 101 = .ok (.goto 4, 3) := by decide +kernel
theorem d_M_compare_104 : decode b_M_compare 104 = .ok (.iconst 0, 1) := by decide +kernel
theorem d_M_compare_105 : decode b_M_compare 105 = .ok (.istore 4, 2) := by decide +kernel
theorem d_M_compare_107 : decode b_M_compare 107 = .ok (.iinc 5 1, 3) := by decide +kernel
theorem d_M_compare_110 : decode b_M_compare 110 = .ok (.goto (-54), 3) := by decide +kernel
theorem d_M_compare_113 : decode b_M_compare 113 = .ok (.iload_n 2, 1) := by decide +kernel
theorem d_M_compare_114 : decode b_M_compare 114 = .ok (.iload 4, 2) := by decide +kernel
theorem d_M_compare_116 : decode b_M_compare 116 = .ok (.ifCond .eq 7, 3) := by decide +kernel
theorem d_M_compare_119 : decode b_M_compare 119 = .ok (.iconst 0, 1) := by decide +kernel
theorem d_M_compare_120 : decode b_M_compare 120 = .ok (.goto 4, 3) := by decide +kernel
theorem d_M_compare_123 : decode b_M_compare 123 = .ok (.iconst 1, 1) := by decide +kernel
theorem d_M_compare_124 : decode b_M_compare 124 = .ok (.iadd, 1) := by decide +kernel
theorem d_M_compare_125 : decode b_M_compare 125 = .ok (.istore_n 2, 1) := by decide +kernel
theorem d_M_compare_126 : decode b_M_compare 126 = .ok (.iinc 3 1, 3) := by decide +kernel
theorem d_M_compare_129 : decode b_M_compare 129 = .ok (.goto (-87), 3) := by decide +kernel
theorem d_M_compare_132 : decode b_M_compare 132 = .ok (.iload_n 2, 1) := by decide +kernel
theorem d_M_compare_133 : decode b_M_compare 133 = .ok (.ireturn, 1) := by decide +kernel
theorem d_M_use_0 : decode b_M_use 0 = .ok (.aload_n 0, 1) := by decide +kernel
theorem d_M_use_1 : decode b_M_use 1 = .ok (.iload_n 1, 1) := by decide +kernel
theorem d_M_use_2 : decode b_M_use 2 = .ok (.iconst 0, 1) := by decide +kernel
theorem d_M_use_3 : decode b_M_use 3 = .ok (.iconst 3, 1) := by decide +kernel
theorem d_M_use_4 : decode b_M_use 4 = .ok (.invokestatic 45, 3) := by decide +kernel
theorem d_M_use_7 : decode b_M_use 7 = .ok (.ifCond .ne 7, 3) := by decide +kernel
theorem d_M_use_10 : decode b_M_use 10 = .ok (.iconst 1, 1) := by decide +kernel
theorem d_M_use_11 : decode b_M_use 11 = .ok (.goto 4, 3) := by decide +kernel
theorem d_M_use_14 : decode b_M_use 14 = .ok (.iconst 0, 1) := by decide +kernel
theorem d_M_use_15 : decode b_M_use 15 = .ok (.aload_n 0, 1) := by decide +kernel
theorem d_M_use_16 : decode b_M_use 16 = .ok (.iload_n 1, 1) := by decide +kernel
theorem d_M_use_17 : decode b_M_use 17 = .ok (.invokevirtual 147, 3) := by decide +kernel
theorem d_M_use_20 : decode b_M_use 20 = .ok (.ifCond .ne 7, 3) := by decide +kernel
theorem d_M_use_23 : decode b_M_use 23 = .ok (.iconst 1, 1) := by decide +kernel
theorem d_M_use_24 : decode b_M_use 24 = .ok (.goto 4, 3) := by decide +kernel
theorem d_M_use_27 : decode b_M_use 27 = .ok (.iconst 0, 1) := by decide +kernel
theorem d_M_use_28 : decode b_M_use 28 = .ok (.iconst 0, 1) := by decide +kernel
theorem d_M_use_29 : decode b_M_use 29 = .ok (.iconst 0, 1) := by decide +kernel
theorem d_M_use_30 : decode b_M_use 30 = .ok (.invokevirtual 68, 3) := by decide +kernel
theorem d_M_use_33 : decode b_M_use 33 = .ok (.ifCond .eq 4, 3) := by decide +kernel
theorem d_M_use_36 : decode b_M_use 36 = .ok (.return_, 1) := by decide +kernel
theorem d_M_use_37 : decode b_M_use 37 = .ok (.aload_n 0, 1) := by decide +kernel
theorem d_M_use_38 : decode b_M_use 38 = .ok (.invokevirtual 93, 3) := by decide +kernel
theorem d_M_use_41 : decode b_M_use 41 = .ok (.aload_n 0, 1) := by decide +kernel
theorem d_M_use_42 : decode b_M_use 42 = .ok (.bipush 72, 2) := by decide +kernel
theorem d_M_use_44 : decode b_M_use 44 = .ok (.bipush 18, 2) := by decide +kernel
theorem d_M_use_46 : decode b_M_use 46 = .ok (.iload_n 1, 1) := by decide +kernel
theorem d_M_use_47 : decode b_M_use 47 = .ok (.imul, 1) := by decide +kernel
theorem d_M_use_48 : decode b_M_use 48 = .ok (.iadd, 1) := by decide +kernel
theorem d_M_use_49 : decode b_M_use 49 = .ok (.iconst 0, 1) := by decide +kernel
theorem d_M_use_50 : decode b_M_use 50 = .ok (.invokevirtual 82, 3) := by decide +kernel
theorem d_M_use_53 : decode b_M_use 53 = .ok (.return_, 1) := by decide +kernel
theorem d_M_undo_0 : decode b_M_undo 0 = .ok (.aload_n 0, 1) := by decide +kernel
theorem d_M_undo_1 : decode b_M_undo 1 = .ok (.aload_n 0, 1) := by decide +kernel
theorem d_M_undo_2 : decode b_M_undo 2 = .ok (.getfield 75, 3) := by decide +kernel
theorem d_M_undo_5 : decode b_M_undo 5 = .ok (.ifCond .ne 7, 3) := by decide +kernel
theorem d_M_undo_8 : decode b_M_undo 8 = .ok (.iconst 1, 1) := by decide +kernel
theorem d_M_undo_9 : decode b_M_undo 9 = .ok (.goto 4, 3) := by decide +kernel
theorem d_M_undo_12 : decode b_M_undo 12 = .ok (.iconst 0, 1) := by decide +kernel
theorem d_M_undo_13 : decode b_M_undo 13 = .ok (.iconst 0, 1) := by decide +kernel
theorem d_M_undo_14 : decode b_M_undo 14 = .ok (.iconst 0, 1) := by decide +kernel
theorem d_M_undo_15 : decode b_M_undo 15 = .ok (.iconst 0, 1) := by decide +kernel
theorem d_M_undo_16 : decode b_M_undo 16 = .ok (.invokevirtual 68, 3) := by decide +kernel
theorem d_M_undo_19 : decode b_M_undo 19 = .ok (.ifCond .eq 4, 3) := by decide +kernel
theorem d_M_undo_22 : decode b_M_undo 22 = .ok (.return_, 1) := by decide +kernel
theorem d_M_undo_23 : decode b_M_undo 23 = .ok (.aload_n 0, 1) := by decide +kernel
theorem d_M_undo_24 : decode b_M_undo 24 = .ok (.bipush 54, 2) := by decide +kernel
theorem d_M_undo_26 : decode b_M_undo 26 = .ok (.iconst 0, 1) := by decide +kernel
theorem d_M_undo_27 : decode b_M_undo 27 = .ok (.invokevirtual 82, 3) := by decide +kernel
theorem d_M_undo_30 : decode b_M_undo 30 = .ok (.aload_n 0, 1) := by decide +kernel
theorem d_M_undo_31 : decode b_M_undo 31 = .ok (.iconst 0, 1) := by decide +kernel
theorem d_M_undo_32 : decode b_M_undo 32 = .ok (.putfield 75, 3) := by decide +kernel
theorem d_M_undo_35 : decode b_M_undo 35 = .ok (.return_, 1) := by decide +kernel
end
section
theorem d_L_order_0 : decode b_L_order 0 = .ok (.aload_n 3, 1) := by decide +kernel
theorem d_L_order_1 : decode b_L_order 1 = .ok (.iconst 0, 1) := by decide +kernel
theorem d_L_order_2 : decode b_L_order 2 = .ok (.aload_n 0, 1) := by decide +kernel
theorem d_L_order_3 : decode b_L_order 3 = .ok (.iload_n 1, 1) := by decide +kernel
theorem d_L_order_4 : decode b_L_order 4 = .ok (.iload_n 2, 1) := by decide +kernel
theorem d_L_order_5 : decode b_L_order 5 = .ok (.invokevirtual 7, 3) := by decide +kernel
theorem d_L_order_8 : decode b_L_order 8 = .ok (.i2l, 1) := by decide +kernel
theorem d_L_order_9 : decode b_L_order 9 = .ok (.lastore, 1) := by decide +kernel
theorem d_L_order_10 : decode b_L_order 10 = .ok (.goto 11, 3) := by decide +kernel
theorem d_L_order_13 : decode b_L_order 13 = .ok (.astore 4, 2) := by decide +kernel
theorem d_L_order_15 : decode b_L_order 15 = .ok (.iconst 1, 1) := by decide +kernel
theorem d_L_order_16 : decode b_L_order 16 = .ok (.ireturn, 1) := by decide +kernel
theorem d_L_order_17 : decode b_L_order 17 = .ok (.astore 4, 2) := by decide +kernel
theorem d_L_order_19 : decode b_L_order 19 = .ok (.iconst 2, 1) := by decide +kernel
theorem d_L_order_20 : decode b_L_order 20 = .ok (.ireturn, 1) := by decide +kernel
theorem d_L_order_21 : decode b_L_order 21 = .ok (.iconst 0, 1) := by decide +kernel
theorem d_L_order_22 : decode b_L_order 22 = .ok (.ireturn, 1) := by decide +kernel
theorem d_L_heat_0 : decode b_L_heat 0 = .ok (.aload 6, 2) := by decide +kernel
theorem d_L_heat_2 : decode b_L_heat 2 = .ok (.iconst 0, 1) := by decide +kernel
theorem d_L_heat_3 : decode b_L_heat 3 = .ok (.aload_n 0, 1) := by decide +kernel
theorem d_L_heat_4 : decode b_L_heat 4 = .ok (.iload_n 1, 1) := by decide +kernel
theorem d_L_heat_5 : decode b_L_heat 5 = .ok (.iload_n 2, 1) := by decide +kernel
theorem d_L_heat_6 : decode b_L_heat 6 = .ok (.iload_n 3, 1) := by decide +kernel
theorem d_L_heat_7 : decode b_L_heat 7 = .ok (.iload 4, 2) := by decide +kernel
theorem d_L_heat_9 : decode b_L_heat 9 = .ok (.iload 5, 2) := by decide +kernel
theorem d_L_heat_11 : decode b_L_heat 11 = .ok (.invokevirtual 17, 3) := by decide +kernel
theorem d_L_heat_14 : decode b_L_heat 14 = .ok (.i2l, 1) := by decide +kernel
theorem d_L_heat_15 : decode b_L_heat 15 = .ok (.lastore, 1) := by decide +kernel
theorem d_L_heat_16 : decode b_L_heat 16 = .ok (.goto 19, 3) := by decide +kernel
theorem d_L_heat_19 : decode b_L_heat 19 = .ok (.astore 7, 2) := by decide +kernel
theorem d_L_heat_21 : decode b_L_heat 21 = .ok (.iconst 1, 1) := by decide +kernel
theorem d_L_heat_22 : decode b_L_heat 22 = .ok (.ireturn, 1) := by decide +kernel
theorem d_L_heat_23 : decode b_L_heat 23 = .ok (.astore 7, 2) := by decide +kernel
theorem d_L_heat_25 : decode b_L_heat 25 = .ok (.iconst 2, 1) := by decide +kernel
theorem d_L_heat_26 : decode b_L_heat 26 = .ok (.ireturn, 1) := by decide +kernel
theorem d_L_heat_27 : decode b_L_heat 27 = .ok (.astore 7, 2) := by decide +kernel
theorem d_L_heat_29 : decode b_L_heat 29 = .ok (.iconst 3, 1) := by decide +kernel
theorem d_L_heat_30 : decode b_L_heat 30 = .ok (.ireturn, 1) := by decide +kernel
theorem d_L_heat_31 : decode b_L_heat 31 = .ok (.astore 7, 2) := by decide +kernel
theorem d_L_heat_33 : decode b_L_heat 33 = .ok (.iconst 4, 1) := by decide +kernel
theorem d_L_heat_34 : decode b_L_heat 34 = .ok (.ireturn, 1) := by decide +kernel
theorem d_L_heat_35 : decode b_L_heat 35 = .ok (.iconst 0, 1) := by decide +kernel
theorem d_L_heat_36 : decode b_L_heat 36 = .ok (.ireturn, 1) := by decide +kernel
theorem d_L_stop_0 : decode b_L_stop 0 = .ok (.aload 4, 2) := by decide +kernel
theorem d_L_stop_2 : decode b_L_stop 2 = .ok (.iconst 0, 1) := by decide +kernel
theorem d_L_stop_3 : decode b_L_stop 3 = .ok (.aload_n 0, 1) := by decide +kernel
theorem d_L_stop_4 : decode b_L_stop 4 = .ok (.iload_n 1, 1) := by decide +kernel
theorem d_L_stop_5 : decode b_L_stop 5 = .ok (.iload_n 2, 1) := by decide +kernel
theorem d_L_stop_6 : decode b_L_stop 6 = .ok (.iload_n 3, 1) := by decide +kernel
theorem d_L_stop_7 : decode b_L_stop 7 = .ok (.invokevirtual 25, 3) := by decide +kernel
theorem d_L_stop_10 : decode b_L_stop 10 = .ok (.i2l, 1) := by decide +kernel
theorem d_L_stop_11 : decode b_L_stop 11 = .ok (.lastore, 1) := by decide +kernel
theorem d_L_stop_12 : decode b_L_stop 12 = .ok (.goto 15, 3) := by decide +kernel
theorem d_L_stop_15 : decode b_L_stop 15 = .ok (.astore 5, 2) := by decide +kernel
theorem d_L_stop_17 : decode b_L_stop 17 = .ok (.iconst 1, 1) := by decide +kernel
theorem d_L_stop_18 : decode b_L_stop 18 = .ok (.ireturn, 1) := by decide +kernel
theorem d_L_stop_19 : decode b_L_stop 19 = .ok (.astore 5, 2) := by decide +kernel
theorem d_L_stop_21 : decode b_L_stop 21 = .ok (.iconst 2, 1) := by decide +kernel
theorem d_L_stop_22 : decode b_L_stop 22 = .ok (.ireturn, 1) := by decide +kernel
theorem d_L_stop_23 : decode b_L_stop 23 = .ok (.astore 5, 2) := by decide +kernel
theorem d_L_stop_25 : decode b_L_stop 25 = .ok (.iconst 3, 1) := by decide +kernel
theorem d_L_stop_26 : decode b_L_stop 26 = .ok (.ireturn, 1) := by decide +kernel
theorem d_L_stop_27 : decode b_L_stop 27 = .ok (.iconst 0, 1) := by decide +kernel
theorem d_L_stop_28 : decode b_L_stop 28 = .ok (.ireturn, 1) := by decide +kernel
theorem d_L_clock_0 : decode b_L_clock 0 = .ok (.aload_n 0, 1) := by decide +kernel
theorem d_L_clock_1 : decode b_L_clock 1 = .ok (.iload_n 1, 1) := by decide +kernel
theorem d_L_clock_2 : decode b_L_clock 2 = .ok (.iload_n 2, 1) := by decide +kernel
theorem d_L_clock_3 : decode b_L_clock 3 = .ok (.invokevirtual 29, 3) := by decide +kernel
theorem d_L_clock_6 : decode b_L_clock 6 = .ok (.goto 6, 3) := by decide +kernel
theorem d_L_clock_9 : decode b_L_clock 9 = .ok (.astore_n 3, 1) := by decide +kernel
theorem d_L_clock_10 : decode b_L_clock 10 = .ok (.iconst 1, 1) := by decide +kernel
theorem d_L_clock_11 : decode b_L_clock 11 = .ok (.ireturn, 1) := by decide +kernel
theorem d_L_clock_12 : decode b_L_clock 12 = .ok (.iconst 0, 1) := by decide +kernel
theorem d_L_clock_13 : decode b_L_clock 13 = .ok (.ireturn, 1) := by decide +kernel
theorem d_L_place_0 : decode b_L_place 0 = .ok (.aload_n 0, 1) := by decide +kernel
theorem d_L_place_1 : decode b_L_place 1 = .ok (.iload_n 1, 1) := by decide +kernel
theorem d_L_place_2 : decode b_L_place 2 = .ok (.iload_n 2, 1) := by decide +kernel
theorem d_L_place_3 : decode b_L_place 3 = .ok (.iload_n 3, 1) := by decide +kernel
theorem d_L_place_4 : decode b_L_place 4 = .ok (.invokevirtual 33, 3) := by decide +kernel
theorem d_L_place_7 : decode b_L_place 7 = .ok (.goto 19, 3) := by decide +kernel
theorem d_L_place_10 : decode b_L_place 10 = .ok (.astore 4, 2) := by decide +kernel
theorem d_L_place_12 : decode b_L_place 12 = .ok (.iconst 1, 1) := by decide +kernel
theorem d_L_place_13 : decode b_L_place 13 = .ok (.ireturn, 1) := by decide +kernel
theorem d_L_place_14 : decode b_L_place 14 = .ok (.astore 4, 2) := by decide +kernel
theorem d_L_place_16 : decode b_L_place 16 = .ok (.iconst 2, 1) := by decide +kernel
theorem d_L_place_17 : decode b_L_place 17 = .ok (.ireturn, 1) := by decide +kernel
theorem d_L_place_18 : decode b_L_place 18 = .ok (.astore 4, 2) := by decide +kernel
theorem d_L_place_20 : decode b_L_place 20 = .ok (.iconst 3, 1) := by decide +kernel
theorem d_L_place_21 : decode b_L_place 21 = .ok (.ireturn, 1) := by decide +kernel
theorem d_L_place_22 : decode b_L_place 22 = .ok (.astore 4, 2) := by decide +kernel
theorem d_L_place_24 : decode b_L_place 24 = .ok (.iconst 4, 1) := by decide +kernel
theorem d_L_place_25 : decode b_L_place 25 = .ok (.ireturn, 1) := by decide +kernel
theorem d_L_place_26 : decode b_L_place 26 = .ok (.iconst 0, 1) := by decide +kernel
theorem d_L_place_27 : decode b_L_place 27 = .ok (.ireturn, 1) := by decide +kernel
theorem d_L_divert_0 : decode b_L_divert 0 = .ok (.aload_n 0, 1) := by decide +kernel
theorem d_L_divert_1 : decode b_L_divert 1 = .ok (.iload_n 1, 1) := by decide +kernel
theorem d_L_divert_2 : decode b_L_divert 2 = .ok (.iload_n 2, 1) := by decide +kernel
theorem d_L_divert_3 : decode b_L_divert 3 = .ok (.invokevirtual 37, 3) := by decide +kernel
theorem d_L_divert_6 : decode b_L_divert 6 = .ok (.goto 9, 3) := by decide +kernel
theorem d_L_divert_9 : decode b_L_divert 9 = .ok (.astore_n 3, 1) := by decide +kernel
theorem d_L_divert_10 : decode b_L_divert 10 = .ok (.iconst 1, 1) := by decide +kernel
theorem d_L_divert_11 : decode b_L_divert 11 = .ok (.ireturn, 1) := by decide +kernel
theorem d_L_divert_12 : decode b_L_divert 12 = .ok (.astore_n 3, 1) := by decide +kernel
theorem d_L_divert_13 : decode b_L_divert 13 = .ok (.iconst 2, 1) := by decide +kernel
theorem d_L_divert_14 : decode b_L_divert 14 = .ok (.ireturn, 1) := by decide +kernel
theorem d_L_divert_15 : decode b_L_divert 15 = .ok (.iconst 0, 1) := by decide +kernel
theorem d_L_divert_16 : decode b_L_divert 16 = .ok (.ireturn, 1) := by decide +kernel
theorem d_L_run_0 : decode b_L_run 0 = .ok (.aload_n 2, 1) := by decide +kernel
theorem d_L_run_1 : decode b_L_run 1 = .ok (.iconst 0, 1) := by decide +kernel
theorem d_L_run_2 : decode b_L_run 2 = .ok (.aload_n 0, 1) := by decide +kernel
theorem d_L_run_3 : decode b_L_run 3 = .ok (.iload_n 1, 1) := by decide +kernel
theorem d_L_run_4 : decode b_L_run 4 = .ok (.invokevirtual 40, 3) := by decide +kernel
theorem d_L_run_7 : decode b_L_run 7 = .ok (.i2l, 1) := by decide +kernel
theorem d_L_run_8 : decode b_L_run 8 = .ok (.lastore, 1) := by decide +kernel
theorem d_L_run_9 : decode b_L_run 9 = .ok (.goto 6, 3) := by decide +kernel
theorem d_L_run_12 : decode b_L_run 12 = .ok (.astore_n 3, 1) := by decide +kernel
theorem d_L_run_13 : decode b_L_run 13 = .ok (.iconst 1, 1) := by decide +kernel
theorem d_L_run_14 : decode b_L_run 14 = .ok (.ireturn, 1) := by decide +kernel
theorem d_L_run_15 : decode b_L_run 15 = .ok (.iconst 0, 1) := by decide +kernel
theorem d_L_run_16 : decode b_L_run 16 = .ok (.ireturn, 1) := by decide +kernel
theorem d_L_told_0 : decode b_L_told 0 = .ok (.aload_n 2, 1) := by decide +kernel
theorem d_L_told_1 : decode b_L_told 1 = .ok (.iconst 0, 1) := by decide +kernel
theorem d_L_told_2 : decode b_L_told 2 = .ok (.aload_n 0, 1) := by decide +kernel
theorem d_L_told_3 : decode b_L_told 3 = .ok (.iload_n 1, 1) := by decide +kernel
theorem d_L_told_4 : decode b_L_told 4 = .ok (.invokevirtual 44, 3) := by decide +kernel
theorem d_L_told_7 : decode b_L_told 7 = .ok (.i2l, 1) := by decide +kernel
theorem d_L_told_8 : decode b_L_told 8 = .ok (.lastore, 1) := by decide +kernel
theorem d_L_told_9 : decode b_L_told 9 = .ok (.goto 9, 3) := by decide +kernel
theorem d_L_told_12 : decode b_L_told 12 = .ok (.astore_n 3, 1) := by decide +kernel
theorem d_L_told_13 : decode b_L_told 13 = .ok (.iconst 1, 1) := by decide +kernel
theorem d_L_told_14 : decode b_L_told 14 = .ok (.ireturn, 1) := by decide +kernel
theorem d_L_told_15 : decode b_L_told 15 = .ok (.astore_n 3, 1) := by decide +kernel
theorem d_L_told_16 : decode b_L_told 16 = .ok (.iconst 2, 1) := by decide +kernel
theorem d_L_told_17 : decode b_L_told 17 = .ok (.ireturn, 1) := by decide +kernel
theorem d_L_told_18 : decode b_L_told 18 = .ok (.iconst 0, 1) := by decide +kernel
theorem d_L_told_19 : decode b_L_told 19 = .ok (.ireturn, 1) := by decide +kernel
theorem d_L_at_0 : decode b_L_at 0 = .ok (.aload_n 3, 1) := by decide +kernel
theorem d_L_at_1 : decode b_L_at 1 = .ok (.iconst 0, 1) := by decide +kernel
theorem d_L_at_2 : decode b_L_at 2 = .ok (.aload_n 0, 1) := by decide +kernel
theorem d_L_at_3 : decode b_L_at 3 = .ok (.iload_n 1, 1) := by decide +kernel
theorem d_L_at_4 : decode b_L_at 4 = .ok (.iload_n 2, 1) := by decide +kernel
theorem d_L_at_5 : decode b_L_at 5 = .ok (.invokevirtual 47, 3) := by decide +kernel
theorem d_L_at_8 : decode b_L_at 8 = .ok (.i2l, 1) := by decide +kernel
theorem d_L_at_9 : decode b_L_at 9 = .ok (.lastore, 1) := by decide +kernel
theorem d_L_at_10 : decode b_L_at 10 = .ok (.goto 7, 3) := by decide +kernel
theorem d_L_at_13 : decode b_L_at 13 = .ok (.astore 4, 2) := by decide +kernel
theorem d_L_at_15 : decode b_L_at 15 = .ok (.iconst 1, 1) := by decide +kernel
theorem d_L_at_16 : decode b_L_at 16 = .ok (.ireturn, 1) := by decide +kernel
theorem d_L_at_17 : decode b_L_at 17 = .ok (.iconst 0, 1) := by decide +kernel
theorem d_L_at_18 : decode b_L_at 18 = .ok (.ireturn, 1) := by decide +kernel
theorem d_L_on_0 : decode b_L_on 0 = .ok (.aload_n 3, 1) := by decide +kernel
theorem d_L_on_1 : decode b_L_on 1 = .ok (.iconst 0, 1) := by decide +kernel
theorem d_L_on_2 : decode b_L_on 2 = .ok (.aload_n 0, 1) := by decide +kernel
theorem d_L_on_3 : decode b_L_on 3 = .ok (.iload_n 1, 1) := by decide +kernel
theorem d_L_on_4 : decode b_L_on 4 = .ok (.iload_n 2, 1) := by decide +kernel
theorem d_L_on_5 : decode b_L_on 5 = .ok (.invokevirtual 50, 3) := by decide +kernel
theorem d_L_on_8 : decode b_L_on 8 = .ok (.i2l, 1) := by decide +kernel
theorem d_L_on_9 : decode b_L_on 9 = .ok (.lastore, 1) := by decide +kernel
theorem d_L_on_10 : decode b_L_on 10 = .ok (.goto 11, 3) := by decide +kernel
theorem d_L_on_13 : decode b_L_on 13 = .ok (.astore 4, 2) := by decide +kernel
theorem d_L_on_15 : decode b_L_on 15 = .ok (.iconst 1, 1) := by decide +kernel
theorem d_L_on_16 : decode b_L_on 16 = .ok (.ireturn, 1) := by decide +kernel
theorem d_L_on_17 : decode b_L_on 17 = .ok (.astore 4, 2) := by decide +kernel
theorem d_L_on_19 : decode b_L_on 19 = .ok (.iconst 2, 1) := by decide +kernel
theorem d_L_on_20 : decode b_L_on 20 = .ok (.ireturn, 1) := by decide +kernel
theorem d_L_on_21 : decode b_L_on 21 = .ok (.iconst 0, 1) := by decide +kernel
theorem d_L_on_22 : decode b_L_on 22 = .ok (.ireturn, 1) := by decide +kernel
theorem d_L_keep_0 : decode b_L_keep 0 = .ok (.aload_n 0, 1) := by decide +kernel
theorem d_L_keep_1 : decode b_L_keep 1 = .ok (.iload_n 1, 1) := by decide +kernel
theorem d_L_keep_2 : decode b_L_keep 2 = .ok (.invokevirtual 53, 3) := by decide +kernel
theorem d_L_keep_5 : decode b_L_keep 5 = .ok (.goto 6, 3) := by decide +kernel
theorem d_L_keep_8 : decode b_L_keep 8 = .ok (.astore_n 2, 1) := by decide +kernel
theorem d_L_keep_9 : decode b_L_keep 9 = .ok (.iconst 1, 1) := by decide +kernel
theorem d_L_keep_10 : decode b_L_keep 10 = .ok (.ireturn, 1) := by decide +kernel
theorem d_L_keep_11 : decode b_L_keep 11 = .ok (.iconst 0, 1) := by decide +kernel
theorem d_L_keep_12 : decode b_L_keep 12 = .ok (.ireturn, 1) := by decide +kernel
theorem d_L_compare_0 : decode b_L_compare 0 = .ok (.aload_n 2, 1) := by decide +kernel
theorem d_L_compare_1 : decode b_L_compare 1 = .ok (.iconst 0, 1) := by decide +kernel
theorem d_L_compare_2 : decode b_L_compare 2 = .ok (.aload_n 0, 1) := by decide +kernel
theorem d_L_compare_3 : decode b_L_compare 3 = .ok (.iload_n 1, 1) := by decide +kernel
theorem d_L_compare_4 : decode b_L_compare 4 = .ok (.invokevirtual 57, 3) := by decide +kernel
theorem d_L_compare_7 : decode b_L_compare 7 = .ok (.i2l, 1) := by decide +kernel
theorem d_L_compare_8 : decode b_L_compare 8 = .ok (.lastore, 1) := by decide +kernel
theorem d_L_compare_9 : decode b_L_compare 9 = .ok (.goto 9, 3) := by decide +kernel
theorem d_L_compare_12 : decode b_L_compare 12 = .ok (.astore_n 3, 1) := by decide +kernel
theorem d_L_compare_13 : decode b_L_compare 13 = .ok (.iconst 1, 1) := by decide +kernel
theorem d_L_compare_14 : decode b_L_compare 14 = .ok (.ireturn, 1) := by decide +kernel
theorem d_L_compare_15 : decode b_L_compare 15 = .ok (.astore_n 3, 1) := by decide +kernel
theorem d_L_compare_16 : decode b_L_compare 16 = .ok (.iconst 2, 1) := by decide +kernel
theorem d_L_compare_17 : decode b_L_compare 17 = .ok (.ireturn, 1) := by decide +kernel
theorem d_L_compare_18 : decode b_L_compare 18 = .ok (.iconst 0, 1) := by decide +kernel
theorem d_L_compare_19 : decode b_L_compare 19 = .ok (.ireturn, 1) := by decide +kernel
theorem d_L_use_0 : decode b_L_use 0 = .ok (.aload_n 0, 1) := by decide +kernel
theorem d_L_use_1 : decode b_L_use 1 = .ok (.iload_n 1, 1) := by decide +kernel
theorem d_L_use_2 : decode b_L_use 2 = .ok (.invokevirtual 60, 3) := by decide +kernel
theorem d_L_use_5 : decode b_L_use 5 = .ok (.goto 9, 3) := by decide +kernel
theorem d_L_use_8 : decode b_L_use 8 = .ok (.astore_n 2, 1) := by decide +kernel
theorem d_L_use_9 : decode b_L_use 9 = .ok (.iconst 1, 1) := by decide +kernel
theorem d_L_use_10 : decode b_L_use 10 = .ok (.ireturn, 1) := by decide +kernel
theorem d_L_use_11 : decode b_L_use 11 = .ok (.astore_n 2, 1) := by decide +kernel
theorem d_L_use_12 : decode b_L_use 12 = .ok (.iconst 2, 1) := by decide +kernel
theorem d_L_use_13 : decode b_L_use 13 = .ok (.ireturn, 1) := by decide +kernel
theorem d_L_use_14 : decode b_L_use 14 = .ok (.iconst 0, 1) := by decide +kernel
theorem d_L_use_15 : decode b_L_use 15 = .ok (.ireturn, 1) := by decide +kernel
theorem d_L_undo_0 : decode b_L_undo 0 = .ok (.aload_n 0, 1) := by decide +kernel
theorem d_L_undo_1 : decode b_L_undo 1 = .ok (.invokevirtual 63, 3) := by decide +kernel
theorem d_L_undo_4 : decode b_L_undo 4 = .ok (.goto 6, 3) := by decide +kernel
theorem d_L_undo_7 : decode b_L_undo 7 = .ok (.astore_n 1, 1) := by decide +kernel
theorem d_L_undo_8 : decode b_L_undo 8 = .ok (.iconst 1, 1) := by decide +kernel
theorem d_L_undo_9 : decode b_L_undo 9 = .ok (.ireturn, 1) := by decide +kernel
theorem d_L_undo_10 : decode b_L_undo 10 = .ok (.iconst 0, 1) := by decide +kernel
theorem d_L_undo_11 : decode b_L_undo 11 = .ok (.ireturn, 1) := by decide +kernel
theorem d_L_law_0 : decode b_L_law 0 = .ok (.new 8, 3) := by decide +kernel
theorem d_L_law_3 : decode b_L_law 3 = .ok (.dup, 1) := by decide +kernel
theorem d_L_law_4 : decode b_L_law 4 = .ok (.invokespecial 66, 3) := by decide +kernel
theorem d_L_law_7 : decode b_L_law 7 = .ok (.astore_n 1, 1) := by decide +kernel
theorem d_L_law_8 : decode b_L_law 8 = .ok (.new 67, 3) := by decide +kernel
theorem d_L_law_11 : decode b_L_law 11 = .ok (.dup, 1) := by decide +kernel
theorem d_L_law_12 : decode b_L_law 12 = .ok (.invokespecial 69, 3) := by decide +kernel
theorem d_L_law_15 : decode b_L_law 15 = .ok (.astore_n 2, 1) := by decide +kernel
theorem d_L_law_16 : decode b_L_law 16 = .ok (.iconst 1, 1) := by decide +kernel
theorem d_L_law_17 : decode b_L_law 17 = .ok (.newarray .long, 2) := by decide +kernel
theorem d_L_law_19 : decode b_L_law 19 = .ok (.astore_n 3, 1) := by decide +kernel
theorem d_L_law_20 : decode b_L_law 20 = .ok (.iconst 0, 1) := by decide +kernel
theorem d_L_law_21 : decode b_L_law 21 = .ok (.istore 4, 2) := by decide +kernel
theorem d_L_law_23 : decode b_L_law 23 = .ok (.iload 4, 2) := by decide +kernel
theorem d_L_law_25 : decode b_L_law 25 = .ok (.aload_n 0, 1) := by decide +kernel
theorem d_L_law_26 : decode b_L_law 26 = .ok (.arraylength, 1) := by decide +kernel
theorem d_L_law_27 : decode b_L_law 27 = .ok (.bipush 6, 2) := by decide +kernel
theorem d_L_law_29 : decode b_L_law 29 = .ok (.isub, 1) := by decide +kernel
theorem d_L_law_30 : decode b_L_law 30 = .ok (.if_icmp .gt 928, 3) := by decide +kernel
theorem d_L_law_33 : decode b_L_law 33 = .ok (.aload_n 0, 1) := by decide +kernel
theorem d_L_law_34 : decode b_L_law 34 = .ok (.iload 4, 2) := by decide +kernel
theorem d_L_law_36 : decode b_L_law 36 = .ok (.iaload, 1) := by decide +kernel
theorem d_L_law_37 : decode b_L_law 37 = .ok (.bipush 15, 2) := by decide +kernel
theorem d_L_law_39 : decode b_L_law 39 = .ok (.iand, 1) := by decide +kernel
theorem d_L_law_40 : decode b_L_law 40 = .ok (.tableswitch 912 0 15 #[80, 148, 252, 332, 343, 391, 451, 499, 555, 611, 679, 692, 760, 796, 852, 888], 80) := by decide +kernel
theorem d_L_law_120 : decode b_L_law 120 = .ok (.aload_n 1, 1) := by decide +kernel
theorem d_L_law_121 : decode b_L_law 121 = .ok (.aload_n 0, 1) := by decide +kernel
theorem d_L_law_122 : decode b_L_law 122 = .ok (.iload 4, 2) := by decide +kernel
theorem d_L_law_124 : decode b_L_law 124 = .ok (.iconst 1, 1) := by decide +kernel
theorem d_L_law_125 : decode b_L_law 125 = .ok (.iadd, 1) := by decide +kernel
theorem d_L_law_126 : decode b_L_law 126 = .ok (.iaload, 1) := by decide +kernel
theorem d_L_law_127 : decode b_L_law 127 = .ok (.aload_n 0, 1) := by decide +kernel
theorem d_L_law_128 : decode b_L_law 128 = .ok (.iload 4, 2) := by decide +kernel
theorem d_L_law_130 : decode b_L_law 130 = .ok (.iconst 2, 1) := by decide +kernel
theorem d_L_law_131 : decode b_L_law 131 = .ok (.iadd, 1) := by decide +kernel
theorem d_L_law_132 : decode b_L_law 132 = .ok (.iaload, 1) := by decide +kernel
theorem d_L_law_133 : decode b_L_law 133 = .ok (.aload_n 3, 1) := by decide +kernel
theorem d_L_law_134 : decode b_L_law 134 = .ok (.invokestatic 70, 3) := by decide +kernel
theorem d_L_law_137 : decode b_L_law 137 = .ok (.istore 5, 2) := by decide +kernel
theorem d_L_law_139 : decode b_L_law 139 = .ok (.aload_n 2, 1) := by decide +kernel
theorem d_L_law_140 : decode b_L_law 140 = .ok (.aload_n 0, 1) := by decide +kernel
theorem d_L_law_141 : decode b_L_law 141 = .ok (.iload 4, 2) := by decide +kernel
theorem d_L_law_143 : decode b_L_law 143 = .ok (.iconst 1, 1) := by decide +kernel
theorem d_L_law_144 : decode b_L_law 144 = .ok (.iadd, 1) := by decide +kernel
theorem d_L_law_145 : decode b_L_law 145 = .ok (.iaload, 1) := by decide +kernel
theorem d_L_law_146 : decode b_L_law 146 = .ok (.aload_n 0, 1) := by decide +kernel
theorem d_L_law_147 : decode b_L_law 147 = .ok (.iload 4, 2) := by decide +kernel
theorem d_L_law_149 : decode b_L_law 149 = .ok (.iconst 2, 1) := by decide +kernel
theorem d_L_law_150 : decode b_L_law 150 = .ok (.iadd, 1) := by decide +kernel
theorem d_L_law_151 : decode b_L_law 151 = .ok (.iaload, 1) := by decide +kernel
theorem d_L_law_152 : decode b_L_law 152 = .ok (.invokevirtual 75, 3) := by decide +kernel
theorem d_L_law_155 : decode b_L_law 155 = .ok (.istore 6, 2) := by decide +kernel
theorem d_L_law_157 : decode b_L_law 157 = .ok (.aload_n 2, 1) := by decide +kernel
theorem d_L_law_158 : decode b_L_law 158 = .ok (.invokevirtual 76, 3) := by decide +kernel
theorem d_L_law_161 : decode b_L_law 161 = .ok (.iload 5, 2) := by decide +kernel
theorem d_L_law_163 : decode b_L_law 163 = .ok (.if_icmp .eq 5, 3) := by decide +kernel
theorem d_L_law_166 : decode b_L_law 166 = .ok (.iconst 0, 1) := by decide +kernel
theorem d_L_law_167 : decode b_L_law 167 = .ok (.ireturn, 1) := by decide +kernel
theorem d_L_law_168 : decode b_L_law 168 = .ok (.iload 5, 2) := by decide +kernel
theorem d_L_law_170 : decode b_L_law 170 = .ok (.ifCond .ne 15, 3) := by decide +kernel
theorem d_L_law_173 : decode b_L_law 173 = .ok (.aload_n 3, 1) := by decide +kernel
theorem d_L_law_174 : decode b_L_law 174 = .ok (.iconst 0, 1) := by decide +kernel
theorem d_L_law_175 : decode b_L_law 175 = .ok (.laload, 1) := by decide +kernel
theorem d_L_law_176 : decode b_L_law 176 = .ok (.iload 6, 2) := by decide +kernel
theorem d_L_law_178 : decode b_L_law 178 = .ok (.i2l, 1) := by decide +kernel
theorem d_L_law_179 : decode b_L_law 179 = .ok (.lcmp, 1) := by decide +kernel
theorem d_L_law_180 : decode b_L_law 180 = .ok (.ifCond .eq 5, 3) := by decide +kernel
theorem d_L_law_183 : decode b_L_law 183 = .ok (.iconst 0, 1) := by decide +kernel
theorem d_L_law_184 : decode b_L_law 184 = .ok (.ireturn, 1) := by decide +kernel
theorem d_L_law_185 : decode b_L_law 185 = .ok (.goto 767, 3) := by decide +kernel
theorem d_L_law_188 : decode b_L_law 188 = .ok (.aload_n 1, 1) := by decide +kernel
theorem d_L_law_189 : decode b_L_law 189 = .ok (.aload_n 0, 1) := by decide +kernel
theorem d_L_law_190 : decode b_L_law 190 = .ok (.iload 4, 2) := by decide +kernel
theorem d_L_law_192 : decode b_L_law 192 = .ok (.iconst 1, 1) := by decide +kernel
theorem d_L_law_193 : decode b_L_law 193 = .ok (.iadd, 1) := by decide +kernel
theorem d_L_law_194 : decode b_L_law 194 = .ok (.iaload, 1) := by decide +kernel
theorem d_L_law_195 : decode b_L_law 195 = .ok (.aload_n 0, 1) := by decide +kernel
theorem d_L_law_196 : decode b_L_law 196 = .ok (.iload 4, 2) := by decide +kernel
theorem d_L_law_198 : decode b_L_law 198 = .ok (.iconst 2, 1) := by decide +kernel
theorem d_L_law_199 : decode b_L_law 199 = .ok (.iadd, 1) := by decide +kernel
theorem d_L_law_200 : decode b_L_law 200 = .ok (.iaload, 1) := by decide +kernel
theorem d_L_law_201 : decode b_L_law 201 = .ok (.aload_n 0, 1) := by decide +kernel
theorem d_L_law_202 : decode b_L_law 202 = .ok (.iload 4, 2) := by decide +kernel
theorem d_L_law_204 : decode b_L_law 204 = .ok (.iconst 3, 1) := by decide +kernel
theorem d_L_law_205 : decode b_L_law 205 = .ok (.iadd, 1) := by decide +kernel
theorem d_L_law_206 : decode b_L_law 206 = .ok (.iaload, 1) := by decide +kernel
theorem d_L_law_207 : decode b_L_law 207 = .ok (.aload_n 0, 1) := by decide +kernel
theorem d_L_law_208 : decode b_L_law 208 = .ok (.iload 4, 2) := by decide +kernel
theorem d_L_law_210 : decode b_L_law 210 = .ok (.iconst 4, 1) := by decide +kernel
theorem d_L_law_211 : decode b_L_law 211 = .ok (.iadd, 1) := by decide +kernel
theorem d_L_law_212 : decode b_L_law 212 = .ok (.iaload, 1) := by decide +kernel
theorem d_L_law_213 : decode b_L_law 213 = .ok (.aload_n 0, 1) := by decide +kernel
theorem d_L_law_214 : decode b_L_law 214 = .ok (.iload 4, 2) := by decide +kernel
theorem d_L_law_216 : decode b_L_law 216 = .ok (.iconst 5, 1) := by decide +kernel
theorem d_L_law_217 : decode b_L_law 217 = .ok (.iadd, 1) := by decide +kernel
theorem d_L_law_218 : decode b_L_law 218 = .ok (.iaload, 1) := by decide +kernel
theorem d_L_law_219 : decode b_L_law 219 = .ok (.aload_n 3, 1) := by decide +kernel
theorem d_L_law_220 : decode b_L_law 220 = .ok (.invokestatic 80, 3) := by decide +kernel
theorem d_L_law_223 : decode b_L_law 223 = .ok (.istore 5, 2) := by decide +kernel
theorem d_L_law_225 : decode b_L_law 225 = .ok (.aload_n 2, 1) := by decide +kernel
theorem d_L_law_226 : decode b_L_law 226 = .ok (.aload_n 0, 1) := by decide +kernel
theorem d_L_law_227 : decode b_L_law 227 = .ok (.iload 4, 2) := by decide +kernel
theorem d_L_law_229 : decode b_L_law 229 = .ok (.iconst 1, 1) := by decide +kernel
theorem d_L_law_230 : decode b_L_law 230 = .ok (.iadd, 1) := by decide +kernel
theorem d_L_law_231 : decode b_L_law 231 = .ok (.iaload, 1) := by decide +kernel
theorem d_L_law_232 : decode b_L_law 232 = .ok (.aload_n 0, 1) := by decide +kernel
theorem d_L_law_233 : decode b_L_law 233 = .ok (.iload 4, 2) := by decide +kernel
theorem d_L_law_235 : decode b_L_law 235 = .ok (.iconst 2, 1) := by decide +kernel
theorem d_L_law_236 : decode b_L_law 236 = .ok (.iadd, 1) := by decide +kernel
theorem d_L_law_237 : decode b_L_law 237 = .ok (.iaload, 1) := by decide +kernel
theorem d_L_law_238 : decode b_L_law 238 = .ok (.aload_n 0, 1) := by decide +kernel
theorem d_L_law_239 : decode b_L_law 239 = .ok (.iload 4, 2) := by decide +kernel
theorem d_L_law_241 : decode b_L_law 241 = .ok (.iconst 3, 1) := by decide +kernel
theorem d_L_law_242 : decode b_L_law 242 = .ok (.iadd, 1) := by decide +kernel
theorem d_L_law_243 : decode b_L_law 243 = .ok (.iaload, 1) := by decide +kernel
theorem d_L_law_244 : decode b_L_law 244 = .ok (.aload_n 0, 1) := by decide +kernel
theorem d_L_law_245 : decode b_L_law 245 = .ok (.iload 4, 2) := by decide +kernel
theorem d_L_law_247 : decode b_L_law 247 = .ok (.iconst 4, 1) := by decide +kernel
theorem d_L_law_248 : decode b_L_law 248 = .ok (.iadd, 1) := by decide +kernel
theorem d_L_law_249 : decode b_L_law 249 = .ok (.iaload, 1) := by decide +kernel
theorem d_L_law_250 : decode b_L_law 250 = .ok (.aload_n 0, 1) := by decide +kernel
theorem d_L_law_251 : decode b_L_law 251 = .ok (.iload 4, 2) := by decide +kernel
theorem d_L_law_253 : decode b_L_law 253 = .ok (.iconst 5, 1) := by decide +kernel
theorem d_L_law_254 : decode b_L_law 254 = .ok (.iadd, 1) := by decide +kernel
theorem d_L_law_255 : decode b_L_law 255 = .ok (.iaload, 1) := by decide +kernel
theorem d_L_law_256 : decode b_L_law 256 = .ok (.invokevirtual 83, 3) := by decide +kernel
theorem d_L_law_259 : decode b_L_law 259 = .ok (.istore 6, 2) := by decide +kernel
theorem d_L_law_261 : decode b_L_law 261 = .ok (.aload_n 2, 1) := by decide +kernel
theorem d_L_law_262 : decode b_L_law 262 = .ok (.invokevirtual 76, 3) := by decide +kernel
theorem d_L_law_265 : decode b_L_law 265 = .ok (.iload 5, 2) := by decide +kernel
theorem d_L_law_267 : decode b_L_law 267 = .ok (.if_icmp .eq 5, 3) := by decide +kernel
theorem d_L_law_270 : decode b_L_law 270 = .ok (.iconst 0, 1) := by decide +kernel
theorem d_L_law_271 : decode b_L_law 271 = .ok (.ireturn, 1) := by decide +kernel
theorem d_L_law_272 : decode b_L_law 272 = .ok (.iload 5, 2) := by decide +kernel
theorem d_L_law_274 : decode b_L_law 274 = .ok (.ifCond .ne 15, 3) := by decide +kernel
theorem d_L_law_277 : decode b_L_law 277 = .ok (.aload_n 3, 1) := by decide +kernel
theorem d_L_law_278 : decode b_L_law 278 = .ok (.iconst 0, 1) := by decide +kernel
theorem d_L_law_279 : decode b_L_law 279 = .ok (.laload, 1) := by decide +kernel
theorem d_L_law_280 : decode b_L_law 280 = .ok (.iload 6, 2) := by decide +kernel
theorem d_L_law_282 : decode b_L_law 282 = .ok (.i2l, 1) := by decide +kernel
theorem d_L_law_283 : decode b_L_law 283 = .ok (.lcmp, 1) := by decide +kernel
theorem d_L_law_284 : decode b_L_law 284 = .ok (.ifCond .eq 5, 3) := by decide +kernel
theorem d_L_law_287 : decode b_L_law 287 = .ok (.iconst 0, 1) := by decide +kernel
theorem d_L_law_288 : decode b_L_law 288 = .ok (.ireturn, 1) := by decide +kernel
theorem d_L_law_289 : decode b_L_law 289 = .ok (.goto 663, 3) := by decide +kernel
theorem d_L_law_292 : decode b_L_law 292 = .ok (.aload_n 1, 1) := by decide +kernel
theorem d_L_law_293 : decode b_L_law 293 = .ok (.aload_n 0, 1) := by decide +kernel
theorem d_L_law_294 : decode b_L_law 294 = .ok (.iload 4, 2) := by decide +kernel
theorem d_L_law_296 : decode b_L_law 296 = .ok (.iconst 1, 1) := by decide +kernel
theorem d_L_law_297 : decode b_L_law 297 = .ok (.iadd, 1) := by decide +kernel
theorem d_L_law_298 : decode b_L_law 298 = .ok (.iaload, 1) := by decide +kernel
theorem d_L_law_299 : decode b_L_law 299 = .ok (.aload_n 0, 1) := by decide +kernel
theorem d_L_law_300 : decode b_L_law 300 = .ok (.iload 4, 2) := by decide +kernel
theorem d_L_law_302 : decode b_L_law 302 = .ok (.iconst 2, 1) := by decide +kernel
theorem d_L_law_303 : decode b_L_law 303 = .ok (.iadd, 1) := by decide +kernel
theorem d_L_law_304 : decode b_L_law 304 = .ok (.iaload, 1) := by decide +kernel
theorem d_L_law_305 : decode b_L_law 305 = .ok (.aload_n 0, 1) := by decide +kernel
theorem d_L_law_306 : decode b_L_law 306 = .ok (.iload 4, 2) := by decide +kernel
theorem d_L_law_308 : decode b_L_law 308 = .ok (.iconst 3, 1) := by decide +kernel
theorem d_L_law_309 : decode b_L_law 309 = .ok (.iadd, 1) := by decide +kernel
theorem d_L_law_310 : decode b_L_law 310 = .ok (.iaload, 1) := by decide +kernel
theorem d_L_law_311 : decode b_L_law 311 = .ok (.aload_n 3, 1) := by decide +kernel
theorem d_L_law_312 : decode b_L_law 312 = .ok (.invokestatic 84, 3) := by decide +kernel
theorem d_L_law_315 : decode b_L_law 315 = .ok (.istore 5, 2) := by decide +kernel
theorem d_L_law_317 : decode b_L_law 317 = .ok (.aload_n 2, 1) := by decide +kernel
theorem d_L_law_318 : decode b_L_law 318 = .ok (.aload_n 0, 1) := by decide +kernel
theorem d_L_law_319 : decode b_L_law 319 = .ok (.iload 4, 2) := by decide +kernel
theorem d_L_law_321 : decode b_L_law 321 = .ok (.iconst 1, 1) := by decide +kernel
theorem d_L_law_322 : decode b_L_law 322 = .ok (.iadd, 1) := by decide +kernel
theorem d_L_law_323 : decode b_L_law 323 = .ok (.iaload, 1) := by decide +kernel
theorem d_L_law_324 : decode b_L_law 324 = .ok (.aload_n 0, 1) := by decide +kernel
theorem d_L_law_325 : decode b_L_law 325 = .ok (.iload 4, 2) := by decide +kernel
theorem d_L_law_327 : decode b_L_law 327 = .ok (.iconst 2, 1) := by decide +kernel
theorem d_L_law_328 : decode b_L_law 328 = .ok (.iadd, 1) := by decide +kernel
theorem d_L_law_329 : decode b_L_law 329 = .ok (.iaload, 1) := by decide +kernel
theorem d_L_law_330 : decode b_L_law 330 = .ok (.aload_n 0, 1) := by decide +kernel
theorem d_L_law_331 : decode b_L_law 331 = .ok (.iload 4, 2) := by decide +kernel
theorem d_L_law_333 : decode b_L_law 333 = .ok (.iconst 3, 1) := by decide +kernel
theorem d_L_law_334 : decode b_L_law 334 = .ok (.iadd, 1) := by decide +kernel
theorem d_L_law_335 : decode b_L_law 335 = .ok (.iaload, 1) := by decide +kernel
theorem d_L_law_336 : decode b_L_law 336 = .ok (.invokevirtual 87, 3) := by decide +kernel
theorem d_L_law_339 : decode b_L_law 339 = .ok (.istore 6, 2) := by decide +kernel
theorem d_L_law_341 : decode b_L_law 341 = .ok (.aload_n 2, 1) := by decide +kernel
theorem d_L_law_342 : decode b_L_law 342 = .ok (.invokevirtual 76, 3) := by decide +kernel
theorem d_L_law_345 : decode b_L_law 345 = .ok (.iload 5, 2) := by decide +kernel
theorem d_L_law_347 : decode b_L_law 347 = .ok (.if_icmp .eq 5, 3) := by decide +kernel
theorem d_L_law_350 : decode b_L_law 350 = .ok (.iconst 0, 1) := by decide +kernel
theorem d_L_law_351 : decode b_L_law 351 = .ok (.ireturn, 1) := by decide +kernel
theorem d_L_law_352 : decode b_L_law 352 = .ok (.iload 5, 2) := by decide +kernel
theorem d_L_law_354 : decode b_L_law 354 = .ok (.ifCond .ne 15, 3) := by decide +kernel
theorem d_L_law_357 : decode b_L_law 357 = .ok (.aload_n 3, 1) := by decide +kernel
theorem d_L_law_358 : decode b_L_law 358 = .ok (.iconst 0, 1) := by decide +kernel
theorem d_L_law_359 : decode b_L_law 359 = .ok (.laload, 1) := by decide +kernel
theorem d_L_law_360 : decode b_L_law 360 = .ok (.iload 6, 2) := by decide +kernel
theorem d_L_law_362 : decode b_L_law 362 = .ok (.i2l, 1) := by decide +kernel
theorem d_L_law_363 : decode b_L_law 363 = .ok (.lcmp, 1) := by decide +kernel
theorem d_L_law_364 : decode b_L_law 364 = .ok (.ifCond .eq 5, 3) := by decide +kernel
theorem d_L_law_367 : decode b_L_law 367 = .ok (.iconst 0, 1) := by decide +kernel
theorem d_L_law_368 : decode b_L_law 368 = .ok (.ireturn, 1) := by decide +kernel
theorem d_L_law_369 : decode b_L_law 369 = .ok (.goto 583, 3) := by decide +kernel
theorem d_L_law_372 : decode b_L_law 372 = .ok (.aload_n 1, 1) := by decide +kernel
theorem d_L_law_373 : decode b_L_law 373 = .ok (.invokevirtual 88, 3) := by decide +kernel
theorem d_L_law_376 : decode b_L_law 376 = .ok (.aload_n 2, 1) := by decide +kernel
theorem d_L_law_377 : decode b_L_law 377 = .ok (.invokevirtual 91, 3) := by decide +kernel
theorem d_L_law_380 : decode b_L_law 380 = .ok (.goto 572, 3) := by decide +kernel
theorem d_L_law_383 : decode b_L_law 383 = .ok (.aload_n 1, 1) := by decide +kernel
theorem d_L_law_384 : decode b_L_law 384 = .ok (.aload_n 0, 1) := by decide +kernel
theorem d_L_law_385 : decode b_L_law 385 = .ok (.iload 4, 2) := by decide +kernel
theorem d_L_law_387 : decode b_L_law 387 = .ok (.iconst 1, 1) := by decide +kernel
theorem d_L_law_388 : decode b_L_law 388 = .ok (.iadd, 1) := by decide +kernel
theorem d_L_law_389 : decode b_L_law 389 = .ok (.iaload, 1) := by decide +kernel
theorem d_L_law_390 : decode b_L_law 390 = .ok (.aload_n 0, 1) := by decide +kernel
theorem d_L_law_391 : decode b_L_law 391 = .ok (.iload 4, 2) := by decide +kernel
theorem d_L_law_393 : decode b_L_law 393 = .ok (.iconst 2, 1) := by decide +kernel
theorem d_L_law_394 : decode b_L_law 394 = .ok (.iadd, 1) := by decide +kernel
theorem d_L_law_395 : decode b_L_law 395 = .ok (.iaload, 1) := by decide +kernel
theorem d_L_law_396 : decode b_L_law 396 = .ok (.invokestatic 92, 3) := by decide +kernel
theorem d_L_law_399 : decode b_L_law 399 = .ok (.istore 5, 2) := by decide +kernel
theorem d_L_law_401 : decode b_L_law 401 = .ok (.aload_n 2, 1) := by decide +kernel
theorem d_L_law_402 : decode b_L_law 402 = .ok (.aload_n 0, 1) := by decide +kernel
theorem d_L_law_403 : decode b_L_law 403 = .ok (.iload 4, 2) := by decide +kernel
theorem d_L_law_405 : decode b_L_law 405 = .ok (.iconst 1, 1) := by decide +kernel
theorem d_L_law_406 : decode b_L_law 406 = .ok (.iadd, 1) := by decide +kernel
theorem d_L_law_407 : decode b_L_law 407 = .ok (.iaload, 1) := by decide +kernel
theorem d_L_law_408 : decode b_L_law 408 = .ok (.aload_n 0, 1) := by decide +kernel
theorem d_L_law_409 : decode b_L_law 409 = .ok (.iload 4, 2) := by decide +kernel
theorem d_L_law_411 : decode b_L_law 411 = .ok (.iconst 2, 1) := by decide +kernel
theorem d_L_law_412 : decode b_L_law 412 = .ok (.iadd, 1) := by decide +kernel
theorem d_L_law_413 : decode b_L_law 413 = .ok (.iaload, 1) := by decide +kernel
theorem d_L_law_414 : decode b_L_law 414 = .ok (.invokevirtual 95, 3) := by decide +kernel
theorem d_L_law_417 : decode b_L_law 417 = .ok (.aload_n 2, 1) := by decide +kernel
theorem d_L_law_418 : decode b_L_law 418 = .ok (.invokevirtual 76, 3) := by decide +kernel
theorem d_L_law_421 : decode b_L_law 421 = .ok (.iload 5, 2) := by decide +kernel
theorem d_L_law_423 : decode b_L_law 423 = .ok (.if_icmp .eq 5, 3) := by decide +kernel
theorem d_L_law_426 : decode b_L_law 426 = .ok (.iconst 0, 1) := by decide +kernel
theorem d_L_law_427 : decode b_L_law 427 = .ok (.ireturn, 1) := by decide +kernel
theorem d_L_law_428 : decode b_L_law 428 = .ok (.goto 524, 3) := by decide +kernel
theorem d_L_law_431 : decode b_L_law 431 = .ok (.aload_n 1, 1) := by decide +kernel
theorem d_L_law_432 : decode b_L_law 432 = .ok (.aload_n 0, 1) := by decide +kernel
theorem d_L_law_433 : decode b_L_law 433 = .ok (.iload 4, 2) := by decide +kernel
theorem d_L_law_435 : decode b_L_law 435 = .ok (.iconst 1, 1) := by decide +kernel
theorem d_L_law_436 : decode b_L_law 436 = .ok (.iadd, 1) := by decide +kernel
theorem d_L_law_437 : decode b_L_law 437 = .ok (.iaload, 1) := by decide +kernel
theorem d_L_law_438 : decode b_L_law 438 = .ok (.aload_n 0, 1) := by decide +kernel
theorem d_L_law_439 : decode b_L_law 439 = .ok (.iload 4, 2) := by decide +kernel
theorem d_L_law_441 : decode b_L_law 441 = .ok (.iconst 2, 1) := by decide +kernel
theorem d_L_law_442 : decode b_L_law 442 = .ok (.iadd, 1) := by decide +kernel
theorem d_L_law_443 : decode b_L_law 443 = .ok (.iaload, 1) := by decide +kernel
theorem d_L_law_444 : decode b_L_law 444 = .ok (.aload_n 0, 1) := by decide +kernel
theorem d_L_law_445 : decode b_L_law 445 = .ok (.iload 4, 2) := by decide +kernel
theorem d_L_law_447 : decode b_L_law 447 = .ok (.iconst 3, 1) := by decide +kernel
theorem d_L_law_448 : decode b_L_law 448 = .ok (.iadd, 1) := by decide +kernel
theorem d_L_law_449 : decode b_L_law 449 = .ok (.iaload, 1) := by decide +kernel
theorem d_L_law_450 : decode b_L_law 450 = .ok (.invokestatic 96, 3) := by decide +kernel
theorem d_L_law_453 : decode b_L_law 453 = .ok (.istore 5, 2) := by decide +kernel
theorem d_L_law_455 : decode b_L_law 455 = .ok (.aload_n 2, 1) := by decide +kernel
theorem d_L_law_456 : decode b_L_law 456 = .ok (.aload_n 0, 1) := by decide +kernel
theorem d_L_law_457 : decode b_L_law 457 = .ok (.iload 4, 2) := by decide +kernel
theorem d_L_law_459 : decode b_L_law 459 = .ok (.iconst 1, 1) := by decide +kernel
theorem d_L_law_460 : decode b_L_law 460 = .ok (.iadd, 1) := by decide +kernel
theorem d_L_law_461 : decode b_L_law 461 = .ok (.iaload, 1) := by decide +kernel
theorem d_L_law_462 : decode b_L_law 462 = .ok (.aload_n 0, 1) := by decide +kernel
theorem d_L_law_463 : decode b_L_law 463 = .ok (.iload 4, 2) := by decide +kernel
theorem d_L_law_465 : decode b_L_law 465 = .ok (.iconst 2, 1) := by decide +kernel
theorem d_L_law_466 : decode b_L_law 466 = .ok (.iadd, 1) := by decide +kernel
theorem d_L_law_467 : decode b_L_law 467 = .ok (.iaload, 1) := by decide +kernel
theorem d_L_law_468 : decode b_L_law 468 = .ok (.aload_n 0, 1) := by decide +kernel
theorem d_L_law_469 : decode b_L_law 469 = .ok (.iload 4, 2) := by decide +kernel
theorem d_L_law_471 : decode b_L_law 471 = .ok (.iconst 3, 1) := by decide +kernel
theorem d_L_law_472 : decode b_L_law 472 = .ok (.iadd, 1) := by decide +kernel
theorem d_L_law_473 : decode b_L_law 473 = .ok (.iaload, 1) := by decide +kernel
theorem d_L_law_474 : decode b_L_law 474 = .ok (.invokevirtual 99, 3) := by decide +kernel
theorem d_L_law_477 : decode b_L_law 477 = .ok (.aload_n 2, 1) := by decide +kernel
theorem d_L_law_478 : decode b_L_law 478 = .ok (.invokevirtual 76, 3) := by decide +kernel
theorem d_L_law_481 : decode b_L_law 481 = .ok (.iload 5, 2) := by decide +kernel
theorem d_L_law_483 : decode b_L_law 483 = .ok (.if_icmp .eq 5, 3) := by decide +kernel
theorem d_L_law_486 : decode b_L_law 486 = .ok (.iconst 0, 1) := by decide +kernel
theorem d_L_law_487 : decode b_L_law 487 = .ok (.ireturn, 1) := by decide +kernel
theorem d_L_law_488 : decode b_L_law 488 = .ok (.goto 464, 3) := by decide +kernel
theorem d_L_law_491 : decode b_L_law 491 = .ok (.aload_n 1, 1) := by decide +kernel
theorem d_L_law_492 : decode b_L_law 492 = .ok (.aload_n 0, 1) := by decide +kernel
theorem d_L_law_493 : decode b_L_law 493 = .ok (.iload 4, 2) := by decide +kernel
theorem d_L_law_495 : decode b_L_law 495 = .ok (.iconst 1, 1) := by decide +kernel
theorem d_L_law_496 : decode b_L_law 496 = .ok (.iadd, 1) := by decide +kernel
theorem d_L_law_497 : decode b_L_law 497 = .ok (.iaload, 1) := by decide +kernel
theorem d_L_law_498 : decode b_L_law 498 = .ok (.aload_n 0, 1) := by decide +kernel
theorem d_L_law_499 : decode b_L_law 499 = .ok (.iload 4, 2) := by decide +kernel
theorem d_L_law_501 : decode b_L_law 501 = .ok (.iconst 2, 1) := by decide +kernel
theorem d_L_law_502 : decode b_L_law 502 = .ok (.iadd, 1) := by decide +kernel
theorem d_L_law_503 : decode b_L_law 503 = .ok (.iaload, 1) := by decide +kernel
theorem d_L_law_504 : decode b_L_law 504 = .ok (.invokestatic 100, 3) := by decide +kernel
theorem d_L_law_507 : decode b_L_law 507 = .ok (.istore 5, 2) := by decide +kernel
theorem d_L_law_509 : decode b_L_law 509 = .ok (.aload_n 2, 1) := by decide +kernel
theorem d_L_law_510 : decode b_L_law 510 = .ok (.aload_n 0, 1) := by decide +kernel
theorem d_L_law_511 : decode b_L_law 511 = .ok (.iload 4, 2) := by decide +kernel
theorem d_L_law_513 : decode b_L_law 513 = .ok (.iconst 1, 1) := by decide +kernel
theorem d_L_law_514 : decode b_L_law 514 = .ok (.iadd, 1) := by decide +kernel
theorem d_L_law_515 : decode b_L_law 515 = .ok (.iaload, 1) := by decide +kernel
theorem d_L_law_516 : decode b_L_law 516 = .ok (.aload_n 0, 1) := by decide +kernel
theorem d_L_law_517 : decode b_L_law 517 = .ok (.iload 4, 2) := by decide +kernel
theorem d_L_law_519 : decode b_L_law 519 = .ok (.iconst 2, 1) := by decide +kernel
theorem d_L_law_520 : decode b_L_law 520 = .ok (.iadd, 1) := by decide +kernel
theorem d_L_law_521 : decode b_L_law 521 = .ok (.iaload, 1) := by decide +kernel
theorem d_L_law_522 : decode b_L_law 522 = .ok (.invokevirtual 102, 3) := by decide +kernel
theorem d_L_law_525 : decode b_L_law 525 = .ok (.aload_n 2, 1) := by decide +kernel
theorem d_L_law_526 : decode b_L_law 526 = .ok (.invokevirtual 76, 3) := by decide +kernel
theorem d_L_law_529 : decode b_L_law 529 = .ok (.iload 5, 2) := by decide +kernel
theorem d_L_law_531 : decode b_L_law 531 = .ok (.if_icmp .eq 5, 3) := by decide +kernel
theorem d_L_law_534 : decode b_L_law 534 = .ok (.iconst 0, 1) := by decide +kernel
theorem d_L_law_535 : decode b_L_law 535 = .ok (.ireturn, 1) := by decide +kernel
theorem d_L_law_536 : decode b_L_law 536 = .ok (.goto 416, 3) := by decide +kernel
theorem d_L_law_539 : decode b_L_law 539 = .ok (.aload_n 1, 1) := by decide +kernel
theorem d_L_law_540 : decode b_L_law 540 = .ok (.aload_n 0, 1) := by decide +kernel
theorem d_L_law_541 : decode b_L_law 541 = .ok (.iload 4, 2) := by decide +kernel
theorem d_L_law_543 : decode b_L_law 543 = .ok (.iconst 1, 1) := by decide +kernel
theorem d_L_law_544 : decode b_L_law 544 = .ok (.iadd, 1) := by decide +kernel
theorem d_L_law_545 : decode b_L_law 545 = .ok (.iaload, 1) := by decide +kernel
theorem d_L_law_546 : decode b_L_law 546 = .ok (.aload_n 3, 1) := by decide +kernel
theorem d_L_law_547 : decode b_L_law 547 = .ok (.invokestatic 103, 3) := by decide +kernel
theorem d_L_law_550 : decode b_L_law 550 = .ok (.istore 5, 2) := by decide +kernel
theorem d_L_law_552 : decode b_L_law 552 = .ok (.aload_n 2, 1) := by decide +kernel
theorem d_L_law_553 : decode b_L_law 553 = .ok (.aload_n 0, 1) := by decide +kernel
theorem d_L_law_554 : decode b_L_law 554 = .ok (.iload 4, 2) := by decide +kernel
theorem d_L_law_556 : decode b_L_law 556 = .ok (.iconst 1, 1) := by decide +kernel
theorem d_L_law_557 : decode b_L_law 557 = .ok (.iadd, 1) := by decide +kernel
theorem d_L_law_558 : decode b_L_law 558 = .ok (.iaload, 1) := by decide +kernel
theorem d_L_law_559 : decode b_L_law 559 = .ok (.invokevirtual 106, 3) := by decide +kernel
theorem d_L_law_562 : decode b_L_law 562 = .ok (.istore 6, 2) := by decide +kernel
theorem d_L_law_564 : decode b_L_law 564 = .ok (.aload_n 2, 1) := by decide +kernel
theorem d_L_law_565 : decode b_L_law 565 = .ok (.invokevirtual 76, 3) := by decide +kernel
theorem d_L_law_568 : decode b_L_law 568 = .ok (.iload 5, 2) := by decide +kernel
theorem d_L_law_570 : decode b_L_law 570 = .ok (.if_icmp .eq 5, 3) := by decide +kernel
theorem d_L_law_573 : decode b_L_law 573 = .ok (.iconst 0, 1) := by decide +kernel
theorem d_L_law_574 : decode b_L_law 574 = .ok (.ireturn, 1) := by decide +kernel
theorem d_L_law_575 : decode b_L_law 575 = .ok (.iload 5, 2) := by decide +kernel
theorem d_L_law_577 : decode b_L_law 577 = .ok (.ifCond .ne 15, 3) := by decide +kernel
theorem d_L_law_580 : decode b_L_law 580 = .ok (.aload_n 3, 1) := by decide +kernel
theorem d_L_law_581 : decode b_L_law 581 = .ok (.iconst 0, 1) := by decide +kernel
theorem d_L_law_582 : decode b_L_law 582 = .ok (.laload, 1) := by decide +kernel
theorem d_L_law_583 : decode b_L_law 583 = .ok (.iload 6, 2) := by decide +kernel
theorem d_L_law_585 : decode b_L_law 585 = .ok (.i2l, 1) := by decide +kernel
theorem d_L_law_586 : decode b_L_law 586 = .ok (.lcmp, 1) := by decide +kernel
theorem d_L_law_587 : decode b_L_law 587 = .ok (.ifCond .eq 5, 3) := by decide +kernel
theorem d_L_law_590 : decode b_L_law 590 = .ok (.iconst 0, 1) := by decide +kernel
theorem d_L_law_591 : decode b_L_law 591 = .ok (.ireturn, 1) := by decide +kernel
theorem d_L_law_592 : decode b_L_law 592 = .ok (.goto 360, 3) := by decide +kernel
theorem d_L_law_595 : decode b_L_law 595 = .ok (.aload_n 1, 1) := by decide +kernel
theorem d_L_law_596 : decode b_L_law 596 = .ok (.aload_n 0, 1) := by decide +kernel
theorem d_L_law_597 : decode b_L_law 597 = .ok (.iload 4, 2) := by decide +kernel
theorem d_L_law_599 : decode b_L_law 599 = .ok (.iconst 1, 1) := by decide +kernel
theorem d_L_law_600 : decode b_L_law 600 = .ok (.iadd, 1) := by decide +kernel
theorem d_L_law_601 : decode b_L_law 601 = .ok (.iaload, 1) := by decide +kernel
theorem d_L_law_602 : decode b_L_law 602 = .ok (.aload_n 3, 1) := by decide +kernel
theorem d_L_law_603 : decode b_L_law 603 = .ok (.invokestatic 107, 3) := by decide +kernel
theorem d_L_law_606 : decode b_L_law 606 = .ok (.istore 5, 2) := by decide +kernel
theorem d_L_law_608 : decode b_L_law 608 = .ok (.aload_n 2, 1) := by decide +kernel
theorem d_L_law_609 : decode b_L_law 609 = .ok (.aload_n 0, 1) := by decide +kernel
theorem d_L_law_610 : decode b_L_law 610 = .ok (.iload 4, 2) := by decide +kernel
theorem d_L_law_612 : decode b_L_law 612 = .ok (.iconst 1, 1) := by decide +kernel
theorem d_L_law_613 : decode b_L_law 613 = .ok (.iadd, 1) := by decide +kernel
theorem d_L_law_614 : decode b_L_law 614 = .ok (.iaload, 1) := by decide +kernel
theorem d_L_law_615 : decode b_L_law 615 = .ok (.invokevirtual 109, 3) := by decide +kernel
theorem d_L_law_618 : decode b_L_law 618 = .ok (.istore 6, 2) := by decide +kernel
theorem d_L_law_620 : decode b_L_law 620 = .ok (.aload_n 2, 1) := by decide +kernel
theorem d_L_law_621 : decode b_L_law 621 = .ok (.invokevirtual 76, 3) := by decide +kernel
theorem d_L_law_624 : decode b_L_law 624 = .ok (.iload 5, 2) := by decide +kernel
theorem d_L_law_626 : decode b_L_law 626 = .ok (.if_icmp .eq 5, 3) := by decide +kernel
theorem d_L_law_629 : decode b_L_law 629 = .ok (.iconst 0, 1) := by decide +kernel
theorem d_L_law_630 : decode b_L_law 630 = .ok (.ireturn, 1) := by decide +kernel
theorem d_L_law_631 : decode b_L_law 631 = .ok (.iload 5, 2) := by decide +kernel
theorem d_L_law_633 : decode b_L_law 633 = .ok (.ifCond .ne 15, 3) := by decide +kernel
theorem d_L_law_636 : decode b_L_law 636 = .ok (.aload_n 3, 1) := by decide +kernel
theorem d_L_law_637 : decode b_L_law 637 = .ok (.iconst 0, 1) := by decide +kernel
theorem d_L_law_638 : decode b_L_law 638 = .ok (.laload, 1) := by decide +kernel
theorem d_L_law_639 : decode b_L_law 639 = .ok (.iload 6, 2) := by decide +kernel
theorem d_L_law_641 : decode b_L_law 641 = .ok (.i2l, 1) := by decide +kernel
theorem d_L_law_642 : decode b_L_law 642 = .ok (.lcmp, 1) := by decide +kernel
theorem d_L_law_643 : decode b_L_law 643 = .ok (.ifCond .eq 5, 3) := by decide +kernel
theorem d_L_law_646 : decode b_L_law 646 = .ok (.iconst 0, 1) := by decide +kernel
theorem d_L_law_647 : decode b_L_law 647 = .ok (.ireturn, 1) := by decide +kernel
theorem d_L_law_648 : decode b_L_law 648 = .ok (.goto 304, 3) := by decide +kernel
theorem d_L_law_651 : decode b_L_law 651 = .ok (.aload_n 1, 1) := by decide +kernel
theorem d_L_law_652 : decode b_L_law 652 = .ok (.aload_n 0, 1) := by decide +kernel
theorem d_L_law_653 : decode b_L_law 653 = .ok (.iload 4, 2) := by decide +kernel
theorem d_L_law_655 : decode b_L_law 655 = .ok (.iconst 1, 1) := by decide +kernel
theorem d_L_law_656 : decode b_L_law 656 = .ok (.iadd, 1) := by decide +kernel
theorem d_L_law_657 : decode b_L_law 657 = .ok (.iaload, 1) := by decide +kernel
theorem d_L_law_658 : decode b_L_law 658 = .ok (.aload_n 0, 1) := by decide +kernel
theorem d_L_law_659 : decode b_L_law 659 = .ok (.iload 4, 2) := by decide +kernel
theorem d_L_law_661 : decode b_L_law 661 = .ok (.iconst 2, 1) := by decide +kernel
theorem d_L_law_662 : decode b_L_law 662 = .ok (.iadd, 1) := by decide +kernel
theorem d_L_law_663 : decode b_L_law 663 = .ok (.iaload, 1) := by decide +kernel
theorem d_L_law_664 : decode b_L_law 664 = .ok (.aload_n 3, 1) := by decide +kernel
theorem d_L_law_665 : decode b_L_law 665 = .ok (.invokestatic 110, 3) := by decide +kernel
theorem d_L_law_668 : decode b_L_law 668 = .ok (.istore 5, 2) := by decide +kernel
theorem d_L_law_670 : decode b_L_law 670 = .ok (.aload_n 2, 1) := by decide +kernel
theorem d_L_law_671 : decode b_L_law 671 = .ok (.aload_n 0, 1) := by decide +kernel
theorem d_L_law_672 : decode b_L_law 672 = .ok (.iload 4, 2) := by decide +kernel
theorem d_L_law_674 : decode b_L_law 674 = .ok (.iconst 1, 1) := by decide +kernel
theorem d_L_law_675 : decode b_L_law 675 = .ok (.iadd, 1) := by decide +kernel
theorem d_L_law_676 : decode b_L_law 676 = .ok (.iaload, 1) := by decide +kernel
theorem d_L_law_677 : decode b_L_law 677 = .ok (.aload_n 0, 1) := by decide +kernel
theorem d_L_law_678 : decode b_L_law 678 = .ok (.iload 4, 2) := by decide +kernel
theorem d_L_law_680 : decode b_L_law 680 = .ok (.iconst 2, 1) := by decide +kernel
theorem d_L_law_681 : decode b_L_law 681 = .ok (.iadd, 1) := by decide +kernel
theorem d_L_law_682 : decode b_L_law 682 = .ok (.iaload, 1) := by decide +kernel
theorem d_L_law_683 : decode b_L_law 683 = .ok (.invokevirtual 112, 3) := by decide +kernel
theorem d_L_law_686 : decode b_L_law 686 = .ok (.istore 6, 2) := by decide +kernel
theorem d_L_law_688 : decode b_L_law 688 = .ok (.aload_n 2, 1) := by decide +kernel
theorem d_L_law_689 : decode b_L_law 689 = .ok (.invokevirtual 76, 3) := by decide +kernel
theorem d_L_law_692 : decode b_L_law 692 = .ok (.iload 5, 2) := by decide +kernel
theorem d_L_law_694 : decode b_L_law 694 = .ok (.if_icmp .eq 5, 3) := by decide +kernel
theorem d_L_law_697 : decode b_L_law 697 = .ok (.iconst 0, 1) := by decide +kernel
theorem d_L_law_698 : decode b_L_law 698 = .ok (.ireturn, 1) := by decide +kernel
theorem d_L_law_699 : decode b_L_law 699 = .ok (.iload 5, 2) := by decide +kernel
theorem d_L_law_701 : decode b_L_law 701 = .ok (.ifCond .ne 15, 3) := by decide +kernel
theorem d_L_law_704 : decode b_L_law 704 = .ok (.aload_n 3, 1) := by decide +kernel
theorem d_L_law_705 : decode b_L_law 705 = .ok (.iconst 0, 1) := by decide +kernel
theorem d_L_law_706 : decode b_L_law 706 = .ok (.laload, 1) := by decide +kernel
theorem d_L_law_707 : decode b_L_law 707 = .ok (.iload 6, 2) := by decide +kernel
theorem d_L_law_709 : decode b_L_law 709 = .ok (.i2l, 1) := by decide +kernel
theorem d_L_law_710 : decode b_L_law 710 = .ok (.lcmp, 1) := by decide +kernel
theorem d_L_law_711 : decode b_L_law 711 = .ok (.ifCond .eq 5, 3) := by decide +kernel
theorem d_L_law_714 : decode b_L_law 714 = .ok (.iconst 0, 1) := by decide +kernel
theorem d_L_law_715 : decode b_L_law 715 = .ok (.ireturn, 1) := by decide +kernel
theorem d_L_law_716 : decode b_L_law 716 = .ok (.goto 236, 3) := by decide +kernel
theorem d_L_law_719 : decode b_L_law 719 = .ok (.aload_n 1, 1) := by decide +kernel
theorem d_L_law_720 : decode b_L_law 720 = .ok (.invokevirtual 113, 3) := by decide +kernel
theorem d_L_law_723 : decode b_L_law 723 = .ok (.aload_n 2, 1) := by decide +kernel
theorem d_L_law_724 : decode b_L_law 724 = .ok (.invokevirtual 116, 3) := by decide +kernel
theorem d_L_law_727 : decode b_L_law 727 = .ok (.if_icmp .eq 225, 3) := by decide +kernel
theorem d_L_law_730 : decode b_L_law 730 = .ok (.iconst 0, 1) := by decide +kernel
theorem d_L_law_731 : decode b_L_law 731 = .ok (.ireturn, 1) := by decide +kernel
theorem d_L_law_732 : decode b_L_law 732 = .ok (.aload_n 1, 1) := by decide +kernel
theorem d_L_law_733 : decode b_L_law 733 = .ok (.aload_n 0, 1) := by decide +kernel
theorem d_L_law_734 : decode b_L_law 734 = .ok (.iload 4, 2) := by decide +kernel
theorem d_L_law_736 : decode b_L_law 736 = .ok (.iconst 1, 1) := by decide +kernel
theorem d_L_law_737 : decode b_L_law 737 = .ok (.iadd, 1) := by decide +kernel
theorem d_L_law_738 : decode b_L_law 738 = .ok (.iaload, 1) := by decide +kernel
theorem d_L_law_739 : decode b_L_law 739 = .ok (.aload_n 0, 1) := by decide +kernel
theorem d_L_law_740 : decode b_L_law 740 = .ok (.iload 4, 2) := by decide +kernel
theorem d_L_law_742 : decode b_L_law 742 = .ok (.iconst 2, 1) := by decide +kernel
theorem d_L_law_743 : decode b_L_law 743 = .ok (.iadd, 1) := by decide +kernel
theorem d_L_law_744 : decode b_L_law 744 = .ok (.iaload, 1) := by decide +kernel
theorem d_L_law_745 : decode b_L_law 745 = .ok (.aload_n 3, 1) := by decide +kernel
theorem d_L_law_746 : decode b_L_law 746 = .ok (.invokestatic 117, 3) := by decide +kernel
theorem d_L_law_749 : decode b_L_law 749 = .ok (.istore 5, 2) := by decide +kernel
theorem d_L_law_751 : decode b_L_law 751 = .ok (.aload_n 2, 1) := by decide +kernel
theorem d_L_law_752 : decode b_L_law 752 = .ok (.aload_n 0, 1) := by decide +kernel
theorem d_L_law_753 : decode b_L_law 753 = .ok (.iload 4, 2) := by decide +kernel
theorem d_L_law_755 : decode b_L_law 755 = .ok (.iconst 1, 1) := by decide +kernel
theorem d_L_law_756 : decode b_L_law 756 = .ok (.iadd, 1) := by decide +kernel
theorem d_L_law_757 : decode b_L_law 757 = .ok (.iaload, 1) := by decide +kernel
theorem d_L_law_758 : decode b_L_law 758 = .ok (.aload_n 0, 1) := by decide +kernel
theorem d_L_law_759 : decode b_L_law 759 = .ok (.iload 4, 2) := by decide +kernel
theorem d_L_law_761 : decode b_L_law 761 = .ok (.iconst 2, 1) := by decide +kernel
theorem d_L_law_762 : decode b_L_law 762 = .ok (.iadd, 1) := by decide +kernel
theorem d_L_law_763 : decode b_L_law 763 = .ok (.iaload, 1) := by decide +kernel
theorem d_L_law_764 : decode b_L_law 764 = .ok (.invokevirtual 119, 3) := by decide +kernel
theorem d_L_law_767 : decode b_L_law 767 = .ok (.istore 6, 2) := by decide +kernel
theorem d_L_law_769 : decode b_L_law 769 = .ok (.aload_n 2, 1) := by decide +kernel
theorem d_L_law_770 : decode b_L_law 770 = .ok (.invokevirtual 76, 3) := by decide +kernel
theorem d_L_law_773 : decode b_L_law 773 = .ok (.iload 5, 2) := by decide +kernel
theorem d_L_law_775 : decode b_L_law 775 = .ok (.if_icmp .eq 5, 3) := by decide +kernel
theorem d_L_law_778 : decode b_L_law 778 = .ok (.iconst 0, 1) := by decide +kernel
theorem d_L_law_779 : decode b_L_law 779 = .ok (.ireturn, 1) := by decide +kernel
theorem d_L_law_780 : decode b_L_law 780 = .ok (.iload 5, 2) := by decide +kernel
theorem d_L_law_782 : decode b_L_law 782 = .ok (.ifCond .ne 15, 3) := by decide +kernel
theorem d_L_law_785 : decode b_L_law 785 = .ok (.aload_n 3, 1) := by decide +kernel
theorem d_L_law_786 : decode b_L_law 786 = .ok (.iconst 0, 1) := by decide +kernel
theorem d_L_law_787 : decode b_L_law 787 = .ok (.laload, 1) := by decide +kernel
theorem d_L_law_788 : decode b_L_law 788 = .ok (.iload 6, 2) := by decide +kernel
theorem d_L_law_790 : decode b_L_law 790 = .ok (.i2l, 1) := by decide +kernel
theorem d_L_law_791 : decode b_L_law 791 = .ok (.lcmp, 1) := by decide +kernel
theorem d_L_law_792 : decode b_L_law 792 = .ok (.ifCond .eq 5, 3) := by decide +kernel
theorem d_L_law_795 : decode b_L_law 795 = .ok (.iconst 0, 1) := by decide +kernel
theorem d_L_law_796 : decode b_L_law 796 = .ok (.ireturn, 1) := by decide +kernel
theorem d_L_law_797 : decode b_L_law 797 = .ok (.goto 155, 3) := by decide +kernel
theorem d_L_law_800 : decode b_L_law 800 = .ok (.aload_n 1, 1) := by decide +kernel
theorem d_L_law_801 : decode b_L_law 801 = .ok (.aload_n 0, 1) := by decide +kernel
theorem d_L_law_802 : decode b_L_law 802 = .ok (.iload 4, 2) := by decide +kernel
theorem d_L_law_804 : decode b_L_law 804 = .ok (.iconst 1, 1) := by decide +kernel
theorem d_L_law_805 : decode b_L_law 805 = .ok (.iadd, 1) := by decide +kernel
theorem d_L_law_806 : decode b_L_law 806 = .ok (.iaload, 1) := by decide +kernel
theorem d_L_law_807 : decode b_L_law 807 = .ok (.invokestatic 120, 3) := by decide +kernel
theorem d_L_law_810 : decode b_L_law 810 = .ok (.istore 5, 2) := by decide +kernel
theorem d_L_law_812 : decode b_L_law 812 = .ok (.aload_n 2, 1) := by decide +kernel
theorem d_L_law_813 : decode b_L_law 813 = .ok (.aload_n 0, 1) := by decide +kernel
theorem d_L_law_814 : decode b_L_law 814 = .ok (.iload 4, 2) := by decide +kernel
theorem d_L_law_816 : decode b_L_law 816 = .ok (.iconst 1, 1) := by decide +kernel
theorem d_L_law_817 : decode b_L_law 817 = .ok (.iadd, 1) := by decide +kernel
theorem d_L_law_818 : decode b_L_law 818 = .ok (.iaload, 1) := by decide +kernel
theorem d_L_law_819 : decode b_L_law 819 = .ok (.invokevirtual 123, 3) := by decide +kernel
theorem d_L_law_822 : decode b_L_law 822 = .ok (.aload_n 2, 1) := by decide +kernel
theorem d_L_law_823 : decode b_L_law 823 = .ok (.invokevirtual 76, 3) := by decide +kernel
theorem d_L_law_826 : decode b_L_law 826 = .ok (.iload 5, 2) := by decide +kernel
theorem d_L_law_828 : decode b_L_law 828 = .ok (.if_icmp .eq 5, 3) := by decide +kernel
theorem d_L_law_831 : decode b_L_law 831 = .ok (.iconst 0, 1) := by decide +kernel
theorem d_L_law_832 : decode b_L_law 832 = .ok (.ireturn, 1) := by decide +kernel
theorem d_L_law_833 : decode b_L_law 833 = .ok (.goto 119, 3) := by decide +kernel
theorem d_L_law_836 : decode b_L_law 836 = .ok (.aload_n 1, 1) := by decide +kernel
theorem d_L_law_837 : decode b_L_law 837 = .ok (.aload_n 0, 1) := by decide +kernel
theorem d_L_law_838 : decode b_L_law 838 = .ok (.iload 4, 2) := by decide +kernel
theorem d_L_law_840 : decode b_L_law 840 = .ok (.iconst 1, 1) := by decide +kernel
theorem d_L_law_841 : decode b_L_law 841 = .ok (.iadd, 1) := by decide +kernel
theorem d_L_law_842 : decode b_L_law 842 = .ok (.iaload, 1) := by decide +kernel
theorem d_L_law_843 : decode b_L_law 843 = .ok (.aload_n 3, 1) := by decide +kernel
theorem d_L_law_844 : decode b_L_law 844 = .ok (.invokestatic 124, 3) := by decide +kernel
theorem d_L_law_847 : decode b_L_law 847 = .ok (.istore 5, 2) := by decide +kernel
theorem d_L_law_849 : decode b_L_law 849 = .ok (.aload_n 2, 1) := by decide +kernel
theorem d_L_law_850 : decode b_L_law 850 = .ok (.aload_n 0, 1) := by decide +kernel
theorem d_L_law_851 : decode b_L_law 851 = .ok (.iload 4, 2) := by decide +kernel
theorem d_L_law_853 : decode b_L_law 853 = .ok (.iconst 1, 1) := by decide +kernel
theorem d_L_law_854 : decode b_L_law 854 = .ok (.iadd, 1) := by decide +kernel
theorem d_L_law_855 : decode b_L_law 855 = .ok (.iaload, 1) := by decide +kernel
theorem d_L_law_856 : decode b_L_law 856 = .ok (.invokevirtual 126, 3) := by decide +kernel
theorem d_L_law_859 : decode b_L_law 859 = .ok (.istore 6, 2) := by decide +kernel
theorem d_L_law_861 : decode b_L_law 861 = .ok (.aload_n 2, 1) := by decide +kernel
theorem d_L_law_862 : decode b_L_law 862 = .ok (.invokevirtual 76, 3) := by decide +kernel
theorem d_L_law_865 : decode b_L_law 865 = .ok (.iload 5, 2) := by decide +kernel
theorem d_L_law_867 : decode b_L_law 867 = .ok (.if_icmp .eq 5, 3) := by decide +kernel
theorem d_L_law_870 : decode b_L_law 870 = .ok (.iconst 0, 1) := by decide +kernel
theorem d_L_law_871 : decode b_L_law 871 = .ok (.ireturn, 1) := by decide +kernel
theorem d_L_law_872 : decode b_L_law 872 = .ok (.iload 5, 2) := by decide +kernel
theorem d_L_law_874 : decode b_L_law 874 = .ok (.ifCond .ne 15, 3) := by decide +kernel
theorem d_L_law_877 : decode b_L_law 877 = .ok (.aload_n 3, 1) := by decide +kernel
theorem d_L_law_878 : decode b_L_law 878 = .ok (.iconst 0, 1) := by decide +kernel
theorem d_L_law_879 : decode b_L_law 879 = .ok (.laload, 1) := by decide +kernel
theorem d_L_law_880 : decode b_L_law 880 = .ok (.iload 6, 2) := by decide +kernel
theorem d_L_law_882 : decode b_L_law 882 = .ok (.i2l, 1) := by decide +kernel
theorem d_L_law_883 : decode b_L_law 883 = .ok (.lcmp, 1) := by decide +kernel
theorem d_L_law_884 : decode b_L_law 884 = .ok (.ifCond .eq 5, 3) := by decide +kernel
theorem d_L_law_887 : decode b_L_law 887 = .ok (.iconst 0, 1) := by decide +kernel
theorem d_L_law_888 : decode b_L_law 888 = .ok (.ireturn, 1) := by decide +kernel
theorem d_L_law_889 : decode b_L_law 889 = .ok (.goto 63, 3) := by decide +kernel
theorem d_L_law_892 : decode b_L_law 892 = .ok (.aload_n 1, 1) := by decide +kernel
theorem d_L_law_893 : decode b_L_law 893 = .ok (.aload_n 0, 1) := by decide +kernel
theorem d_L_law_894 : decode b_L_law 894 = .ok (.iload 4, 2) := by decide +kernel
theorem d_L_law_896 : decode b_L_law 896 = .ok (.iconst 1, 1) := by decide +kernel
theorem d_L_law_897 : decode b_L_law 897 = .ok (.iadd, 1) := by decide +kernel
theorem d_L_law_898 : decode b_L_law 898 = .ok (.iaload, 1) := by decide +kernel
theorem d_L_law_899 : decode b_L_law 899 = .ok (.invokestatic 127, 3) := by decide +kernel
theorem d_L_law_902 : decode b_L_law 902 = .ok (.istore 5, 2) := by decide +kernel
theorem d_L_law_904 : decode b_L_law 904 = .ok (.aload_n 2, 1) := by decide +kernel
theorem d_L_law_905 : decode b_L_law 905 = .ok (.aload_n 0, 1) := by decide +kernel
theorem d_L_law_906 : decode b_L_law 906 = .ok (.iload 4, 2) := by decide +kernel
theorem d_L_law_908 : decode b_L_law 908 = .ok (.iconst 1, 1) := by decide +kernel
theorem d_L_law_909 : decode b_L_law 909 = .ok (.iadd, 1) := by decide +kernel
theorem d_L_law_910 : decode b_L_law 910 = .ok (.iaload, 1) := by decide +kernel
theorem d_L_law_911 : decode b_L_law 911 = .ok (.invokevirtual 129, 3) := by decide +kernel
theorem d_L_law_914 : decode b_L_law 914 = .ok (.aload_n 2, 1) := by decide +kernel
theorem d_L_law_915 : decode b_L_law 915 = .ok (.invokevirtual 76, 3) := by decide +kernel
theorem d_L_law_918 : decode b_L_law 918 = .ok (.iload 5, 2) := by decide +kernel
theorem d_L_law_920 : decode b_L_law 920 = .ok (.if_icmp .eq 5, 3) := by decide +kernel
theorem d_L_law_923 : decode b_L_law 923 = .ok (.iconst 0, 1) := by decide +kernel
theorem d_L_law_924 : decode b_L_law 924 = .ok (.ireturn, 1) := by decide +kernel
theorem d_L_law_925 : decode b_L_law 925 = .ok (.goto 27, 3) := by decide +kernel
theorem d_L_law_928 : decode b_L_law 928 = .ok (.aload_n 1, 1) := by decide +kernel
theorem d_L_law_929 : decode b_L_law 929 = .ok (.invokestatic 130, 3) := by decide +kernel
theorem d_L_law_932 : decode b_L_law 932 = .ok (.istore 5, 2) := by decide +kernel
theorem d_L_law_934 : decode b_L_law 934 = .ok (.aload_n 2, 1) := by decide +kernel
theorem d_L_law_935 : decode b_L_law 935 = .ok (.invokevirtual 133, 3) := by decide +kernel
theorem d_L_law_938 : decode b_L_law 938 = .ok (.aload_n 2, 1) := by decide +kernel
theorem d_L_law_939 : decode b_L_law 939 = .ok (.invokevirtual 76, 3) := by decide +kernel
theorem d_L_law_942 : decode b_L_law 942 = .ok (.iload 5, 2) := by decide +kernel
theorem d_L_law_944 : decode b_L_law 944 = .ok (.if_icmp .eq 5, 3) := by decide +kernel
theorem d_L_law_947 : decode b_L_law 947 = .ok (.iconst 0, 1) := by decide +kernel
theorem d_L_law_948 : decode b_L_law 948 = .ok (.ireturn, 1) := by decide +kernel
theorem d_L_law_949 : decode b_L_law 949 = .ok (.goto 3, 3) := by decide +kernel
theorem d_L_law_952 : decode b_L_law 952 = .ok (.iinc 4 6, 3) := by decide +kernel
theorem d_L_law_955 : decode b_L_law 955 = .ok (.goto (-932), 3) := by decide +kernel
theorem d_L_law_958 : decode b_L_law 958 = .ok (.iconst 1, 1) := by decide +kernel
theorem d_L_law_959 : decode b_L_law 959 = .ok (.ireturn, 1) := by decide +kernel
end
section
-- numbers: an int by its value, a truth value as an int
def iI (z : Int) : Int32 := Int32.ofInt z
def bI (b : Bool) : Int32 := if b then 1 else 0
abbrev fw_b (z : Int) : Prop := -2147483648 ≤ z ∧ z < 2147483648
theorem iI_toInt {z : Int} (h : fw_b z) : (iI z).toInt = z := by
  unfold iI
  exact Int32.toInt_ofInt_of_le h.1 h.2
theorem iI_of (x : Int32) : x = iI x.toInt := (Int32.ofInt_toInt x).symm
theorem iI_b (x : Int32) : fw_b x.toInt := ⟨Int32.minValue_le_toInt x, by have := Int32.toInt_lt x; omega⟩
theorem iI_add (a b : Int) : iI a + iI b = iI (a + b) := (Int32.ofInt_add a b).symm
theorem iI_sub (a b : Int) : iI a - iI b = iI (a - b) := (Int32.ofInt_sub a b).symm
theorem iI_mul (a b : Int) : iI a * iI b = iI (a * b) := (Int32.ofInt_mul a b).symm
theorem iI_lt {a b : Int} (ha : fw_b a) (hb : fw_b b) : iI a < iI b ↔ a < b := by
  rw [Int32.lt_iff_toInt_lt, iI_toInt ha, iI_toInt hb]
theorem iI_le {a b : Int} (ha : fw_b a) (hb : fw_b b) : iI a ≤ iI b ↔ a ≤ b := by
  rw [Int32.le_iff_toInt_le, iI_toInt ha, iI_toInt hb]
theorem iI_eq {a b : Int} (ha : fw_b a) (hb : fw_b b) : iI a = iI b ↔ a = b := by
  rw [← Int32.toInt_inj, iI_toInt ha, iI_toInt hb]
theorem iI_0 : iI 0 = 0 := rfl
theorem iI_nat (n : Nat) : iI (n : Int) = nI n := Int32.ofInt_eq_ofNat
theorem bI_0 {b : Bool} : bI b = 0 ↔ b = false := by cases b <;> decide
theorem bI_n0 {b : Bool} : ¬ bI b = 0 ↔ b = true := by cases b <;> decide
theorem bI_nar (b : Bool) : narrow .boolean (.int (bI b)) = .int (bI b) := by cases b <;> rfl
theorem bI_fit (b : Bool) : fits .boolean (.int (bI b)) = true := by cases b <;> rfl
theorem bI_iI (b : Bool) : bI b = iI (if b then 1 else 0) := by cases b <;> rfl
/-- an index -/
theorem iI_in {z : Int} {j n : Nat} (hz : z = (j : Int)) (hj : j < n) (hn : n < 2147483648) : vp_in (iI z) n := by
  subst hz
  rw [iI_nat]
  exact vp_in_nI hj hn
theorem iI_cl {z : Int} {j : Nat} (hz : z = (j : Int)) (hj : j < 2147483648) : (iI z).toNatClampNeg = j := by
  subst hz
  rw [iI_nat]
  exact nI_clamp hj
-- cells: arrays of ints, truth values, longs, references
def fw_a (cA : ClassId) (n : Nat) (f : Nat → Int) : va_E := .inl (cA, n, .inl (fun j => iI (f j)))
def fw_z (cA : ClassId) (n : Nat) (f : Nat → Bool) : va_E := .inl (cA, n, .inl (fun j => bI (f j)))
def fw_l (cA : ClassId) (n : Nat) (f : Nat → Int64) : va_E := .inl (cA, n, .inr (.inl f))
def fw_r (cA : ClassId) (n : Nat) (f : Nat → Option Nat) : va_E := .inl (cA, n, .inr (.inr (.inr (.inr f))))
def fw_up {α : Type} (f : Nat → α) (k : Nat) (v : α) : Nat → α := fun j => if j = k then v else f j
theorem fw_upd (f : Nat → Int) (k : Nat) (v : Int) : upd (fun j => iI (f j)) k (iI v) = fun j => iI (fw_up f k v j) := by
  funext j; unfold upd fw_up; split <;> rfl
theorem fw_updB (f : Nat → Bool) (k : Nat) (v : Bool) : upd (fun j => bI (f j)) k (bI v) = fun j => bI (fw_up f k v j) := by
  funext j; unfold upd fw_up; split <;> rfl
theorem fw_updL (f : Nat → Int64) (k : Nat) (v : Int64) : vp_updL f k v = fw_up f k v := rfl
-- the words of private methods of a nest mate
def gn : List Cond := [Cond.methodLinkNest R_S 35 y_F_minutesAsBits R_F, Cond.methodLinkNest R_S 59 y_F_mayTake R_F, Cond.methodLinkNest R_Q 120 y_F_minutesAsBits R_F, Cond.methodLinkNest R_Q 138 y_F_mayTake R_F,
  Cond.declares (Bundle.initS "java/lang/RuntimeException"), Cond.declares (Bundle.initS "java/lang/Exception"), Cond.declares (Bundle.initS "java/lang/Throwable"),
  Cond.castable "java/lang/IllegalStateException" "java/lang/IllegalStateException", Cond.castable "java/lang/IllegalArgumentException" "java/lang/IllegalArgumentException", Cond.castable "java/lang/IndexOutOfBoundsException" "java/lang/IndexOutOfBoundsException", Cond.castable "java/lang/UnsupportedOperationException" "java/lang/UnsupportedOperationException"]
def fw_N (U : State) : Prop := ∀ w ∈ gn, va_Nw w U
theorem fw_N.warm {s U : State} (hW : s.WarmedH U.vm) (h : fw_N s) : fw_N U := by
  intro w hw
  have hz := h w hw
  simp only [gn, List.mem_cons, List.not_mem_nil, or_false] at hw
  rcases hw with rfl | rfl | rfl | rfl | rfl | rfl | rfl | rfl | rfl | rfl | rfl <;> first | exact va_Nw.warmM hW hz | exact va_Nw.warmD hW hz | exact va_Nw.warmC hW hz
theorem fw_N.calling {U : State} (h : fw_N U) (g : JFrame) (mk : MethodId) (a : Array Value) : fw_N (U.calling g mk a) := by
  intro w hw
  have hz := h w hw
  simp only [gn, List.mem_cons, List.not_mem_nil, or_false] at hw
  rcases hw with rfl | rfl | rfl | rfl | rfl | rfl | rfl | rfl | rfl | rfl | rfl <;> exact va_Nw.same rfl rfl hz
-- contracts' starts
def fw_Pc (D : va_G) (av : List Value) (ws : va_W) (tys : List (ClassId × FieldType)) (sz : Nat) : Array Value → State → Prop := va_Pc av (fun U => U.heap.size = sz ∧ va_P D cls_ ws U.heap ∧ va_K D cls_ tys U ∧ va_D (fun _ => True) ws ∧ fw_N U)
def fw_Pr (D : va_G) (av : List Value) (ws : va_W) (tys : List (ClassId × FieldType)) : Array Value → State → Prop := va_Pc av (fun U => va_P D cls_ ws U.heap ∧ va_K D cls_ tys U ∧ fw_N U)
theorem fw_Pc_blind {D : va_G} {av : List Value} {ws : va_W} {tys : List (ClassId × FieldType)} {sz : Nat} : FrameBlind (fw_Pc D av ws tys sz) := by
  intro a U g mk h
  obtain ⟨h0, h1, h2, h3, h4, h5⟩ := h
  exact ⟨h0, h1, h2, va_K.moved (u := U) (U := U.calling g mk a) (Vm.Alike.refl U.vm) h3, h4, h5.calling g mk a⟩
theorem fw_Pr_blind {D : va_G} {av : List Value} {ws : va_W} {tys : List (ClassId × FieldType)} : FrameBlind (fw_Pr D av ws tys) := by
  intro a U g mk h
  obtain ⟨h0, h2, h3, h5⟩ := h
  exact ⟨h0, h2, va_K.moved (u := U) (U := U.calling g mk a) (Vm.Alike.refl U.vm) h3, h5.calling g mk a⟩
-- contracts' ends
def fw_Qv (B : Heap → Prop) (A : Nat → Prop) : Array Value → State → Outcome → State → Prop := fun _ st o t => (o = .returned none ∧ B t.heap) ∧ va_F A st t
def fw_Qi (r : Int32) (B : Heap → Prop) (A : Nat → Prop) : Array Value → State → Outcome → State → Prop := fun _ st o t => (o = .returned (some (.int r)) ∧ B t.heap) ∧ va_F A st t
def fw_Rv (v : Value) : Array Value → State → Outcome → State → Prop := fun _ st o t => o = .returned (some v) ∧ t.heap = st.heap
-- a callee's cells put back
def fw_put : va_W → List Nat → va_W → va_W
  | ws, i :: is, c :: cs => fw_put (ws.set i c) is cs
  | ws, _, _ => ws
theorem fw_put_D {A : Nat → Prop} : ∀ (is : List Nat) (wc w1 ws : va_W), is.map (fun i => ws[i]?) = wc.map some → va_nd is = true → w1.map Prod.fst = wc.map Prod.fst → va_D A ws → va_D A (fw_put ws is w1)
  | [], _, _, ws, _, _, _, h => by unfold fw_put; exact h
  | i :: is, [], _, ws, h0, _, _, _ => by simp at h0
  | i :: is, c :: wc, [], ws, _, _, h2, _ => by simp at h2
  | i :: is, (a, e0) :: wc, (b, e) :: w1, ws, h0, hn, h2, h => by
    simp only [List.map_cons, List.cons.injEq] at h0 h2
    simp only [va_nd, Bool.and_eq_true, decide_eq_true_eq] at hn
    obtain ⟨h0a, h0b⟩ := h0
    obtain ⟨rfl, h2b⟩ := h2
    unfold fw_put
    refine fw_put_D is wc w1 _ ?_ hn.2 h2b (h.set (e := e) h0a)
    rw [← h0b]
    refine List.map_congr_left fun k hk => ?_
    have : i ≠ k := fun q => hn.1 (q ▸ hk)
    rw [List.getElem?_set_ne this]
theorem fw_put_get : ∀ (is : List Nat) (wc w1 ws : va_W), is.map (fun i => ws[i]?) = wc.map some → va_nd is = true → w1.map Prod.fst = wc.map Prod.fst → ∀ (k : Nat) (q : Nat × va_E), (fw_put ws is w1)[k]? = some q → (k ∉ is ∧ ws[k]? = some q) ∨ ∃ j : Nat, w1[j]? = some q
  | [], _, _, ws, _, _, _, k, q, hq => by unfold fw_put at hq; exact Or.inl ⟨by simp, hq⟩
  | i :: is, [], _, ws, h0, _, _, _, _, _ => by simp at h0
  | i :: is, c :: wc, [], ws, _, _, h2, _, _, _ => by simp at h2
  | i :: is, (a, e0) :: wc, (b, e) :: w1, ws, h0, hn, h2, k, q, hq => by
    simp only [List.map_cons, List.cons.injEq] at h0 h2
    simp only [va_nd, Bool.and_eq_true, decide_eq_true_eq] at hn
    obtain ⟨h0a, h0b⟩ := h0
    obtain ⟨rfl, h2b⟩ := h2
    unfold fw_put at hq
    have hl : i < ws.length := (List.getElem?_eq_some_iff.mp h0a).1
    rcases fw_put_get is wc w1 _ (by
      rw [← h0b]
      refine List.map_congr_left fun k hk => ?_
      have : i ≠ k := fun q => hn.1 (q ▸ hk)
      rw [List.getElem?_set_ne this]) hn.2 h2b k q hq with ⟨h1, h3⟩ | ⟨j, hj⟩
    · by_cases hk : i = k
      · subst hk
        rw [List.getElem?_set_self hl] at h3
        exact Or.inr ⟨0, h3⟩
      · rw [List.getElem?_set_ne hk] at h3
        exact Or.inl ⟨by simp only [List.mem_cons, not_or]; exact ⟨fun q => hk q.symm, h1⟩, h3⟩
    · exact Or.inr ⟨j + 1, hj⟩
theorem fw_join {A : Nat → Prop} {D : va_G} {cl : List vw_C} {ws wc w1 : va_W} {H H1 : Heap} (hP : va_P D cl ws H) (hD : va_D A ws) (is : List Nat) (hC : is.map (fun i => ws[i]?) = wc.map some) (hn : va_nd is = true) (ha : w1.map Prod.fst = wc.map Prod.fst)
    (hk : ∀ q : Nat, q < H.size → ¬ va_A wc H.size q → H1[q]? = H[q]?) (hP1 : va_P D cl w1 H1) : va_P D cl (fw_put ws is w1) H1 ∧ va_D A (fw_put ws is w1) := by
  refine ⟨fun k q hq => ?_, fw_put_D is wc w1 ws hC hn ha hD⟩
  rcases fw_put_get is wc w1 ws hC hn ha k q hq with ⟨h1, h2⟩ | ⟨j, hj⟩
  · have hl := (hP k q h2).lt
    refine (hP k q h2).kept (hk q.1 hl ?_)
    rintro (⟨j, e, h⟩ | h)
    · have h3 : (is.map (fun i => ws[i]?))[j]? = some (some (q.1, e)) := by rw [hC, List.getElem?_map, h]; rfl
      rw [List.getElem?_map] at h3
      cases hi : is[j]? with
      | none => rw [hi] at h3; cases h3
      | some i =>
        rw [hi] at h3
        have h4 := hD.1 k i q (q.1, e) h2 (Option.some.inj h3) rfl
        subst h4
        exact h1 (List.mem_of_getElem? hi)
    · omega
  · exact hP1 j q hj
end
section
theorem fw_b0 : fw_b 0 := ⟨by decide, by decide⟩
section FWR
variable {p : Program} {l : Launch} {e : Env} {R : Room} {s : State} {m : MethodId} {args : Array Value} {below : List Frame} {meth : Method} {c : Code} {H : Heap} {locs : List Loc} {cells slots : Nat} {Q : State → Prop}
variable {cc : ByteArray} {pc : Nat} {ls : Array Slot} {rest : List Value} {D : va_G} {A : Nat → Prop} {a : Nat} {tys : List (ClassId × FieldType)} {ws : va_W} {H0 : Heap}
theorem fw_cast {x y : Value} (h : x = y) (k : W p l e R s m args below meth c H locs cells slots Q (F0 m pc ls (y :: rest))) : W p l e R s m args below meth c H locs cells slots Q (F0 m pc ls (x :: rest)) := by rw [h]; exact k
theorem fw_iadd (hx : p.tables.exec = Jvm.exec) (hb : c.code = cc) {x y : Int} (hd : decode cc pc = .ok (.iadd, 1)) (k : W p l e R s m args below meth c H locs cells slots Q (F0 m (pc + 1) ls (.int (iI (x + y)) :: rest))) : W p l e R s m args below meth c H locs cells slots Q (F0 m pc ls (.int (iI y) :: .int (iI x) :: rest)) :=
  lv_iadd hx hb hd (by rw [iI_add]; exact k)
theorem fw_isub (hx : p.tables.exec = Jvm.exec) (hb : c.code = cc) {x y : Int} (hd : decode cc pc = .ok (.isub, 1)) (k : W p l e R s m args below meth c H locs cells slots Q (F0 m (pc + 1) ls (.int (iI (x - y)) :: rest))) : W p l e R s m args below meth c H locs cells slots Q (F0 m pc ls (.int (iI y) :: .int (iI x) :: rest)) :=
  lv_isub hx hb hd (by rw [iI_sub]; exact k)
theorem fw_imul (hx : p.tables.exec = Jvm.exec) (hb : c.code = cc) {x y : Int} (hd : decode cc pc = .ok (.imul, 1)) (k : W p l e R s m args below meth c H locs cells slots Q (F0 m (pc + 1) ls (.int (iI (x * y)) :: rest))) : W p l e R s m args below meth c H locs cells slots Q (F0 m pc ls (.int (iI y) :: .int (iI x) :: rest)) :=
  lv_imul hx hb hd (by rw [iI_mul]; exact k)
-- compares
theorem fw_icmp_lt (hx : p.tables.exec = Jvm.exec) (hb : c.code = cc) {x y : Int} {off : Int} {tgt : Nat} (hd : decode cc pc = .ok (.if_icmp .lt off, 3)) (ht : (pc : Int) + off = (tgt : Int)) (h1 : fw_b x) (h2 : fw_b y)
    (kt : x < y → W p l e R s m args below meth c H locs cells slots Q (F0 m tgt ls rest)) (kf : ¬ x < y → W p l e R s m args below meth c H locs cells slots Q (F0 m (pc + 3) ls rest)) : W p l e R s m args below meth c H locs cells slots Q (F0 m pc ls (.int (iI y) :: .int (iI x) :: rest)) :=
  lv_icmp_lt hx hb hd ht (fun h => kt ((iI_lt h1 h2).mp h)) (fun h => kf (fun q => h ((iI_lt h1 h2).mpr q)))
theorem fw_icmp_le (hx : p.tables.exec = Jvm.exec) (hb : c.code = cc) {x y : Int} {off : Int} {tgt : Nat} (hd : decode cc pc = .ok (.if_icmp .le off, 3)) (ht : (pc : Int) + off = (tgt : Int)) (h1 : fw_b x) (h2 : fw_b y)
    (kt : x ≤ y → W p l e R s m args below meth c H locs cells slots Q (F0 m tgt ls rest)) (kf : ¬ x ≤ y → W p l e R s m args below meth c H locs cells slots Q (F0 m (pc + 3) ls rest)) : W p l e R s m args below meth c H locs cells slots Q (F0 m pc ls (.int (iI y) :: .int (iI x) :: rest)) :=
  lv_icmp_le hx hb hd ht (fun h => kt ((iI_le h1 h2).mp h)) (fun h => kf (fun q => h ((iI_le h1 h2).mpr q)))
theorem fw_icmp_ge (hx : p.tables.exec = Jvm.exec) (hb : c.code = cc) {x y : Int} {off : Int} {tgt : Nat} (hd : decode cc pc = .ok (.if_icmp .ge off, 3)) (ht : (pc : Int) + off = (tgt : Int)) (h1 : fw_b x) (h2 : fw_b y)
    (kt : y ≤ x → W p l e R s m args below meth c H locs cells slots Q (F0 m tgt ls rest)) (kf : ¬ y ≤ x → W p l e R s m args below meth c H locs cells slots Q (F0 m (pc + 3) ls rest)) : W p l e R s m args below meth c H locs cells slots Q (F0 m pc ls (.int (iI y) :: .int (iI x) :: rest)) :=
  lv_icmp_ge hx hb hd ht (fun h => kt ((iI_le h2 h1).mp h)) (fun h => kf (fun q => h ((iI_le h2 h1).mpr q)))
theorem fw_icmp_gt (hx : p.tables.exec = Jvm.exec) (hb : c.code = cc) {x y : Int} {off : Int} {tgt : Nat} (hd : decode cc pc = .ok (.if_icmp .gt off, 3)) (ht : (pc : Int) + off = (tgt : Int)) (h1 : fw_b x) (h2 : fw_b y)
    (kt : y < x → W p l e R s m args below meth c H locs cells slots Q (F0 m tgt ls rest)) (kf : ¬ y < x → W p l e R s m args below meth c H locs cells slots Q (F0 m (pc + 3) ls rest)) : W p l e R s m args below meth c H locs cells slots Q (F0 m pc ls (.int (iI y) :: .int (iI x) :: rest)) :=
  lv_icmp_gt hx hb hd ht (fun h => kt ((iI_lt h2 h1).mp h)) (fun h => kf (fun q => h ((iI_lt h2 h1).mpr q)))
theorem fw_icmp_eq (hx : p.tables.exec = Jvm.exec) (hb : c.code = cc) {x y : Int} {off : Int} {tgt : Nat} (hd : decode cc pc = .ok (.if_icmp .eq off, 3)) (ht : (pc : Int) + off = (tgt : Int)) (h1 : fw_b x) (h2 : fw_b y)
    (kt : x = y → W p l e R s m args below meth c H locs cells slots Q (F0 m tgt ls rest)) (kf : ¬ x = y → W p l e R s m args below meth c H locs cells slots Q (F0 m (pc + 3) ls rest)) : W p l e R s m args below meth c H locs cells slots Q (F0 m pc ls (.int (iI y) :: .int (iI x) :: rest)) :=
  lv_icmp_eq hx hb hd ht (fun h => kt ((iI_eq h1 h2).mp h)) (fun h => kf (fun q => h ((iI_eq h1 h2).mpr q)))
theorem fw_icmp_ne (hx : p.tables.exec = Jvm.exec) (hb : c.code = cc) {x y : Int} {off : Int} {tgt : Nat} (hd : decode cc pc = .ok (.if_icmp .ne off, 3)) (ht : (pc : Int) + off = (tgt : Int)) (h1 : fw_b x) (h2 : fw_b y)
    (kt : ¬ x = y → W p l e R s m args below meth c H locs cells slots Q (F0 m tgt ls rest)) (kf : x = y → W p l e R s m args below meth c H locs cells slots Q (F0 m (pc + 3) ls rest)) : W p l e R s m args below meth c H locs cells slots Q (F0 m pc ls (.int (iI y) :: .int (iI x) :: rest)) :=
  lv_icmp_ne hx hb hd ht (fun h => kt (fun q => h ((iI_eq h1 h2).mpr q))) (fun h => kf ((iI_eq h1 h2).mp h))
theorem fw_if_eq (hx : p.tables.exec = Jvm.exec) (hb : c.code = cc) {x : Int} {off : Int} {tgt : Nat} (hd : decode cc pc = .ok (.ifCond .eq off, 3)) (ht : (pc : Int) + off = (tgt : Int)) (h1 : fw_b x)
    (kt : x = 0 → W p l e R s m args below meth c H locs cells slots Q (F0 m tgt ls rest)) (kf : ¬ x = 0 → W p l e R s m args below meth c H locs cells slots Q (F0 m (pc + 3) ls rest)) : W p l e R s m args below meth c H locs cells slots Q (F0 m pc ls (.int (iI x) :: rest)) :=
  lv_if_eq hx hb hd ht (fun h => kt ((iI_eq h1 fw_b0).mp h)) (fun h => kf (fun q => h ((iI_eq h1 fw_b0).mpr q)))
theorem fw_if_ne (hx : p.tables.exec = Jvm.exec) (hb : c.code = cc) {x : Int} {off : Int} {tgt : Nat} (hd : decode cc pc = .ok (.ifCond .ne off, 3)) (ht : (pc : Int) + off = (tgt : Int)) (h1 : fw_b x)
    (kt : ¬ x = 0 → W p l e R s m args below meth c H locs cells slots Q (F0 m tgt ls rest)) (kf : x = 0 → W p l e R s m args below meth c H locs cells slots Q (F0 m (pc + 3) ls rest)) : W p l e R s m args below meth c H locs cells slots Q (F0 m pc ls (.int (iI x) :: rest)) :=
  lv_if_ne hx hb hd ht (fun h => kt (fun q => h ((iI_eq h1 fw_b0).mpr q))) (fun h => kf ((iI_eq h1 fw_b0).mp h))
theorem fw_if_lt (hx : p.tables.exec = Jvm.exec) (hb : c.code = cc) {x : Int} {off : Int} {tgt : Nat} (hd : decode cc pc = .ok (.ifCond .lt off, 3)) (ht : (pc : Int) + off = (tgt : Int)) (h1 : fw_b x)
    (kt : x < 0 → W p l e R s m args below meth c H locs cells slots Q (F0 m tgt ls rest)) (kf : ¬ x < 0 → W p l e R s m args below meth c H locs cells slots Q (F0 m (pc + 3) ls rest)) : W p l e R s m args below meth c H locs cells slots Q (F0 m pc ls (.int (iI x) :: rest)) :=
  lv_if_lt hx hb hd ht (fun h => kt ((iI_lt h1 fw_b0).mp h)) (fun h => kf (fun q => h ((iI_lt h1 fw_b0).mpr q)))
theorem fw_if_ge (hx : p.tables.exec = Jvm.exec) (hb : c.code = cc) {x : Int} {off : Int} {tgt : Nat} (hd : decode cc pc = .ok (.ifCond .ge off, 3)) (ht : (pc : Int) + off = (tgt : Int)) (h1 : fw_b x)
    (kt : 0 ≤ x → W p l e R s m args below meth c H locs cells slots Q (F0 m tgt ls rest)) (kf : ¬ 0 ≤ x → W p l e R s m args below meth c H locs cells slots Q (F0 m (pc + 3) ls rest)) : W p l e R s m args below meth c H locs cells slots Q (F0 m pc ls (.int (iI x) :: rest)) :=
  lv_if_ge hx hb hd ht (fun h => kt ((iI_le fw_b0 h1).mp h)) (fun h => kf (fun q => h ((iI_le fw_b0 h1).mpr q)))
theorem fw_if_le (hx : p.tables.exec = Jvm.exec) (hb : c.code = cc) {x : Int} {off : Int} {tgt : Nat} (hd : decode cc pc = .ok (.ifCond .le off, 3)) (ht : (pc : Int) + off = (tgt : Int)) (h1 : fw_b x)
    (kt : x ≤ 0 → W p l e R s m args below meth c H locs cells slots Q (F0 m tgt ls rest)) (kf : ¬ x ≤ 0 → W p l e R s m args below meth c H locs cells slots Q (F0 m (pc + 3) ls rest)) : W p l e R s m args below meth c H locs cells slots Q (F0 m pc ls (.int (iI x) :: rest)) :=
  lv_if_le hx hb hd ht (fun h => kt ((iI_le h1 fw_b0).mp h)) (fun h => kf (fun q => h ((iI_le h1 fw_b0).mpr q)))
theorem fw_bif_eq (hx : p.tables.exec = Jvm.exec) (hb : c.code = cc) {x : Bool} {off : Int} {tgt : Nat} (hd : decode cc pc = .ok (.ifCond .eq off, 3)) (ht : (pc : Int) + off = (tgt : Int))
    (kt : x = false → W p l e R s m args below meth c H locs cells slots Q (F0 m tgt ls rest)) (kf : x = true → W p l e R s m args below meth c H locs cells slots Q (F0 m (pc + 3) ls rest)) : W p l e R s m args below meth c H locs cells slots Q (F0 m pc ls (.int (bI x) :: rest)) :=
  lv_if_eq hx hb hd ht (fun h => kt (bI_0.mp h)) (fun h => kf (bI_n0.mp h))
theorem fw_bif_ne (hx : p.tables.exec = Jvm.exec) (hb : c.code = cc) {x : Bool} {off : Int} {tgt : Nat} (hd : decode cc pc = .ok (.ifCond .ne off, 3)) (ht : (pc : Int) + off = (tgt : Int))
    (kt : x = true → W p l e R s m args below meth c H locs cells slots Q (F0 m tgt ls rest)) (kf : x = false → W p l e R s m args below meth c H locs cells slots Q (F0 m (pc + 3) ls rest)) : W p l e R s m args below meth c H locs cells slots Q (F0 m pc ls (.int (bI x) :: rest)) :=
  lv_if_ne hx hb hd ht (fun h => kt (bI_n0.mp h)) (fun h => kf (bI_0.mp h))
-- arrays
theorem fw_iald (hx : p.tables.exec = Jvm.exec) (hb : c.code = cc) (hK : va_K D cls_ tys s) (hP : va_P D cls_ ws H) (q0 t0 : Nat) {cA : ClassId} {n : Nat} {f : Nat → Int} (ha : ws[q0]? = some (a, fw_a cA n f)) (ht : tys[t0]? = some (cA, .int)) {z : Int} (j : Nat) (hz : z = (j : Int)) (hj : j < n) (hn : n < 2147483648) (hd : decode cc pc = .ok (.iaload, 1))
    (kk : W p l e R s m args below meth c H locs cells slots Q (F0 m (pc + 1) ls (.int (iI (f j)) :: rest))) : W p l e R s m args below meth c H locs cells slots Q (F0 m pc ls (.int (iI z) :: .ref a :: rest)) := by
  refine va_iald hx hb hK hP q0 t0 (cA := cA) (n := n) (f := fun j => iI (f j)) ha ht (iI_in hz hj hn) hd ?_
  rw [iI_cl hz (by omega)]
  exact kk
theorem fw_zald (hx : p.tables.exec = Jvm.exec) (hb : c.code = cc) (hK : va_K D cls_ tys s) (hP : va_P D cls_ ws H) (q0 t0 : Nat) {cA : ClassId} {n : Nat} {f : Nat → Bool} (ha : ws[q0]? = some (a, fw_z cA n f)) (ht : tys[t0]? = some (cA, .boolean)) {z : Int} (j : Nat) (hz : z = (j : Int)) (hj : j < n) (hn : n < 2147483648) (hd : decode cc pc = .ok (.baload, 1))
    (kk : W p l e R s m args below meth c H locs cells slots Q (F0 m (pc + 1) ls (.int (bI (f j)) :: rest))) : W p l e R s m args below meth c H locs cells slots Q (F0 m pc ls (.int (iI z) :: .ref a :: rest)) := by
  refine va_zald hx hb hK hP q0 t0 (cA := cA) (n := n) (f := fun j => bI (f j)) ha ht (iI_in hz hj hn) hd ?_
  rw [iI_cl hz (by omega)]
  exact kk
theorem fw_lald (hx : p.tables.exec = Jvm.exec) (hb : c.code = cc) (hK : va_K D cls_ tys s) (hP : va_P D cls_ ws H) (q0 t0 : Nat) {cA : ClassId} {n : Nat} {f : Nat → Int64} (ha : ws[q0]? = some (a, fw_l cA n f)) (ht : tys[t0]? = some (cA, .long)) {z : Int} (j : Nat) (hz : z = (j : Int)) (hj : j < n) (hn : n < 2147483648) (hd : decode cc pc = .ok (.laload, 1))
    (kk : W p l e R s m args below meth c H locs cells slots Q (F0 m (pc + 1) ls (.long (f j) :: rest))) : W p l e R s m args below meth c H locs cells slots Q (F0 m pc ls (.int (iI z) :: .ref a :: rest)) := by
  refine va_lald hx hb hK hP q0 t0 (cA := cA) (n := n) (f := f) ha ht (iI_in hz hj hn) hd ?_
  rw [iI_cl hz (by omega)]
  exact kk
theorem fw_aldq (hx : p.tables.exec = Jvm.exec) (hb : c.code = cc) (hK : va_K D cls_ tys s) (hP : va_P D cls_ ws H) (q0 t0 : Nat) {cA : ClassId} {C : String} {n : Nat} {f : Nat → Option Nat} (ha : ws[q0]? = some (a, fw_r cA n f)) (ht : tys[t0]? = some (cA, .object C)) {z : Int} (j : Nat) (hz : z = (j : Int)) (hj : j < n) (hn : n < 2147483648) (hd : decode cc pc = .ok (.aaload, 1))
    (kk : W p l e R s m args below meth c H locs cells slots Q (F0 m (pc + 1) ls (va_rf (f j) :: rest))) : W p l e R s m args below meth c H locs cells slots Q (F0 m pc ls (.int (iI z) :: .ref a :: rest)) := by
  refine va_aldq hx hb hK hP q0 t0 (cA := cA) (n := n) (f := f) ha ht (iI_in hz hj hn) hd ?_
  rw [iI_cl hz (by omega)]
  exact kk
theorem fw_iast (hx : p.tables.exec = Jvm.exec) (hb : c.code = cc) (hK : va_K D cls_ tys s) (hP : va_P D cls_ ws H) (hD : va_D A ws) (hS : va_S A H0 H locs) (q0 t0 : Nat) {cA : ClassId} {n : Nat} {f : Nat → Int} (ha : ws[q0]? = some (a, fw_a cA n f)) (ht : tys[t0]? = some (cA, .int)) {z v : Int} (j : Nat) (hz : z = (j : Int)) (hj : j < n) (hn : n < 2147483648) (hd : decode cc pc = .ok (.iastore, 1))
    (kk : ∀ (H1 : Heap) (locs1 : List Loc), va_P D cls_ (ws.set q0 (a, fw_a cA n (fw_up f j v))) H1 → va_D A (ws.set q0 (a, fw_a cA n (fw_up f j v))) → va_S A H0 H1 locs1 → W p l e R s m args below meth c H1 locs1 cells slots Q (F0 m (pc + 1) ls rest)) : W p l e R s m args below meth c H locs cells slots Q (F0 m pc ls (.int (iI v) :: .int (iI z) :: .ref a :: rest)) := by
  refine va_iast hx hb hK hP hD hS q0 t0 (cA := cA) (n := n) (f := fun j => iI (f j)) ha ht (iI_in hz hj hn) hd ?_
  rw [iI_cl hz (by omega), fw_upd]
  exact kk
theorem fw_zast (hx : p.tables.exec = Jvm.exec) (hb : c.code = cc) (hK : va_K D cls_ tys s) (hP : va_P D cls_ ws H) (hD : va_D A ws) (hS : va_S A H0 H locs) (q0 t0 : Nat) {cA : ClassId} {n : Nat} {f : Nat → Bool} (ha : ws[q0]? = some (a, fw_z cA n f)) (ht : tys[t0]? = some (cA, .boolean)) {z : Int} {v : Bool} (j : Nat) (hz : z = (j : Int)) (hj : j < n) (hn : n < 2147483648) (hd : decode cc pc = .ok (.bastore, 1))
    (kk : ∀ (H1 : Heap) (locs1 : List Loc), va_P D cls_ (ws.set q0 (a, fw_z cA n (fw_up f j v))) H1 → va_D A (ws.set q0 (a, fw_z cA n (fw_up f j v))) → va_S A H0 H1 locs1 → W p l e R s m args below meth c H1 locs1 cells slots Q (F0 m (pc + 1) ls rest)) : W p l e R s m args below meth c H locs cells slots Q (F0 m pc ls (.int (bI v) :: .int (iI z) :: .ref a :: rest)) := by
  refine va_zast hx hb hK hP hD hS q0 t0 (cA := cA) (n := n) (f := fun j => bI (f j)) ha ht (iI_in hz hj hn) hd ?_
  have e1 : vp_nar .boolean (bI v) = bI v := by cases v <;> rfl
  rw [iI_cl hz (by omega), e1, fw_updB]
  exact kk
theorem fw_last (hx : p.tables.exec = Jvm.exec) (hb : c.code = cc) (hK : va_K D cls_ tys s) (hP : va_P D cls_ ws H) (hD : va_D A ws) (hS : va_S A H0 H locs) (q0 t0 : Nat) {cA : ClassId} {n : Nat} {f : Nat → Int64} (ha : ws[q0]? = some (a, fw_l cA n f)) (ht : tys[t0]? = some (cA, .long)) {z : Int} {v : Int64} (j : Nat) (hz : z = (j : Int)) (hj : j < n) (hn : n < 2147483648) (hd : decode cc pc = .ok (.lastore, 1))
    (kk : ∀ (H1 : Heap) (locs1 : List Loc), va_P D cls_ (ws.set q0 (a, fw_l cA n (fw_up f j v))) H1 → va_D A (ws.set q0 (a, fw_l cA n (fw_up f j v))) → va_S A H0 H1 locs1 → W p l e R s m args below meth c H1 locs1 cells slots Q (F0 m (pc + 1) ls rest)) : W p l e R s m args below meth c H locs cells slots Q (F0 m pc ls (.long v :: .int (iI z) :: .ref a :: rest)) := by
  refine va_last hx hb hK hP hD hS q0 t0 (cA := cA) (n := n) (f := f) ha ht (iI_in hz hj hn) hd ?_
  rw [iI_cl hz (by omega), fw_updL]
  exact kk
-- ends
theorem fw_vret {B : Heap → Prop} (hx : p.tables.exec = Jvm.exec) (hb : c.code = cc) (hr : meth.sig.returnType = none) (hlocks : meth.locks = false) (hS : va_S A s.heap H locs) (hB : B H) (hd : decode cc pc = .ok (.return_, 1)) : W p l e R s m args below meth c H locs cells slots (MQ below (fw_Qv B A) args s cells slots A) (F0 m pc ls []) :=
  W.vret hx hb hr (fun t ht hW => ⟨⟨rfl, by rw [ht]; exact hB⟩, hS.F ht⟩) hS.2.2 hd hlocks
theorem fw_iret {B : Heap → Prop} {r v : Int32} (hx : p.tables.exec = Jvm.exec) (hb : c.code = cc) (hr : meth.sig.returnType = some .int) (hlocks : meth.locks = false) (hS : va_S A s.heap H locs) (hB : B H) (hv : v = r) (hd : decode cc pc = .ok (.ireturn, 1)) : W p l e R s m args below meth c H locs cells slots (MQ below (fw_Qi r B A) args s cells slots A) (F0 m pc ls [.int v]) := by
  subst hv
  exact W.iret hx hb hr (fun t ht hW => ⟨⟨rfl, by rw [ht]; exact hB⟩, hS.F ht⟩) hS.2.2 hd hlocks
theorem fw_zret {B : Heap → Prop} {r v : Bool} (hx : p.tables.exec = Jvm.exec) (hb : c.code = cc) (hr : meth.sig.returnType = some .boolean) (hlocks : meth.locks = false) (hS : va_S A s.heap H locs) (hB : B H) (hv : v = r) (hd : decode cc pc = .ok (.ireturn, 1)) : W p l e R s m args below meth c H locs cells slots (MQ below (fw_Qi (bI r) B A) args s cells slots A) (F0 m pc ls [.int (bI v)]) := by
  subst hv
  exact W.zret hx hb hr (bI_nar v) (fun t ht hW => ⟨⟨rfl, by rw [ht]; exact hB⟩, hS.F ht⟩) hS.2.2 hd hlocks
theorem fw_Riret {r v : Int32} (hx : p.tables.exec = Jvm.exec) (hb : c.code = cc) (hr : meth.sig.returnType = some .int) (hlocks : meth.locks = false) (hv : v = r) (hd : decode cc pc = .ok (.ireturn, 1)) : W p l e R s m args below meth c s.heap [] cells slots (MQ below (fw_Rv (.int r)) args s cells slots (fun _ => False)) (F0 m pc ls [.int v]) := by
  subst hv
  exact W.iret hx hb hr (fun t ht hW => ⟨rfl, ht⟩) (fun _ h => nomatch h) hd hlocks
theorem fw_Rzret {r v : Bool} (hx : p.tables.exec = Jvm.exec) (hb : c.code = cc) (hr : meth.sig.returnType = some .boolean) (hlocks : meth.locks = false) (hv : v = r) (hd : decode cc pc = .ok (.ireturn, 1)) : W p l e R s m args below meth c s.heap [] cells slots (MQ below (fw_Rv (.int (bI r))) args s cells slots (fun _ => False)) (F0 m pc ls [.int (bI v)]) := by
  subst hv
  exact W.zret hx hb hr (bI_nar v) (fun t ht hW => ⟨rfl, ht⟩) (fun _ h => nomatch h) hd hlocks
theorem fw_Rlret {r v : Int64} (hx : p.tables.exec = Jvm.exec) (hb : c.code = cc) (hr : meth.sig.returnType = some .long) (hlocks : meth.locks = false) (hv : v = r) (hd : decode cc pc = .ok (.lreturn, 1)) : W p l e R s m args below meth c s.heap [] cells slots (MQ below (fw_Rv (.long r)) args s cells slots (fun _ => False)) (F0 m pc ls [.long v]) := by
  subst hv
  exact W.lret hx hb hr (fun t ht hW => ⟨rfl, ht⟩) (fun _ h => nomatch h) hd hlocks
-- calls
theorem fw_callR {v : Value} {st0 : List Value} {av : Array Value} (hr : CallRun p l e R s m args below meth c H locs cells slots 0 0 (F0 m pc ls st0) rest (fw_Rv v av) (fun _ => False))
    (kk : W p l e R s m args below meth c H locs cells slots Q (F0 m (pc + 3) ls (v :: rest))) : W p l e R s m args below meth c H locs cells slots Q (F0 m pc ls st0) := by
  intro T hT X
  obtain ⟨v', st₀, t, T', L, h0, X', hL, e1, ⟨hv, hh⟩, st⟩ := hr T hT X
  cases hv
  obtain ⟨t2, a1, b1⟩ := kk T' (by rw [e1, hh, h0]) (Stand.forget X' (fun q h => (hL q h).elim))
  exact ⟨t2, st t2 a1, b1⟩
theorem fw_callv {B : Heap → Prop} {st0 : List Value} {av : Array Value} {A1 : Nat → Prop} {mc ms : Nat} (hr : va_Run p l e R s m args below meth c H locs cells slots mc ms (F0 m pc ls st0) rest (fw_Qv B A1 av) A1) (hS : va_S A H0 H locs) (hA1 : ∀ q, A1 q → A q)
    (kk : ∀ (H1 : Heap) (locs1 : List Loc), B H1 → H.size ≤ H1.size → (∀ q : Nat, q < H.size → ¬ A1 q → H1[q]? = H[q]?) → va_S A H0 H1 locs1 → W p l e R s m args below meth c H1 locs1 (cells + mc) (slots + ms) Q (F0 m (pc + 3) ls rest)) : W p l e R s m args below meth c H locs cells slots Q (F0 m pc ls st0) := by
  intro T hT X
  obtain ⟨v, st₀, t, T', L, h0, X', hL, e1, e2, ⟨⟨hv, hb⟩, hF⟩, st⟩ := hr T hT X
  cases hv
  obtain ⟨k1, k2, k3⟩ := vx_keep h0 e1 hS (fun q _ h => hA1 q h) hA1 hL hF
  obtain ⟨t2, a1, b1⟩ := kk T'.heap (locs ++ L) (by rw [e1]; exact hb) k1 k2 k3 T' rfl X'
  exact ⟨t2, st t2 a1, b1⟩
theorem fw_calli {B : Heap → Prop} {r : Int32} {st0 : List Value} {av : Array Value} {A1 : Nat → Prop} {mc ms : Nat} (hr : va_Run p l e R s m args below meth c H locs cells slots mc ms (F0 m pc ls st0) rest (fw_Qi r B A1 av) A1) (hS : va_S A H0 H locs) (hA1 : ∀ q, A1 q → A q)
    (kk : ∀ (H1 : Heap) (locs1 : List Loc), B H1 → H.size ≤ H1.size → (∀ q : Nat, q < H.size → ¬ A1 q → H1[q]? = H[q]?) → va_S A H0 H1 locs1 → W p l e R s m args below meth c H1 locs1 (cells + mc) (slots + ms) Q (F0 m (pc + 3) ls (.int r :: rest))) : W p l e R s m args below meth c H locs cells slots Q (F0 m pc ls st0) := by
  intro T hT X
  obtain ⟨v, st₀, t, T', L, h0, X', hL, e1, e2, ⟨⟨hv, hb⟩, hF⟩, st⟩ := hr T hT X
  cases hv
  obtain ⟨k1, k2, k3⟩ := vx_keep h0 e1 hS (fun q _ h => hA1 q h) hA1 hL hF
  obtain ⟨t2, a1, b1⟩ := kk T'.heap (locs ++ L) (by rw [e1]; exact hb) k1 k2 k3 T' rfl X'
  exact ⟨t2, st t2 a1, b1⟩
/-- a callee that leaves its cells as w1 says -/
theorem fw_callvP {w1 wc : va_W} {st0 : List Value} {av : Array Value} {mc ms : Nat} (is : List Nat) (hr : va_Run p l e R s m args below meth c H locs cells slots mc ms (F0 m pc ls st0) rest (fw_Qv (va_P D cls_ w1) (va_A wc H.size) av) (va_A wc H.size)) (hP : va_P D cls_ ws H) (hD : va_D A ws) (hS : va_S A H0 H locs) (hA : ∀ q, H0.size ≤ q → A q)
    (hC : is.map (fun i => ws[i]?) = wc.map some) (hn : va_nd is = true) (ha : w1.map Prod.fst = wc.map Prod.fst)
    (kk : ∀ (H1 : Heap) (locs1 : List Loc), va_P D cls_ (fw_put ws is w1) H1 → va_D A (fw_put ws is w1) → va_S A H0 H1 locs1 → W p l e R s m args below meth c H1 locs1 (cells + mc) (slots + ms) Q (F0 m (pc + 3) ls rest)) : W p l e R s m args below meth c H locs cells slots Q (F0 m pc ls st0) :=
  fw_callv hr hS (va_free hD hS hA is hC) (fun H1 locs1 hB hz hk hS => by
    obtain ⟨h1, h2⟩ := fw_join hP hD is hC hn ha hk hB
    exact kk H1 locs1 h1 h2 hS)
theorem fw_calliP {w1 wc : va_W} {r : Int32} {st0 : List Value} {av : Array Value} {mc ms : Nat} (is : List Nat) (hr : va_Run p l e R s m args below meth c H locs cells slots mc ms (F0 m pc ls st0) rest (fw_Qi r (va_P D cls_ w1) (va_A wc H.size) av) (va_A wc H.size)) (hP : va_P D cls_ ws H) (hD : va_D A ws) (hS : va_S A H0 H locs) (hA : ∀ q, H0.size ≤ q → A q)
    (hC : is.map (fun i => ws[i]?) = wc.map some) (hn : va_nd is = true) (ha : w1.map Prod.fst = wc.map Prod.fst)
    (kk : ∀ (H1 : Heap) (locs1 : List Loc), va_P D cls_ (fw_put ws is w1) H1 → va_D A (fw_put ws is w1) → va_S A H0 H1 locs1 → W p l e R s m args below meth c H1 locs1 (cells + mc) (slots + ms) Q (F0 m (pc + 3) ls (.int r :: rest))) : W p l e R s m args below meth c H locs cells slots Q (F0 m pc ls st0) :=
  fw_calli hr hS (va_free hD hS hA is hC) (fun H1 locs1 hB hz hk hS => by
    obtain ⟨h1, h2⟩ := fw_join hP hD is hC hn ha hk hB
    exact kk H1 locs1 h1 h2 hS)
-- a callee's start out of the caller's world
theorem fw_preS {As : List Value} {wc : va_W} {tc : List (ClassId × FieldType)} (hP : va_P D cls_ ws H) (hK : va_K D cls_ tys s) (hD : va_D A ws) (hN : fw_N s) (is it : List Nat) (hn : va_nd is = true) (hC : is.map (fun i => ws[i]?) = wc.map some) (hT : it.filterMap (fun i => tys[i]?) = tc) : PreS s H (fw_Pc D As wc tc H.size) As :=
  ⟨fw_Pc_blind, fun U hU hW => ⟨rfl, by rw [hU], by rw [hU]; exact hP.sub is (by
    have : is.filterMap (fun i => ws[i]?) = (is.map (fun i => ws[i]?)).filterMap id := by rw [List.filterMap_map]; rfl
    rw [this, hC, List.filterMap_map]; simp), va_K.moved hW.alike (hK.sub it hT), (hD.sub is hn hC).weaken (fun _ _ _ _ => trivial), hN.warm hW⟩⟩
theorem fw_preV {As : List Value} {wc : va_W} {tc : List (ClassId × FieldType)} {b ci q0 : Nat} {q : vw_C} {fs : List Value} (hP : va_P D cls_ ws H) (hK : va_K D cls_ tys s) (hD : va_D A ws) (hN : fw_N s) (is it : List Nat) (hn : va_nd is = true) (hC : is.map (fun i => ws[i]?) = wc.map some) (hT : it.filterMap (fun i => tys[i]?) = tc) (hc : cls_[ci]? = some q) (he : ws[q0]? = some (b, .inr (ci, fs))) : PreV s H q.1 b (fw_Pc D (.ref b :: As) wc tc H.size) As :=
  ⟨fw_Pc_blind, va_recv hK hP hc he, (fw_preS (As := .ref b :: As) hP hK hD hN is it hn hC hT).2⟩
theorem fw_preRS {As : List Value} {wc : va_W} {tc : List (ClassId × FieldType)} (hP : va_P D cls_ ws H) (hK : va_K D cls_ tys s) (hN : fw_N s) (is it : List Nat) (hC : is.filterMap (fun i => ws[i]?) = wc) (hT : it.filterMap (fun i => tys[i]?) = tc) : PreS s H (fw_Pr D As wc tc) As :=
  ⟨fw_Pr_blind, fun U hU hW => ⟨rfl, by rw [hU]; exact hP.sub is hC, va_K.moved hW.alike (hK.sub it hT), hN.warm hW⟩⟩
theorem fw_preRV {As : List Value} {wc : va_W} {tc : List (ClassId × FieldType)} {b ci q0 : Nat} {q : vw_C} {fs : List Value} (hP : va_P D cls_ ws H) (hK : va_K D cls_ tys s) (hN : fw_N s) (is it : List Nat) (hC : is.filterMap (fun i => ws[i]?) = wc) (hT : it.filterMap (fun i => tys[i]?) = tc) (hc : cls_[ci]? = some q) (he : ws[q0]? = some (b, .inr (ci, fs))) : PreV s H q.1 b (fw_Pr D (.ref b :: As) wc tc) As :=
  ⟨fw_Pr_blind, va_recv hK hP hc he, (fw_preRS (As := .ref b :: As) hP hK hN is it hC hT).2⟩
end FWR
-- a contract out of a walk
theorem fw_ofW {l : Launch} {D : va_G} {y : MethodName} {cc : ByteArray} {maxL : Nat} {ret : Option FieldType} {rm : Room} {av : List Value} {W0 : va_W} {T0 : List (ClassId × FieldType)} {sz mc ms : Nat} {Qc : (Nat → Prop) → Array Value → State → Outcome → State → Prop} (hy : plainName y.cls = true) (hlen : (lg_sl av).length ≤ maxL)
    (body : ∀ (p : Program) (e : Env) (s : State) (m : MethodId) (below : List Frame) (meth : Method) (c : Code) (A : Nat → Prop) (ls : Array Slot), p.tables.exec = Jvm.exec → c.code = cc → meth.sig.returnType = ret → (∀ w ∈ gw, w.before av.toArray s = true) → s.vm.findClass y.cls = some m.cls → meth.locks = false → meth.name = y.name → c.maxLocals = maxL → s.heap.size = sz → va_P D cls_ W0 s.heap → va_K D cls_ T0 s → va_D A W0 → fw_N s → (∀ q, s.heap.size ≤ q → A q) → va_S A s.heap s.heap [] → lv_has ls maxL (lv_args 0 av) → W p l e rm s m av.toArray below meth c s.heap [] 0 0 (MQ below (Qc A) av.toArray s mc ms A) (F0 m 0 ls [])) : Met l y (Cond.code y cc maxL ret :: gw) rm (fw_Pc D av W0 T0 sz) (Qc (va_A W0 sz)) mc ms (va_A W0 sz) := by
  refine Met.ofW (cc := cc) (maxL := maxL) (ret := ret) hy rfl ?_
  intro p e s m args below meth c s₁ B hml hv
  obtain ⟨rfl, hsz, hP, hK, hD, hN⟩ := hv
  have hts := atoms_spec (ws := Cond.code y cc maxL ret :: gw) B.pre
  have hl := lv_entry av (n := maxL) hlen
  rw [lg_entry_eq]
  subst hsz
  exact body p e s m below meth c (va_A W0 s.heap.size) _ B.exec B.bytes B.returns (fun w h => hts w (List.mem_cons_of_mem _ h)) (findClass_of_methodNamed B.named) B.notSynchronized (name_of_methodNamed B.named B.method).1 hml rfl hP hK hD.self hN (fun q h => Or.inr h) va_S.rf hl
theorem fw_ofR {l : Launch} {D : va_G} {y : MethodName} {cc : ByteArray} {maxL : Nat} {ret : Option FieldType} {rm : Room} {av : List Value} {W0 : va_W} {T0 : List (ClassId × FieldType)} {v : Value} (hy : plainName y.cls = true) (hlen : (lg_sl av).length ≤ maxL)
    (body : ∀ (p : Program) (e : Env) (s : State) (m : MethodId) (below : List Frame) (meth : Method) (c : Code) (ls : Array Slot), p.tables.exec = Jvm.exec → c.code = cc → meth.sig.returnType = ret → (∀ w ∈ gw, w.before av.toArray s = true) → s.vm.findClass y.cls = some m.cls → meth.locks = false → c.maxLocals = maxL → va_P D cls_ W0 s.heap → va_K D cls_ T0 s → fw_N s → lv_has ls maxL (lv_args 0 av) → W p l e rm s m av.toArray below meth c s.heap [] 0 0 (MQ below (fw_Rv v) av.toArray s 0 0 (fun _ => False)) (F0 m 0 ls [])) : Met l y (Cond.code y cc maxL ret :: gw) rm (fw_Pr D av W0 T0) (fw_Rv v) 0 0 (fun _ => False) := by
  refine Met.ofW (cc := cc) (maxL := maxL) (ret := ret) hy rfl ?_
  intro p e s m args below meth c s₁ B hml hv
  obtain ⟨rfl, hP, hK, hN⟩ := hv
  have hts := atoms_spec (ws := Cond.code y cc maxL ret :: gw) B.pre
  have hl := lv_entry av (n := maxL) hlen
  rw [lg_entry_eq]
  exact body p e s m below meth c _ B.exec B.bytes B.returns (fun w h => hts w (List.mem_cons_of_mem _ h)) (findClass_of_methodNamed B.named) B.notSynchronized hml hP hK hN hl
-- the fields' words
theorem in_P : ∀ w ∈ u_ws R_P T_P 3, w ∈ gw := by decide +kernel
theorem in_S : ∀ w ∈ u_ws R_S T_S 10, w ∈ gw := by decide +kernel
theorem in_Q : ∀ w ∈ u_ws R_Q T_Q 13, w ∈ gw := by decide +kernel
theorem in_F : ∀ w ∈ u_ws R_F T_F 7, w ∈ gw := by decide +kernel
theorem in_M : ∀ w ∈ u_ws R_M T_M 23, w ∈ gw := by decide +kernel
end
section
-- shifts and masks of small numbers
theorem bt_sl : ∀ n, n < 32 → ((nI n &&& 31).toBitVec.smod 32).toNat = n := by decide +kernel
theorem iI_shr {u z : Int} {k : Nat} (h0 : 0 ≤ u) (h1 : u < 2147483648) (hz : z = (k : Int)) (hk : k < 32) : iI u >>> (iI z &&& 31) = iI (u / 2 ^ k) := by
  obtain ⟨n, rfl⟩ := Int.eq_ofNat_of_zero_le h0
  subst hz
  rw [iI_nat, iI_nat, pk_shrN (by omega) _ k (bt_sl k hk), ← iI_nat]
  congr 1
theorem iI_and1 {u : Int} (h0 : 0 ≤ u) (h1 : u < 2147483648) : iI u &&& iI 1 = iI (u % 2) := by
  obtain ⟨n, rfl⟩ := Int.eq_ofNat_of_zero_le h0
  rw [iI_nat, pk_andN (by omega) 1 (by decide), ← iI_nat]
  congr 1
theorem iI_shl1 {z : Int} {k : Nat} (hz : z = (k : Int)) (hk : k < 31) : iI 1 <<< (iI z &&& 31) = iI (2 ^ k) := by
  subst hz
  have h2 : (2 : Nat) ^ k < 2 ^ 31 := Nat.pow_lt_pow_right (by decide) hk
  rw [iI_nat, show iI 1 = nI 1 from rfl, pk_shlN _ k (bt_sl k (by omega)) (by omega), ← iI_nat, Nat.one_mul]
  congr 1
def fc_bit (u : Int) (k : Nat) : Bool := decide (u / 2 ^ k % 2 = 1)
def fc_bits (f n : Int) : Int64 := ((1 : Int64) <<< ((iI n).toInt64 &&& 63) - 1) <<< ((iI f).toInt64 &&& 63)
def fc_in (x y z : Int) : Bool := decide (y ≤ x) && decide (x ≤ z)
theorem fw_divb {u : Int} {k : Nat} (h0 : 0 ≤ u) (h1 : u < 2147483648) : 0 ≤ u / 2 ^ k ∧ u / 2 ^ k < 2147483648 := by
  have hp : (0 : Int) < 2 ^ k := Int.pow_pos (by decide)
  exact ⟨Int.ediv_nonneg h0 (Int.le_of_lt hp), Int.lt_of_le_of_lt (Int.ediv_le_self _ h0) h1⟩
theorem fw_max (a b : Int) (ha : fw_b a) (hb : fw_b b) : (if iI a < iI b then iI b else iI a) = iI (max a b) := by
  by_cases h : a < b
  · rw [if_pos ((iI_lt ha hb).mpr h)]; congr 1; omega
  · rw [if_neg (fun q => h ((iI_lt ha hb).mp q))]; congr 1; omega
theorem fw_cpy {f g : Nat → Int} {i : Nat} (h : ∀ j, j < i → f j = g j) : ∀ j, j < i + 1 → fw_up f i (g i) j = g j := by
  intro j hj
  unfold fw_up
  split
  · rename_i q; rw [q]
  · exact h j (by omega)
/-- an array's contents by another function that is the same on its places -/
theorem va_P.fn {D : va_G} {ws : va_W} {H : Heap} (hP : va_P D cls_ ws H) (k : Nat) {a : Nat} {cA : ClassId} {n : Nat} {f g : Nat → Int} (hk : ws[k]? = some (a, fw_a cA n f)) (h : ∀ j, j < n → f j = g j) : va_P D cls_ (ws.set k (a, fw_a cA n g)) H := by
  have hl := (List.getElem?_eq_some_iff.mp hk).1
  intro j q hq
  by_cases hjk : k = j
  · subst hjk
    rw [List.getElem?_set_self hl] at hq
    cases hq
    have h1 := hP k _ hk
    show H[a]? = some (vp_cell cA (n, .inl (fun j => iI (g j))))
    have h2 : H[a]? = some (vp_cell cA (n, .inl (fun j => iI (f j)))) := h1
    rw [h2, vp_cell_i, vp_cell_i]
    unfold arrV
    congr 2
    apply Array.ext
    · simp
    · intro i h3 h4
      simp only [Array.getElem_ofFn]
      rw [h i (by simpa using h3)]
  · rw [List.getElem?_set_ne hjk] at hq
    exact hP j q hq
theorem fw_cpyL {f g : Nat → Int64} {i : Nat} (h : ∀ j, j < i → f j = g j) : ∀ j, j < i + 1 → fw_up f i (g i) j = g j := by
  intro j hj
  unfold fw_up
  split
  · rename_i q; rw [q]
  · exact h j (by omega)
theorem va_P.fnL {D : va_G} {ws : va_W} {H : Heap} (hP : va_P D cls_ ws H) (k : Nat) {a : Nat} {cA : ClassId} {n : Nat} {f g : Nat → Int64} (hk : ws[k]? = some (a, fw_l cA n f)) (h : ∀ j, j < n → f j = g j) : va_P D cls_ (ws.set k (a, fw_l cA n g)) H := by
  have hl := (List.getElem?_eq_some_iff.mp hk).1
  intro j q hq
  by_cases hjk : k = j
  · subst hjk
    rw [List.getElem?_set_self hl] at hq
    cases hq
    have h1 := hP k _ hk
    show H[a]? = some (vp_cell cA (n, .inr (.inl g)))
    have h2 : H[a]? = some (vp_cell cA (n, .inr (.inl f))) := h1
    rw [h2, vp_cell_l, vp_cell_l]
    unfold arrV
    congr 2
    apply Array.ext
    · simp
    · intro i h3 h4
      simp only [Array.getElem_ofFn]
      rw [h i (by simpa using h3)]
  · rw [List.getElem?_set_ne hjk] at hq
    exact hP j q hq
theorem fw_lcmp0 {x y : Int64} : lg_cmp x y = 0 ↔ x = y := by
  unfold lg_cmp
  by_cases h1 : x > y
  · rw [if_pos h1]
    exact ⟨fun h => absurd h (by decide), fun h => by rw [h] at h1; exact absurd h1 (Int64.lt_irrefl)⟩
  · rw [if_neg h1]
    by_cases h2 : x = y
    · simp [h2]
    · rw [if_neg h2]
      exact ⟨fun h => absurd h (by decide), fun h => absurd h h2⟩
/-- the minutes that are taken on a unit, of the first i heats and of the stops -/
def fc_tk (s0 : Int64) (bu u : Int) (au am le : Nat → Int) : Nat → Int64
  | 0 => s0
  | i + 1 => if (i : Int) ≠ bu ∧ au i = u then fc_tk s0 bu u au am le i ||| fc_bits (am i) (le i) else fc_tk s0 bu u au am le i
def fc_room (s0 : Int64) (bu u : Int) (au am le : Nat → Int) (n : Nat) (mi wa : Int) : Bool := decide (mi + wa ≤ 60) && decide (fc_tk s0 bu u au am le n &&& fc_bits mi wa = 0)
def fc_fits (fS : Nat → Int64) (fU fL au am : Nat → Int) (nH h u mi : Int) : Bool := fc_bit (fU h.toNat) u.toNat && fc_room (fS u.toNat) h u au am fL nH.toNat mi (fL h.toNat)
end
section
set_option maxHeartbeats 4000000 in
set_option maxRecDepth 100000 in
/-- number between least and most -/
theorem c_F_isWithin (l : Launch) (dC : Nat → ClassId) (dI : Nat → Nat → Nat) (x : Int) (y : Int) (z : Int) (hx0 : fw_b x) (hy0 : fw_b y) (hz0 : fw_b z) : Met l y_F_isWithin (Cond.code y_F_isWithin b_F_isWithin 3 (some .boolean) :: gw) ({ frames := 0, locals := 0, cells := 0, slots := 0 }) (fw_Pr (dC, dI) [.int (iI (x)), .int (iI (y)), .int (iI (z))] [] []) (fw_Rv (.int (bI (fc_in x y z)))) 0 0 (fun _ => False) := by
  refine fw_ofR (by decide) (Nat.le_of_ble_eq_true rfl) ?_
  intro p e s m below meth c ls hx hb hr hts hown hlocks hml hP hK hN hl
  have hl : lv_has ls 3 [(0, .int (iI (x))), (1, .int (iI (y))), (2, .int (iI (z)))] := hl
  refine lv_iload_n hx hb d_F_isWithin_0 rfl (lv_at hl 0 rfl) ?_
  refine lv_iload_n hx hb d_F_isWithin_1 rfl (lv_at hl 1 rfl) ?_
  refine fw_icmp_lt (tgt := 14) hx hb d_F_isWithin_2 (by decide) ⟨by omega, by omega⟩ ⟨by omega, by omega⟩ (fun c_1 => ?_) (fun c_1 => ?_)
  · refine lv_iconst (v := (bI (false))) hx hb d_F_isWithin_14 (by decide) ?_
    refine fw_Rzret hx hb hr hlocks ?_ d_F_isWithin_15
    · simp only [fc_in]; simp; omega
  · refine lv_iload_n hx hb d_F_isWithin_5 rfl (lv_at hl 0 rfl) ?_
    refine lv_iload_n hx hb d_F_isWithin_6 rfl (lv_at hl 2 rfl) ?_
    refine fw_icmp_gt (tgt := 14) hx hb d_F_isWithin_7 (by decide) ⟨by omega, by omega⟩ ⟨by omega, by omega⟩ (fun c_2 => ?_) (fun c_2 => ?_)
    · refine lv_iconst (v := (bI (false))) hx hb d_F_isWithin_14 (by decide) ?_
      refine fw_Rzret hx hb hr hlocks ?_ d_F_isWithin_15
      · simp only [fc_in]; simp; omega
    · refine lv_iconst (v := (bI (true))) hx hb d_F_isWithin_10 (by decide) ?_
      refine lv_goto (tgt := 15) hx hb d_F_isWithin_11 (by decide) ?_
      refine fw_Rzret hx hb hr hlocks ?_ d_F_isWithin_15
      · simp only [fc_in]; simp; omega

set_option maxHeartbeats 4000000 in
set_option maxRecDepth 100000 in
theorem c_F_isUnit (l : Launch) (dC : Nat → ClassId) (dI : Nat → Nat → Nat) (x : Int) (hx0 : fw_b x) : Met l y_F_isUnit (Cond.code y_F_isUnit b_F_isUnit 1 (some .boolean) :: gw) ({ frames := 1, locals := 22, cells := 0, slots := 0 }) (fw_Pr (dC, dI) [.int (iI (x))] [] []) (fw_Rv (.int (bI (fc_in x 0 2)))) 0 0 (fun _ => False) := by
  refine fw_ofR (by decide) (Nat.le_of_ble_eq_true rfl) ?_
  intro p e s m below meth c ls hx hb hr hts hown hlocks hml hP hK hN hl
  have hl : lv_has ls 1 [(0, .int (iI (x)))] := hl
  refine lv_iload_n hx hb d_F_isUnit_0 rfl (lv_at hl 0 rfl) ?_
  refine lv_iconst (v := (iI (0))) hx hb d_F_isUnit_1 (by decide) ?_
  refine lv_iconst (v := (iI (2))) hx hb d_F_isUnit_2 (by decide) ?_
  refine fw_callR (va_runS (As := [.int (iI (x)), .int (iI (0)), .int (iI (2))]) (rest := []) ⟨hx, hb, hml, hown, hts⟩ (c_F_isWithin l dC dI x 0 2 ⟨by omega, by omega⟩ ⟨by omega, by omega⟩ ⟨by omega, by omega⟩) (cwS 3 hts (gw_S kw_272 kw_273 kw_1 kw_274) rfl rfl rfl (by decide +kernel) ⟨Nat.le_of_ble_eq_true rfl, Nat.le_of_ble_eq_true rfl⟩) (fw_preRS hP hK hN [] [] rfl rfl) rfl rfl hl.1 rfl (lv_room (Nat.le_of_ble_eq_true rfl)) d_F_isUnit_3 ⟨Nat.le_of_ble_eq_true rfl, Nat.le_of_ble_eq_true rfl⟩).run ?_
  refine fw_Rzret hx hb hr hlocks ?_ d_F_isUnit_6
  · rfl

set_option maxHeartbeats 4000000 in
set_option maxRecDepth 100000 in
theorem c_F_isMinute (l : Launch) (dC : Nat → ClassId) (dI : Nat → Nat → Nat) (x : Int) (hx0 : fw_b x) : Met l y_F_isMinute (Cond.code y_F_isMinute b_F_isMinute 1 (some .boolean) :: gw) ({ frames := 1, locals := 22, cells := 0, slots := 0 }) (fw_Pr (dC, dI) [.int (iI (x))] [] []) (fw_Rv (.int (bI (fc_in x 0 59)))) 0 0 (fun _ => False) := by
  refine fw_ofR (by decide) (Nat.le_of_ble_eq_true rfl) ?_
  intro p e s m below meth c ls hx hb hr hts hown hlocks hml hP hK hN hl
  have hl : lv_has ls 1 [(0, .int (iI (x)))] := hl
  refine lv_iload_n hx hb d_F_isMinute_0 rfl (lv_at hl 0 rfl) ?_
  refine lv_iconst (v := (iI (0))) hx hb d_F_isMinute_1 (by decide) ?_
  refine lv_bipush (v := (iI (59))) hx hb d_F_isMinute_2 (by decide) ?_
  refine fw_callR (va_runS (As := [.int (iI (x)), .int (iI (0)), .int (iI (59))]) (rest := []) ⟨hx, hb, hml, hown, hts⟩ (c_F_isWithin l dC dI x 0 59 ⟨by omega, by omega⟩ ⟨by omega, by omega⟩ ⟨by omega, by omega⟩) (cwS 3 hts (gw_S kw_272 kw_273 kw_1 kw_274) rfl rfl rfl (by decide +kernel) ⟨Nat.le_of_ble_eq_true rfl, Nat.le_of_ble_eq_true rfl⟩) (fw_preRS hP hK hN [] [] rfl rfl) rfl rfl hl.1 rfl (lv_room (Nat.le_of_ble_eq_true rfl)) d_F_isMinute_4 ⟨Nat.le_of_ble_eq_true rfl, Nat.le_of_ble_eq_true rfl⟩).run ?_
  refine fw_Rzret hx hb hr hlocks ?_ d_F_isMinute_7
  · rfl

set_option maxHeartbeats 4000000 in
set_option maxRecDepth 100000 in
theorem c_F_isCopy (l : Launch) (dC : Nat → ClassId) (dI : Nat → Nat → Nat) (x : Int) (hx0 : fw_b x) : Met l y_F_isCopy (Cond.code y_F_isCopy b_F_isCopy 1 (some .boolean) :: gw) ({ frames := 1, locals := 22, cells := 0, slots := 0 }) (fw_Pr (dC, dI) [.int (iI (x))] [] []) (fw_Rv (.int (bI (fc_in x 0 3)))) 0 0 (fun _ => False) := by
  refine fw_ofR (by decide) (Nat.le_of_ble_eq_true rfl) ?_
  intro p e s m below meth c ls hx hb hr hts hown hlocks hml hP hK hN hl
  have hl : lv_has ls 1 [(0, .int (iI (x)))] := hl
  refine lv_iload_n hx hb d_F_isCopy_0 rfl (lv_at hl 0 rfl) ?_
  refine lv_iconst (v := (iI (0))) hx hb d_F_isCopy_1 (by decide) ?_
  refine lv_iconst (v := (iI (3))) hx hb d_F_isCopy_2 (by decide) ?_
  refine fw_callR (va_runS (As := [.int (iI (x)), .int (iI (0)), .int (iI (3))]) (rest := []) ⟨hx, hb, hml, hown, hts⟩ (c_F_isWithin l dC dI x 0 3 ⟨by omega, by omega⟩ ⟨by omega, by omega⟩ ⟨by omega, by omega⟩) (cwS 3 hts (gw_S kw_272 kw_273 kw_1 kw_274) rfl rfl rfl (by decide +kernel) ⟨Nat.le_of_ble_eq_true rfl, Nat.le_of_ble_eq_true rfl⟩) (fw_preRS hP hK hN [] [] rfl rfl) rfl rfl hl.1 rfl (lv_room (Nat.le_of_ble_eq_true rfl)) d_F_isCopy_3 ⟨Nat.le_of_ble_eq_true rfl, Nat.le_of_ble_eq_true rfl⟩).run ?_
  refine fw_Rzret hx hb hr hlocks ?_ d_F_isCopy_6
  · rfl

set_option maxHeartbeats 4000000 in
set_option maxRecDepth 100000 in
theorem c_F_mayTake (l : Launch) (dC : Nat → ClassId) (dI : Nat → Nat → Nat) (us : Int) (un : Int) (h1 : 0 ≤ us) (h2 : us < 2147483648) (h3 : 0 ≤ un) (h4 : un < 32) : Met l y_F_mayTake (Cond.code y_F_mayTake b_F_mayTake 2 (some .boolean) :: gw) ({ frames := 0, locals := 0, cells := 0, slots := 0 }) (fw_Pr (dC, dI) [.int (iI (us)), .int (iI (un))] [] []) (fw_Rv (.int (bI (fc_bit us un.toNat)))) 0 0 (fun _ => False) := by
  refine fw_ofR (by decide) (Nat.le_of_ble_eq_true rfl) ?_
  intro p e s m below meth c ls hx hb hr hts hown hlocks hml hP hK hN hl
  have hl : lv_has ls 2 [(0, .int (iI (us))), (1, .int (iI (un)))] := hl
  refine lv_iload_n hx hb d_F_mayTake_0 rfl (lv_at hl 0 rfl) ?_
  refine lv_iload_n hx hb d_F_mayTake_1 rfl (lv_at hl 1 rfl) ?_
  refine lv_ishr hx hb d_F_mayTake_2 ?_
  refine fw_cast (show (.int ((iI (us)) >>> ((iI (un)) &&& 31)) : Value) = .int (iI (us / 2 ^ un.toNat)) from congrArg Value.int (iI_shr h1 h2 (by omega) (by omega))) ?_
  refine lv_iconst (v := (iI (1))) hx hb d_F_mayTake_3 (by decide) ?_
  refine lv_iand hx hb d_F_mayTake_4 ?_
  refine fw_cast (show (.int ((iI (us / 2 ^ un.toNat)) &&& (iI (1))) : Value) = .int (iI (us / 2 ^ un.toNat % 2)) from congrArg Value.int (iI_and1 (fw_divb (k := un.toNat) h1 h2).1 (fw_divb (k := un.toNat) h1 h2).2)) ?_
  have hdv := fw_divb (k := un.toNat) h1 h2
  refine lv_iconst (v := (iI (1))) hx hb d_F_mayTake_5 (by decide) ?_
  refine fw_icmp_ne (tgt := 13) hx hb d_F_mayTake_6 (by decide) ⟨by omega, by omega⟩ ⟨by omega, by omega⟩ (fun c_1 => ?_) (fun c_1 => ?_)
  · refine lv_iconst (v := (bI (false))) hx hb d_F_mayTake_13 (by decide) ?_
    refine fw_Rzret hx hb hr hlocks ?_ d_F_mayTake_14
    · simp only [fc_bit]; simp [*]
  · refine lv_iconst (v := (bI (true))) hx hb d_F_mayTake_9 (by decide) ?_
    refine lv_goto (tgt := 14) hx hb d_F_mayTake_10 (by decide) ?_
    refine fw_Rzret hx hb hr hlocks ?_ d_F_mayTake_14
    · simp only [fc_bit]; simp [*]

set_option maxHeartbeats 4000000 in
set_option maxRecDepth 100000 in
theorem c_F_minutesAsBits (l : Launch) (dC : Nat → ClassId) (dI : Nat → Nat → Nat) (f : Int) (n : Int)  : Met l y_F_minutesAsBits (Cond.code y_F_minutesAsBits b_F_minutesAsBits 2 (some .long) :: gw) ({ frames := 0, locals := 0, cells := 0, slots := 0 }) (fw_Pr (dC, dI) [.int (iI (f)), .int (iI (n))] [] []) (fw_Rv (.long (fc_bits f n))) 0 0 (fun _ => False) := by
  refine fw_ofR (by decide) (Nat.le_of_ble_eq_true rfl) ?_
  intro p e s m below meth c ls hx hb hr hts hown hlocks hml hP hK hN hl
  have hl : lv_has ls 2 [(0, .int (iI (f))), (1, .int (iI (n)))] := hl
  refine lv_lconst (v := 1) hx hb d_F_minutesAsBits_0 (by decide) ?_
  refine lv_iload_n hx hb d_F_minutesAsBits_1 rfl (lv_at hl 1 rfl) ?_
  refine lv_lshl hx hb d_F_minutesAsBits_2 rfl ?_
  refine lv_lconst (v := 1) hx hb d_F_minutesAsBits_3 (by decide) ?_
  refine lv_lsub hx hb d_F_minutesAsBits_4 ?_
  refine lv_iload_n hx hb d_F_minutesAsBits_5 rfl (lv_at hl 0 rfl) ?_
  refine lv_lshl hx hb d_F_minutesAsBits_6 rfl ?_
  refine fw_Rlret hx hb hr hlocks ?_ d_F_minutesAsBits_7
  · rfl

set_option maxHeartbeats 4000000 in
set_option maxRecDepth 100000 in
/-- Plan.put -/
theorem c_P_put (l : Launch) (dC : Nat → ClassId) (dI : Nat → Nat → Nat) (sz : Nat) (q : Nat) (qu : Nat) (qm : Nat) (qo : Nat) (au : Nat → Int) (am : Nat → Int) (kI : ClassId) (h : Int) (u : Int) (mi : Int) (h1 : 0 ≤ h) (h2 : h < 6) : Met l y_P_put (Cond.code y_P_put b_P_put 4 none :: gw) ({ frames := 0, locals := 0, cells := 0, slots := 0 }) (fw_Pc (dC, dI) [.ref q, .int (iI (h)), .int (iI (u)), .int (iI (mi))] [(q, .inr (0, [.ref qu, .ref qm, .ref qo])), (qu, fw_a kI 6 (au)), (qm, fw_a kI 6 (am))] [(kI, .int)] sz) (fw_Qv (va_P (dC, dI) cls_ [(q, .inr (0, [.ref qu, .ref qm, .ref qo])), (qu, fw_a kI 6 (fw_up au h.toNat u)), (qm, fw_a kI 6 (fw_up am h.toNat mi))]) (va_A [(q, .inr (0, [.ref qu, .ref qm, .ref qo])), (qu, fw_a kI 6 (au)), (qm, fw_a kI 6 (am))] sz)) 0 0 (va_A [(q, .inr (0, [.ref qu, .ref qm, .ref qo])), (qu, fw_a kI 6 (au)), (qm, fw_a kI 6 (am))] sz) := by
  refine fw_ofW (Qc := fun A => fw_Qv (va_P (dC, dI) cls_ [(q, .inr (0, [.ref qu, .ref qm, .ref qo])), (qu, fw_a kI 6 (fw_up au h.toNat u)), (qm, fw_a kI 6 (fw_up am h.toNat mi))]) A) (by decide) (Nat.le_of_ble_eq_true rfl) ?_
  intro p e s m below meth c A ls hx hb hr hts hown hlocks hnm hml hsz hP hK hD hN hA hS hl
  have hl : lv_has ls 4 [(0, .ref q), (1, .int (iI (h))), (2, .int (iI (u))), (3, .int (iI (mi)))] := hl
  refine lv_aload_n hx hb d_P_put_0 rfl (lv_at hl 0 rfl) ?_
  refine va_get (D := (dC, dI)) (ci := 0) (v := .ref qu) (C := R_P) (T := T_P) (N := 3) hx hb hts in_P hown hK hP 0 rfl rfl 0 (by decide) (hts _ kw_79) (fun _ h9 => h9) rfl d_P_put_1 ?_
  refine lv_iload_n hx hb d_P_put_4 rfl (lv_at hl 1 rfl) ?_
  refine lv_iload_n hx hb d_P_put_5 rfl (lv_at hl 2 rfl) ?_
  refine fw_iast hx hb hK hP hD hS 1 0 rfl rfl ((h).toNat) (by omega) (by omega) (by omega) d_P_put_6 (fun H locs hP hD hS => ?_)
  have hP : va_P (dC, dI) cls_ [(q, .inr (0, [.ref qu, .ref qm, .ref qo])), (qu, fw_a kI 6 (fw_up au ((h).toNat) u)), (qm, fw_a kI 6 (am))] H := hP
  have hD : va_D A [(q, .inr (0, [.ref qu, .ref qm, .ref qo])), (qu, fw_a kI 6 (fw_up au ((h).toNat) u)), (qm, fw_a kI 6 (am))] := hD
  refine lv_aload_n hx hb d_P_put_7 rfl (lv_at hl 0 rfl) ?_
  refine va_get (D := (dC, dI)) (ci := 0) (v := .ref qm) (C := R_P) (T := T_P) (N := 3) hx hb hts in_P hown hK hP 0 rfl rfl 1 (by decide) (hts _ kw_83) (fun _ h9 => h9) rfl d_P_put_8 ?_
  refine lv_iload_n hx hb d_P_put_11 rfl (lv_at hl 1 rfl) ?_
  refine lv_iload_n hx hb d_P_put_12 rfl (lv_at hl 3 rfl) ?_
  refine fw_iast hx hb hK hP hD hS 2 0 rfl rfl ((h).toNat) (by omega) (by omega) (by omega) d_P_put_13 (fun H locs hP hD hS => ?_)
  have hP : va_P (dC, dI) cls_ [(q, .inr (0, [.ref qu, .ref qm, .ref qo])), (qu, fw_a kI 6 (fw_up au ((h).toNat) u)), (qm, fw_a kI 6 (fw_up am ((h).toNat) mi))] H := hP
  have hD : va_D A [(q, .inr (0, [.ref qu, .ref qm, .ref qo])), (qu, fw_a kI 6 (fw_up au ((h).toNat) u)), (qm, fw_a kI 6 (fw_up am ((h).toNat) mi))] := hD
  refine fw_vret hx hb hr hlocks hS ?_ d_P_put_14
  · exact hP

set_option maxHeartbeats 4000000 in
set_option maxRecDepth 100000 in
theorem c_P_isAt (l : Launch) (dC : Nat → ClassId) (dI : Nat → Nat → Nat) (q : Nat) (qu : Nat) (qm : Nat) (qo : Nat) (au : Nat → Int) (am : Nat → Int) (kI : ClassId) (h : Int) (u : Int) (mi : Int) (h1 : 0 ≤ h) (h2 : h < 6) (h3 : fw_b (au h.toNat)) (h4 : fw_b (am h.toNat)) (hb_u : fw_b u) (hb_mi : fw_b mi) : Met l y_P_isAt (Cond.code y_P_isAt b_P_isAt 4 (some .boolean) :: gw) ({ frames := 0, locals := 0, cells := 0, slots := 0 }) (fw_Pr (dC, dI) [.ref q, .int (iI (h)), .int (iI (u)), .int (iI (mi))] [(q, .inr (0, [.ref qu, .ref qm, .ref qo])), (qu, fw_a kI 6 (au)), (qm, fw_a kI 6 (am))] [(kI, .int)]) (fw_Rv (.int (bI (decide (au h.toNat = u) && decide (am h.toNat = mi))))) 0 0 (fun _ => False) := by
  refine fw_ofR (by decide) (Nat.le_of_ble_eq_true rfl) ?_
  intro p e s m below meth c ls hx hb hr hts hown hlocks hml hP hK hN hl
  have hl : lv_has ls 4 [(0, .ref q), (1, .int (iI (h))), (2, .int (iI (u))), (3, .int (iI (mi)))] := hl
  refine lv_aload_n hx hb d_P_isAt_0 rfl (lv_at hl 0 rfl) ?_
  refine va_get (D := (dC, dI)) (ci := 0) (v := .ref qu) (C := R_P) (T := T_P) (N := 3) hx hb hts in_P hown hK hP 0 rfl rfl 0 (by decide) (hts _ kw_79) (fun _ h9 => h9) rfl d_P_isAt_1 ?_
  refine lv_iload_n hx hb d_P_isAt_4 rfl (lv_at hl 1 rfl) ?_
  refine fw_iald hx hb hK hP 1 0 rfl rfl ((h).toNat) (by omega) (by omega) (by omega) d_P_isAt_5 ?_
  refine lv_iload_n hx hb d_P_isAt_6 rfl (lv_at hl 2 rfl) ?_
  refine fw_icmp_ne (tgt := 24) hx hb d_P_isAt_7 (by decide) ⟨by omega, by omega⟩ ⟨by omega, by omega⟩ (fun c_1 => ?_) (fun c_1 => ?_)
  · refine lv_iconst (v := (bI (false))) hx hb d_P_isAt_24 (by decide) ?_
    refine fw_Rzret hx hb hr hlocks ?_ d_P_isAt_25
    · simp [*]
  · refine lv_aload_n hx hb d_P_isAt_10 rfl (lv_at hl 0 rfl) ?_
    refine va_get (D := (dC, dI)) (ci := 0) (v := .ref qm) (C := R_P) (T := T_P) (N := 3) hx hb hts in_P hown hK hP 0 rfl rfl 1 (by decide) (hts _ kw_83) (fun _ h9 => h9) rfl d_P_isAt_11 ?_
    refine lv_iload_n hx hb d_P_isAt_14 rfl (lv_at hl 1 rfl) ?_
    refine fw_iald hx hb hK hP 2 0 rfl rfl ((h).toNat) (by omega) (by omega) (by omega) d_P_isAt_15 ?_
    refine lv_iload_n hx hb d_P_isAt_16 rfl (lv_at hl 3 rfl) ?_
    refine fw_icmp_ne (tgt := 24) hx hb d_P_isAt_17 (by decide) ⟨by omega, by omega⟩ ⟨by omega, by omega⟩ (fun c_2 => ?_) (fun c_2 => ?_)
    · refine lv_iconst (v := (bI (false))) hx hb d_P_isAt_24 (by decide) ?_
      refine fw_Rzret hx hb hr hlocks ?_ d_P_isAt_25
      · simp [*]
    · refine lv_iconst (v := (bI (true))) hx hb d_P_isAt_20 (by decide) ?_
      refine lv_goto (tgt := 25) hx hb d_P_isAt_21 (by decide) ?_
      refine fw_Rzret hx hb hr hlocks ?_ d_P_isAt_25
      · simp [*]

set_option maxHeartbeats 4000000 in
set_option maxRecDepth 100000 in
/-- Plan.takeFrom: the other plan, row by row -/
theorem c_P_takeFrom (l : Launch) (dC : Nat → ClassId) (dI : Nat → Nat → Nat) (sz : Nat) (q : Nat) (qu : Nat) (qm : Nat) (qo : Nat) (au : Nat → Int) (am : Nat → Int) (ao : Nat → Int) (r : Nat) (ru : Nat) (rm : Nat) (ro : Nat) (ou : Nat → Int) (om : Nat → Int) (oo : Nat → Int) (kI : ClassId)  : Met l y_P_takeFrom (Cond.code y_P_takeFrom b_P_takeFrom 3 none :: gw) ({ frames := 0, locals := 0, cells := 0, slots := 0 }) (fw_Pc (dC, dI) [.ref q, .ref r] [(q, .inr (0, [.ref qu, .ref qm, .ref qo])), (qu, fw_a kI 6 (au)), (qm, fw_a kI 6 (am)), (qo, fw_a kI 6 (ao)), (r, .inr (0, [.ref ru, .ref rm, .ref ro])), (ru, fw_a kI 6 (ou)), (rm, fw_a kI 6 (om)), (ro, fw_a kI 6 (oo))] [(kI, .int)] sz) (fw_Qv (va_P (dC, dI) cls_ [(q, .inr (0, [.ref qu, .ref qm, .ref qo])), (qu, fw_a kI 6 (ou)), (qm, fw_a kI 6 (om)), (qo, fw_a kI 6 (oo)), (r, .inr (0, [.ref ru, .ref rm, .ref ro])), (ru, fw_a kI 6 (ou)), (rm, fw_a kI 6 (om)), (ro, fw_a kI 6 (oo))]) (va_A [(q, .inr (0, [.ref qu, .ref qm, .ref qo])), (qu, fw_a kI 6 (au)), (qm, fw_a kI 6 (am)), (qo, fw_a kI 6 (ao)), (r, .inr (0, [.ref ru, .ref rm, .ref ro])), (ru, fw_a kI 6 (ou)), (rm, fw_a kI 6 (om)), (ro, fw_a kI 6 (oo))] sz)) 0 0 (va_A [(q, .inr (0, [.ref qu, .ref qm, .ref qo])), (qu, fw_a kI 6 (au)), (qm, fw_a kI 6 (am)), (qo, fw_a kI 6 (ao)), (r, .inr (0, [.ref ru, .ref rm, .ref ro])), (ru, fw_a kI 6 (ou)), (rm, fw_a kI 6 (om)), (ro, fw_a kI 6 (oo))] sz) := by
  refine fw_ofW (Qc := fun A => fw_Qv (va_P (dC, dI) cls_ [(q, .inr (0, [.ref qu, .ref qm, .ref qo])), (qu, fw_a kI 6 (ou)), (qm, fw_a kI 6 (om)), (qo, fw_a kI 6 (oo)), (r, .inr (0, [.ref ru, .ref rm, .ref ro])), (ru, fw_a kI 6 (ou)), (rm, fw_a kI 6 (om)), (ro, fw_a kI 6 (oo))]) A) (by decide) (Nat.le_of_ble_eq_true rfl) ?_
  intro p e s m below meth c A ls hx hb hr hts hown hlocks hnm hml hsz hP hK hD hN hA hS hl
  have hl : lv_has ls 3 [(0, .ref q), (1, .ref r)] := hl
  refine lv_iconst (v := (iI (0))) hx hb d_P_takeFrom_0 (by decide) ?_
  refine lv_istore_n (lv' := [(2, .int (iI (0))), (0, .ref q), (1, .ref r)]) hx hb d_P_takeFrom_1 rfl hl (by decide) rfl (fun ls hl => ?_)
  have hlp_2 : ∀ (n : Nat) (i : Nat) (z2 : Int) (xu : Nat → Int) (xm : Nat → Int) (xo : Nat → Int) (H : Heap) (locs : List Loc) (ls : Array Slot), (6 - i) < n → (z2 = (i : Int)) → (i ≤ 6) → (∀ j, j < i → xu j = ou j) → (∀ j, j < i → xm j = om j) → (∀ j, j < i → xo j = oo j) → va_P (dC, dI) cls_ [(q, .inr (0, [.ref qu, .ref qm, .ref qo])), (qu, fw_a kI 6 (xu)), (qm, fw_a kI 6 (xm)), (qo, fw_a kI 6 (xo)), (r, .inr (0, [.ref ru, .ref rm, .ref ro])), (ru, fw_a kI 6 (ou)), (rm, fw_a kI 6 (om)), (ro, fw_a kI 6 (oo))] H → va_D A [(q, .inr (0, [.ref qu, .ref qm, .ref qo])), (qu, fw_a kI 6 (xu)), (qm, fw_a kI 6 (xm)), (qo, fw_a kI 6 (xo)), (r, .inr (0, [.ref ru, .ref rm, .ref ro])), (ru, fw_a kI 6 (ou)), (rm, fw_a kI 6 (om)), (ro, fw_a kI 6 (oo))] → va_S A s.heap H locs → lv_has ls 3 [(2, .int (iI (z2))), (0, .ref q), (1, .ref r)] → W p l e ({ frames := 0, locals := 0, cells := 0, slots := 0 }) s m ([.ref q, .ref r] : List Value).toArray below meth c H locs 0 0 (MQ below (fw_Qv (va_P (dC, dI) cls_ [(q, .inr (0, [.ref qu, .ref qm, .ref qo])), (qu, fw_a kI 6 (ou)), (qm, fw_a kI 6 (om)), (qo, fw_a kI 6 (oo)), (r, .inr (0, [.ref ru, .ref rm, .ref ro])), (ru, fw_a kI 6 (ou)), (rm, fw_a kI 6 (om)), (ro, fw_a kI 6 (oo))]) A) ([.ref q, .ref r] : List Value).toArray s 0 0 A) (F0 m 2 ls []) := by
    intro n
    induction n with
    | zero => intro i z2 xu xm xo H locs ls hms; exact absurd hms (Nat.not_lt_zero _)
    | succ n ih =>
      intro i z2 xu xm xo H locs ls hms hz hi hu hm ho hP hD hS hl
      refine lv_iload_n hx hb d_P_takeFrom_2 rfl (lv_at hl 0 rfl) ?_
      refine lv_bipush (v := (iI (6))) hx hb d_P_takeFrom_3 (by decide) ?_
      refine fw_icmp_ge (tgt := 50) hx hb d_P_takeFrom_5 (by decide) ⟨by omega, by omega⟩ ⟨by omega, by omega⟩ (fun c_1 => ?_) (fun c_1 => ?_)
      · refine fw_vret hx hb hr hlocks hS ?_ d_P_takeFrom_50
        · exact va_P.fn (va_P.fn (va_P.fn hP 1 rfl (fun j h => hu j (by omega))) 2 rfl (fun j h => hm j (by omega))) 3 rfl (fun j h => ho j (by omega))
      · refine lv_aload_n hx hb d_P_takeFrom_8 rfl (lv_at hl 1 rfl) ?_
        refine va_get (D := (dC, dI)) (ci := 0) (v := .ref qu) (C := R_P) (T := T_P) (N := 3) hx hb hts in_P hown hK hP 0 rfl rfl 0 (by decide) (hts _ kw_79) (fun _ h9 => h9) rfl d_P_takeFrom_9 ?_
        refine lv_iload_n hx hb d_P_takeFrom_12 rfl (lv_at hl 0 rfl) ?_
        refine lv_aload_n hx hb d_P_takeFrom_13 rfl (lv_at hl 2 rfl) ?_
        refine va_get (D := (dC, dI)) (ci := 0) (v := .ref ru) (C := R_P) (T := T_P) (N := 3) hx hb hts in_P hown hK hP 4 rfl rfl 0 (by decide) (hts _ kw_79) (fun _ h9 => h9) rfl d_P_takeFrom_14 ?_
        refine lv_iload_n hx hb d_P_takeFrom_17 rfl (lv_at hl 0 rfl) ?_
        refine fw_iald hx hb hK hP 5 0 rfl rfl (i) (by omega) (by omega) (by omega) d_P_takeFrom_18 ?_
        refine fw_iast hx hb hK hP hD hS 1 0 rfl rfl (i) (by omega) (by omega) (by omega) d_P_takeFrom_19 (fun H locs hP hD hS => ?_)
        have hP : va_P (dC, dI) cls_ [(q, .inr (0, [.ref qu, .ref qm, .ref qo])), (qu, fw_a kI 6 (fw_up xu i (ou i))), (qm, fw_a kI 6 (xm)), (qo, fw_a kI 6 (xo)), (r, .inr (0, [.ref ru, .ref rm, .ref ro])), (ru, fw_a kI 6 (ou)), (rm, fw_a kI 6 (om)), (ro, fw_a kI 6 (oo))] H := hP
        have hD : va_D A [(q, .inr (0, [.ref qu, .ref qm, .ref qo])), (qu, fw_a kI 6 (fw_up xu i (ou i))), (qm, fw_a kI 6 (xm)), (qo, fw_a kI 6 (xo)), (r, .inr (0, [.ref ru, .ref rm, .ref ro])), (ru, fw_a kI 6 (ou)), (rm, fw_a kI 6 (om)), (ro, fw_a kI 6 (oo))] := hD
        refine lv_aload_n hx hb d_P_takeFrom_20 rfl (lv_at hl 1 rfl) ?_
        refine va_get (D := (dC, dI)) (ci := 0) (v := .ref qm) (C := R_P) (T := T_P) (N := 3) hx hb hts in_P hown hK hP 0 rfl rfl 1 (by decide) (hts _ kw_83) (fun _ h9 => h9) rfl d_P_takeFrom_21 ?_
        refine lv_iload_n hx hb d_P_takeFrom_24 rfl (lv_at hl 0 rfl) ?_
        refine lv_aload_n hx hb d_P_takeFrom_25 rfl (lv_at hl 2 rfl) ?_
        refine va_get (D := (dC, dI)) (ci := 0) (v := .ref rm) (C := R_P) (T := T_P) (N := 3) hx hb hts in_P hown hK hP 4 rfl rfl 1 (by decide) (hts _ kw_83) (fun _ h9 => h9) rfl d_P_takeFrom_26 ?_
        refine lv_iload_n hx hb d_P_takeFrom_29 rfl (lv_at hl 0 rfl) ?_
        refine fw_iald hx hb hK hP 6 0 rfl rfl (i) (by omega) (by omega) (by omega) d_P_takeFrom_30 ?_
        refine fw_iast hx hb hK hP hD hS 2 0 rfl rfl (i) (by omega) (by omega) (by omega) d_P_takeFrom_31 (fun H locs hP hD hS => ?_)
        have hP : va_P (dC, dI) cls_ [(q, .inr (0, [.ref qu, .ref qm, .ref qo])), (qu, fw_a kI 6 (fw_up xu i (ou i))), (qm, fw_a kI 6 (fw_up xm i (om i))), (qo, fw_a kI 6 (xo)), (r, .inr (0, [.ref ru, .ref rm, .ref ro])), (ru, fw_a kI 6 (ou)), (rm, fw_a kI 6 (om)), (ro, fw_a kI 6 (oo))] H := hP
        have hD : va_D A [(q, .inr (0, [.ref qu, .ref qm, .ref qo])), (qu, fw_a kI 6 (fw_up xu i (ou i))), (qm, fw_a kI 6 (fw_up xm i (om i))), (qo, fw_a kI 6 (xo)), (r, .inr (0, [.ref ru, .ref rm, .ref ro])), (ru, fw_a kI 6 (ou)), (rm, fw_a kI 6 (om)), (ro, fw_a kI 6 (oo))] := hD
        refine lv_aload_n hx hb d_P_takeFrom_32 rfl (lv_at hl 1 rfl) ?_
        refine va_get (D := (dC, dI)) (ci := 0) (v := .ref qo) (C := R_P) (T := T_P) (N := 3) hx hb hts in_P hown hK hP 0 rfl rfl 2 (by decide) (hts _ kw_87) (fun _ h9 => h9) rfl d_P_takeFrom_33 ?_
        refine lv_iload_n hx hb d_P_takeFrom_36 rfl (lv_at hl 0 rfl) ?_
        refine lv_aload_n hx hb d_P_takeFrom_37 rfl (lv_at hl 2 rfl) ?_
        refine va_get (D := (dC, dI)) (ci := 0) (v := .ref ro) (C := R_P) (T := T_P) (N := 3) hx hb hts in_P hown hK hP 4 rfl rfl 2 (by decide) (hts _ kw_87) (fun _ h9 => h9) rfl d_P_takeFrom_38 ?_
        refine lv_iload_n hx hb d_P_takeFrom_41 rfl (lv_at hl 0 rfl) ?_
        refine fw_iald hx hb hK hP 7 0 rfl rfl (i) (by omega) (by omega) (by omega) d_P_takeFrom_42 ?_
        refine fw_iast hx hb hK hP hD hS 3 0 rfl rfl (i) (by omega) (by omega) (by omega) d_P_takeFrom_43 (fun H locs hP hD hS => ?_)
        have hP : va_P (dC, dI) cls_ [(q, .inr (0, [.ref qu, .ref qm, .ref qo])), (qu, fw_a kI 6 (fw_up xu i (ou i))), (qm, fw_a kI 6 (fw_up xm i (om i))), (qo, fw_a kI 6 (fw_up xo i (oo i))), (r, .inr (0, [.ref ru, .ref rm, .ref ro])), (ru, fw_a kI 6 (ou)), (rm, fw_a kI 6 (om)), (ro, fw_a kI 6 (oo))] H := hP
        have hD : va_D A [(q, .inr (0, [.ref qu, .ref qm, .ref qo])), (qu, fw_a kI 6 (fw_up xu i (ou i))), (qm, fw_a kI 6 (fw_up xm i (om i))), (qo, fw_a kI 6 (fw_up xo i (oo i))), (r, .inr (0, [.ref ru, .ref rm, .ref ro])), (ru, fw_a kI 6 (ou)), (rm, fw_a kI 6 (om)), (ro, fw_a kI 6 (oo))] := hD
        refine lv_iinc (v := iI (z2 + 1)) (lv' := [(2, .int (iI (z2 + 1))), (0, .ref q), (1, .ref r)]) hx hb d_P_takeFrom_44 hl (k := 0) rfl (by rw [show Int32.ofInt 1 = iI 1 from rfl, iI_add]) (by decide) rfl (fun ls hl => ?_)
        refine lv_goto (tgt := 2) hx hb d_P_takeFrom_47 (by decide) ?_
        exact ih (i + 1) (z2 + 1) (fw_up xu i (ou i)) (fw_up xm i (om i)) (fw_up xo i (oo i)) _ _ ls (by omega) (by omega) (by omega) (fw_cpy hu) (fw_cpy hm) (fw_cpy ho) hP hD hS (lv_sub hl [0, 1, 2] rfl)
  exact hlp_2 ((6 - 0) + 1) 0 0 au am ao _ _ ls (Nat.lt_succ_self _) rfl (by omega) (fun _ h => absurd h (Nat.not_lt_zero _)) (fun _ h => absurd h (Nat.not_lt_zero _)) (fun _ h => absurd h (Nat.not_lt_zero _)) hP hD hS (lv_sub hl [0, 1, 2] rfl)

set_option maxHeartbeats 4000000 in
set_option maxRecDepth 100000 in
theorem c_P_isSameIn (l : Launch) (dC : Nat → ClassId) (dI : Nat → Nat → Nat) (q : Nat) (qu : Nat) (qm : Nat) (qo : Nat) (au : Nat → Int) (am : Nat → Int) (ao : Nat → Int) (r : Nat) (ru : Nat) (rm : Nat) (ro : Nat) (ou : Nat → Int) (om : Nat → Int) (oo : Nat → Int) (kI : ClassId) (h : Int) (h1 : 0 ≤ h) (h2 : h < 6) (hb_au : fw_b (au h.toNat)) (hb_am : fw_b (am h.toNat)) (hb_ao : fw_b (ao h.toNat)) (hb_ou : fw_b (ou h.toNat)) (hb_om : fw_b (om h.toNat)) (hb_oo : fw_b (oo h.toNat)) : Met l y_P_isSameIn (Cond.code y_P_isSameIn b_P_isSameIn 3 (some .boolean) :: gw) ({ frames := 1, locals := 23, cells := 0, slots := 0 }) (fw_Pr (dC, dI) [.ref q, .ref r, .int (iI (h))] [(q, .inr (0, [.ref qu, .ref qm, .ref qo])), (qu, fw_a kI 6 (au)), (qm, fw_a kI 6 (am)), (qo, fw_a kI 6 (ao)), (r, .inr (0, [.ref ru, .ref rm, .ref ro])), (ru, fw_a kI 6 (ou)), (rm, fw_a kI 6 (om)), (ro, fw_a kI 6 (oo))] [(kI, .int)]) (fw_Rv (.int (bI (decide (au h.toNat = ou h.toNat) && decide (am h.toNat = om h.toNat) && decide (ao h.toNat = oo h.toNat))))) 0 0 (fun _ => False) := by
  refine fw_ofR (by decide) (Nat.le_of_ble_eq_true rfl) ?_
  intro p e s m below meth c ls hx hb hr hts hown hlocks hml hP hK hN hl
  have hl : lv_has ls 3 [(0, .ref q), (1, .ref r), (2, .int (iI (h)))] := hl
  refine lv_aload_n hx hb d_P_isSameIn_0 rfl (lv_at hl 0 rfl) ?_
  refine lv_iload_n hx hb d_P_isSameIn_1 rfl (lv_at hl 2 rfl) ?_
  refine lv_aload_n hx hb d_P_isSameIn_2 rfl (lv_at hl 1 rfl) ?_
  refine va_get (D := (dC, dI)) (ci := 0) (v := .ref ru) (C := R_P) (T := T_P) (N := 3) hx hb hts in_P hown hK hP 4 rfl rfl 0 (by decide) (hts _ kw_79) (fun _ h9 => h9) rfl d_P_isSameIn_3 ?_
  refine lv_iload_n hx hb d_P_isSameIn_6 rfl (lv_at hl 2 rfl) ?_
  refine fw_iald hx hb hK hP 5 0 rfl rfl ((h).toNat) (by omega) (by omega) (by omega) d_P_isSameIn_7 ?_
  refine lv_aload_n hx hb d_P_isSameIn_8 rfl (lv_at hl 1 rfl) ?_
  refine va_get (D := (dC, dI)) (ci := 0) (v := .ref rm) (C := R_P) (T := T_P) (N := 3) hx hb hts in_P hown hK hP 4 rfl rfl 1 (by decide) (hts _ kw_83) (fun _ h9 => h9) rfl d_P_isSameIn_9 ?_
  refine lv_iload_n hx hb d_P_isSameIn_12 rfl (lv_at hl 2 rfl) ?_
  refine fw_iald hx hb hK hP 6 0 rfl rfl ((h).toNat) (by omega) (by omega) (by omega) d_P_isSameIn_13 ?_
  refine fw_callR (va_runV (As := [.int (iI (h)), .int (iI (ou ((h).toNat))), .int (iI (om ((h).toNat)))]) (rest := []) ⟨hx, hb, hml, hown, hts⟩ (c_P_isAt l dC dI q qu qm qo au am kI h (ou ((h).toNat)) (om ((h).toNat)) (by first | assumption | omega) (by first | assumption | omega) (by first | assumption | omega) (by first | assumption | omega) (by first | assumption | omega) (by first | assumption | omega)) (cwV 3 hts (gw_V kw_553 kw_493 kw_494 kw_3 kw_495) rfl rfl rfl (by decide +kernel) ⟨Nat.le_of_ble_eq_true rfl, Nat.le_of_ble_eq_true rfl⟩) (fw_preRV (ci := 0) (q0 := 0) hP hK hN [0, 1, 2] [0] rfl rfl rfl rfl) rfl rfl hl.1 rfl (lv_room (Nat.le_of_ble_eq_true rfl)) d_P_isSameIn_14 ⟨Nat.le_of_ble_eq_true rfl, Nat.le_of_ble_eq_true rfl⟩).run ?_
  refine fw_bif_eq (tgt := 39) hx hb d_P_isSameIn_17 (by decide) (fun c_1 => ?_) (fun c_1 => ?_)
  · refine lv_iconst (v := (bI (false))) hx hb d_P_isSameIn_39 (by decide) ?_
    refine fw_Rzret hx hb hr hlocks ?_ d_P_isSameIn_40
    · simp [*]
  · refine lv_aload_n hx hb d_P_isSameIn_20 rfl (lv_at hl 0 rfl) ?_
    refine va_get (D := (dC, dI)) (ci := 0) (v := .ref qo) (C := R_P) (T := T_P) (N := 3) hx hb hts in_P hown hK hP 0 rfl rfl 2 (by decide) (hts _ kw_87) (fun _ h9 => h9) rfl d_P_isSameIn_21 ?_
    refine lv_iload_n hx hb d_P_isSameIn_24 rfl (lv_at hl 2 rfl) ?_
    refine fw_iald hx hb hK hP 3 0 rfl rfl ((h).toNat) (by omega) (by omega) (by omega) d_P_isSameIn_25 ?_
    refine lv_aload_n hx hb d_P_isSameIn_26 rfl (lv_at hl 1 rfl) ?_
    refine va_get (D := (dC, dI)) (ci := 0) (v := .ref ro) (C := R_P) (T := T_P) (N := 3) hx hb hts in_P hown hK hP 4 rfl rfl 2 (by decide) (hts _ kw_87) (fun _ h9 => h9) rfl d_P_isSameIn_27 ?_
    refine lv_iload_n hx hb d_P_isSameIn_30 rfl (lv_at hl 2 rfl) ?_
    refine fw_iald hx hb hK hP 7 0 rfl rfl ((h).toNat) (by omega) (by omega) (by omega) d_P_isSameIn_31 ?_
    refine fw_icmp_ne (tgt := 39) hx hb d_P_isSameIn_32 (by decide) ⟨by omega, by omega⟩ ⟨by omega, by omega⟩ (fun c_2 => ?_) (fun c_2 => ?_)
    · refine lv_iconst (v := (bI (false))) hx hb d_P_isSameIn_39 (by decide) ?_
      refine fw_Rzret hx hb hr hlocks ?_ d_P_isSameIn_40
      · simp [*]
    · refine lv_iconst (v := (bI (true))) hx hb d_P_isSameIn_35 (by decide) ?_
      refine lv_goto (tgt := 40) hx hb d_P_isSameIn_36 (by decide) ?_
      refine fw_Rzret hx hb hr hlocks ?_ d_P_isSameIn_40
      · simp [*]

set_option maxHeartbeats 4000000 in
set_option maxRecDepth 100000 in
theorem c_S_addOrder (l : Launch) (dC : Nat → ClassId) (dI : Nat → Nat → Nat) (sz : Nat) (sh : Nat) (sg : Nat) (sd : Nat) (sl : Nat) (su : Nat) (ss : Nat) (nO : Int) (nH : Int) (nS : Int) (nW : Int) (nF : Int) (kI : ClassId) (fG : Nat → Int) (fD : Nat → Int) (g : Int) (du : Int) (h1 : 0 ≤ nO) (h2 : nO < 8) : Met l y_S_addOrder (Cond.code y_S_addOrder b_S_addOrder 3 (some .int) :: gw) ({ frames := 0, locals := 0, cells := 0, slots := 0 }) (fw_Pc (dC, dI) [.ref sh, .int (iI (g)), .int (iI (du))] [(sh, .inr (1, [.ref sg, .ref sd, .int (iI (nO)), .ref sl, .ref su, .int (iI (nH)), .ref ss, .int (iI (nS)), .int (iI (nW)), .int (iI (nF))])), (sg, fw_a kI 8 (fG)), (sd, fw_a kI 8 (fD))] [(kI, .int)] sz) (fw_Qi (iI (nO + 1 - 1)) (va_P (dC, dI) cls_ [(sh, .inr (1, [.ref sg, .ref sd, .int (iI (nO + 1)), .ref sl, .ref su, .int (iI (nH)), .ref ss, .int (iI (nS)), .int (iI (nW)), .int (iI (nF))])), (sg, fw_a kI 8 (fw_up fG nO.toNat g)), (sd, fw_a kI 8 (fw_up fD nO.toNat du))]) (va_A [(sh, .inr (1, [.ref sg, .ref sd, .int (iI (nO)), .ref sl, .ref su, .int (iI (nH)), .ref ss, .int (iI (nS)), .int (iI (nW)), .int (iI (nF))])), (sg, fw_a kI 8 (fG)), (sd, fw_a kI 8 (fD))] sz)) 0 0 (va_A [(sh, .inr (1, [.ref sg, .ref sd, .int (iI (nO)), .ref sl, .ref su, .int (iI (nH)), .ref ss, .int (iI (nS)), .int (iI (nW)), .int (iI (nF))])), (sg, fw_a kI 8 (fG)), (sd, fw_a kI 8 (fD))] sz) := by
  refine fw_ofW (Qc := fun A => fw_Qi (iI (nO + 1 - 1)) (va_P (dC, dI) cls_ [(sh, .inr (1, [.ref sg, .ref sd, .int (iI (nO + 1)), .ref sl, .ref su, .int (iI (nH)), .ref ss, .int (iI (nS)), .int (iI (nW)), .int (iI (nF))])), (sg, fw_a kI 8 (fw_up fG nO.toNat g)), (sd, fw_a kI 8 (fw_up fD nO.toNat du))]) A) (by decide) (Nat.le_of_ble_eq_true rfl) ?_
  intro p e s m below meth c A ls hx hb hr hts hown hlocks hnm hml hsz hP hK hD hN hA hS hl
  have hl : lv_has ls 3 [(0, .ref sh), (1, .int (iI (g))), (2, .int (iI (du)))] := hl
  refine lv_aload_n hx hb d_S_addOrder_0 rfl (lv_at hl 0 rfl) ?_
  refine va_get (D := (dC, dI)) (ci := 1) (v := .ref sg) (C := R_S) (T := T_S) (N := 10) hx hb hts in_S hown hK hP 0 rfl rfl 0 (by decide) (hts _ kw_29) (fun _ h9 => h9) rfl d_S_addOrder_1 ?_
  refine lv_aload_n hx hb d_S_addOrder_4 rfl (lv_at hl 0 rfl) ?_
  refine va_get (D := (dC, dI)) (ci := 1) (v := .int (iI (nO))) (C := R_S) (T := T_S) (N := 10) hx hb hts in_S hown hK hP 0 rfl rfl 2 (by decide) (hts _ kw_33) (fun _ h9 => h9) rfl d_S_addOrder_5 ?_
  refine lv_iload_n hx hb d_S_addOrder_8 rfl (lv_at hl 1 rfl) ?_
  refine fw_iast hx hb hK hP hD hS 1 0 rfl rfl ((nO).toNat) (by omega) (by omega) (by omega) d_S_addOrder_9 (fun H locs hP hD hS => ?_)
  have hP : va_P (dC, dI) cls_ [(sh, .inr (1, [.ref sg, .ref sd, .int (iI (nO)), .ref sl, .ref su, .int (iI (nH)), .ref ss, .int (iI (nS)), .int (iI (nW)), .int (iI (nF))])), (sg, fw_a kI 8 (fw_up fG ((nO).toNat) g)), (sd, fw_a kI 8 (fD))] H := hP
  have hD : va_D A [(sh, .inr (1, [.ref sg, .ref sd, .int (iI (nO)), .ref sl, .ref su, .int (iI (nH)), .ref ss, .int (iI (nS)), .int (iI (nW)), .int (iI (nF))])), (sg, fw_a kI 8 (fw_up fG ((nO).toNat) g)), (sd, fw_a kI 8 (fD))] := hD
  refine lv_aload_n hx hb d_S_addOrder_10 rfl (lv_at hl 0 rfl) ?_
  refine va_get (D := (dC, dI)) (ci := 1) (v := .ref sd) (C := R_S) (T := T_S) (N := 10) hx hb hts in_S hown hK hP 0 rfl rfl 1 (by decide) (hts _ kw_31) (fun _ h9 => h9) rfl d_S_addOrder_11 ?_
  refine lv_aload_n hx hb d_S_addOrder_14 rfl (lv_at hl 0 rfl) ?_
  refine va_get (D := (dC, dI)) (ci := 1) (v := .int (iI (nO))) (C := R_S) (T := T_S) (N := 10) hx hb hts in_S hown hK hP 0 rfl rfl 2 (by decide) (hts _ kw_33) (fun _ h9 => h9) rfl d_S_addOrder_15 ?_
  refine lv_iload_n hx hb d_S_addOrder_18 rfl (lv_at hl 2 rfl) ?_
  refine fw_iast hx hb hK hP hD hS 2 0 rfl rfl ((nO).toNat) (by omega) (by omega) (by omega) d_S_addOrder_19 (fun H locs hP hD hS => ?_)
  have hP : va_P (dC, dI) cls_ [(sh, .inr (1, [.ref sg, .ref sd, .int (iI (nO)), .ref sl, .ref su, .int (iI (nH)), .ref ss, .int (iI (nS)), .int (iI (nW)), .int (iI (nF))])), (sg, fw_a kI 8 (fw_up fG ((nO).toNat) g)), (sd, fw_a kI 8 (fw_up fD ((nO).toNat) du))] H := hP
  have hD : va_D A [(sh, .inr (1, [.ref sg, .ref sd, .int (iI (nO)), .ref sl, .ref su, .int (iI (nH)), .ref ss, .int (iI (nS)), .int (iI (nW)), .int (iI (nF))])), (sg, fw_a kI 8 (fw_up fG ((nO).toNat) g)), (sd, fw_a kI 8 (fw_up fD ((nO).toNat) du))] := hD
  refine lv_aload_n hx hb d_S_addOrder_20 rfl (lv_at hl 0 rfl) ?_
  refine lv_dup hx hb d_S_addOrder_21 rfl ?_
  refine va_get (D := (dC, dI)) (ci := 1) (v := .int (iI (nO))) (C := R_S) (T := T_S) (N := 10) hx hb hts in_S hown hK hP 0 rfl rfl 2 (by decide) (hts _ kw_33) (fun _ h9 => h9) rfl d_S_addOrder_22 ?_
  refine lv_iconst (v := (iI (1))) hx hb d_S_addOrder_25 (by decide) ?_
  refine fw_iadd hx hb d_S_addOrder_26 ?_
  refine va_put (D := (dC, dI)) (ci := 1) (v := .int (iI (nO + 1))) (ty := .int) (C := R_S) (T := T_S) (N := 10) hx hb hts in_S t_S t_S_ok n_S hown hK hP hD hS 0 rfl rfl 2 (by decide) (hts _ kw_33) (fun _ h9 => h9) rfl (by decide +kernel) rfl rfl (Nat.le_of_ble_eq_true rfl) d_S_addOrder_27 (fun H locs hP hD hS => ?_)
  have hP : va_P (dC, dI) cls_ [(sh, .inr (1, [.ref sg, .ref sd, .int (iI (nO + 1)), .ref sl, .ref su, .int (iI (nH)), .ref ss, .int (iI (nS)), .int (iI (nW)), .int (iI (nF))])), (sg, fw_a kI 8 (fw_up fG ((nO).toNat) g)), (sd, fw_a kI 8 (fw_up fD ((nO).toNat) du))] H := hP
  have hD : va_D A [(sh, .inr (1, [.ref sg, .ref sd, .int (iI (nO + 1)), .ref sl, .ref su, .int (iI (nH)), .ref ss, .int (iI (nS)), .int (iI (nW)), .int (iI (nF))])), (sg, fw_a kI 8 (fw_up fG ((nO).toNat) g)), (sd, fw_a kI 8 (fw_up fD ((nO).toNat) du))] := hD
  refine lv_aload_n hx hb d_S_addOrder_30 rfl (lv_at hl 0 rfl) ?_
  refine va_get (D := (dC, dI)) (ci := 1) (v := .int (iI (nO + 1))) (C := R_S) (T := T_S) (N := 10) hx hb hts in_S hown hK hP 0 rfl rfl 2 (by decide) (hts _ kw_33) (fun _ h9 => h9) rfl d_S_addOrder_31 ?_
  refine lv_iconst (v := (iI (1))) hx hb d_S_addOrder_34 (by decide) ?_
  refine fw_isub hx hb d_S_addOrder_35 ?_
  refine fw_iret hx hb hr hlocks hS ?_ ?_ d_S_addOrder_36
  · exact hP
  · rfl

set_option maxHeartbeats 4000000 in
set_option maxRecDepth 100000 in
theorem c_S_addHeat (l : Launch) (dC : Nat → ClassId) (dI : Nat → Nat → Nat) (sz : Nat) (sh : Nat) (sg : Nat) (sd : Nat) (sl : Nat) (su : Nat) (ss : Nat) (nO : Int) (nH : Int) (nS : Int) (nW : Int) (nF : Int) (kI : ClassId) (fL : Nat → Int) (fU : Nat → Int) (le : Int) (us : Int) (h1 : 0 ≤ nH) (h2 : nH < 6) : Met l y_S_addHeat (Cond.code y_S_addHeat b_S_addHeat 3 (some .int) :: gw) ({ frames := 0, locals := 0, cells := 0, slots := 0 }) (fw_Pc (dC, dI) [.ref sh, .int (iI (le)), .int (iI (us))] [(sh, .inr (1, [.ref sg, .ref sd, .int (iI (nO)), .ref sl, .ref su, .int (iI (nH)), .ref ss, .int (iI (nS)), .int (iI (nW)), .int (iI (nF))])), (sl, fw_a kI 6 (fL)), (su, fw_a kI 6 (fU))] [(kI, .int)] sz) (fw_Qi (iI (nH + 1 - 1)) (va_P (dC, dI) cls_ [(sh, .inr (1, [.ref sg, .ref sd, .int (iI (nO)), .ref sl, .ref su, .int (iI (nH + 1)), .ref ss, .int (iI (nS)), .int (iI (nW)), .int (iI (nF))])), (sl, fw_a kI 6 (fw_up fL nH.toNat le)), (su, fw_a kI 6 (fw_up fU nH.toNat us))]) (va_A [(sh, .inr (1, [.ref sg, .ref sd, .int (iI (nO)), .ref sl, .ref su, .int (iI (nH)), .ref ss, .int (iI (nS)), .int (iI (nW)), .int (iI (nF))])), (sl, fw_a kI 6 (fL)), (su, fw_a kI 6 (fU))] sz)) 0 0 (va_A [(sh, .inr (1, [.ref sg, .ref sd, .int (iI (nO)), .ref sl, .ref su, .int (iI (nH)), .ref ss, .int (iI (nS)), .int (iI (nW)), .int (iI (nF))])), (sl, fw_a kI 6 (fL)), (su, fw_a kI 6 (fU))] sz) := by
  refine fw_ofW (Qc := fun A => fw_Qi (iI (nH + 1 - 1)) (va_P (dC, dI) cls_ [(sh, .inr (1, [.ref sg, .ref sd, .int (iI (nO)), .ref sl, .ref su, .int (iI (nH + 1)), .ref ss, .int (iI (nS)), .int (iI (nW)), .int (iI (nF))])), (sl, fw_a kI 6 (fw_up fL nH.toNat le)), (su, fw_a kI 6 (fw_up fU nH.toNat us))]) A) (by decide) (Nat.le_of_ble_eq_true rfl) ?_
  intro p e s m below meth c A ls hx hb hr hts hown hlocks hnm hml hsz hP hK hD hN hA hS hl
  have hl : lv_has ls 3 [(0, .ref sh), (1, .int (iI (le))), (2, .int (iI (us)))] := hl
  refine lv_aload_n hx hb d_S_addHeat_0 rfl (lv_at hl 0 rfl) ?_
  refine va_get (D := (dC, dI)) (ci := 1) (v := .ref sl) (C := R_S) (T := T_S) (N := 10) hx hb hts in_S hown hK hP 0 rfl rfl 3 (by decide) (hts _ kw_34) (fun _ h9 => h9) rfl d_S_addHeat_1 ?_
  refine lv_aload_n hx hb d_S_addHeat_4 rfl (lv_at hl 0 rfl) ?_
  refine va_get (D := (dC, dI)) (ci := 1) (v := .int (iI (nH))) (C := R_S) (T := T_S) (N := 10) hx hb hts in_S hown hK hP 0 rfl rfl 5 (by decide) (hts _ kw_39) (fun _ h9 => h9) rfl d_S_addHeat_5 ?_
  refine lv_iload_n hx hb d_S_addHeat_8 rfl (lv_at hl 1 rfl) ?_
  refine fw_iast hx hb hK hP hD hS 1 0 rfl rfl ((nH).toNat) (by omega) (by omega) (by omega) d_S_addHeat_9 (fun H locs hP hD hS => ?_)
  have hP : va_P (dC, dI) cls_ [(sh, .inr (1, [.ref sg, .ref sd, .int (iI (nO)), .ref sl, .ref su, .int (iI (nH)), .ref ss, .int (iI (nS)), .int (iI (nW)), .int (iI (nF))])), (sl, fw_a kI 6 (fw_up fL ((nH).toNat) le)), (su, fw_a kI 6 (fU))] H := hP
  have hD : va_D A [(sh, .inr (1, [.ref sg, .ref sd, .int (iI (nO)), .ref sl, .ref su, .int (iI (nH)), .ref ss, .int (iI (nS)), .int (iI (nW)), .int (iI (nF))])), (sl, fw_a kI 6 (fw_up fL ((nH).toNat) le)), (su, fw_a kI 6 (fU))] := hD
  refine lv_aload_n hx hb d_S_addHeat_10 rfl (lv_at hl 0 rfl) ?_
  refine va_get (D := (dC, dI)) (ci := 1) (v := .ref su) (C := R_S) (T := T_S) (N := 10) hx hb hts in_S hown hK hP 0 rfl rfl 4 (by decide) (hts _ kw_37) (fun _ h9 => h9) rfl d_S_addHeat_11 ?_
  refine lv_aload_n hx hb d_S_addHeat_14 rfl (lv_at hl 0 rfl) ?_
  refine va_get (D := (dC, dI)) (ci := 1) (v := .int (iI (nH))) (C := R_S) (T := T_S) (N := 10) hx hb hts in_S hown hK hP 0 rfl rfl 5 (by decide) (hts _ kw_39) (fun _ h9 => h9) rfl d_S_addHeat_15 ?_
  refine lv_iload_n hx hb d_S_addHeat_18 rfl (lv_at hl 2 rfl) ?_
  refine fw_iast hx hb hK hP hD hS 2 0 rfl rfl ((nH).toNat) (by omega) (by omega) (by omega) d_S_addHeat_19 (fun H locs hP hD hS => ?_)
  have hP : va_P (dC, dI) cls_ [(sh, .inr (1, [.ref sg, .ref sd, .int (iI (nO)), .ref sl, .ref su, .int (iI (nH)), .ref ss, .int (iI (nS)), .int (iI (nW)), .int (iI (nF))])), (sl, fw_a kI 6 (fw_up fL ((nH).toNat) le)), (su, fw_a kI 6 (fw_up fU ((nH).toNat) us))] H := hP
  have hD : va_D A [(sh, .inr (1, [.ref sg, .ref sd, .int (iI (nO)), .ref sl, .ref su, .int (iI (nH)), .ref ss, .int (iI (nS)), .int (iI (nW)), .int (iI (nF))])), (sl, fw_a kI 6 (fw_up fL ((nH).toNat) le)), (su, fw_a kI 6 (fw_up fU ((nH).toNat) us))] := hD
  refine lv_aload_n hx hb d_S_addHeat_20 rfl (lv_at hl 0 rfl) ?_
  refine lv_dup hx hb d_S_addHeat_21 rfl ?_
  refine va_get (D := (dC, dI)) (ci := 1) (v := .int (iI (nH))) (C := R_S) (T := T_S) (N := 10) hx hb hts in_S hown hK hP 0 rfl rfl 5 (by decide) (hts _ kw_39) (fun _ h9 => h9) rfl d_S_addHeat_22 ?_
  refine lv_iconst (v := (iI (1))) hx hb d_S_addHeat_25 (by decide) ?_
  refine fw_iadd hx hb d_S_addHeat_26 ?_
  refine va_put (D := (dC, dI)) (ci := 1) (v := .int (iI (nH + 1))) (ty := .int) (C := R_S) (T := T_S) (N := 10) hx hb hts in_S t_S t_S_ok n_S hown hK hP hD hS 0 rfl rfl 5 (by decide) (hts _ kw_39) (fun _ h9 => h9) rfl (by decide +kernel) rfl rfl (Nat.le_of_ble_eq_true rfl) d_S_addHeat_27 (fun H locs hP hD hS => ?_)
  have hP : va_P (dC, dI) cls_ [(sh, .inr (1, [.ref sg, .ref sd, .int (iI (nO)), .ref sl, .ref su, .int (iI (nH + 1)), .ref ss, .int (iI (nS)), .int (iI (nW)), .int (iI (nF))])), (sl, fw_a kI 6 (fw_up fL ((nH).toNat) le)), (su, fw_a kI 6 (fw_up fU ((nH).toNat) us))] H := hP
  have hD : va_D A [(sh, .inr (1, [.ref sg, .ref sd, .int (iI (nO)), .ref sl, .ref su, .int (iI (nH + 1)), .ref ss, .int (iI (nS)), .int (iI (nW)), .int (iI (nF))])), (sl, fw_a kI 6 (fw_up fL ((nH).toNat) le)), (su, fw_a kI 6 (fw_up fU ((nH).toNat) us))] := hD
  refine lv_aload_n hx hb d_S_addHeat_30 rfl (lv_at hl 0 rfl) ?_
  refine va_get (D := (dC, dI)) (ci := 1) (v := .int (iI (nH + 1))) (C := R_S) (T := T_S) (N := 10) hx hb hts in_S hown hK hP 0 rfl rfl 5 (by decide) (hts _ kw_39) (fun _ h9 => h9) rfl d_S_addHeat_31 ?_
  refine lv_iconst (v := (iI (1))) hx hb d_S_addHeat_34 (by decide) ?_
  refine fw_isub hx hb d_S_addHeat_35 ?_
  refine fw_iret hx hb hr hlocks hS ?_ ?_ d_S_addHeat_36
  · exact hP
  · rfl

set_option maxHeartbeats 4000000 in
set_option maxRecDepth 100000 in
theorem c_S_addStop (l : Launch) (dC : Nat → ClassId) (dI : Nat → Nat → Nat) (sz : Nat) (sh : Nat) (sg : Nat) (sd : Nat) (sl : Nat) (su : Nat) (ss : Nat) (nO : Int) (nH : Int) (nS : Int) (nW : Int) (nF : Int) (kL : ClassId) (fS : Nat → Int64) (u : Int) (a : Int) (b : Int) (h1 : 0 ≤ u) (h2 : u < 3) : Met l y_S_addStop (Cond.code y_S_addStop b_S_addStop 4 (some .int) :: gw) ({ frames := 1, locals := 21, cells := 0, slots := 0 }) (fw_Pc (dC, dI) [.ref sh, .int (iI (u)), .int (iI (a)), .int (iI (b))] [(sh, .inr (1, [.ref sg, .ref sd, .int (iI (nO)), .ref sl, .ref su, .int (iI (nH)), .ref ss, .int (iI (nS)), .int (iI (nW)), .int (iI (nF))])), (ss, fw_l kL 3 (fS))] [(kL, .long)] sz) (fw_Qi (iI (nS + 1)) (va_P (dC, dI) cls_ [(sh, .inr (1, [.ref sg, .ref sd, .int (iI (nO)), .ref sl, .ref su, .int (iI (nH)), .ref ss, .int (iI (nS + 1)), .int (iI (nW)), .int (iI (nF))])), (ss, fw_l kL 3 (fw_up fS u.toNat (fS u.toNat ||| fc_bits a (b - a))))]) (va_A [(sh, .inr (1, [.ref sg, .ref sd, .int (iI (nO)), .ref sl, .ref su, .int (iI (nH)), .ref ss, .int (iI (nS)), .int (iI (nW)), .int (iI (nF))])), (ss, fw_l kL 3 (fS))] sz)) 0 0 (va_A [(sh, .inr (1, [.ref sg, .ref sd, .int (iI (nO)), .ref sl, .ref su, .int (iI (nH)), .ref ss, .int (iI (nS)), .int (iI (nW)), .int (iI (nF))])), (ss, fw_l kL 3 (fS))] sz) := by
  refine fw_ofW (Qc := fun A => fw_Qi (iI (nS + 1)) (va_P (dC, dI) cls_ [(sh, .inr (1, [.ref sg, .ref sd, .int (iI (nO)), .ref sl, .ref su, .int (iI (nH)), .ref ss, .int (iI (nS + 1)), .int (iI (nW)), .int (iI (nF))])), (ss, fw_l kL 3 (fw_up fS u.toNat (fS u.toNat ||| fc_bits a (b - a))))]) A) (by decide) (Nat.le_of_ble_eq_true rfl) ?_
  intro p e s m below meth c A ls hx hb hr hts hown hlocks hnm hml hsz hP hK hD hN hA hS hl
  have hl : lv_has ls 4 [(0, .ref sh), (1, .int (iI (u))), (2, .int (iI (a))), (3, .int (iI (b)))] := hl
  refine lv_aload_n hx hb d_S_addStop_0 rfl (lv_at hl 0 rfl) ?_
  refine va_get (D := (dC, dI)) (ci := 1) (v := .ref ss) (C := R_S) (T := T_S) (N := 10) hx hb hts in_S hown hK hP 0 rfl rfl 6 (by decide) (hts _ kw_42) (fun _ h9 => h9) rfl d_S_addStop_1 ?_
  refine lv_iload_n hx hb d_S_addStop_4 rfl (lv_at hl 1 rfl) ?_
  refine lv_dup2_11 hx hb d_S_addStop_5 rfl rfl ?_
  refine fw_lald hx hb hK hP 1 0 rfl rfl ((u).toNat) (by omega) (by omega) (by omega) d_S_addStop_6 ?_
  refine lv_iload_n hx hb d_S_addStop_7 rfl (lv_at hl 2 rfl) ?_
  refine lv_iload_n hx hb d_S_addStop_8 rfl (lv_at hl 3 rfl) ?_
  refine lv_iload_n hx hb d_S_addStop_9 rfl (lv_at hl 2 rfl) ?_
  refine fw_isub hx hb d_S_addStop_10 ?_
  refine fw_callR (va_runSN (As := [.int (iI (a)), .int (iI (b - a))]) (rest := [.long (fS ((u).toNat)), .int (iI (u)), .ref ss]) ⟨hx, hb, hml, hown, hts⟩ (c_F_minutesAsBits l dC dI a (b - a) ) ⟨va_cnB (host := R_F) 2 hts (gw_I kw_341) rfl rfl rfl (hN _ (List.mem_of_getElem? (i := 0) rfl)) (hts _ kw_1) (by decide +kernel) ⟨Nat.le_of_ble_eq_true rfl, Nat.le_of_ble_eq_true rfl⟩, hts _ kw_340, trivial⟩ (fw_preRS hP hK hN [] [] rfl rfl) rfl rfl hl.1 rfl (lv_room (Nat.le_of_ble_eq_true rfl)) d_S_addStop_11 ⟨Nat.le_of_ble_eq_true rfl, Nat.le_of_ble_eq_true rfl⟩).run ?_
  refine lv_lor hx hb d_S_addStop_14 ?_
  refine fw_last hx hb hK hP hD hS 1 0 rfl rfl ((u).toNat) (by omega) (by omega) (by omega) d_S_addStop_15 (fun H locs hP hD hS => ?_)
  have hP : va_P (dC, dI) cls_ [(sh, .inr (1, [.ref sg, .ref sd, .int (iI (nO)), .ref sl, .ref su, .int (iI (nH)), .ref ss, .int (iI (nS)), .int (iI (nW)), .int (iI (nF))])), (ss, fw_l kL 3 (fw_up fS ((u).toNat) ((fS ((u).toNat)) ||| (fc_bits a (b - a)))))] H := hP
  have hD : va_D A [(sh, .inr (1, [.ref sg, .ref sd, .int (iI (nO)), .ref sl, .ref su, .int (iI (nH)), .ref ss, .int (iI (nS)), .int (iI (nW)), .int (iI (nF))])), (ss, fw_l kL 3 (fw_up fS ((u).toNat) ((fS ((u).toNat)) ||| (fc_bits a (b - a)))))] := hD
  refine lv_aload_n hx hb d_S_addStop_16 rfl (lv_at hl 0 rfl) ?_
  refine lv_dup hx hb d_S_addStop_17 rfl ?_
  refine va_get (D := (dC, dI)) (ci := 1) (v := .int (iI (nS))) (C := R_S) (T := T_S) (N := 10) hx hb hts in_S hown hK hP 0 rfl rfl 7 (by decide) (hts _ kw_44) (fun _ h9 => h9) rfl d_S_addStop_18 ?_
  refine lv_iconst (v := (iI (1))) hx hb d_S_addStop_21 (by decide) ?_
  refine fw_iadd hx hb d_S_addStop_22 ?_
  refine va_put (D := (dC, dI)) (ci := 1) (v := .int (iI (nS + 1))) (ty := .int) (C := R_S) (T := T_S) (N := 10) hx hb hts in_S t_S t_S_ok n_S hown hK hP hD hS 0 rfl rfl 7 (by decide) (hts _ kw_44) (fun _ h9 => h9) rfl (by decide +kernel) rfl rfl (Nat.le_of_ble_eq_true rfl) d_S_addStop_23 (fun H locs hP hD hS => ?_)
  have hP : va_P (dC, dI) cls_ [(sh, .inr (1, [.ref sg, .ref sd, .int (iI (nO)), .ref sl, .ref su, .int (iI (nH)), .ref ss, .int (iI (nS + 1)), .int (iI (nW)), .int (iI (nF))])), (ss, fw_l kL 3 (fw_up fS ((u).toNat) ((fS ((u).toNat)) ||| (fc_bits a (b - a)))))] H := hP
  have hD : va_D A [(sh, .inr (1, [.ref sg, .ref sd, .int (iI (nO)), .ref sl, .ref su, .int (iI (nH)), .ref ss, .int (iI (nS + 1)), .int (iI (nW)), .int (iI (nF))])), (ss, fw_l kL 3 (fw_up fS ((u).toNat) ((fS ((u).toNat)) ||| (fc_bits a (b - a)))))] := hD
  refine lv_aload_n hx hb d_S_addStop_26 rfl (lv_at hl 0 rfl) ?_
  refine va_get (D := (dC, dI)) (ci := 1) (v := .int (iI (nS + 1))) (C := R_S) (T := T_S) (N := 10) hx hb hts in_S hown hK hP 0 rfl rfl 7 (by decide) (hts _ kw_44) (fun _ h9 => h9) rfl d_S_addStop_27 ?_
  refine fw_iret hx hb hr hlocks hS ?_ ?_ d_S_addStop_30
  · exact hP
  · rfl

set_option maxHeartbeats 4000000 in
set_option maxRecDepth 100000 in
theorem c_S_isFrozen (l : Launch) (dC : Nat → ClassId) (dI : Nat → Nat → Nat) (sh : Nat) (sg : Nat) (sd : Nat) (sl : Nat) (su : Nat) (ss : Nat) (nO : Int) (nH : Int) (nS : Int) (nW : Int) (nF : Int) (q : Nat) (qu : Nat) (qm : Nat) (qo : Nat) (am : Nat → Int) (kI : ClassId) (h : Int) (h1 : 0 ≤ h) (h2 : h < 6) (h3 : fw_b (am h.toNat)) (h4 : fw_b (nW + nF)) : Met l y_S_isFrozen (Cond.code y_S_isFrozen b_S_isFrozen 3 (some .boolean) :: gw) ({ frames := 0, locals := 0, cells := 0, slots := 0 }) (fw_Pr (dC, dI) [.ref sh, .ref q, .int (iI (h))] [(sh, .inr (1, [.ref sg, .ref sd, .int (iI (nO)), .ref sl, .ref su, .int (iI (nH)), .ref ss, .int (iI (nS)), .int (iI (nW)), .int (iI (nF))])), (q, .inr (0, [.ref qu, .ref qm, .ref qo])), (qm, fw_a kI 6 (am))] [(kI, .int)]) (fw_Rv (.int (bI (decide (am h.toNat < nW + nF))))) 0 0 (fun _ => False) := by
  refine fw_ofR (by decide) (Nat.le_of_ble_eq_true rfl) ?_
  intro p e s m below meth c ls hx hb hr hts hown hlocks hml hP hK hN hl
  have hl : lv_has ls 3 [(0, .ref sh), (1, .ref q), (2, .int (iI (h)))] := hl
  refine lv_aload_n hx hb d_S_isFrozen_0 rfl (lv_at hl 1 rfl) ?_
  refine va_get (D := (dC, dI)) (ci := 0) (v := .ref qm) (C := R_P) (T := T_P) (N := 3) hx hb hts in_P hown hK hP 1 rfl rfl 1 (by decide) (hts _ kw_84) (fun _ h9 => h9) rfl d_S_isFrozen_1 ?_
  refine lv_iload_n hx hb d_S_isFrozen_4 rfl (lv_at hl 2 rfl) ?_
  refine fw_iald hx hb hK hP 2 0 rfl rfl ((h).toNat) (by omega) (by omega) (by omega) d_S_isFrozen_5 ?_
  refine lv_aload_n hx hb d_S_isFrozen_6 rfl (lv_at hl 0 rfl) ?_
  refine va_get (D := (dC, dI)) (ci := 1) (v := .int (iI (nW))) (C := R_S) (T := T_S) (N := 10) hx hb hts in_S hown hK hP 0 rfl rfl 8 (by decide) (hts _ kw_46) (fun _ h9 => h9) rfl d_S_isFrozen_7 ?_
  refine lv_aload_n hx hb d_S_isFrozen_10 rfl (lv_at hl 0 rfl) ?_
  refine va_get (D := (dC, dI)) (ci := 1) (v := .int (iI (nF))) (C := R_S) (T := T_S) (N := 10) hx hb hts in_S hown hK hP 0 rfl rfl 9 (by decide) (hts _ kw_48) (fun _ h9 => h9) rfl d_S_isFrozen_11 ?_
  refine fw_iadd hx hb d_S_isFrozen_14 ?_
  refine fw_icmp_ge (tgt := 22) hx hb d_S_isFrozen_15 (by decide) ⟨by omega, by omega⟩ ⟨by omega, by omega⟩ (fun c_1 => ?_) (fun c_1 => ?_)
  · refine lv_iconst (v := (bI (false))) hx hb d_S_isFrozen_22 (by decide) ?_
    refine fw_Rzret hx hb hr hlocks ?_ d_S_isFrozen_23
    · simp [*]; try omega
  · refine lv_iconst (v := (bI (true))) hx hb d_S_isFrozen_18 (by decide) ?_
    refine lv_goto (tgt := 23) hx hb d_S_isFrozen_19 (by decide) ?_
    refine fw_Rzret hx hb hr hlocks ?_ d_S_isFrozen_23
    · simp [*]; try omega

set_option maxHeartbeats 4000000 in
set_option maxRecDepth 100000 in
theorem c_S_lateness (l : Launch) (dC : Nat → ClassId) (dI : Nat → Nat → Nat) (sh : Nat) (sg : Nat) (sd : Nat) (sl : Nat) (su : Nat) (ss : Nat) (nO : Int) (nH : Int) (nS : Int) (nW : Int) (nF : Int) (kI : ClassId) (fL : Nat → Int) (fD : Nat → Int) (h : Int) (o : Int) (mi : Int) (h1 : 0 ≤ h) (h2 : h < 6) (h3 : 0 ≤ o) (h4 : o < 8) (h5 : fw_b (mi + fL h.toNat - fD o.toNat)) : Met l y_S_lateness (Cond.code y_S_lateness b_S_lateness 4 (some .int) :: gw) ({ frames := 1, locals := 21, cells := 0, slots := 0 }) (fw_Pr (dC, dI) [.ref sh, .int (iI (h)), .int (iI (o)), .int (iI (mi))] [(sh, .inr (1, [.ref sg, .ref sd, .int (iI (nO)), .ref sl, .ref su, .int (iI (nH)), .ref ss, .int (iI (nS)), .int (iI (nW)), .int (iI (nF))])), (sl, fw_a kI 6 (fL)), (sd, fw_a kI 8 (fD))] [(kI, .int)]) (fw_Rv (.int (iI (max 0 (mi + fL h.toNat - fD o.toNat))))) 0 0 (fun _ => False) := by
  refine fw_ofR (by decide) (Nat.le_of_ble_eq_true rfl) ?_
  intro p e s m below meth c ls hx hb hr hts hown hlocks hml hP hK hN hl
  have hl : lv_has ls 4 [(0, .ref sh), (1, .int (iI (h))), (2, .int (iI (o))), (3, .int (iI (mi)))] := hl
  refine lv_iconst (v := (iI (0))) hx hb d_S_lateness_0 (by decide) ?_
  refine lv_iload_n hx hb d_S_lateness_1 rfl (lv_at hl 3 rfl) ?_
  refine lv_aload_n hx hb d_S_lateness_2 rfl (lv_at hl 0 rfl) ?_
  refine va_get (D := (dC, dI)) (ci := 1) (v := .ref sl) (C := R_S) (T := T_S) (N := 10) hx hb hts in_S hown hK hP 0 rfl rfl 3 (by decide) (hts _ kw_34) (fun _ h9 => h9) rfl d_S_lateness_3 ?_
  refine lv_iload_n hx hb d_S_lateness_6 rfl (lv_at hl 1 rfl) ?_
  refine fw_iald hx hb hK hP 1 0 rfl rfl ((h).toNat) (by omega) (by omega) (by omega) d_S_lateness_7 ?_
  refine fw_iadd hx hb d_S_lateness_8 ?_
  refine lv_aload_n hx hb d_S_lateness_9 rfl (lv_at hl 0 rfl) ?_
  refine va_get (D := (dC, dI)) (ci := 1) (v := .ref sd) (C := R_S) (T := T_S) (N := 10) hx hb hts in_S hown hK hP 0 rfl rfl 1 (by decide) (hts _ kw_31) (fun _ h9 => h9) rfl d_S_lateness_10 ?_
  refine lv_iload_n hx hb d_S_lateness_13 rfl (lv_at hl 2 rfl) ?_
  refine fw_iald hx hb hK hP 2 0 rfl rfl ((o).toNat) (by omega) (by omega) (by omega) d_S_lateness_14 ?_
  refine fw_isub hx hb d_S_lateness_15 ?_
  refine va_mmax hx hb (hml.trans hl.1.symm) hown (hts _ kw_191) (hts _ kw_192) (hts _ kw_14) (hts _ kw_193) (Nat.le_of_ble_eq_true rfl) (Nat.le_of_ble_eq_true rfl) (Nat.le_of_ble_eq_true rfl) (Nat.le_of_ble_eq_true rfl) d_S_lateness_16 ?_
  refine fw_cast (show (.int (if (iI (0)) < (iI ((mi + (fL ((h).toNat))) - (fD ((o).toNat)))) then (iI ((mi + (fL ((h).toNat))) - (fD ((o).toNat)))) else (iI (0))) : Value) = .int (iI (max 0 (mi + fL h.toNat - fD o.toNat))) from congrArg Value.int (fw_max _ _ fw_b0 ⟨by omega, by omega⟩)) ?_
  refine fw_Riret hx hb hr hlocks ?_ d_S_lateness_19
  · rfl

set_option maxHeartbeats 4000000 in
set_option maxRecDepth 100000 in
theorem c_S_forgetStops (l : Launch) (dC : Nat → ClassId) (dI : Nat → Nat → Nat) (sz : Nat) (sh : Nat) (sg : Nat) (sd : Nat) (sl : Nat) (su : Nat) (ss : Nat) (nO : Int) (nH : Int) (nS : Int) (nW : Int) (nF : Int) (kL : ClassId) (fS : Nat → Int64)  : Met l y_S_forgetStops (Cond.code y_S_forgetStops b_S_forgetStops 2 none :: gw) ({ frames := 0, locals := 0, cells := 0, slots := 0 }) (fw_Pc (dC, dI) [.ref sh] [(sh, .inr (1, [.ref sg, .ref sd, .int (iI (nO)), .ref sl, .ref su, .int (iI (nH)), .ref ss, .int (iI (nS)), .int (iI (nW)), .int (iI (nF))])), (ss, fw_l kL 3 (fS))] [(kL, .long)] sz) (fw_Qv (va_P (dC, dI) cls_ [(sh, .inr (1, [.ref sg, .ref sd, .int (iI (nO)), .ref sl, .ref su, .int (iI (nH)), .ref ss, .int (iI (0)), .int (iI (nW)), .int (iI (nF))])), (ss, fw_l kL 3 (fun _ => 0))]) (va_A [(sh, .inr (1, [.ref sg, .ref sd, .int (iI (nO)), .ref sl, .ref su, .int (iI (nH)), .ref ss, .int (iI (nS)), .int (iI (nW)), .int (iI (nF))])), (ss, fw_l kL 3 (fS))] sz)) 0 0 (va_A [(sh, .inr (1, [.ref sg, .ref sd, .int (iI (nO)), .ref sl, .ref su, .int (iI (nH)), .ref ss, .int (iI (nS)), .int (iI (nW)), .int (iI (nF))])), (ss, fw_l kL 3 (fS))] sz) := by
  refine fw_ofW (Qc := fun A => fw_Qv (va_P (dC, dI) cls_ [(sh, .inr (1, [.ref sg, .ref sd, .int (iI (nO)), .ref sl, .ref su, .int (iI (nH)), .ref ss, .int (iI (0)), .int (iI (nW)), .int (iI (nF))])), (ss, fw_l kL 3 (fun _ => 0))]) A) (by decide) (Nat.le_of_ble_eq_true rfl) ?_
  intro p e s m below meth c A ls hx hb hr hts hown hlocks hnm hml hsz hP hK hD hN hA hS hl
  have hl : lv_has ls 2 [(0, .ref sh)] := hl
  refine lv_iconst (v := (iI (0))) hx hb d_S_forgetStops_0 (by decide) ?_
  refine lv_istore_n (lv' := [(1, .int (iI (0))), (0, .ref sh)]) hx hb d_S_forgetStops_1 rfl hl (by decide) rfl (fun ls hl => ?_)
  have hlp_2 : ∀ (n : Nat) (i : Nat) (z1 : Int) (xs : Nat → Int64) (H : Heap) (locs : List Loc) (ls : Array Slot), (3 - i) < n → (z1 = (i : Int)) → (i ≤ 3) → (∀ j, j < i → xs j = 0) → va_P (dC, dI) cls_ [(sh, .inr (1, [.ref sg, .ref sd, .int (iI (nO)), .ref sl, .ref su, .int (iI (nH)), .ref ss, .int (iI (nS)), .int (iI (nW)), .int (iI (nF))])), (ss, fw_l kL 3 (xs))] H → va_D A [(sh, .inr (1, [.ref sg, .ref sd, .int (iI (nO)), .ref sl, .ref su, .int (iI (nH)), .ref ss, .int (iI (nS)), .int (iI (nW)), .int (iI (nF))])), (ss, fw_l kL 3 (xs))] → va_S A s.heap H locs → lv_has ls 2 [(1, .int (iI (z1))), (0, .ref sh)] → W p l e ({ frames := 0, locals := 0, cells := 0, slots := 0 }) s m ([.ref sh] : List Value).toArray below meth c H locs 0 0 (MQ below (fw_Qv (va_P (dC, dI) cls_ [(sh, .inr (1, [.ref sg, .ref sd, .int (iI (nO)), .ref sl, .ref su, .int (iI (nH)), .ref ss, .int (iI (0)), .int (iI (nW)), .int (iI (nF))])), (ss, fw_l kL 3 (fun _ => 0))]) A) ([.ref sh] : List Value).toArray s 0 0 A) (F0 m 2 ls []) := by
    intro n
    induction n with
    | zero => intro i z1 xs H locs ls hms; exact absurd hms (Nat.not_lt_zero _)
    | succ n ih =>
      intro i z1 xs H locs ls hms hz hi hu hP hD hS hl
      refine lv_iload_n hx hb d_S_forgetStops_2 rfl (lv_at hl 0 rfl) ?_
      refine lv_iconst (v := (iI (3))) hx hb d_S_forgetStops_3 (by decide) ?_
      refine fw_icmp_ge (tgt := 20) hx hb d_S_forgetStops_4 (by decide) ⟨by omega, by omega⟩ ⟨by omega, by omega⟩ (fun c_1 => ?_) (fun c_1 => ?_)
      · refine lv_aload_n hx hb d_S_forgetStops_20 rfl (lv_at hl 1 rfl) ?_
        refine lv_iconst (v := (iI (0))) hx hb d_S_forgetStops_21 (by decide) ?_
        refine va_put (D := (dC, dI)) (ci := 1) (v := .int (iI (0))) (ty := .int) (C := R_S) (T := T_S) (N := 10) hx hb hts in_S t_S t_S_ok n_S hown hK hP hD hS 0 rfl rfl 7 (by decide) (hts _ kw_44) (fun _ h9 => h9) rfl (by decide +kernel) rfl rfl (Nat.le_of_ble_eq_true rfl) d_S_forgetStops_22 (fun H locs hP hD hS => ?_)
        have hP : va_P (dC, dI) cls_ [(sh, .inr (1, [.ref sg, .ref sd, .int (iI (nO)), .ref sl, .ref su, .int (iI (nH)), .ref ss, .int (iI (0)), .int (iI (nW)), .int (iI (nF))])), (ss, fw_l kL 3 (xs))] H := hP
        have hD : va_D A [(sh, .inr (1, [.ref sg, .ref sd, .int (iI (nO)), .ref sl, .ref su, .int (iI (nH)), .ref ss, .int (iI (0)), .int (iI (nW)), .int (iI (nF))])), (ss, fw_l kL 3 (xs))] := hD
        refine fw_vret hx hb hr hlocks hS ?_ d_S_forgetStops_25
        · exact va_P.fnL hP 1 rfl (fun j h => hu j (by omega))
      · refine lv_aload_n hx hb d_S_forgetStops_7 rfl (lv_at hl 1 rfl) ?_
        refine va_get (D := (dC, dI)) (ci := 1) (v := .ref ss) (C := R_S) (T := T_S) (N := 10) hx hb hts in_S hown hK hP 0 rfl rfl 6 (by decide) (hts _ kw_42) (fun _ h9 => h9) rfl d_S_forgetStops_8 ?_
        refine lv_iload_n hx hb d_S_forgetStops_11 rfl (lv_at hl 0 rfl) ?_
        refine lv_lconst (v := 0) hx hb d_S_forgetStops_12 (by decide) ?_
        refine fw_last hx hb hK hP hD hS 1 0 rfl rfl (i) (by omega) (by omega) (by omega) d_S_forgetStops_13 (fun H locs hP hD hS => ?_)
        have hP : va_P (dC, dI) cls_ [(sh, .inr (1, [.ref sg, .ref sd, .int (iI (nO)), .ref sl, .ref su, .int (iI (nH)), .ref ss, .int (iI (nS)), .int (iI (nW)), .int (iI (nF))])), (ss, fw_l kL 3 (fw_up xs i 0))] H := hP
        have hD : va_D A [(sh, .inr (1, [.ref sg, .ref sd, .int (iI (nO)), .ref sl, .ref su, .int (iI (nH)), .ref ss, .int (iI (nS)), .int (iI (nW)), .int (iI (nF))])), (ss, fw_l kL 3 (fw_up xs i 0))] := hD
        refine lv_iinc (v := iI (z1 + 1)) (lv' := [(1, .int (iI (z1 + 1))), (0, .ref sh)]) hx hb d_S_forgetStops_14 hl (k := 0) rfl (by rw [show Int32.ofInt 1 = iI 1 from rfl, iI_add]) (by decide) rfl (fun ls hl => ?_)
        refine lv_goto (tgt := 2) hx hb d_S_forgetStops_17 (by decide) ?_
        exact ih (i + 1) (z1 + 1) (fw_up xs i 0) _ _ ls (by omega) (by omega) (by omega) (fw_cpyL (g := fun _ => 0) hu) hP hD hS (lv_sub hl [0, 1] rfl)
  exact hlp_2 ((3 - 0) + 1) 0 0 fS _ _ ls (Nat.lt_succ_self _) rfl (by omega) (fun _ h => absurd h (Nat.not_lt_zero _)) hP hD hS (lv_sub hl [0, 1] rfl)

set_option maxHeartbeats 4000000 in
set_option maxRecDepth 100000 in
theorem c_S_hasRoom (l : Launch) (dC : Nat → ClassId) (dI : Nat → Nat → Nat) (sh : Nat) (sg : Nat) (sd : Nat) (sl : Nat) (su : Nat) (ss : Nat) (nO : Int) (nH : Int) (nS : Int) (nW : Int) (nF : Int) (q : Nat) (qu : Nat) (qm : Nat) (qo : Nat) (au : Nat → Int) (am : Nat → Int) (kI : ClassId) (kL : ClassId) (fL : Nat → Int) (fS : Nat → Int64) (bu : Int) (u : Int) (mi : Int) (wa : Int) (h1 : 0 ≤ u) (h2 : u < 3) (h3 : 0 ≤ nH) (h4 : nH ≤ 6) (h5 : fw_b (mi + wa)) (h6 : ∀ j : Nat, (j : Int) < nH → fw_b (au j)) (hb_bu : fw_b bu) : Met l y_S_hasRoom (Cond.code y_S_hasRoom b_S_hasRoom 9 (some .boolean) :: gw) ({ frames := 1, locals := 21, cells := 0, slots := 0 }) (fw_Pr (dC, dI) [.ref sh, .ref q, .int (iI (bu)), .int (iI (u)), .int (iI (mi)), .int (iI (wa))] [(sh, .inr (1, [.ref sg, .ref sd, .int (iI (nO)), .ref sl, .ref su, .int (iI (nH)), .ref ss, .int (iI (nS)), .int (iI (nW)), .int (iI (nF))])), (sl, fw_a kI 6 (fL)), (ss, fw_l kL 3 (fS)), (q, .inr (0, [.ref qu, .ref qm, .ref qo])), (qu, fw_a kI 6 (au)), (qm, fw_a kI 6 (am))] [(kI, .int), (kL, .long)]) (fw_Rv (.int (bI (fc_room (fS u.toNat) bu u au am fL nH.toNat mi wa)))) 0 0 (fun _ => False) := by
  refine fw_ofR (by decide) (Nat.le_of_ble_eq_true rfl) ?_
  intro p e s m below meth c ls hx hb hr hts hown hlocks hml hP hK hN hl
  have hl : lv_has ls 9 [(0, .ref sh), (1, .ref q), (2, .int (iI (bu))), (3, .int (iI (u))), (4, .int (iI (mi))), (5, .int (iI (wa)))] := hl
  refine lv_iload hx hb d_S_hasRoom_0 (lv_at hl 4 rfl) ?_
  refine lv_iload hx hb d_S_hasRoom_2 (lv_at hl 5 rfl) ?_
  refine fw_iadd hx hb d_S_hasRoom_4 ?_
  refine lv_bipush (v := (iI (60))) hx hb d_S_hasRoom_5 (by decide) ?_
  refine fw_icmp_le (tgt := 12) hx hb d_S_hasRoom_7 (by decide) ⟨by omega, by omega⟩ ⟨by omega, by omega⟩ (fun c_1 => ?_) (fun c_1 => ?_)
  · refine lv_aload_n hx hb d_S_hasRoom_12 rfl (lv_at hl 0 rfl) ?_
    refine va_get (D := (dC, dI)) (ci := 1) (v := .ref ss) (C := R_S) (T := T_S) (N := 10) hx hb hts in_S hown hK hP 0 rfl rfl 6 (by decide) (hts _ kw_42) (fun _ h9 => h9) rfl d_S_hasRoom_13 ?_
    refine lv_iload_n hx hb d_S_hasRoom_16 rfl (lv_at hl 3 rfl) ?_
    refine fw_lald hx hb hK hP 2 1 rfl rfl ((u).toNat) (by omega) (by omega) (by omega) d_S_hasRoom_17 ?_
    refine lv_lstore (lv' := [(6, .long (fS ((u).toNat))), (0, .ref sh), (1, .ref q), (2, .int (iI (bu))), (3, .int (iI (u))), (4, .int (iI (mi))), (5, .int (iI (wa)))]) hx hb d_S_hasRoom_18 hl (by decide) rfl (fun ls hl => ?_)
    refine lv_iconst (v := (iI (0))) hx hb d_S_hasRoom_20 (by decide) ?_
    refine lv_istore (lv' := [(8, .int (iI (0))), (6, .long (fS ((u).toNat))), (0, .ref sh), (1, .ref q), (2, .int (iI (bu))), (3, .int (iI (u))), (4, .int (iI (mi))), (5, .int (iI (wa)))]) hx hb d_S_hasRoom_21 hl (by decide) rfl (fun ls hl => ?_)
    have hlp_23 : ∀ (n : Nat) (i : Nat) (z8 : Int) (t6 : Int64) (ls : Array Slot), (nH.toNat - i) < n → (z8 = (i : Int)) → ((i : Int) ≤ nH) → (t6 = fc_tk (fS u.toNat) bu u au am fL i) → lv_has ls 9 [(6, .long (t6)), (8, .int (iI (z8))), (0, .ref sh), (1, .ref q), (2, .int (iI (bu))), (3, .int (iI (u))), (4, .int (iI (mi))), (5, .int (iI (wa)))] → W p l e ({ frames := 1, locals := 21, cells := 0, slots := 0 }) s m ([.ref sh, .ref q, .int (iI (bu)), .int (iI (u)), .int (iI (mi)), .int (iI (wa))] : List Value).toArray below meth c s.heap [] 0 0 (MQ below (fw_Rv (.int (bI (fc_room (fS u.toNat) bu u au am fL nH.toNat mi wa)))) ([.ref sh, .ref q, .int (iI (bu)), .int (iI (u)), .int (iI (mi)), .int (iI (wa))] : List Value).toArray s 0 0 (fun _ => False)) (F0 m 23 ls []) := by
      intro n
      induction n with
      | zero => intro i z8 t6 ls hms; exact absurd hms (Nat.not_lt_zero _)
      | succ n ih =>
        intro i z8 t6 ls hms hz hi ht hl
        refine lv_iload hx hb d_S_hasRoom_23 (lv_at hl 1 rfl) ?_
        refine lv_aload_n hx hb d_S_hasRoom_25 rfl (lv_at hl 2 rfl) ?_
        refine va_get (D := (dC, dI)) (ci := 1) (v := .int (iI (nH))) (C := R_S) (T := T_S) (N := 10) hx hb hts in_S hown hK hP 0 rfl rfl 5 (by decide) (hts _ kw_39) (fun _ h9 => h9) rfl d_S_hasRoom_26 ?_
        refine fw_icmp_ge (tgt := 77) hx hb d_S_hasRoom_29 (by decide) ⟨by omega, by omega⟩ ⟨by omega, by omega⟩ (fun c_2 => ?_) (fun c_2 => ?_)
        · refine lv_lload hx hb d_S_hasRoom_77 (lv_at hl 0 rfl) ?_
          refine lv_iload hx hb d_S_hasRoom_79 (lv_at hl 6 rfl) ?_
          refine lv_iload hx hb d_S_hasRoom_81 (lv_at hl 7 rfl) ?_
          refine fw_callR (va_runSN (As := [.int (iI (mi)), .int (iI (wa))]) (rest := [.long (t6)]) ⟨hx, hb, hml, hown, hts⟩ (c_F_minutesAsBits l dC dI mi wa ) ⟨va_cnB (host := R_F) 2 hts (gw_I kw_341) rfl rfl rfl (hN _ (List.mem_of_getElem? (i := 0) rfl)) (hts _ kw_1) (by decide +kernel) ⟨Nat.le_of_ble_eq_true rfl, Nat.le_of_ble_eq_true rfl⟩, hts _ kw_340, trivial⟩ (fw_preRS hP hK hN [] [] rfl rfl) rfl rfl hl.1 rfl (lv_room (Nat.le_of_ble_eq_true rfl)) d_S_hasRoom_83 ⟨Nat.le_of_ble_eq_true rfl, Nat.le_of_ble_eq_true rfl⟩).run ?_
          refine lv_land hx hb d_S_hasRoom_86 ?_
          refine lv_lconst (v := 0) hx hb d_S_hasRoom_87 (by decide) ?_
          refine W.lcmp hx hb d_S_hasRoom_88 ?_
          refine lv_if_ne (tgt := 96) hx hb d_S_hasRoom_89 (by decide) (fun c_3 => ?_) (fun c_3 => ?_)
          · refine lv_iconst (v := (bI (false))) hx hb d_S_hasRoom_96 (by decide) ?_
            refine fw_Rzret hx hb hr hlocks ?_ d_S_hasRoom_97
            · have e1 : nH.toNat = i := by omega
              simp only [fc_room]; rw [decide_eq_true (show mi + wa ≤ 60 by omega), e1, ← ht]
              first | rw [decide_eq_true (fw_lcmp0.mp c_3)]; rfl | rw [decide_eq_false (fun q => c_3 (fw_lcmp0.mpr q))]; rfl
          · refine lv_iconst (v := (bI (true))) hx hb d_S_hasRoom_92 (by decide) ?_
            refine lv_goto (tgt := 97) hx hb d_S_hasRoom_93 (by decide) ?_
            refine fw_Rzret hx hb hr hlocks ?_ d_S_hasRoom_97
            · have e1 : nH.toNat = i := by omega
              simp only [fc_room]; rw [decide_eq_true (show mi + wa ≤ 60 by omega), e1, ← ht]
              first | rw [decide_eq_true (fw_lcmp0.mp c_3)]; rfl | rw [decide_eq_false (fun q => c_3 (fw_lcmp0.mpr q))]; rfl
        · refine lv_iload hx hb d_S_hasRoom_32 (lv_at hl 1 rfl) ?_
          refine lv_iload_n hx hb d_S_hasRoom_34 rfl (lv_at hl 4 rfl) ?_
          refine fw_icmp_eq (tgt := 71) hx hb d_S_hasRoom_35 (by decide) ⟨by omega, by omega⟩ ⟨by omega, by omega⟩ (fun c_4 => ?_) (fun c_4 => ?_)
          · refine lv_iinc (v := iI (z8 + 1)) (lv' := [(8, .int (iI (z8 + 1))), (6, .long (t6)), (0, .ref sh), (1, .ref q), (2, .int (iI (bu))), (3, .int (iI (u))), (4, .int (iI (mi))), (5, .int (iI (wa)))]) hx hb d_S_hasRoom_71 hl (k := 1) rfl (by rw [show Int32.ofInt 1 = iI 1 from rfl, iI_add]) (by decide) rfl (fun ls hl => ?_)
            refine lv_goto (tgt := 23) hx hb d_S_hasRoom_74 (by decide) ?_
            exact ih (i + 1) (z8 + 1) t6 ls (by omega) (by omega) (by omega) (by subst ht; first | exact (if_pos ⟨by omega, by omega⟩).symm | exact (if_neg (by omega)).symm) (lv_sub hl [1, 0, 2, 3, 4, 5, 6, 7] rfl)
          · refine lv_aload_n hx hb d_S_hasRoom_38 rfl (lv_at hl 3 rfl) ?_
            refine va_get (D := (dC, dI)) (ci := 0) (v := .ref qu) (C := R_P) (T := T_P) (N := 3) hx hb hts in_P hown hK hP 3 rfl rfl 0 (by decide) (hts _ kw_81) (fun _ h9 => h9) rfl d_S_hasRoom_39 ?_
            refine lv_iload hx hb d_S_hasRoom_42 (lv_at hl 1 rfl) ?_
            have hbu := h6 i (by omega)
            refine fw_iald hx hb hK hP 4 0 rfl rfl (i) (by omega) (by omega) (by omega) d_S_hasRoom_44 ?_
            refine lv_iload_n hx hb d_S_hasRoom_45 rfl (lv_at hl 5 rfl) ?_
            refine fw_icmp_ne (tgt := 71) hx hb d_S_hasRoom_46 (by decide) ⟨by omega, by omega⟩ ⟨by omega, by omega⟩ (fun c_5 => ?_) (fun c_5 => ?_)
            · refine lv_iinc (v := iI (z8 + 1)) (lv' := [(8, .int (iI (z8 + 1))), (6, .long (t6)), (0, .ref sh), (1, .ref q), (2, .int (iI (bu))), (3, .int (iI (u))), (4, .int (iI (mi))), (5, .int (iI (wa)))]) hx hb d_S_hasRoom_71 hl (k := 1) rfl (by rw [show Int32.ofInt 1 = iI 1 from rfl, iI_add]) (by decide) rfl (fun ls hl => ?_)
              refine lv_goto (tgt := 23) hx hb d_S_hasRoom_74 (by decide) ?_
              exact ih (i + 1) (z8 + 1) t6 ls (by omega) (by omega) (by omega) (by subst ht; first | exact (if_pos ⟨by omega, by omega⟩).symm | exact (if_neg (by omega)).symm) (lv_sub hl [1, 0, 2, 3, 4, 5, 6, 7] rfl)
            · refine lv_lload hx hb d_S_hasRoom_49 (lv_at hl 0 rfl) ?_
              refine lv_aload_n hx hb d_S_hasRoom_51 rfl (lv_at hl 3 rfl) ?_
              refine va_get (D := (dC, dI)) (ci := 0) (v := .ref qm) (C := R_P) (T := T_P) (N := 3) hx hb hts in_P hown hK hP 3 rfl rfl 1 (by decide) (hts _ kw_84) (fun _ h9 => h9) rfl d_S_hasRoom_52 ?_
              refine lv_iload hx hb d_S_hasRoom_55 (lv_at hl 1 rfl) ?_
              refine fw_iald hx hb hK hP 5 0 rfl rfl (i) (by omega) (by omega) (by omega) d_S_hasRoom_57 ?_
              refine lv_aload_n hx hb d_S_hasRoom_58 rfl (lv_at hl 2 rfl) ?_
              refine va_get (D := (dC, dI)) (ci := 1) (v := .ref sl) (C := R_S) (T := T_S) (N := 10) hx hb hts in_S hown hK hP 0 rfl rfl 3 (by decide) (hts _ kw_34) (fun _ h9 => h9) rfl d_S_hasRoom_59 ?_
              refine lv_iload hx hb d_S_hasRoom_62 (lv_at hl 1 rfl) ?_
              refine fw_iald hx hb hK hP 1 0 rfl rfl (i) (by omega) (by omega) (by omega) d_S_hasRoom_64 ?_
              refine fw_callR (va_runSN (As := [.int (iI (am i)), .int (iI (fL i))]) (rest := [.long (t6)]) ⟨hx, hb, hml, hown, hts⟩ (c_F_minutesAsBits l dC dI (am i) (fL i) ) ⟨va_cnB (host := R_F) 2 hts (gw_I kw_341) rfl rfl rfl (hN _ (List.mem_of_getElem? (i := 0) rfl)) (hts _ kw_1) (by decide +kernel) ⟨Nat.le_of_ble_eq_true rfl, Nat.le_of_ble_eq_true rfl⟩, hts _ kw_340, trivial⟩ (fw_preRS hP hK hN [] [] rfl rfl) rfl rfl hl.1 rfl (lv_room (Nat.le_of_ble_eq_true rfl)) d_S_hasRoom_65 ⟨Nat.le_of_ble_eq_true rfl, Nat.le_of_ble_eq_true rfl⟩).run ?_
              refine lv_lor hx hb d_S_hasRoom_68 ?_
              refine lv_lstore (lv' := [(6, .long (t6 ||| (fc_bits (am i) (fL i)))), (8, .int (iI (z8))), (0, .ref sh), (1, .ref q), (2, .int (iI (bu))), (3, .int (iI (u))), (4, .int (iI (mi))), (5, .int (iI (wa)))]) hx hb d_S_hasRoom_69 hl (by decide) rfl (fun ls hl => ?_)
              refine lv_iinc (v := iI (z8 + 1)) (lv' := [(8, .int (iI (z8 + 1))), (6, .long (t6 ||| (fc_bits (am i) (fL i)))), (0, .ref sh), (1, .ref q), (2, .int (iI (bu))), (3, .int (iI (u))), (4, .int (iI (mi))), (5, .int (iI (wa)))]) hx hb d_S_hasRoom_71 hl (k := 1) rfl (by rw [show Int32.ofInt 1 = iI 1 from rfl, iI_add]) (by decide) rfl (fun ls hl => ?_)
              refine lv_goto (tgt := 23) hx hb d_S_hasRoom_74 (by decide) ?_
              exact ih (i + 1) (z8 + 1) (t6 ||| (fc_bits (am i) (fL i))) ls (by omega) (by omega) (by omega) (by subst ht; first | exact (if_pos ⟨by omega, by omega⟩).symm | exact (if_neg (by omega)).symm) (lv_sub hl [1, 0, 2, 3, 4, 5, 6, 7] rfl)
    exact hlp_23 ((nH.toNat - 0) + 1) 0 0 (fS ((u).toNat)) ls (Nat.lt_succ_self _) (by first | rfl | assumption | omega) (by first | rfl | assumption | omega) (by first | rfl | assumption | omega) (lv_sub hl [1, 0, 2, 3, 4, 5, 6, 7] rfl)
  · refine lv_iconst (v := (bI (false))) hx hb d_S_hasRoom_10 (by decide) ?_
    refine fw_Rzret hx hb hr hlocks ?_ d_S_hasRoom_11
    · simp only [fc_room]; rw [decide_eq_false (by omega)]; rfl

set_option maxHeartbeats 4000000 in
set_option maxRecDepth 100000 in
theorem c_S_fits (l : Launch) (dC : Nat → ClassId) (dI : Nat → Nat → Nat) (sh : Nat) (sg : Nat) (sd : Nat) (sl : Nat) (su : Nat) (ss : Nat) (nO : Int) (nH : Int) (nS : Int) (nW : Int) (nF : Int) (q : Nat) (qu : Nat) (qm : Nat) (qo : Nat) (au : Nat → Int) (am : Nat → Int) (kI : ClassId) (kL : ClassId) (fL : Nat → Int) (fU : Nat → Int) (fS : Nat → Int64) (h : Int) (u : Int) (mi : Int) (g1 : 0 ≤ h) (g2 : h < 6) (h1 : 0 ≤ u) (h2 : u < 3) (h3 : 0 ≤ nH) (h4 : nH ≤ 6) (h5 : fw_b (mi + fL h.toNat)) (h6 : ∀ j : Nat, (j : Int) < nH → fw_b (au j)) (h7 : 0 ≤ fU h.toNat) (h8 : fU h.toNat < 2147483648) : Met l y_S_fits (Cond.code y_S_fits b_S_fits 5 (some .boolean) :: gw) ({ frames := 2, locals := 49, cells := 0, slots := 0 }) (fw_Pr (dC, dI) [.ref sh, .ref q, .int (iI (h)), .int (iI (u)), .int (iI (mi))] [(sh, .inr (1, [.ref sg, .ref sd, .int (iI (nO)), .ref sl, .ref su, .int (iI (nH)), .ref ss, .int (iI (nS)), .int (iI (nW)), .int (iI (nF))])), (sl, fw_a kI 6 (fL)), (su, fw_a kI 6 (fU)), (ss, fw_l kL 3 (fS)), (q, .inr (0, [.ref qu, .ref qm, .ref qo])), (qu, fw_a kI 6 (au)), (qm, fw_a kI 6 (am))] [(kI, .int), (kL, .long)]) (fw_Rv (.int (bI (fc_fits fS fU fL au am nH h u mi)))) 0 0 (fun _ => False) := by
  refine fw_ofR (by decide) (Nat.le_of_ble_eq_true rfl) ?_
  intro p e s m below meth c ls hx hb hr hts hown hlocks hml hP hK hN hl
  have hl : lv_has ls 5 [(0, .ref sh), (1, .ref q), (2, .int (iI (h))), (3, .int (iI (u))), (4, .int (iI (mi)))] := hl
  refine lv_aload_n hx hb d_S_fits_0 rfl (lv_at hl 0 rfl) ?_
  refine va_get (D := (dC, dI)) (ci := 1) (v := .ref su) (C := R_S) (T := T_S) (N := 10) hx hb hts in_S hown hK hP 0 rfl rfl 4 (by decide) (hts _ kw_37) (fun _ h9 => h9) rfl d_S_fits_1 ?_
  refine lv_iload_n hx hb d_S_fits_4 rfl (lv_at hl 2 rfl) ?_
  refine fw_iald hx hb hK hP 2 0 rfl rfl ((h).toNat) (by omega) (by omega) (by omega) d_S_fits_5 ?_
  refine lv_iload_n hx hb d_S_fits_6 rfl (lv_at hl 3 rfl) ?_
  refine fw_callR (va_runSN (As := [.int (iI (fU ((h).toNat))), .int (iI (u))]) (rest := []) ⟨hx, hb, hml, hown, hts⟩ (c_F_mayTake l dC dI (fU ((h).toNat)) u (by first | assumption | omega) (by first | assumption | omega) (by first | assumption | omega) (by first | assumption | omega)) ⟨va_cnB (host := R_F) 2 hts (gw_I kw_334) rfl rfl rfl (hN _ (List.mem_of_getElem? (i := 1) rfl)) (hts _ kw_1) (by decide +kernel) ⟨Nat.le_of_ble_eq_true rfl, Nat.le_of_ble_eq_true rfl⟩, hts _ kw_333, trivial⟩ (fw_preRS hP hK hN [] [] rfl rfl) rfl rfl hl.1 rfl (lv_room (Nat.le_of_ble_eq_true rfl)) d_S_fits_7 ⟨Nat.le_of_ble_eq_true rfl, Nat.le_of_ble_eq_true rfl⟩).run ?_
  refine fw_bif_eq (tgt := 35) hx hb d_S_fits_10 (by decide) (fun c_1 => ?_) (fun c_1 => ?_)
  · refine lv_iconst (v := (bI (false))) hx hb d_S_fits_35 (by decide) ?_
    refine fw_Rzret hx hb hr hlocks ?_ d_S_fits_36
    · unfold fc_fits; first | (rw [c_1, c_1]; rfl) | (rw [c_1]; simp)
  · refine lv_aload_n hx hb d_S_fits_13 rfl (lv_at hl 0 rfl) ?_
    refine lv_aload_n hx hb d_S_fits_14 rfl (lv_at hl 1 rfl) ?_
    refine lv_iload_n hx hb d_S_fits_15 rfl (lv_at hl 2 rfl) ?_
    refine lv_iload_n hx hb d_S_fits_16 rfl (lv_at hl 3 rfl) ?_
    refine lv_iload hx hb d_S_fits_17 (lv_at hl 4 rfl) ?_
    refine lv_aload_n hx hb d_S_fits_19 rfl (lv_at hl 0 rfl) ?_
    refine va_get (D := (dC, dI)) (ci := 1) (v := .ref sl) (C := R_S) (T := T_S) (N := 10) hx hb hts in_S hown hK hP 0 rfl rfl 3 (by decide) (hts _ kw_34) (fun _ h9 => h9) rfl d_S_fits_20 ?_
    refine lv_iload_n hx hb d_S_fits_23 rfl (lv_at hl 2 rfl) ?_
    refine fw_iald hx hb hK hP 1 0 rfl rfl ((h).toNat) (by omega) (by omega) (by omega) d_S_fits_24 ?_
    refine fw_callR (va_runV (As := [.ref q, .int (iI (h)), .int (iI (u)), .int (iI (mi)), .int (iI (fL ((h).toNat)))]) (rest := []) ⟨hx, hb, hml, hown, hts⟩ (c_S_hasRoom l dC dI sh sg sd sl su ss nO nH nS nW nF q qu qm qo au am kI kL fL fS h u mi (fL ((h).toNat)) (by first | assumption | omega) (by first | assumption | omega) (by first | assumption | omega) (by first | assumption | omega) ⟨by omega, by omega⟩ (by assumption) ⟨by omega, by omega⟩) (cwV 5 hts (gw_V kw_415 kw_336 kw_337 kw_2 kw_338) rfl rfl rfl (by decide +kernel) ⟨Nat.le_of_ble_eq_true rfl, Nat.le_of_ble_eq_true rfl⟩) (fw_preRV (ci := 1) (q0 := 0) hP hK hN [0, 1, 3, 4, 5, 6] [0, 1] rfl rfl rfl rfl) rfl rfl hl.1 rfl (lv_room (Nat.le_of_ble_eq_true rfl)) d_S_fits_25 ⟨Nat.le_of_ble_eq_true rfl, Nat.le_of_ble_eq_true rfl⟩).run ?_
    refine fw_bif_eq (tgt := 35) hx hb d_S_fits_28 (by decide) (fun c_2 => ?_) (fun c_2 => ?_)
    · refine lv_iconst (v := (bI (false))) hx hb d_S_fits_35 (by decide) ?_
      refine fw_Rzret hx hb hr hlocks ?_ d_S_fits_36
      · unfold fc_fits; first | (rw [c_1, c_2]; rfl) | (rw [c_2]; simp)
    · refine lv_iconst (v := (bI (true))) hx hb d_S_fits_31 (by decide) ?_
      refine lv_goto (tgt := 36) hx hb d_S_fits_32 (by decide) ?_
      refine fw_Rzret hx hb hr hlocks ?_ d_S_fits_36
      · unfold fc_fits; first | (rw [c_1, c_2]; rfl) | (rw [c_2]; simp)
end
section
-- throwing: what must hold for it
def gs : List (Nat × String) := [(49, "there are 8 orders"), (60, "grade or due minute"), (76, "no such order or unit"), (82, "there are 6 heats"), (87, "length, units or minute"), (99, "the heat does not fit"), (116, "no such unit"), (121, "there are 10 stops"), (123, "minutes of the stop"), (132, "now or freeze"), (143, "no such heat or unit"), (149, "the heat is frozen"), (151, "minute"), (157, "the heat does not fit there"), (162, "no such heat or order"), (167, "another grade, or its own order"), (170, "nodes"), (190, "no such what"), (196, "there was no run"), (206, "no such heat or what"), (222, "no such copy"), (224, "the copy was not kept"), (232, "there is nothing to undo")]
def fw_X (A : Nat → Prop) (U : State) (H : Heap) : Prop := vx_Zq Bundle.tN "UNASSIGNED_STACK" Bundle.steD A U H ∧ vx_Zq Bundle.tN "SUPPRESSED_SENTINEL" Bundle.listD A U H ∧ ∀ q ∈ gs, ∃ sa, vk_R R_F q.1 q.2 sa U
theorem fw_X.narrow {A B : Nat → Prop} {U : State} {H : Heap} (h : fw_X A U H) (hAB : ∀ q, B q → A q) : fw_X B U H := ⟨h.1.narrow hAB, h.2.1.narrow hAB, h.2.2⟩
theorem fw_X.kept {A : Nat → Prop} {U : State} {H H1 : Heap} (h : fw_X A U H) (hq : ∀ a : Nat, a < H.size → ¬ A a → H1[a]? = H[a]?) : fw_X A U H1 := ⟨h.1.kept hq, h.2.1.kept hq, h.2.2⟩
theorem fw_X.warm {A : Nat → Prop} {s U : State} {H : Heap} (hW : s.WarmedH U.vm) (h : fw_X A s H) : fw_X A U H := ⟨h.1.moved hW.alike, h.2.1.moved hW.alike, fun q hq => by
  obtain ⟨sa, h1⟩ := h.2.2 q hq
  exact ⟨sa, h1.warm hW⟩⟩
theorem fw_X.calling {A : Nat → Prop} {U : State} {H : Heap} (h : fw_X A U H) (g : JFrame) (mk : MethodId) (a : Array Value) : fw_X A (U.calling g mk a) H := ⟨h.1.moved (u := U) (U := U.calling g mk a) (Vm.Alike.refl U.vm), h.2.1.moved (u := U) (U := U.calling g mk a) (Vm.Alike.refl U.vm), fun q hq => by
  obtain ⟨sa, h1⟩ := h.2.2 q hq
  exact ⟨sa, h1.same rfl⟩⟩
def fw_Px (D : va_G) (av : List Value) (ws : va_W) (tys : List (ClassId × FieldType)) (sz : Nat) : Array Value → State → Prop := va_Pc av (fun U => U.heap.size = sz ∧ va_P D cls_ ws U.heap ∧ va_K D cls_ tys U ∧ va_D (fun _ => True) ws ∧ fw_N U ∧ fw_X (va_A ws sz) U U.heap)
theorem fw_Px_blind {D : va_G} {av : List Value} {ws : va_W} {tys : List (ClassId × FieldType)} {sz : Nat} : FrameBlind (fw_Px D av ws tys sz) := by
  intro a U g mk h
  obtain ⟨h0, h1, h2, h3, h4, h5, h6⟩ := h
  exact ⟨h0, h1, h2, va_K.moved (u := U) (U := U.calling g mk a) (Vm.Alike.refl U.vm) h3, h4, h5.calling g mk a, h6.calling g mk a⟩
def fw_nms : List String := ["java/lang/RuntimeException", "java/lang/Exception"]
def fw_Ex (E : String) (ik ic : Nat) : Prop := Bundle.fit E = true ∧ (∀ w ∈ (vx_atS R_F ic E fw_nms).filter goodWord, w ∈ gw) ∧ (∀ w ∈ (vx_atS R_F ic E fw_nms).filter (fun w => !goodWord w), w ∈ gn) ∧ (∀ w ∈ Cond.classLink R_F ik E :: Cond.initialized E :: vx_atS R_F ic E fw_nms, vx_ot w = true) ∧ Cond.classLink R_F ik E ∈ gw ∧ Cond.initialized E ∈ gw
theorem fw_E1 : fw_Ex "java/lang/IllegalStateException" 47 51 := ⟨by decide +kernel, by decide +kernel, by decide +kernel, by decide +kernel, by decide +kernel, by decide +kernel⟩
theorem fw_E2 : fw_Ex "java/lang/IllegalArgumentException" 58 62 := ⟨by decide +kernel, by decide +kernel, by decide +kernel, by decide +kernel, by decide +kernel, by decide +kernel⟩
theorem fw_E3 : fw_Ex "java/lang/IndexOutOfBoundsException" 74 78 := ⟨by decide +kernel, by decide +kernel, by decide +kernel, by decide +kernel, by decide +kernel, by decide +kernel⟩
theorem fw_E4 : fw_Ex "java/lang/UnsupportedOperationException" 97 101 := ⟨by decide +kernel, by decide +kernel, by decide +kernel, by decide +kernel, by decide +kernel, by decide +kernel⟩
/-- the end by an exception: which one, the world as it was -/
def fw_XC (D : va_G) (W0 : va_W) (px : String → Prop) (A : Nat → Prop) : String → State → State → Prop := fun E st t => px E ∧ va_P D cls_ W0 t.heap ∧ va_F A st t
theorem fw_throw {p : Program} {l : Launch} {e : Env} {R : Room} {s : State} {m : MethodId} {args : Array Value} {below : List Frame} {meth : Method} {c : Code} {cc : ByteArray} {pc : Nat} {ls : Array Slot} {rest : List Value} {D : va_G} {A : Nat → Prop} {W0 : va_W} {px : String → Prop} {Qc : Array Value → State → Outcome → State → Prop} {E text : String} {ik is ic : Nat}
    (hx : p.tables.exec = Jvm.exec) (hb : c.code = cc) (hlt : l.stackTraces = false) (hown : s.vm.findClass R_F = some m.cls) (hts : ∀ w ∈ gw, w.before args s = true) (hN : fw_N s) (hX : fw_X A s s.heap) (hstr : (is, text) ∈ gs) (hE : fw_Ex E ik ic) (hP : va_P D cls_ W0 s.heap) (hsize : ls.size = c.maxLocals)
    (d0 : decode cc pc = .ok (.new ik, 3)) (d3 : decode cc (pc + 3) = .ok (.dup, 1)) (d4 : decode cc (pc + 4) = .ok (.ldc is, 2)) (d6 : decode cc (pc + 6) = .ok (.invokespecial ic, 3)) (d9 : decode cc (pc + 9) = .ok (.athrow, 1)) (htb : ∀ x ∈ c.exceptionTable.toList, False)
    (hRf : 5 < R.frames) (hRl : (rest.map fun v => v.category).sum + 82 ≤ R.locals) (hRc : 1 ≤ R.cells) (hRs : 6 ≤ R.slots) (hlocks : meth.locks = false) (hpx : px E) :
    W p l e R s m args below meth c s.heap [] 0 0 (vx_MQ below Qc (fw_XC D W0 px A) args s 1 6 A) (F0 m pc ls rest) := by
  obtain ⟨h1, h2, h3, h4, h5, h6⟩ := hE
  obtain ⟨sa, hsa⟩ := hX.2.2 _ hstr
  refine vx_throwS (names := fw_nms) (A := A) hx hb hlt hown h1 (by decide) (hts _ h5) (hts _ h6) hsa (vx_hat (fun w hw => hts w (h2 w hw)) h3 (fun w hw => ?_)) h4 hX.1 hX.2.1 va_S.rf hsize d0 d3 d4 d6 d9 (fun x hx => (htb x hx).elim) hRf hRl (by omega) (by omega) hlocks (fun t _ hz hk => ⟨hpx, fun k q hq => (hP k q hq).kept (hk q.1 (hP k q hq).lt), hz, fun q hq _ => hk q hq⟩) (fun z hz => nomatch hz) (Nat.le_refl _) (Nat.le_refl _)
  have hg := hN w hw
  simp only [gn, List.mem_cons, List.not_mem_nil, or_false] at hw
  rcases hw with rfl | rfl | rfl | rfl | rfl | rfl | rfl | rfl | rfl | rfl | rfl <;> exact va_Nw.use rfl hg
theorem fw_ofX {l : Launch} {D : va_G} {y : MethodName} {cc : ByteArray} {maxL : Nat} {ret : Option FieldType} {rm : Room} {av : List Value} {W0 : va_W} {T0 : List (ClassId × FieldType)} {sz mc ms : Nat} {Qc : (Nat → Prop) → Array Value → State → Outcome → State → Prop} {XC : (Nat → Prop) → String → State → State → Prop} (hy : plainName y.cls = true) (hlen : (lg_sl av).length ≤ maxL)
    (body : ∀ (p : Program) (e : Env) (s : State) (m : MethodId) (below : List Frame) (meth : Method) (c : Code) (A : Nat → Prop) (ls : Array Slot), p.tables.exec = Jvm.exec → c.code = cc → meth.sig.returnType = ret → (∀ w ∈ gw, w.before av.toArray s = true) → s.vm.findClass y.cls = some m.cls → meth.locks = false → (∀ x ∈ c.exceptionTable.toList, False) → c.maxLocals = maxL → s.heap.size = sz → va_P D cls_ W0 s.heap → va_K D cls_ T0 s → va_D A W0 → fw_N s → fw_X A s s.heap → (∀ q, s.heap.size ≤ q → A q) → va_S A s.heap s.heap [] → lv_has ls maxL (lv_args 0 av) → W p l e rm s m av.toArray below meth c s.heap [] 0 0 (vx_MQ below (Qc A) (XC A) av.toArray s mc ms A) (F0 m 0 ls [])) : vx_Met l y (Cond.code y cc maxL ret :: gw) rm (fw_Px D av W0 T0 sz) (Qc (va_A W0 sz)) (XC (va_A W0 sz)) mc ms (va_A W0 sz) := by
  refine vx_ofW (cc := cc) (maxL := maxL) (ret := ret) hy rfl ?_
  intro p e s m args below meth c s₁ B hml htb hv
  obtain ⟨rfl, hsz, hP, hK, hD, hN, hX⟩ := hv
  have hts := atoms_spec (ws := Cond.code y cc maxL ret :: gw) B.pre
  have hl := lv_entry av (n := maxL) hlen
  rw [lg_entry_eq]
  subst hsz
  exact body p e s m below meth c (va_A W0 s.heap.size) _ B.exec B.bytes B.returns (fun w h => hts w (List.mem_cons_of_mem _ h)) (findClass_of_methodNamed B.named) B.notSynchronized htb hml rfl hP hK hD.self hN hX (fun q h => Or.inr h) va_S.rf hl
-- a body's states named: the post world out of a choice
def fw_QX {S : Type} (post : S → Prop) (r : S → Option Value) (D : va_G) (w1 : S → va_W) (A : Nat → Prop) : Array Value → State → Outcome → State → Prop := fun _ st o t => (∃ u : S, post u ∧ o = .returned (r u) ∧ va_P D cls_ (w1 u) t.heap) ∧ va_F A st t
end
section
def k_order (nO g du : Int) : Int := if nO < 8 then (if fc_in g 0 9 = false then 2 else if fc_in du 0 200 = true then 0 else 2) else 1
theorem fc_in_t {x y z : Int} (h : fc_in x y z = true) : y ≤ x ∧ x ≤ z := by simpa [fc_in] using h
theorem fc_in3 {x : Int} (h : fc_in x 0 3 = true) : x = 0 ∨ x = 1 ∨ x = 2 ∨ x = 3 := by have := fc_in_t h; omega
theorem fc_in4 {x : Int} (h : fc_in x 0 4 = true) : x = 0 ∨ x = 1 ∨ x = 2 ∨ x = 3 ∨ x = 4 := by have := fc_in_t h; omega
def iv_sh (nO nH nS nW nF : Int) (fL fU fG fD : Nat → Int) : Prop := (0 ≤ nO ∧ nO ≤ 8 ∧ 0 ≤ nH ∧ nH ≤ 6 ∧ 0 ≤ nS ∧ nS ≤ 10 ∧ 0 ≤ nW ∧ nW ≤ 60 ∧ 0 ≤ nF ∧ nF ≤ 60) ∧ (∀ j : Nat, (j : Int) < nH → 1 ≤ fL j ∧ fL j ≤ 20 ∧ 1 ≤ fU j ∧ fU j ≤ 7) ∧ (∀ j : Nat, (j : Int) < nO → 0 ≤ fG j ∧ fG j ≤ 9 ∧ 0 ≤ fD j ∧ fD j ≤ 200)
def iv_pl (nO nH : Int) (fL fU au am ao : Nat → Int) : Prop := ∀ j : Nat, (j : Int) < nH → 0 ≤ au j ∧ au j < 3 ∧ 0 ≤ am j ∧ am j + fL j ≤ 60 ∧ 0 ≤ ao j ∧ ao j < nO ∧ fc_bit (fU j) (au j).toNat = true
def k_stop (nS u a b : Int) : Int := if fc_in u 0 2 = true then (if nS < 10 then (if fc_in a 0 60 = false then 3 else if fc_in b 0 60 = false then 3 else if a < b then 0 else 3) else 2) else 1
def k_clock (n f : Int) : Int := if fc_in n 0 60 = false then 1 else if fc_in f 0 60 = true then 0 else 1
theorem fw_cpyZ {f g : Nat → Bool} {i : Nat} (h : ∀ j, j < i → f j = g j) : ∀ j, j < i + 1 → fw_up f i (g i) j = g j := by
  intro j hj
  unfold fw_up
  split
  · rename_i q; rw [q]
  · exact h j (by omega)
theorem va_P.fnZ {D : va_G} {ws : va_W} {H : Heap} (hP : va_P D cls_ ws H) (k : Nat) {a : Nat} {cA : ClassId} {n : Nat} {f g : Nat → Bool} (hk : ws[k]? = some (a, fw_z cA n f)) (h : ∀ j, j < n → f j = g j) : va_P D cls_ (ws.set k (a, fw_z cA n g)) H := by
  have hl := (List.getElem?_eq_some_iff.mp hk).1
  intro j q hq
  by_cases hjk : k = j
  · subst hjk
    rw [List.getElem?_set_self hl] at hq
    cases hq
    have h1 := hP k _ hk
    show H[a]? = some (vp_cell cA (n, .inl (fun j => bI (g j))))
    have h2 : H[a]? = some (vp_cell cA (n, .inl (fun j => bI (f j)))) := h1
    rw [h2, vp_cell_i, vp_cell_i]
    unfold arrV
    congr 2
    apply Array.ext
    · simp
    · intro i h3 h4
      simp only [Array.getElem_ofFn]
      rw [h i (by simpa using h3)]
  · rw [List.getElem?_set_ne hjk] at hq
    exact hP j q hq
def k_divert (nH nO h o : Int) (fG ao : Nat → Int) : Int := if fc_in h 0 (nH - 1) = false then 1 else if fc_in o 0 (nO - 1) = true then (if ao h.toNat = o then 2 else if fG (ao h.toNat).toNat = fG o.toNat then 0 else 2) else 1
def k_place (nH nW nF h u mi : Int) (fS : Nat → Int64) (fU fL au am : Nat → Int) : Int := if fc_in h 0 (nH - 1) = false then 1 else if fc_in u 0 2 = true then (if decide (am h.toNat < nW + nF) = false then (if fc_in mi 0 59 = true then (if fc_fits fS fU fL au am nH h u mi = true then 0 else 4) else 3) else 2) else 1
set_option maxHeartbeats 4000000 in
set_option maxRecDepth 100000 in
theorem c_F_order (l : Launch) (hlt : l.stackTraces = false) (dC : Nat → ClassId) (dI : Nat → Nat → Nat) (sz : Nat) (fc : Nat) (pl : Nat) (be : Nat) (ud : Bool) (cp : Nat) (kp : Nat) (se : Nat) (sh : Nat) (sg : Nat) (sd : Nat) (sl : Nat) (su : Nat) (ss : Nat) (nO : Int) (nH : Int) (nS : Int) (nW : Int) (nF : Int) (kI : ClassId) (fG : Nat → Int) (fD : Nat → Int) (g : Int) (du : Int) (h1 : 0 ≤ nO) (h2 : nO ≤ 8) (hb_g : fw_b g) (hb_du : fw_b du) : vx_Met l y_F_order (Cond.code y_F_order b_F_order 3 (some .int) :: gw) ({ frames := 6, locals := 90, cells := 1, slots := 6 }) (fw_Px (dC, dI) [.ref fc, .int (iI (g)), .int (iI (du))] [(fc, .inr (3, [.ref sh, .ref pl, .ref be, .int (bI (ud)), .ref cp, .ref kp, .ref se])), (sh, .inr (1, [.ref sg, .ref sd, .int (iI (nO)), .ref sl, .ref su, .int (iI (nH)), .ref ss, .int (iI (nS)), .int (iI (nW)), .int (iI (nF))])), (sg, fw_a kI 8 (fG)), (sd, fw_a kI 8 (fD))] [(kI, .int)] sz) (fw_Qi (iI (nO + 1 - 1)) (fun H => (k_order nO g du = 0) ∧ va_P (dC, dI) cls_ [(fc, .inr (3, [.ref sh, .ref pl, .ref be, .int (bI (ud)), .ref cp, .ref kp, .ref se])), (sh, .inr (1, [.ref sg, .ref sd, .int (iI (nO + 1)), .ref sl, .ref su, .int (iI (nH)), .ref ss, .int (iI (nS)), .int (iI (nW)), .int (iI (nF))])), (sg, fw_a kI 8 (fw_up fG nO.toNat g)), (sd, fw_a kI 8 (fw_up fD nO.toNat du))] H) (va_A [(fc, .inr (3, [.ref sh, .ref pl, .ref be, .int (bI (ud)), .ref cp, .ref kp, .ref se])), (sh, .inr (1, [.ref sg, .ref sd, .int (iI (nO)), .ref sl, .ref su, .int (iI (nH)), .ref ss, .int (iI (nS)), .int (iI (nW)), .int (iI (nF))])), (sg, fw_a kI 8 (fG)), (sd, fw_a kI 8 (fD))] sz)) (fw_XC (dC, dI) [(fc, .inr (3, [.ref sh, .ref pl, .ref be, .int (bI (ud)), .ref cp, .ref kp, .ref se])), (sh, .inr (1, [.ref sg, .ref sd, .int (iI (nO)), .ref sl, .ref su, .int (iI (nH)), .ref ss, .int (iI (nS)), .int (iI (nW)), .int (iI (nF))])), (sg, fw_a kI 8 (fG)), (sd, fw_a kI 8 (fD))] (fun E => (E = "java/lang/IllegalStateException" ∧ k_order nO g du = 1) ∨ (E = "java/lang/IllegalArgumentException" ∧ k_order nO g du = 2)) (va_A [(fc, .inr (3, [.ref sh, .ref pl, .ref be, .int (bI (ud)), .ref cp, .ref kp, .ref se])), (sh, .inr (1, [.ref sg, .ref sd, .int (iI (nO)), .ref sl, .ref su, .int (iI (nH)), .ref ss, .int (iI (nS)), .int (iI (nW)), .int (iI (nF))])), (sg, fw_a kI 8 (fG)), (sd, fw_a kI 8 (fD))] sz)) 1 6 (va_A [(fc, .inr (3, [.ref sh, .ref pl, .ref be, .int (bI (ud)), .ref cp, .ref kp, .ref se])), (sh, .inr (1, [.ref sg, .ref sd, .int (iI (nO)), .ref sl, .ref su, .int (iI (nH)), .ref ss, .int (iI (nS)), .int (iI (nW)), .int (iI (nF))])), (sg, fw_a kI 8 (fG)), (sd, fw_a kI 8 (fD))] sz) := by
  refine fw_ofX (Qc := fun A => fw_Qi (iI (nO + 1 - 1)) (fun H => (k_order nO g du = 0) ∧ va_P (dC, dI) cls_ [(fc, .inr (3, [.ref sh, .ref pl, .ref be, .int (bI (ud)), .ref cp, .ref kp, .ref se])), (sh, .inr (1, [.ref sg, .ref sd, .int (iI (nO + 1)), .ref sl, .ref su, .int (iI (nH)), .ref ss, .int (iI (nS)), .int (iI (nW)), .int (iI (nF))])), (sg, fw_a kI 8 (fw_up fG nO.toNat g)), (sd, fw_a kI 8 (fw_up fD nO.toNat du))] H) A) (XC := fun A => fw_XC (dC, dI) [(fc, .inr (3, [.ref sh, .ref pl, .ref be, .int (bI (ud)), .ref cp, .ref kp, .ref se])), (sh, .inr (1, [.ref sg, .ref sd, .int (iI (nO)), .ref sl, .ref su, .int (iI (nH)), .ref ss, .int (iI (nS)), .int (iI (nW)), .int (iI (nF))])), (sg, fw_a kI 8 (fG)), (sd, fw_a kI 8 (fD))] (fun E => (E = "java/lang/IllegalStateException" ∧ k_order nO g du = 1) ∨ (E = "java/lang/IllegalArgumentException" ∧ k_order nO g du = 2)) A) (by decide) (Nat.le_of_ble_eq_true rfl) ?_
  intro p e s m below meth c A ls hx hb hr hts hown hlocks htb hml hsz hP hK hD hN hX hA hS hl
  have hP0 := hP
  have hl : lv_has ls 3 [(0, .ref fc), (1, .int (iI (g))), (2, .int (iI (du)))] := hl
  refine lv_aload_n hx hb d_F_order_0 rfl (lv_at hl 0 rfl) ?_
  refine va_get (D := (dC, dI)) (ci := 3) (v := .ref sh) (C := R_F) (T := T_F) (N := 7) hx hb hts in_F hown hK hP 0 rfl rfl 0 (by decide) (hts _ kw_153) (fun _ h9 => h9) rfl d_F_order_1 ?_
  refine va_get (D := (dC, dI)) (ci := 1) (v := .int (iI (nO))) (C := R_S) (T := T_S) (N := 10) hx hb hts in_S hown hK hP 1 rfl rfl 2 (by decide) (hts _ kw_32) (fun _ h9 => h9) rfl d_F_order_4 ?_
  refine lv_bipush (v := (iI (8))) hx hb d_F_order_7 (by decide) ?_
  refine fw_icmp_lt (tgt := 22) hx hb d_F_order_9 (by decide) ⟨by omega, by omega⟩ ⟨by omega, by omega⟩ (fun c_1 => ?_) (fun c_1 => ?_)
  · refine lv_iload_n hx hb d_F_order_22 rfl (lv_at hl 1 rfl) ?_
    refine lv_iconst (v := (iI (0))) hx hb d_F_order_23 (by decide) ?_
    refine lv_bipush (v := (iI (9))) hx hb d_F_order_24 (by decide) ?_
    refine fw_callR (va_runS (As := [.int (iI (g)), .int (iI (0)), .int (iI (9))]) (rest := []) ⟨hx, hb, hml, hown, hts⟩ (c_F_isWithin l dC dI g 0 9 ⟨by omega, by omega⟩ ⟨by omega, by omega⟩ ⟨by omega, by omega⟩) (cwS 3 hts (gw_S kw_272 kw_273 kw_1 kw_274) rfl rfl rfl (by decide +kernel) ⟨Nat.le_of_ble_eq_true rfl, Nat.le_of_ble_eq_true rfl⟩) (fw_preRS hP hK hN [] [] rfl rfl) rfl rfl hl.1 rfl (lv_room (Nat.le_of_ble_eq_true rfl)) d_F_order_26 ⟨Nat.le_of_ble_eq_true rfl, Nat.le_of_ble_eq_true rfl⟩).run ?_
    refine fw_bif_eq (tgt := 43) hx hb d_F_order_29 (by decide) (fun c_2 => ?_) (fun c_2 => ?_)
    · exact fw_throw hx hb hlt hown hts hN hX (List.mem_of_getElem? (i := 1) rfl) fw_E2 hP0 (hl.1.trans hml.symm) d_F_order_43 d_F_order_46 d_F_order_47 d_F_order_49 d_F_order_52 htb (Nat.le_of_ble_eq_true rfl) (Nat.le_of_ble_eq_true rfl) (Nat.le_of_ble_eq_true rfl) (Nat.le_of_ble_eq_true rfl) hlocks (Or.inr ⟨rfl, by simp [k_order, c_1, c_2]⟩)
    · refine lv_iload_n hx hb d_F_order_32 rfl (lv_at hl 2 rfl) ?_
      refine lv_iconst (v := (iI (0))) hx hb d_F_order_33 (by decide) ?_
      refine lv_sipush (v := (iI (200))) hx hb d_F_order_34 (by decide) ?_
      refine fw_callR (va_runS (As := [.int (iI (du)), .int (iI (0)), .int (iI (200))]) (rest := []) ⟨hx, hb, hml, hown, hts⟩ (c_F_isWithin l dC dI du 0 200 ⟨by omega, by omega⟩ ⟨by omega, by omega⟩ ⟨by omega, by omega⟩) (cwS 3 hts (gw_S kw_272 kw_273 kw_1 kw_274) rfl rfl rfl (by decide +kernel) ⟨Nat.le_of_ble_eq_true rfl, Nat.le_of_ble_eq_true rfl⟩) (fw_preRS hP hK hN [] [] rfl rfl) rfl rfl hl.1 rfl (lv_room (Nat.le_of_ble_eq_true rfl)) d_F_order_37 ⟨Nat.le_of_ble_eq_true rfl, Nat.le_of_ble_eq_true rfl⟩).run ?_
      refine fw_bif_ne (tgt := 53) hx hb d_F_order_40 (by decide) (fun c_3 => ?_) (fun c_3 => ?_)
      · refine lv_aload_n hx hb d_F_order_53 rfl (lv_at hl 0 rfl) ?_
        refine va_get (D := (dC, dI)) (ci := 3) (v := .ref sh) (C := R_F) (T := T_F) (N := 7) hx hb hts in_F hown hK hP 0 rfl rfl 0 (by decide) (hts _ kw_153) (fun _ h9 => h9) rfl d_F_order_54 ?_
        refine lv_iload_n hx hb d_F_order_57 rfl (lv_at hl 1 rfl) ?_
        refine lv_iload_n hx hb d_F_order_58 rfl (lv_at hl 2 rfl) ?_
        refine fw_calliP [1, 2, 3] (va_runV (As := [.int (iI (g)), .int (iI (du))]) (rest := []) ⟨hx, hb, hml, hown, hts⟩ (c_S_addOrder l dC dI _ sh sg sd sl su ss nO nH nS nW nF kI fG fD g du (by first | assumption | omega) (by first | assumption | omega)) (cwV 2 hts (gw_V kw_291 kw_292 kw_293 kw_2 kw_294) rfl rfl rfl (by decide +kernel) ⟨Nat.le_of_ble_eq_true rfl, Nat.le_of_ble_eq_true rfl⟩) (fw_preV (ci := 1) (q0 := 1) hP hK hD hN [1, 2, 3] [0] rfl rfl rfl rfl rfl) rfl rfl hl.1 rfl (lv_room (Nat.le_of_ble_eq_true rfl)) d_F_order_59 ⟨Nat.le_of_ble_eq_true rfl, Nat.le_of_ble_eq_true rfl⟩) hP hD hS hA rfl rfl rfl (fun H locs hP hD hS => ?_)
        have hP : va_P (dC, dI) cls_ [(fc, .inr (3, [.ref sh, .ref pl, .ref be, .int (bI (ud)), .ref cp, .ref kp, .ref se])), (sh, .inr (1, [.ref sg, .ref sd, .int (iI (nO + 1)), .ref sl, .ref su, .int (iI (nH)), .ref ss, .int (iI (nS)), .int (iI (nW)), .int (iI (nF))])), (sg, fw_a kI 8 (fw_up fG nO.toNat g)), (sd, fw_a kI 8 (fw_up fD nO.toNat du))] H := hP
        have hD : va_D A [(fc, .inr (3, [.ref sh, .ref pl, .ref be, .int (bI (ud)), .ref cp, .ref kp, .ref se])), (sh, .inr (1, [.ref sg, .ref sd, .int (iI (nO + 1)), .ref sl, .ref su, .int (iI (nH)), .ref ss, .int (iI (nS)), .int (iI (nW)), .int (iI (nF))])), (sg, fw_a kI 8 (fw_up fG nO.toNat g)), (sd, fw_a kI 8 (fw_up fD nO.toNat du))] := hD
        refine W.widen (k := 1) (n := 6) (Nat.zero_le _) (Nat.zero_le _) ?_
        refine vx_ret ?_
        refine fw_iret hx hb hr hlocks hS ?_ ?_ d_F_order_62
        · exact ⟨by simp [k_order, c_1, c_2, c_3], hP⟩
        · rfl
      · exact fw_throw hx hb hlt hown hts hN hX (List.mem_of_getElem? (i := 1) rfl) fw_E2 hP0 (hl.1.trans hml.symm) d_F_order_43 d_F_order_46 d_F_order_47 d_F_order_49 d_F_order_52 htb (Nat.le_of_ble_eq_true rfl) (Nat.le_of_ble_eq_true rfl) (Nat.le_of_ble_eq_true rfl) (Nat.le_of_ble_eq_true rfl) hlocks (Or.inr ⟨rfl, by simp [k_order, c_1, c_2, c_3]⟩)
  · exact fw_throw hx hb hlt hown hts hN hX (List.mem_of_getElem? (i := 0) rfl) fw_E1 hP0 (hl.1.trans hml.symm) d_F_order_12 d_F_order_15 d_F_order_16 d_F_order_18 d_F_order_21 htb (Nat.le_of_ble_eq_true rfl) (Nat.le_of_ble_eq_true rfl) (Nat.le_of_ble_eq_true rfl) (Nat.le_of_ble_eq_true rfl) hlocks (Or.inl ⟨rfl, by simp [k_order, c_1]⟩)

set_option maxHeartbeats 4000000 in
set_option maxRecDepth 100000 in
theorem c_F_isOrder (l : Launch) (dC : Nat → ClassId) (dI : Nat → Nat → Nat) (fc : Nat) (pl : Nat) (be : Nat) (ud : Bool) (cp : Nat) (kp : Nat) (se : Nat) (sh : Nat) (sg : Nat) (sd : Nat) (sl : Nat) (su : Nat) (ss : Nat) (nO : Int) (nH : Int) (nS : Int) (nW : Int) (nF : Int) (x : Int) (hb_x : fw_b x) (hn : fw_b (nO - 1)) : Met l y_F_isOrder (Cond.code y_F_isOrder b_F_isOrder 2 (some .boolean) :: gw) ({ frames := 1, locals := 22, cells := 0, slots := 0 }) (fw_Pr (dC, dI) [.ref fc, .int (iI (x))] [(fc, .inr (3, [.ref sh, .ref pl, .ref be, .int (bI (ud)), .ref cp, .ref kp, .ref se])), (sh, .inr (1, [.ref sg, .ref sd, .int (iI (nO)), .ref sl, .ref su, .int (iI (nH)), .ref ss, .int (iI (nS)), .int (iI (nW)), .int (iI (nF))]))] []) (fw_Rv (.int (bI (fc_in x 0 (nO - 1))))) 0 0 (fun _ => False) := by
  refine fw_ofR (by decide) (Nat.le_of_ble_eq_true rfl) ?_
  intro p e s m below meth c ls hx hb hr hts hown hlocks hml hP hK hN hl
  have hl : lv_has ls 2 [(0, .ref fc), (1, .int (iI (x)))] := hl
  refine lv_iload_n hx hb d_F_isOrder_0 rfl (lv_at hl 1 rfl) ?_
  refine lv_iconst (v := (iI (0))) hx hb d_F_isOrder_1 (by decide) ?_
  refine lv_aload_n hx hb d_F_isOrder_2 rfl (lv_at hl 0 rfl) ?_
  refine va_get (D := (dC, dI)) (ci := 3) (v := .ref sh) (C := R_F) (T := T_F) (N := 7) hx hb hts in_F hown hK hP 0 rfl rfl 0 (by decide) (hts _ kw_153) (fun _ h9 => h9) rfl d_F_isOrder_3 ?_
  refine va_get (D := (dC, dI)) (ci := 1) (v := .int (iI (nO))) (C := R_S) (T := T_S) (N := 10) hx hb hts in_S hown hK hP 1 rfl rfl 2 (by decide) (hts _ kw_32) (fun _ h9 => h9) rfl d_F_isOrder_6 ?_
  refine lv_iconst (v := (iI (1))) hx hb d_F_isOrder_9 (by decide) ?_
  refine fw_isub hx hb d_F_isOrder_10 ?_
  refine fw_callR (va_runS (As := [.int (iI (x)), .int (iI (0)), .int (iI (nO - 1))]) (rest := []) ⟨hx, hb, hml, hown, hts⟩ (c_F_isWithin l dC dI x 0 (nO - 1) ⟨by omega, by omega⟩ ⟨by omega, by omega⟩ ⟨by omega, by omega⟩) (cwS 3 hts (gw_S kw_272 kw_273 kw_1 kw_274) rfl rfl rfl (by decide +kernel) ⟨Nat.le_of_ble_eq_true rfl, Nat.le_of_ble_eq_true rfl⟩) (fw_preRS hP hK hN [] [] rfl rfl) rfl rfl hl.1 rfl (lv_room (Nat.le_of_ble_eq_true rfl)) d_F_isOrder_11 ⟨Nat.le_of_ble_eq_true rfl, Nat.le_of_ble_eq_true rfl⟩).run ?_
  refine fw_Rzret hx hb hr hlocks ?_ d_F_isOrder_14
  · rfl

set_option maxHeartbeats 4000000 in
set_option maxRecDepth 100000 in
theorem c_F_isHeat (l : Launch) (dC : Nat → ClassId) (dI : Nat → Nat → Nat) (fc : Nat) (pl : Nat) (be : Nat) (ud : Bool) (cp : Nat) (kp : Nat) (se : Nat) (sh : Nat) (sg : Nat) (sd : Nat) (sl : Nat) (su : Nat) (ss : Nat) (nO : Int) (nH : Int) (nS : Int) (nW : Int) (nF : Int) (x : Int) (hb_x : fw_b x) (hn : fw_b (nH - 1)) : Met l y_F_isHeat (Cond.code y_F_isHeat b_F_isHeat 2 (some .boolean) :: gw) ({ frames := 1, locals := 22, cells := 0, slots := 0 }) (fw_Pr (dC, dI) [.ref fc, .int (iI (x))] [(fc, .inr (3, [.ref sh, .ref pl, .ref be, .int (bI (ud)), .ref cp, .ref kp, .ref se])), (sh, .inr (1, [.ref sg, .ref sd, .int (iI (nO)), .ref sl, .ref su, .int (iI (nH)), .ref ss, .int (iI (nS)), .int (iI (nW)), .int (iI (nF))]))] []) (fw_Rv (.int (bI (fc_in x 0 (nH - 1))))) 0 0 (fun _ => False) := by
  refine fw_ofR (by decide) (Nat.le_of_ble_eq_true rfl) ?_
  intro p e s m below meth c ls hx hb hr hts hown hlocks hml hP hK hN hl
  have hl : lv_has ls 2 [(0, .ref fc), (1, .int (iI (x)))] := hl
  refine lv_iload_n hx hb d_F_isHeat_0 rfl (lv_at hl 1 rfl) ?_
  refine lv_iconst (v := (iI (0))) hx hb d_F_isHeat_1 (by decide) ?_
  refine lv_aload_n hx hb d_F_isHeat_2 rfl (lv_at hl 0 rfl) ?_
  refine va_get (D := (dC, dI)) (ci := 3) (v := .ref sh) (C := R_F) (T := T_F) (N := 7) hx hb hts in_F hown hK hP 0 rfl rfl 0 (by decide) (hts _ kw_153) (fun _ h9 => h9) rfl d_F_isHeat_3 ?_
  refine va_get (D := (dC, dI)) (ci := 1) (v := .int (iI (nH))) (C := R_S) (T := T_S) (N := 10) hx hb hts in_S hown hK hP 1 rfl rfl 5 (by decide) (hts _ kw_40) (fun _ h9 => h9) rfl d_F_isHeat_6 ?_
  refine lv_iconst (v := (iI (1))) hx hb d_F_isHeat_9 (by decide) ?_
  refine fw_isub hx hb d_F_isHeat_10 ?_
  refine fw_callR (va_runS (As := [.int (iI (x)), .int (iI (0)), .int (iI (nH - 1))]) (rest := []) ⟨hx, hb, hml, hown, hts⟩ (c_F_isWithin l dC dI x 0 (nH - 1) ⟨by omega, by omega⟩ ⟨by omega, by omega⟩ ⟨by omega, by omega⟩) (cwS 3 hts (gw_S kw_272 kw_273 kw_1 kw_274) rfl rfl rfl (by decide +kernel) ⟨Nat.le_of_ble_eq_true rfl, Nat.le_of_ble_eq_true rfl⟩) (fw_preRS hP hK hN [] [] rfl rfl) rfl rfl hl.1 rfl (lv_room (Nat.le_of_ble_eq_true rfl)) d_F_isHeat_11 ⟨Nat.le_of_ble_eq_true rfl, Nat.le_of_ble_eq_true rfl⟩).run ?_
  refine fw_Rzret hx hb hr hlocks ?_ d_F_isHeat_14
  · rfl

set_option maxHeartbeats 4000000 in
set_option maxRecDepth 100000 in
theorem c_F_stop (l : Launch) (hlt : l.stackTraces = false) (dC : Nat → ClassId) (dI : Nat → Nat → Nat) (sz : Nat) (fc : Nat) (pl : Nat) (be : Nat) (ud : Bool) (cp : Nat) (kp : Nat) (se : Nat) (sh : Nat) (sg : Nat) (sd : Nat) (sl : Nat) (su : Nat) (ss : Nat) (nO : Int) (nH : Int) (nS : Int) (nW : Int) (nF : Int) (kL : ClassId) (fS : Nat → Int64) (u : Int) (a : Int) (b : Int) (h1 : 0 ≤ nS) (h2 : nS ≤ 10) (hb_u : fw_b u) (hb_a : fw_b a) (hb_b : fw_b b) : vx_Met l y_F_stop (Cond.code y_F_stop b_F_stop 4 (some .int) :: gw) ({ frames := 6, locals := 90, cells := 1, slots := 6 }) (fw_Px (dC, dI) [.ref fc, .int (iI (u)), .int (iI (a)), .int (iI (b))] [(fc, .inr (3, [.ref sh, .ref pl, .ref be, .int (bI (ud)), .ref cp, .ref kp, .ref se])), (sh, .inr (1, [.ref sg, .ref sd, .int (iI (nO)), .ref sl, .ref su, .int (iI (nH)), .ref ss, .int (iI (nS)), .int (iI (nW)), .int (iI (nF))])), (ss, fw_l kL 3 (fS))] [(kL, .long)] sz) (fw_Qi (iI (nS + 1)) (fun H => (k_stop nS u a b = 0) ∧ va_P (dC, dI) cls_ [(fc, .inr (3, [.ref sh, .ref pl, .ref be, .int (bI (ud)), .ref cp, .ref kp, .ref se])), (sh, .inr (1, [.ref sg, .ref sd, .int (iI (nO)), .ref sl, .ref su, .int (iI (nH)), .ref ss, .int (iI (nS + 1)), .int (iI (nW)), .int (iI (nF))])), (ss, fw_l kL 3 (fw_up fS u.toNat (fS u.toNat ||| fc_bits a (b - a))))] H) (va_A [(fc, .inr (3, [.ref sh, .ref pl, .ref be, .int (bI (ud)), .ref cp, .ref kp, .ref se])), (sh, .inr (1, [.ref sg, .ref sd, .int (iI (nO)), .ref sl, .ref su, .int (iI (nH)), .ref ss, .int (iI (nS)), .int (iI (nW)), .int (iI (nF))])), (ss, fw_l kL 3 (fS))] sz)) (fw_XC (dC, dI) [(fc, .inr (3, [.ref sh, .ref pl, .ref be, .int (bI (ud)), .ref cp, .ref kp, .ref se])), (sh, .inr (1, [.ref sg, .ref sd, .int (iI (nO)), .ref sl, .ref su, .int (iI (nH)), .ref ss, .int (iI (nS)), .int (iI (nW)), .int (iI (nF))])), (ss, fw_l kL 3 (fS))] (fun E => (E = "java/lang/IndexOutOfBoundsException" ∧ k_stop nS u a b = 1) ∨ (E = "java/lang/IllegalStateException" ∧ k_stop nS u a b = 2) ∨ (E = "java/lang/IllegalArgumentException" ∧ k_stop nS u a b = 3)) (va_A [(fc, .inr (3, [.ref sh, .ref pl, .ref be, .int (bI (ud)), .ref cp, .ref kp, .ref se])), (sh, .inr (1, [.ref sg, .ref sd, .int (iI (nO)), .ref sl, .ref su, .int (iI (nH)), .ref ss, .int (iI (nS)), .int (iI (nW)), .int (iI (nF))])), (ss, fw_l kL 3 (fS))] sz)) 1 6 (va_A [(fc, .inr (3, [.ref sh, .ref pl, .ref be, .int (bI (ud)), .ref cp, .ref kp, .ref se])), (sh, .inr (1, [.ref sg, .ref sd, .int (iI (nO)), .ref sl, .ref su, .int (iI (nH)), .ref ss, .int (iI (nS)), .int (iI (nW)), .int (iI (nF))])), (ss, fw_l kL 3 (fS))] sz) := by
  refine fw_ofX (Qc := fun A => fw_Qi (iI (nS + 1)) (fun H => (k_stop nS u a b = 0) ∧ va_P (dC, dI) cls_ [(fc, .inr (3, [.ref sh, .ref pl, .ref be, .int (bI (ud)), .ref cp, .ref kp, .ref se])), (sh, .inr (1, [.ref sg, .ref sd, .int (iI (nO)), .ref sl, .ref su, .int (iI (nH)), .ref ss, .int (iI (nS + 1)), .int (iI (nW)), .int (iI (nF))])), (ss, fw_l kL 3 (fw_up fS u.toNat (fS u.toNat ||| fc_bits a (b - a))))] H) A) (XC := fun A => fw_XC (dC, dI) [(fc, .inr (3, [.ref sh, .ref pl, .ref be, .int (bI (ud)), .ref cp, .ref kp, .ref se])), (sh, .inr (1, [.ref sg, .ref sd, .int (iI (nO)), .ref sl, .ref su, .int (iI (nH)), .ref ss, .int (iI (nS)), .int (iI (nW)), .int (iI (nF))])), (ss, fw_l kL 3 (fS))] (fun E => (E = "java/lang/IndexOutOfBoundsException" ∧ k_stop nS u a b = 1) ∨ (E = "java/lang/IllegalStateException" ∧ k_stop nS u a b = 2) ∨ (E = "java/lang/IllegalArgumentException" ∧ k_stop nS u a b = 3)) A) (by decide) (Nat.le_of_ble_eq_true rfl) ?_
  intro p e s m below meth c A ls hx hb hr hts hown hlocks htb hml hsz hP hK hD hN hX hA hS hl
  have hP0 := hP
  have hl : lv_has ls 4 [(0, .ref fc), (1, .int (iI (u))), (2, .int (iI (a))), (3, .int (iI (b)))] := hl
  refine lv_iload_n hx hb d_F_stop_0 rfl (lv_at hl 1 rfl) ?_
  refine fw_callR (va_runS (As := [.int (iI (u))]) (rest := []) ⟨hx, hb, hml, hown, hts⟩ (c_F_isUnit l dC dI u ⟨by omega, by omega⟩) (cwS 1 hts (gw_S kw_308 kw_309 kw_1 kw_310) rfl rfl rfl (by decide +kernel) ⟨Nat.le_of_ble_eq_true rfl, Nat.le_of_ble_eq_true rfl⟩) (fw_preRS hP hK hN [] [] rfl rfl) rfl rfl hl.1 rfl (lv_room (Nat.le_of_ble_eq_true rfl)) d_F_stop_1 ⟨Nat.le_of_ble_eq_true rfl, Nat.le_of_ble_eq_true rfl⟩).run ?_
  refine fw_bif_ne (tgt := 17) hx hb d_F_stop_4 (by decide) (fun c_1 => ?_) (fun c_1 => ?_)
  · have hu := fc_in_t c_1
    refine lv_aload_n hx hb d_F_stop_17 rfl (lv_at hl 0 rfl) ?_
    refine va_get (D := (dC, dI)) (ci := 3) (v := .ref sh) (C := R_F) (T := T_F) (N := 7) hx hb hts in_F hown hK hP 0 rfl rfl 0 (by decide) (hts _ kw_153) (fun _ h9 => h9) rfl d_F_stop_18 ?_
    refine va_get (D := (dC, dI)) (ci := 1) (v := .int (iI (nS))) (C := R_S) (T := T_S) (N := 10) hx hb hts in_S hown hK hP 1 rfl rfl 7 (by decide) (hts _ kw_45) (fun _ h9 => h9) rfl d_F_stop_21 ?_
    refine lv_bipush (v := (iI (10))) hx hb d_F_stop_24 (by decide) ?_
    refine fw_icmp_lt (tgt := 39) hx hb d_F_stop_26 (by decide) ⟨by omega, by omega⟩ ⟨by omega, by omega⟩ (fun c_2 => ?_) (fun c_2 => ?_)
    · refine lv_iload_n hx hb d_F_stop_39 rfl (lv_at hl 2 rfl) ?_
      refine lv_iconst (v := (iI (0))) hx hb d_F_stop_40 (by decide) ?_
      refine lv_bipush (v := (iI (60))) hx hb d_F_stop_41 (by decide) ?_
      refine fw_callR (va_runS (As := [.int (iI (a)), .int (iI (0)), .int (iI (60))]) (rest := []) ⟨hx, hb, hml, hown, hts⟩ (c_F_isWithin l dC dI a 0 60 ⟨by omega, by omega⟩ ⟨by omega, by omega⟩ ⟨by omega, by omega⟩) (cwS 3 hts (gw_S kw_272 kw_273 kw_1 kw_274) rfl rfl rfl (by decide +kernel) ⟨Nat.le_of_ble_eq_true rfl, Nat.le_of_ble_eq_true rfl⟩) (fw_preRS hP hK hN [] [] rfl rfl) rfl rfl hl.1 rfl (lv_room (Nat.le_of_ble_eq_true rfl)) d_F_stop_43 ⟨Nat.le_of_ble_eq_true rfl, Nat.le_of_ble_eq_true rfl⟩).run ?_
      refine fw_bif_eq (tgt := 64) hx hb d_F_stop_46 (by decide) (fun c_3 => ?_) (fun c_3 => ?_)
      · exact fw_throw hx hb hlt hown hts hN hX (List.mem_of_getElem? (i := 8) rfl) fw_E2 hP0 (hl.1.trans hml.symm) d_F_stop_64 d_F_stop_67 d_F_stop_68 d_F_stop_70 d_F_stop_73 htb (Nat.le_of_ble_eq_true rfl) (Nat.le_of_ble_eq_true rfl) (Nat.le_of_ble_eq_true rfl) (Nat.le_of_ble_eq_true rfl) hlocks (Or.inr (Or.inr ⟨rfl, by simp [k_stop, c_1, c_2, c_3]⟩))
      · refine lv_iload_n hx hb d_F_stop_49 rfl (lv_at hl 3 rfl) ?_
        refine lv_iconst (v := (iI (0))) hx hb d_F_stop_50 (by decide) ?_
        refine lv_bipush (v := (iI (60))) hx hb d_F_stop_51 (by decide) ?_
        refine fw_callR (va_runS (As := [.int (iI (b)), .int (iI (0)), .int (iI (60))]) (rest := []) ⟨hx, hb, hml, hown, hts⟩ (c_F_isWithin l dC dI b 0 60 ⟨by omega, by omega⟩ ⟨by omega, by omega⟩ ⟨by omega, by omega⟩) (cwS 3 hts (gw_S kw_272 kw_273 kw_1 kw_274) rfl rfl rfl (by decide +kernel) ⟨Nat.le_of_ble_eq_true rfl, Nat.le_of_ble_eq_true rfl⟩) (fw_preRS hP hK hN [] [] rfl rfl) rfl rfl hl.1 rfl (lv_room (Nat.le_of_ble_eq_true rfl)) d_F_stop_53 ⟨Nat.le_of_ble_eq_true rfl, Nat.le_of_ble_eq_true rfl⟩).run ?_
        refine fw_bif_eq (tgt := 64) hx hb d_F_stop_56 (by decide) (fun c_4 => ?_) (fun c_4 => ?_)
        · exact fw_throw hx hb hlt hown hts hN hX (List.mem_of_getElem? (i := 8) rfl) fw_E2 hP0 (hl.1.trans hml.symm) d_F_stop_64 d_F_stop_67 d_F_stop_68 d_F_stop_70 d_F_stop_73 htb (Nat.le_of_ble_eq_true rfl) (Nat.le_of_ble_eq_true rfl) (Nat.le_of_ble_eq_true rfl) (Nat.le_of_ble_eq_true rfl) hlocks (Or.inr (Or.inr ⟨rfl, by simp [k_stop, c_1, c_2, c_3, c_4]⟩))
        · refine lv_iload_n hx hb d_F_stop_59 rfl (lv_at hl 3 rfl) ?_
          refine lv_iload_n hx hb d_F_stop_60 rfl (lv_at hl 2 rfl) ?_
          refine fw_icmp_gt (tgt := 74) hx hb d_F_stop_61 (by decide) ⟨by omega, by omega⟩ ⟨by omega, by omega⟩ (fun c_5 => ?_) (fun c_5 => ?_)
          · refine lv_aload_n hx hb d_F_stop_74 rfl (lv_at hl 0 rfl) ?_
            refine va_get (D := (dC, dI)) (ci := 3) (v := .ref sh) (C := R_F) (T := T_F) (N := 7) hx hb hts in_F hown hK hP 0 rfl rfl 0 (by decide) (hts _ kw_153) (fun _ h9 => h9) rfl d_F_stop_75 ?_
            refine lv_iload_n hx hb d_F_stop_78 rfl (lv_at hl 1 rfl) ?_
            refine lv_iload_n hx hb d_F_stop_79 rfl (lv_at hl 2 rfl) ?_
            refine lv_iload_n hx hb d_F_stop_80 rfl (lv_at hl 3 rfl) ?_
            refine fw_calliP [1, 2] (va_runV (As := [.int (iI (u)), .int (iI (a)), .int (iI (b))]) (rest := []) ⟨hx, hb, hml, hown, hts⟩ (c_S_addStop l dC dI _ sh sg sd sl su ss nO nH nS nW nF kL fS u a b (by first | assumption | omega) (by first | assumption | omega)) (cwV 3 hts (gw_V kw_380 kw_381 kw_382 kw_2 kw_383) rfl rfl rfl (by decide +kernel) ⟨Nat.le_of_ble_eq_true rfl, Nat.le_of_ble_eq_true rfl⟩) (fw_preV (ci := 1) (q0 := 1) hP hK hD hN [1, 2] [0] rfl rfl rfl rfl rfl) rfl rfl hl.1 rfl (lv_room (Nat.le_of_ble_eq_true rfl)) d_F_stop_81 ⟨Nat.le_of_ble_eq_true rfl, Nat.le_of_ble_eq_true rfl⟩) hP hD hS hA rfl rfl rfl (fun H locs hP hD hS => ?_)
            have hP : va_P (dC, dI) cls_ [(fc, .inr (3, [.ref sh, .ref pl, .ref be, .int (bI (ud)), .ref cp, .ref kp, .ref se])), (sh, .inr (1, [.ref sg, .ref sd, .int (iI (nO)), .ref sl, .ref su, .int (iI (nH)), .ref ss, .int (iI (nS + 1)), .int (iI (nW)), .int (iI (nF))])), (ss, fw_l kL 3 (fw_up fS u.toNat (fS u.toNat ||| fc_bits a (b - a))))] H := hP
            have hD : va_D A [(fc, .inr (3, [.ref sh, .ref pl, .ref be, .int (bI (ud)), .ref cp, .ref kp, .ref se])), (sh, .inr (1, [.ref sg, .ref sd, .int (iI (nO)), .ref sl, .ref su, .int (iI (nH)), .ref ss, .int (iI (nS + 1)), .int (iI (nW)), .int (iI (nF))])), (ss, fw_l kL 3 (fw_up fS u.toNat (fS u.toNat ||| fc_bits a (b - a))))] := hD
            refine W.widen (k := 1) (n := 6) (Nat.zero_le _) (Nat.zero_le _) ?_
            refine vx_ret ?_
            refine fw_iret hx hb hr hlocks hS ?_ ?_ d_F_stop_84
            · exact ⟨by simp [k_stop, c_1, c_2, c_3, c_4, c_5], hP⟩
            · rfl
          · exact fw_throw hx hb hlt hown hts hN hX (List.mem_of_getElem? (i := 8) rfl) fw_E2 hP0 (hl.1.trans hml.symm) d_F_stop_64 d_F_stop_67 d_F_stop_68 d_F_stop_70 d_F_stop_73 htb (Nat.le_of_ble_eq_true rfl) (Nat.le_of_ble_eq_true rfl) (Nat.le_of_ble_eq_true rfl) (Nat.le_of_ble_eq_true rfl) hlocks (Or.inr (Or.inr ⟨rfl, by simp [k_stop, c_1, c_2, c_3, c_4, c_5]⟩))
    · exact fw_throw hx hb hlt hown hts hN hX (List.mem_of_getElem? (i := 7) rfl) fw_E1 hP0 (hl.1.trans hml.symm) d_F_stop_29 d_F_stop_32 d_F_stop_33 d_F_stop_35 d_F_stop_38 htb (Nat.le_of_ble_eq_true rfl) (Nat.le_of_ble_eq_true rfl) (Nat.le_of_ble_eq_true rfl) (Nat.le_of_ble_eq_true rfl) hlocks (Or.inr (Or.inl ⟨rfl, by simp [k_stop, c_1, c_2]⟩))
  · exact fw_throw hx hb hlt hown hts hN hX (List.mem_of_getElem? (i := 6) rfl) fw_E3 hP0 (hl.1.trans hml.symm) d_F_stop_7 d_F_stop_10 d_F_stop_11 d_F_stop_13 d_F_stop_16 htb (Nat.le_of_ble_eq_true rfl) (Nat.le_of_ble_eq_true rfl) (Nat.le_of_ble_eq_true rfl) (Nat.le_of_ble_eq_true rfl) hlocks (Or.inl ⟨rfl, by simp [k_stop, c_1]⟩)

set_option maxHeartbeats 4000000 in
set_option maxRecDepth 100000 in
theorem c_F_go (l : Launch) (dC : Nat → ClassId) (dI : Nat → Nat → Nat) (sz : Nat) (fc : Nat) (pl : Nat) (be : Nat) (ud : Bool) (cp : Nat) (kp : Nat) (se : Nat) (sh : Nat) (sg : Nat) (sd : Nat) (sl : Nat) (su : Nat) (ss : Nat) (nO : Int) (nH : Int) (nS : Int) (nW : Int) (nF : Int) (kL : ClassId) (fS : Nat → Int64)  : Met l y_F_go (Cond.code y_F_go b_F_go 1 none :: gw) ({ frames := 1, locals := 21, cells := 0, slots := 0 }) (fw_Pc (dC, dI) [.ref fc] [(fc, .inr (3, [.ref sh, .ref pl, .ref be, .int (bI (ud)), .ref cp, .ref kp, .ref se])), (sh, .inr (1, [.ref sg, .ref sd, .int (iI (nO)), .ref sl, .ref su, .int (iI (nH)), .ref ss, .int (iI (nS)), .int (iI (nW)), .int (iI (nF))])), (ss, fw_l kL 3 (fS))] [(kL, .long)] sz) (fw_Qv (va_P (dC, dI) cls_ [(fc, .inr (3, [.ref sh, .ref pl, .ref be, .int (bI (ud)), .ref cp, .ref kp, .ref se])), (sh, .inr (1, [.ref sg, .ref sd, .int (iI (nO)), .ref sl, .ref su, .int (iI (nH)), .ref ss, .int (iI (0)), .int (iI (nW)), .int (iI (nF))])), (ss, fw_l kL 3 (fun _ => 0))]) (va_A [(fc, .inr (3, [.ref sh, .ref pl, .ref be, .int (bI (ud)), .ref cp, .ref kp, .ref se])), (sh, .inr (1, [.ref sg, .ref sd, .int (iI (nO)), .ref sl, .ref su, .int (iI (nH)), .ref ss, .int (iI (nS)), .int (iI (nW)), .int (iI (nF))])), (ss, fw_l kL 3 (fS))] sz)) 0 0 (va_A [(fc, .inr (3, [.ref sh, .ref pl, .ref be, .int (bI (ud)), .ref cp, .ref kp, .ref se])), (sh, .inr (1, [.ref sg, .ref sd, .int (iI (nO)), .ref sl, .ref su, .int (iI (nH)), .ref ss, .int (iI (nS)), .int (iI (nW)), .int (iI (nF))])), (ss, fw_l kL 3 (fS))] sz) := by
  refine fw_ofW (Qc := fun A => fw_Qv (va_P (dC, dI) cls_ [(fc, .inr (3, [.ref sh, .ref pl, .ref be, .int (bI (ud)), .ref cp, .ref kp, .ref se])), (sh, .inr (1, [.ref sg, .ref sd, .int (iI (nO)), .ref sl, .ref su, .int (iI (nH)), .ref ss, .int (iI (0)), .int (iI (nW)), .int (iI (nF))])), (ss, fw_l kL 3 (fun _ => 0))]) A) (by decide) (Nat.le_of_ble_eq_true rfl) ?_
  intro p e s m below meth c A ls hx hb hr hts hown hlocks hnm hml hsz hP hK hD hN hA hS hl
  have hl : lv_has ls 1 [(0, .ref fc)] := hl
  refine lv_aload_n hx hb d_F_go_0 rfl (lv_at hl 0 rfl) ?_
  refine va_get (D := (dC, dI)) (ci := 3) (v := .ref sh) (C := R_F) (T := T_F) (N := 7) hx hb hts in_F hown hK hP 0 rfl rfl 0 (by decide) (hts _ kw_153) (fun _ h9 => h9) rfl d_F_go_1 ?_
  refine fw_callvP [1, 2] (va_runV (As := []) (rest := []) ⟨hx, hb, hml, hown, hts⟩ (c_S_forgetStops l dC dI _ sh sg sd sl su ss nO nH nS nW nF kL fS ) (cwV 0 hts (gw_V kw_179 kw_180 kw_181 kw_2 kw_182) rfl rfl rfl (by decide +kernel) ⟨Nat.le_of_ble_eq_true rfl, Nat.le_of_ble_eq_true rfl⟩) (fw_preV (ci := 1) (q0 := 1) hP hK hD hN [1, 2] [0] rfl rfl rfl rfl rfl) rfl rfl hl.1 rfl (lv_room (Nat.le_of_ble_eq_true rfl)) d_F_go_4 ⟨Nat.le_of_ble_eq_true rfl, Nat.le_of_ble_eq_true rfl⟩) hP hD hS hA rfl rfl rfl (fun H locs hP hD hS => ?_)
  have hP : va_P (dC, dI) cls_ [(fc, .inr (3, [.ref sh, .ref pl, .ref be, .int (bI (ud)), .ref cp, .ref kp, .ref se])), (sh, .inr (1, [.ref sg, .ref sd, .int (iI (nO)), .ref sl, .ref su, .int (iI (nH)), .ref ss, .int (iI (0)), .int (iI (nW)), .int (iI (nF))])), (ss, fw_l kL 3 (fun _ => 0))] H := hP
  have hD : va_D A [(fc, .inr (3, [.ref sh, .ref pl, .ref be, .int (bI (ud)), .ref cp, .ref kp, .ref se])), (sh, .inr (1, [.ref sg, .ref sd, .int (iI (nO)), .ref sl, .ref su, .int (iI (nH)), .ref ss, .int (iI (0)), .int (iI (nW)), .int (iI (nF))])), (ss, fw_l kL 3 (fun _ => 0))] := hD
  refine fw_vret hx hb hr hlocks hS ?_ d_F_go_7
  · exact hP

set_option maxHeartbeats 4000000 in
set_option maxRecDepth 100000 in
theorem c_F_clock (l : Launch) (hlt : l.stackTraces = false) (dC : Nat → ClassId) (dI : Nat → Nat → Nat) (sz : Nat) (fc : Nat) (pl : Nat) (be : Nat) (ud : Bool) (cp : Nat) (kp : Nat) (se : Nat) (sh : Nat) (sg : Nat) (sd : Nat) (sl : Nat) (su : Nat) (ss : Nat) (nO : Int) (nH : Int) (nS : Int) (nW : Int) (nF : Int) (n : Int) (f : Int) (hb_n : fw_b n) (hb_f : fw_b f) : vx_Met l y_F_clock (Cond.code y_F_clock b_F_clock 3 none :: gw) ({ frames := 6, locals := 90, cells := 1, slots := 6 }) (fw_Px (dC, dI) [.ref fc, .int (iI (n)), .int (iI (f))] [(fc, .inr (3, [.ref sh, .ref pl, .ref be, .int (bI (ud)), .ref cp, .ref kp, .ref se])), (sh, .inr (1, [.ref sg, .ref sd, .int (iI (nO)), .ref sl, .ref su, .int (iI (nH)), .ref ss, .int (iI (nS)), .int (iI (nW)), .int (iI (nF))]))] [] sz) (fw_Qv (fun H => (k_clock n f = 0) ∧ va_P (dC, dI) cls_ [(fc, .inr (3, [.ref sh, .ref pl, .ref be, .int (bI (ud)), .ref cp, .ref kp, .ref se])), (sh, .inr (1, [.ref sg, .ref sd, .int (iI (nO)), .ref sl, .ref su, .int (iI (nH)), .ref ss, .int (iI (nS)), .int (iI (n)), .int (iI (f))]))] H) (va_A [(fc, .inr (3, [.ref sh, .ref pl, .ref be, .int (bI (ud)), .ref cp, .ref kp, .ref se])), (sh, .inr (1, [.ref sg, .ref sd, .int (iI (nO)), .ref sl, .ref su, .int (iI (nH)), .ref ss, .int (iI (nS)), .int (iI (nW)), .int (iI (nF))]))] sz)) (fw_XC (dC, dI) [(fc, .inr (3, [.ref sh, .ref pl, .ref be, .int (bI (ud)), .ref cp, .ref kp, .ref se])), (sh, .inr (1, [.ref sg, .ref sd, .int (iI (nO)), .ref sl, .ref su, .int (iI (nH)), .ref ss, .int (iI (nS)), .int (iI (nW)), .int (iI (nF))]))] (fun E => (E = "java/lang/IllegalArgumentException" ∧ k_clock n f = 1)) (va_A [(fc, .inr (3, [.ref sh, .ref pl, .ref be, .int (bI (ud)), .ref cp, .ref kp, .ref se])), (sh, .inr (1, [.ref sg, .ref sd, .int (iI (nO)), .ref sl, .ref su, .int (iI (nH)), .ref ss, .int (iI (nS)), .int (iI (nW)), .int (iI (nF))]))] sz)) 1 6 (va_A [(fc, .inr (3, [.ref sh, .ref pl, .ref be, .int (bI (ud)), .ref cp, .ref kp, .ref se])), (sh, .inr (1, [.ref sg, .ref sd, .int (iI (nO)), .ref sl, .ref su, .int (iI (nH)), .ref ss, .int (iI (nS)), .int (iI (nW)), .int (iI (nF))]))] sz) := by
  refine fw_ofX (Qc := fun A => fw_Qv (fun H => (k_clock n f = 0) ∧ va_P (dC, dI) cls_ [(fc, .inr (3, [.ref sh, .ref pl, .ref be, .int (bI (ud)), .ref cp, .ref kp, .ref se])), (sh, .inr (1, [.ref sg, .ref sd, .int (iI (nO)), .ref sl, .ref su, .int (iI (nH)), .ref ss, .int (iI (nS)), .int (iI (n)), .int (iI (f))]))] H) A) (XC := fun A => fw_XC (dC, dI) [(fc, .inr (3, [.ref sh, .ref pl, .ref be, .int (bI (ud)), .ref cp, .ref kp, .ref se])), (sh, .inr (1, [.ref sg, .ref sd, .int (iI (nO)), .ref sl, .ref su, .int (iI (nH)), .ref ss, .int (iI (nS)), .int (iI (nW)), .int (iI (nF))]))] (fun E => (E = "java/lang/IllegalArgumentException" ∧ k_clock n f = 1)) A) (by decide) (Nat.le_of_ble_eq_true rfl) ?_
  intro p e s m below meth c A ls hx hb hr hts hown hlocks htb hml hsz hP hK hD hN hX hA hS hl
  have hP0 := hP
  have hl : lv_has ls 3 [(0, .ref fc), (1, .int (iI (n))), (2, .int (iI (f)))] := hl
  refine lv_iload_n hx hb d_F_clock_0 rfl (lv_at hl 1 rfl) ?_
  refine lv_iconst (v := (iI (0))) hx hb d_F_clock_1 (by decide) ?_
  refine lv_bipush (v := (iI (60))) hx hb d_F_clock_2 (by decide) ?_
  refine fw_callR (va_runS (As := [.int (iI (n)), .int (iI (0)), .int (iI (60))]) (rest := []) ⟨hx, hb, hml, hown, hts⟩ (c_F_isWithin l dC dI n 0 60 ⟨by omega, by omega⟩ ⟨by omega, by omega⟩ ⟨by omega, by omega⟩) (cwS 3 hts (gw_S kw_272 kw_273 kw_1 kw_274) rfl rfl rfl (by decide +kernel) ⟨Nat.le_of_ble_eq_true rfl, Nat.le_of_ble_eq_true rfl⟩) (fw_preRS hP hK hN [] [] rfl rfl) rfl rfl hl.1 rfl (lv_room (Nat.le_of_ble_eq_true rfl)) d_F_clock_4 ⟨Nat.le_of_ble_eq_true rfl, Nat.le_of_ble_eq_true rfl⟩).run ?_
  refine fw_bif_eq (tgt := 20) hx hb d_F_clock_7 (by decide) (fun c_1 => ?_) (fun c_1 => ?_)
  · exact fw_throw hx hb hlt hown hts hN hX (List.mem_of_getElem? (i := 9) rfl) fw_E2 hP0 (hl.1.trans hml.symm) d_F_clock_20 d_F_clock_23 d_F_clock_24 d_F_clock_26 d_F_clock_29 htb (Nat.le_of_ble_eq_true rfl) (Nat.le_of_ble_eq_true rfl) (Nat.le_of_ble_eq_true rfl) (Nat.le_of_ble_eq_true rfl) hlocks ⟨rfl, by simp [k_clock, c_1]⟩
  · refine lv_iload_n hx hb d_F_clock_10 rfl (lv_at hl 2 rfl) ?_
    refine lv_iconst (v := (iI (0))) hx hb d_F_clock_11 (by decide) ?_
    refine lv_bipush (v := (iI (60))) hx hb d_F_clock_12 (by decide) ?_
    refine fw_callR (va_runS (As := [.int (iI (f)), .int (iI (0)), .int (iI (60))]) (rest := []) ⟨hx, hb, hml, hown, hts⟩ (c_F_isWithin l dC dI f 0 60 ⟨by omega, by omega⟩ ⟨by omega, by omega⟩ ⟨by omega, by omega⟩) (cwS 3 hts (gw_S kw_272 kw_273 kw_1 kw_274) rfl rfl rfl (by decide +kernel) ⟨Nat.le_of_ble_eq_true rfl, Nat.le_of_ble_eq_true rfl⟩) (fw_preRS hP hK hN [] [] rfl rfl) rfl rfl hl.1 rfl (lv_room (Nat.le_of_ble_eq_true rfl)) d_F_clock_14 ⟨Nat.le_of_ble_eq_true rfl, Nat.le_of_ble_eq_true rfl⟩).run ?_
    refine fw_bif_ne (tgt := 30) hx hb d_F_clock_17 (by decide) (fun c_2 => ?_) (fun c_2 => ?_)
    · refine lv_aload_n hx hb d_F_clock_30 rfl (lv_at hl 0 rfl) ?_
      refine va_get (D := (dC, dI)) (ci := 3) (v := .ref sh) (C := R_F) (T := T_F) (N := 7) hx hb hts in_F hown hK hP 0 rfl rfl 0 (by decide) (hts _ kw_153) (fun _ h9 => h9) rfl d_F_clock_31 ?_
      refine lv_iload_n hx hb d_F_clock_34 rfl (lv_at hl 1 rfl) ?_
      refine va_put (D := (dC, dI)) (ci := 1) (v := .int (iI (n))) (ty := .int) (C := R_S) (T := T_S) (N := 10) hx hb hts in_S t_S t_S_ok n_S hown hK hP hD hS 1 rfl rfl 8 (by decide) (hts _ kw_47) (fun _ h9 => h9) rfl (by decide +kernel) rfl rfl (Nat.le_of_ble_eq_true rfl) d_F_clock_35 (fun H locs hP hD hS => ?_)
      have hP : va_P (dC, dI) cls_ [(fc, .inr (3, [.ref sh, .ref pl, .ref be, .int (bI (ud)), .ref cp, .ref kp, .ref se])), (sh, .inr (1, [.ref sg, .ref sd, .int (iI (nO)), .ref sl, .ref su, .int (iI (nH)), .ref ss, .int (iI (nS)), .int (iI (n)), .int (iI (nF))]))] H := hP
      have hD : va_D A [(fc, .inr (3, [.ref sh, .ref pl, .ref be, .int (bI (ud)), .ref cp, .ref kp, .ref se])), (sh, .inr (1, [.ref sg, .ref sd, .int (iI (nO)), .ref sl, .ref su, .int (iI (nH)), .ref ss, .int (iI (nS)), .int (iI (n)), .int (iI (nF))]))] := hD
      refine lv_aload_n hx hb d_F_clock_38 rfl (lv_at hl 0 rfl) ?_
      refine va_get (D := (dC, dI)) (ci := 3) (v := .ref sh) (C := R_F) (T := T_F) (N := 7) hx hb hts in_F hown hK hP 0 rfl rfl 0 (by decide) (hts _ kw_153) (fun _ h9 => h9) rfl d_F_clock_39 ?_
      refine lv_iload_n hx hb d_F_clock_42 rfl (lv_at hl 2 rfl) ?_
      refine va_put (D := (dC, dI)) (ci := 1) (v := .int (iI (f))) (ty := .int) (C := R_S) (T := T_S) (N := 10) hx hb hts in_S t_S t_S_ok n_S hown hK hP hD hS 1 rfl rfl 9 (by decide) (hts _ kw_49) (fun _ h9 => h9) rfl (by decide +kernel) rfl rfl (Nat.le_of_ble_eq_true rfl) d_F_clock_43 (fun H locs hP hD hS => ?_)
      have hP : va_P (dC, dI) cls_ [(fc, .inr (3, [.ref sh, .ref pl, .ref be, .int (bI (ud)), .ref cp, .ref kp, .ref se])), (sh, .inr (1, [.ref sg, .ref sd, .int (iI (nO)), .ref sl, .ref su, .int (iI (nH)), .ref ss, .int (iI (nS)), .int (iI (n)), .int (iI (f))]))] H := hP
      have hD : va_D A [(fc, .inr (3, [.ref sh, .ref pl, .ref be, .int (bI (ud)), .ref cp, .ref kp, .ref se])), (sh, .inr (1, [.ref sg, .ref sd, .int (iI (nO)), .ref sl, .ref su, .int (iI (nH)), .ref ss, .int (iI (nS)), .int (iI (n)), .int (iI (f))]))] := hD
      refine W.widen (k := 1) (n := 6) (Nat.zero_le _) (Nat.zero_le _) ?_
      refine vx_ret ?_
      refine fw_vret hx hb hr hlocks hS ?_ d_F_clock_46
      · exact ⟨by simp [k_clock, c_1, c_2], hP⟩
    · exact fw_throw hx hb hlt hown hts hN hX (List.mem_of_getElem? (i := 9) rfl) fw_E2 hP0 (hl.1.trans hml.symm) d_F_clock_20 d_F_clock_23 d_F_clock_24 d_F_clock_26 d_F_clock_29 htb (Nat.le_of_ble_eq_true rfl) (Nat.le_of_ble_eq_true rfl) (Nat.le_of_ble_eq_true rfl) (Nat.le_of_ble_eq_true rfl) hlocks ⟨rfl, by simp [k_clock, c_1, c_2]⟩

set_option maxHeartbeats 4000000 in
set_option maxRecDepth 100000 in
theorem c_F_rememberForUndo (l : Launch) (dC : Nat → ClassId) (dI : Nat → Nat → Nat) (sz : Nat) (fc : Nat) (pl : Nat) (be : Nat) (ud : Bool) (cp : Nat) (kp : Nat) (se : Nat) (plu : Nat) (plm : Nat) (plo : Nat) (au : Nat → Int) (am : Nat → Int) (ao : Nat → Int) (beu : Nat) (bem : Nat) (beo : Nat) (eu : Nat → Int) (em : Nat → Int) (eo : Nat → Int) (kI : ClassId) (sh : Nat)  : Met l y_F_rememberForUndo (Cond.code y_F_rememberForUndo b_F_rememberForUndo 1 none :: gw) ({ frames := 1, locals := 22, cells := 0, slots := 0 }) (fw_Pc (dC, dI) [.ref fc] [(fc, .inr (3, [.ref sh, .ref pl, .ref be, .int (bI (ud)), .ref cp, .ref kp, .ref se])), (pl, .inr (0, [.ref plu, .ref plm, .ref plo])), (plu, fw_a kI 6 (au)), (plm, fw_a kI 6 (am)), (plo, fw_a kI 6 (ao)), (be, .inr (0, [.ref beu, .ref bem, .ref beo])), (beu, fw_a kI 6 (eu)), (bem, fw_a kI 6 (em)), (beo, fw_a kI 6 (eo))] [(kI, .int)] sz) (fw_Qv (va_P (dC, dI) cls_ [(fc, .inr (3, [.ref sh, .ref pl, .ref be, .int (bI (true)), .ref cp, .ref kp, .ref se])), (pl, .inr (0, [.ref plu, .ref plm, .ref plo])), (plu, fw_a kI 6 (au)), (plm, fw_a kI 6 (am)), (plo, fw_a kI 6 (ao)), (be, .inr (0, [.ref beu, .ref bem, .ref beo])), (beu, fw_a kI 6 (au)), (bem, fw_a kI 6 (am)), (beo, fw_a kI 6 (ao))]) (va_A [(fc, .inr (3, [.ref sh, .ref pl, .ref be, .int (bI (ud)), .ref cp, .ref kp, .ref se])), (pl, .inr (0, [.ref plu, .ref plm, .ref plo])), (plu, fw_a kI 6 (au)), (plm, fw_a kI 6 (am)), (plo, fw_a kI 6 (ao)), (be, .inr (0, [.ref beu, .ref bem, .ref beo])), (beu, fw_a kI 6 (eu)), (bem, fw_a kI 6 (em)), (beo, fw_a kI 6 (eo))] sz)) 0 0 (va_A [(fc, .inr (3, [.ref sh, .ref pl, .ref be, .int (bI (ud)), .ref cp, .ref kp, .ref se])), (pl, .inr (0, [.ref plu, .ref plm, .ref plo])), (plu, fw_a kI 6 (au)), (plm, fw_a kI 6 (am)), (plo, fw_a kI 6 (ao)), (be, .inr (0, [.ref beu, .ref bem, .ref beo])), (beu, fw_a kI 6 (eu)), (bem, fw_a kI 6 (em)), (beo, fw_a kI 6 (eo))] sz) := by
  refine fw_ofW (Qc := fun A => fw_Qv (va_P (dC, dI) cls_ [(fc, .inr (3, [.ref sh, .ref pl, .ref be, .int (bI (true)), .ref cp, .ref kp, .ref se])), (pl, .inr (0, [.ref plu, .ref plm, .ref plo])), (plu, fw_a kI 6 (au)), (plm, fw_a kI 6 (am)), (plo, fw_a kI 6 (ao)), (be, .inr (0, [.ref beu, .ref bem, .ref beo])), (beu, fw_a kI 6 (au)), (bem, fw_a kI 6 (am)), (beo, fw_a kI 6 (ao))]) A) (by decide) (Nat.le_of_ble_eq_true rfl) ?_
  intro p e s m below meth c A ls hx hb hr hts hown hlocks hnm hml hsz hP hK hD hN hA hS hl
  have hl : lv_has ls 1 [(0, .ref fc)] := hl
  refine lv_aload_n hx hb d_F_rememberForUndo_0 rfl (lv_at hl 0 rfl) ?_
  refine va_get (D := (dC, dI)) (ci := 3) (v := .ref be) (C := R_F) (T := T_F) (N := 7) hx hb hts in_F hown hK hP 0 rfl rfl 2 (by decide) (hts _ kw_155) (fun _ h9 => h9) rfl d_F_rememberForUndo_1 ?_
  refine lv_aload_n hx hb d_F_rememberForUndo_4 rfl (lv_at hl 0 rfl) ?_
  refine va_get (D := (dC, dI)) (ci := 3) (v := .ref pl) (C := R_F) (T := T_F) (N := 7) hx hb hts in_F hown hK hP 0 rfl rfl 1 (by decide) (hts _ kw_154) (fun _ h9 => h9) rfl d_F_rememberForUndo_5 ?_
  refine fw_callvP [5, 6, 7, 8, 1, 2, 3, 4] (va_runV (As := [.ref pl]) (rest := []) ⟨hx, hb, hml, hown, hts⟩ (c_P_takeFrom l dC dI _ be beu bem beo eu em eo pl plu plm plo au am ao kI ) (cwV 1 hts (gw_V kw_421 kw_422 kw_423 kw_3 kw_424) rfl rfl rfl (by decide +kernel) ⟨Nat.le_of_ble_eq_true rfl, Nat.le_of_ble_eq_true rfl⟩) (fw_preV (ci := 0) (q0 := 5) hP hK hD hN [5, 6, 7, 8, 1, 2, 3, 4] [0] rfl rfl rfl rfl rfl) rfl rfl hl.1 rfl (lv_room (Nat.le_of_ble_eq_true rfl)) d_F_rememberForUndo_8 ⟨Nat.le_of_ble_eq_true rfl, Nat.le_of_ble_eq_true rfl⟩) hP hD hS hA rfl rfl rfl (fun H locs hP hD hS => ?_)
  have hP : va_P (dC, dI) cls_ [(fc, .inr (3, [.ref sh, .ref pl, .ref be, .int (bI (ud)), .ref cp, .ref kp, .ref se])), (pl, .inr (0, [.ref plu, .ref plm, .ref plo])), (plu, fw_a kI 6 (au)), (plm, fw_a kI 6 (am)), (plo, fw_a kI 6 (ao)), (be, .inr (0, [.ref beu, .ref bem, .ref beo])), (beu, fw_a kI 6 (au)), (bem, fw_a kI 6 (am)), (beo, fw_a kI 6 (ao))] H := hP
  have hD : va_D A [(fc, .inr (3, [.ref sh, .ref pl, .ref be, .int (bI (ud)), .ref cp, .ref kp, .ref se])), (pl, .inr (0, [.ref plu, .ref plm, .ref plo])), (plu, fw_a kI 6 (au)), (plm, fw_a kI 6 (am)), (plo, fw_a kI 6 (ao)), (be, .inr (0, [.ref beu, .ref bem, .ref beo])), (beu, fw_a kI 6 (au)), (bem, fw_a kI 6 (am)), (beo, fw_a kI 6 (ao))] := hD
  refine lv_aload_n hx hb d_F_rememberForUndo_11 rfl (lv_at hl 0 rfl) ?_
  refine lv_iconst (v := (bI (true))) hx hb d_F_rememberForUndo_12 (by decide) ?_
  refine va_put (D := (dC, dI)) (ci := 3) (v := .int (bI (true))) (ty := .boolean) (C := R_F) (T := T_F) (N := 7) hx hb hts in_F t_F t_F_ok n_F hown hK hP hD hS 0 rfl rfl 3 (by decide) (hts _ kw_156) (fun _ h9 => h9) rfl (by decide +kernel) (bI_nar _) (bI_fit _) (Nat.le_of_ble_eq_true rfl) d_F_rememberForUndo_13 (fun H locs hP hD hS => ?_)
  have hP : va_P (dC, dI) cls_ [(fc, .inr (3, [.ref sh, .ref pl, .ref be, .int (bI (true)), .ref cp, .ref kp, .ref se])), (pl, .inr (0, [.ref plu, .ref plm, .ref plo])), (plu, fw_a kI 6 (au)), (plm, fw_a kI 6 (am)), (plo, fw_a kI 6 (ao)), (be, .inr (0, [.ref beu, .ref bem, .ref beo])), (beu, fw_a kI 6 (au)), (bem, fw_a kI 6 (am)), (beo, fw_a kI 6 (ao))] H := hP
  have hD : va_D A [(fc, .inr (3, [.ref sh, .ref pl, .ref be, .int (bI (true)), .ref cp, .ref kp, .ref se])), (pl, .inr (0, [.ref plu, .ref plm, .ref plo])), (plu, fw_a kI 6 (au)), (plm, fw_a kI 6 (am)), (plo, fw_a kI 6 (ao)), (be, .inr (0, [.ref beu, .ref bem, .ref beo])), (beu, fw_a kI 6 (au)), (bem, fw_a kI 6 (am)), (beo, fw_a kI 6 (ao))] := hD
  refine fw_vret hx hb hr hlocks hS ?_ d_F_rememberForUndo_16
  · exact hP

set_option maxHeartbeats 4000000 in
set_option maxRecDepth 100000 in
theorem c_F_forgetCopiesAndUndo (l : Launch) (dC : Nat → ClassId) (dI : Nat → Nat → Nat) (sz : Nat) (fc : Nat) (pl : Nat) (be : Nat) (ud : Bool) (cp : Nat) (kp : Nat) (se : Nat) (sh : Nat) (kZ : ClassId) (kf : Nat → Bool)  : Met l y_F_forgetCopiesAndUndo (Cond.code y_F_forgetCopiesAndUndo b_F_forgetCopiesAndUndo 2 none :: gw) ({ frames := 0, locals := 0, cells := 0, slots := 0 }) (fw_Pc (dC, dI) [.ref fc] [(fc, .inr (3, [.ref sh, .ref pl, .ref be, .int (bI (ud)), .ref cp, .ref kp, .ref se])), (kp, fw_z kZ 4 (kf))] [(kZ, .boolean)] sz) (fw_Qv (va_P (dC, dI) cls_ [(fc, .inr (3, [.ref sh, .ref pl, .ref be, .int (bI (false)), .ref cp, .ref kp, .ref se])), (kp, fw_z kZ 4 (fun _ => false))]) (va_A [(fc, .inr (3, [.ref sh, .ref pl, .ref be, .int (bI (ud)), .ref cp, .ref kp, .ref se])), (kp, fw_z kZ 4 (kf))] sz)) 0 0 (va_A [(fc, .inr (3, [.ref sh, .ref pl, .ref be, .int (bI (ud)), .ref cp, .ref kp, .ref se])), (kp, fw_z kZ 4 (kf))] sz) := by
  refine fw_ofW (Qc := fun A => fw_Qv (va_P (dC, dI) cls_ [(fc, .inr (3, [.ref sh, .ref pl, .ref be, .int (bI (false)), .ref cp, .ref kp, .ref se])), (kp, fw_z kZ 4 (fun _ => false))]) A) (by decide) (Nat.le_of_ble_eq_true rfl) ?_
  intro p e s m below meth c A ls hx hb hr hts hown hlocks hnm hml hsz hP hK hD hN hA hS hl
  have hl : lv_has ls 2 [(0, .ref fc)] := hl
  refine lv_aload_n hx hb d_F_forgetCopiesAndUndo_0 rfl (lv_at hl 0 rfl) ?_
  refine lv_iconst (v := (bI (false))) hx hb d_F_forgetCopiesAndUndo_1 (by decide) ?_
  refine va_put (D := (dC, dI)) (ci := 3) (v := .int (bI (false))) (ty := .boolean) (C := R_F) (T := T_F) (N := 7) hx hb hts in_F t_F t_F_ok n_F hown hK hP hD hS 0 rfl rfl 3 (by decide) (hts _ kw_156) (fun _ h9 => h9) rfl (by decide +kernel) (bI_nar _) (bI_fit _) (Nat.le_of_ble_eq_true rfl) d_F_forgetCopiesAndUndo_2 (fun H locs hP hD hS => ?_)
  have hP : va_P (dC, dI) cls_ [(fc, .inr (3, [.ref sh, .ref pl, .ref be, .int (bI (false)), .ref cp, .ref kp, .ref se])), (kp, fw_z kZ 4 (kf))] H := hP
  have hD : va_D A [(fc, .inr (3, [.ref sh, .ref pl, .ref be, .int (bI (false)), .ref cp, .ref kp, .ref se])), (kp, fw_z kZ 4 (kf))] := hD
  refine lv_iconst (v := (iI (0))) hx hb d_F_forgetCopiesAndUndo_5 (by decide) ?_
  refine lv_istore_n (lv' := [(1, .int (iI (0))), (0, .ref fc)]) hx hb d_F_forgetCopiesAndUndo_6 rfl hl (by decide) rfl (fun ls hl => ?_)
  have hlp_7 : ∀ (n : Nat) (i : Nat) (z1 : Int) (xs : Nat → Bool) (H : Heap) (locs : List Loc) (ls : Array Slot), (4 - i) < n → (z1 = (i : Int)) → (i ≤ 4) → (∀ j, j < i → xs j = false) → va_P (dC, dI) cls_ [(fc, .inr (3, [.ref sh, .ref pl, .ref be, .int (bI (false)), .ref cp, .ref kp, .ref se])), (kp, fw_z kZ 4 (xs))] H → va_D A [(fc, .inr (3, [.ref sh, .ref pl, .ref be, .int (bI (false)), .ref cp, .ref kp, .ref se])), (kp, fw_z kZ 4 (xs))] → va_S A s.heap H locs → lv_has ls 2 [(1, .int (iI (z1))), (0, .ref fc)] → W p l e ({ frames := 0, locals := 0, cells := 0, slots := 0 }) s m ([.ref fc] : List Value).toArray below meth c H locs 0 0 (MQ below (fw_Qv (va_P (dC, dI) cls_ [(fc, .inr (3, [.ref sh, .ref pl, .ref be, .int (bI (false)), .ref cp, .ref kp, .ref se])), (kp, fw_z kZ 4 (fun _ => false))]) A) ([.ref fc] : List Value).toArray s 0 0 A) (F0 m 7 ls []) := by
    intro n
    induction n with
    | zero => intro i z1 xs H locs ls hms; exact absurd hms (Nat.not_lt_zero _)
    | succ n ih =>
      intro i z1 xs H locs ls hms hz hi hu hP hD hS hl
      refine lv_iload_n hx hb d_F_forgetCopiesAndUndo_7 rfl (lv_at hl 0 rfl) ?_
      refine lv_iconst (v := (iI (4))) hx hb d_F_forgetCopiesAndUndo_8 (by decide) ?_
      refine fw_icmp_ge (tgt := 25) hx hb d_F_forgetCopiesAndUndo_9 (by decide) ⟨by omega, by omega⟩ ⟨by omega, by omega⟩ (fun c_1 => ?_) (fun c_1 => ?_)
      · refine fw_vret hx hb hr hlocks hS ?_ d_F_forgetCopiesAndUndo_25
        · exact va_P.fnZ hP 1 rfl (fun j h => hu j (by omega))
      · refine lv_aload_n hx hb d_F_forgetCopiesAndUndo_12 rfl (lv_at hl 1 rfl) ?_
        refine va_get (D := (dC, dI)) (ci := 3) (v := .ref kp) (C := R_F) (T := T_F) (N := 7) hx hb hts in_F hown hK hP 0 rfl rfl 5 (by decide) (hts _ kw_158) (fun _ h9 => h9) rfl d_F_forgetCopiesAndUndo_13 ?_
        refine lv_iload_n hx hb d_F_forgetCopiesAndUndo_16 rfl (lv_at hl 0 rfl) ?_
        refine lv_iconst (v := (bI (false))) hx hb d_F_forgetCopiesAndUndo_17 (by decide) ?_
        refine fw_zast hx hb hK hP hD hS 1 0 rfl rfl (i) (by omega) (by omega) (by omega) d_F_forgetCopiesAndUndo_18 (fun H locs hP hD hS => ?_)
        have hP : va_P (dC, dI) cls_ [(fc, .inr (3, [.ref sh, .ref pl, .ref be, .int (bI (false)), .ref cp, .ref kp, .ref se])), (kp, fw_z kZ 4 (fw_up xs i false))] H := hP
        have hD : va_D A [(fc, .inr (3, [.ref sh, .ref pl, .ref be, .int (bI (false)), .ref cp, .ref kp, .ref se])), (kp, fw_z kZ 4 (fw_up xs i false))] := hD
        refine lv_iinc (v := iI (z1 + 1)) (lv' := [(1, .int (iI (z1 + 1))), (0, .ref fc)]) hx hb d_F_forgetCopiesAndUndo_19 hl (k := 0) rfl (by rw [show Int32.ofInt 1 = iI 1 from rfl, iI_add]) (by decide) rfl (fun ls hl => ?_)
        refine lv_goto (tgt := 7) hx hb d_F_forgetCopiesAndUndo_22 (by decide) ?_
        exact ih (i + 1) (z1 + 1) (fw_up xs i false) _ _ ls (by omega) (by omega) (by omega) (fw_cpyZ (g := fun _ => false) hu) hP hD hS (lv_sub hl [0, 1] rfl)
  exact hlp_7 ((4 - 0) + 1) 0 0 kf _ _ ls (Nat.lt_succ_self _) rfl (by omega) (fun _ h => absurd h (Nat.not_lt_zero _)) hP hD hS (lv_sub hl [0, 1] rfl)

set_option maxHeartbeats 4000000 in
set_option maxRecDepth 100000 in
theorem c_F_divert (l : Launch) (hlt : l.stackTraces = false) (dC : Nat → ClassId) (dI : Nat → Nat → Nat) (sz : Nat) (fc : Nat) (pl : Nat) (be : Nat) (ud : Bool) (cp : Nat) (kp : Nat) (se : Nat) (sh : Nat) (sg : Nat) (sd : Nat) (sl : Nat) (su : Nat) (ss : Nat) (nO : Int) (nH : Int) (nS : Int) (nW : Int) (nF : Int) (plu : Nat) (plm : Nat) (plo : Nat) (au : Nat → Int) (am : Nat → Int) (ao : Nat → Int) (beu : Nat) (bem : Nat) (beo : Nat) (eu : Nat → Int) (em : Nat → Int) (eo : Nat → Int) (kI : ClassId) (fL : Nat → Int) (fU : Nat → Int) (fG : Nat → Int) (fD : Nat → Int) (h : Int) (o : Int) (hsh : iv_sh nO nH nS nW nF fL fU fG fD) (hpl : iv_pl nO nH fL fU au am ao) (hb_h : fw_b h) (hb_o : fw_b o) : vx_Met l y_F_divert (Cond.code y_F_divert b_F_divert 4 none :: gw) ({ frames := 6, locals := 90, cells := 1, slots := 6 }) (fw_Px (dC, dI) [.ref fc, .int (iI (h)), .int (iI (o))] [(fc, .inr (3, [.ref sh, .ref pl, .ref be, .int (bI (ud)), .ref cp, .ref kp, .ref se])), (sh, .inr (1, [.ref sg, .ref sd, .int (iI (nO)), .ref sl, .ref su, .int (iI (nH)), .ref ss, .int (iI (nS)), .int (iI (nW)), .int (iI (nF))])), (sg, fw_a kI 8 (fG)), (pl, .inr (0, [.ref plu, .ref plm, .ref plo])), (plu, fw_a kI 6 (au)), (plm, fw_a kI 6 (am)), (plo, fw_a kI 6 (ao)), (be, .inr (0, [.ref beu, .ref bem, .ref beo])), (beu, fw_a kI 6 (eu)), (bem, fw_a kI 6 (em)), (beo, fw_a kI 6 (eo))] [(kI, .int)] sz) (fw_Qv (fun H => (k_divert nH nO h o fG ao = 0) ∧ va_P (dC, dI) cls_ [(fc, .inr (3, [.ref sh, .ref pl, .ref be, .int (bI (true)), .ref cp, .ref kp, .ref se])), (sh, .inr (1, [.ref sg, .ref sd, .int (iI (nO)), .ref sl, .ref su, .int (iI (nH)), .ref ss, .int (iI (nS)), .int (iI (nW)), .int (iI (nF))])), (sg, fw_a kI 8 (fG)), (pl, .inr (0, [.ref plu, .ref plm, .ref plo])), (plu, fw_a kI 6 (au)), (plm, fw_a kI 6 (am)), (plo, fw_a kI 6 (fw_up ao h.toNat o)), (be, .inr (0, [.ref beu, .ref bem, .ref beo])), (beu, fw_a kI 6 (au)), (bem, fw_a kI 6 (am)), (beo, fw_a kI 6 (ao))] H) (va_A [(fc, .inr (3, [.ref sh, .ref pl, .ref be, .int (bI (ud)), .ref cp, .ref kp, .ref se])), (sh, .inr (1, [.ref sg, .ref sd, .int (iI (nO)), .ref sl, .ref su, .int (iI (nH)), .ref ss, .int (iI (nS)), .int (iI (nW)), .int (iI (nF))])), (sg, fw_a kI 8 (fG)), (pl, .inr (0, [.ref plu, .ref plm, .ref plo])), (plu, fw_a kI 6 (au)), (plm, fw_a kI 6 (am)), (plo, fw_a kI 6 (ao)), (be, .inr (0, [.ref beu, .ref bem, .ref beo])), (beu, fw_a kI 6 (eu)), (bem, fw_a kI 6 (em)), (beo, fw_a kI 6 (eo))] sz)) (fw_XC (dC, dI) [(fc, .inr (3, [.ref sh, .ref pl, .ref be, .int (bI (ud)), .ref cp, .ref kp, .ref se])), (sh, .inr (1, [.ref sg, .ref sd, .int (iI (nO)), .ref sl, .ref su, .int (iI (nH)), .ref ss, .int (iI (nS)), .int (iI (nW)), .int (iI (nF))])), (sg, fw_a kI 8 (fG)), (pl, .inr (0, [.ref plu, .ref plm, .ref plo])), (plu, fw_a kI 6 (au)), (plm, fw_a kI 6 (am)), (plo, fw_a kI 6 (ao)), (be, .inr (0, [.ref beu, .ref bem, .ref beo])), (beu, fw_a kI 6 (eu)), (bem, fw_a kI 6 (em)), (beo, fw_a kI 6 (eo))] (fun E => (E = "java/lang/IndexOutOfBoundsException" ∧ k_divert nH nO h o fG ao = 1) ∨ (E = "java/lang/UnsupportedOperationException" ∧ k_divert nH nO h o fG ao = 2)) (va_A [(fc, .inr (3, [.ref sh, .ref pl, .ref be, .int (bI (ud)), .ref cp, .ref kp, .ref se])), (sh, .inr (1, [.ref sg, .ref sd, .int (iI (nO)), .ref sl, .ref su, .int (iI (nH)), .ref ss, .int (iI (nS)), .int (iI (nW)), .int (iI (nF))])), (sg, fw_a kI 8 (fG)), (pl, .inr (0, [.ref plu, .ref plm, .ref plo])), (plu, fw_a kI 6 (au)), (plm, fw_a kI 6 (am)), (plo, fw_a kI 6 (ao)), (be, .inr (0, [.ref beu, .ref bem, .ref beo])), (beu, fw_a kI 6 (eu)), (bem, fw_a kI 6 (em)), (beo, fw_a kI 6 (eo))] sz)) 1 6 (va_A [(fc, .inr (3, [.ref sh, .ref pl, .ref be, .int (bI (ud)), .ref cp, .ref kp, .ref se])), (sh, .inr (1, [.ref sg, .ref sd, .int (iI (nO)), .ref sl, .ref su, .int (iI (nH)), .ref ss, .int (iI (nS)), .int (iI (nW)), .int (iI (nF))])), (sg, fw_a kI 8 (fG)), (pl, .inr (0, [.ref plu, .ref plm, .ref plo])), (plu, fw_a kI 6 (au)), (plm, fw_a kI 6 (am)), (plo, fw_a kI 6 (ao)), (be, .inr (0, [.ref beu, .ref bem, .ref beo])), (beu, fw_a kI 6 (eu)), (bem, fw_a kI 6 (em)), (beo, fw_a kI 6 (eo))] sz) := by
  refine fw_ofX (Qc := fun A => fw_Qv (fun H => (k_divert nH nO h o fG ao = 0) ∧ va_P (dC, dI) cls_ [(fc, .inr (3, [.ref sh, .ref pl, .ref be, .int (bI (true)), .ref cp, .ref kp, .ref se])), (sh, .inr (1, [.ref sg, .ref sd, .int (iI (nO)), .ref sl, .ref su, .int (iI (nH)), .ref ss, .int (iI (nS)), .int (iI (nW)), .int (iI (nF))])), (sg, fw_a kI 8 (fG)), (pl, .inr (0, [.ref plu, .ref plm, .ref plo])), (plu, fw_a kI 6 (au)), (plm, fw_a kI 6 (am)), (plo, fw_a kI 6 (fw_up ao h.toNat o)), (be, .inr (0, [.ref beu, .ref bem, .ref beo])), (beu, fw_a kI 6 (au)), (bem, fw_a kI 6 (am)), (beo, fw_a kI 6 (ao))] H) A) (XC := fun A => fw_XC (dC, dI) [(fc, .inr (3, [.ref sh, .ref pl, .ref be, .int (bI (ud)), .ref cp, .ref kp, .ref se])), (sh, .inr (1, [.ref sg, .ref sd, .int (iI (nO)), .ref sl, .ref su, .int (iI (nH)), .ref ss, .int (iI (nS)), .int (iI (nW)), .int (iI (nF))])), (sg, fw_a kI 8 (fG)), (pl, .inr (0, [.ref plu, .ref plm, .ref plo])), (plu, fw_a kI 6 (au)), (plm, fw_a kI 6 (am)), (plo, fw_a kI 6 (ao)), (be, .inr (0, [.ref beu, .ref bem, .ref beo])), (beu, fw_a kI 6 (eu)), (bem, fw_a kI 6 (em)), (beo, fw_a kI 6 (eo))] (fun E => (E = "java/lang/IndexOutOfBoundsException" ∧ k_divert nH nO h o fG ao = 1) ∨ (E = "java/lang/UnsupportedOperationException" ∧ k_divert nH nO h o fG ao = 2)) A) (by decide) (Nat.le_of_ble_eq_true rfl) ?_
  intro p e s m below meth c A ls hx hb hr hts hown hlocks htb hml hsz hP hK hD hN hX hA hS hl
  have hP0 := hP
  have hl : lv_has ls 4 [(0, .ref fc), (1, .int (iI (h))), (2, .int (iI (o)))] := hl
  obtain ⟨⟨i1, i2, i3, i4, i5, i6, i7, i8, i9, i10⟩, hi2, hi3⟩ := hsh
  refine lv_aload_n hx hb d_F_divert_0 rfl (lv_at hl 0 rfl) ?_
  refine lv_iload_n hx hb d_F_divert_1 rfl (lv_at hl 1 rfl) ?_
  refine fw_callR (va_runV (As := [.int (iI (h))]) (rest := []) ⟨hx, hb, hml, hown, hts⟩ (c_F_isHeat l dC dI fc pl be ud cp kp se sh sg sd sl su ss nO nH nS nW nF h ⟨by omega, by omega⟩ ⟨by omega, by omega⟩) (cwV 1 hts (gw_V kw_399 kw_401 ks_F_isHeat kw_1 kw_402) rfl rfl rfl (by decide +kernel) ⟨Nat.le_of_ble_eq_true rfl, Nat.le_of_ble_eq_true rfl⟩) (fw_preRV (ci := 3) (q0 := 0) hP hK hN [0, 1] [] rfl rfl rfl rfl) rfl rfl hl.1 rfl (lv_room (Nat.le_of_ble_eq_true rfl)) d_F_divert_2 ⟨Nat.le_of_ble_eq_true rfl, Nat.le_of_ble_eq_true rfl⟩).run ?_
  refine fw_bif_eq (tgt := 16) hx hb d_F_divert_5 (by decide) (fun c_1 => ?_) (fun c_1 => ?_)
  · exact fw_throw hx hb hlt hown hts hN hX (List.mem_of_getElem? (i := 14) rfl) fw_E3 hP0 (hl.1.trans hml.symm) d_F_divert_16 d_F_divert_19 d_F_divert_20 d_F_divert_22 d_F_divert_25 htb (Nat.le_of_ble_eq_true rfl) (Nat.le_of_ble_eq_true rfl) (Nat.le_of_ble_eq_true rfl) (Nat.le_of_ble_eq_true rfl) hlocks (Or.inl ⟨rfl, by simp [k_divert, c_1]⟩)
  · refine lv_aload_n hx hb d_F_divert_8 rfl (lv_at hl 0 rfl) ?_
    refine lv_iload_n hx hb d_F_divert_9 rfl (lv_at hl 2 rfl) ?_
    refine fw_callR (va_runV (As := [.int (iI (o))]) (rest := []) ⟨hx, hb, hml, hown, hts⟩ (c_F_isOrder l dC dI fc pl be ud cp kp se sh sg sd sl su ss nO nH nS nW nF o ⟨by omega, by omega⟩ ⟨by omega, by omega⟩) (cwV 1 hts (gw_V kw_304 kw_306 ks_F_isOrder kw_1 kw_307) rfl rfl rfl (by decide +kernel) ⟨Nat.le_of_ble_eq_true rfl, Nat.le_of_ble_eq_true rfl⟩) (fw_preRV (ci := 3) (q0 := 0) hP hK hN [0, 1] [] rfl rfl rfl rfl) rfl rfl hl.1 rfl (lv_room (Nat.le_of_ble_eq_true rfl)) d_F_divert_10 ⟨Nat.le_of_ble_eq_true rfl, Nat.le_of_ble_eq_true rfl⟩).run ?_
    refine fw_bif_ne (tgt := 26) hx hb d_F_divert_13 (by decide) (fun c_2 => ?_) (fun c_2 => ?_)
    · obtain ⟨g1, g2⟩ := fc_in_t c_1
      obtain ⟨g3, g4⟩ := fc_in_t c_2
      obtain ⟨p1, p2, p3, p4, p5, p6, p7⟩ := hpl h.toNat (by omega)
      have q1 := hi3 (ao h.toNat).toNat (by omega)
      have q2 := hi3 o.toNat (by omega)
      refine lv_aload_n hx hb d_F_divert_26 rfl (lv_at hl 0 rfl) ?_
      refine va_get (D := (dC, dI)) (ci := 3) (v := .ref pl) (C := R_F) (T := T_F) (N := 7) hx hb hts in_F hown hK hP 0 rfl rfl 1 (by decide) (hts _ kw_154) (fun _ h9 => h9) rfl d_F_divert_27 ?_
      refine va_get (D := (dC, dI)) (ci := 0) (v := .ref plo) (C := R_P) (T := T_P) (N := 3) hx hb hts in_P hown hK hP 3 rfl rfl 2 (by decide) (hts _ kw_88) (fun _ h9 => h9) rfl d_F_divert_30 ?_
      refine lv_iload_n hx hb d_F_divert_33 rfl (lv_at hl 1 rfl) ?_
      refine fw_iald hx hb hK hP 6 0 rfl rfl ((h).toNat) (by omega) (by omega) (by omega) d_F_divert_34 ?_
      refine lv_istore_n (lv' := [(3, .int (iI (ao ((h).toNat)))), (0, .ref fc), (1, .int (iI (h))), (2, .int (iI (o)))]) hx hb d_F_divert_35 rfl hl (by decide) rfl (fun ls hl => ?_)
      refine lv_iload_n hx hb d_F_divert_36 rfl (lv_at hl 0 rfl) ?_
      refine lv_iload_n hx hb d_F_divert_37 rfl (lv_at hl 3 rfl) ?_
      refine fw_icmp_eq (tgt := 62) hx hb d_F_divert_38 (by decide) ⟨by omega, by omega⟩ ⟨by omega, by omega⟩ (fun c_3 => ?_) (fun c_3 => ?_)
      · exact fw_throw hx hb hlt hown hts hN hX (List.mem_of_getElem? (i := 15) rfl) fw_E4 hP0 (hl.1.trans hml.symm) d_F_divert_62 d_F_divert_65 d_F_divert_66 d_F_divert_68 d_F_divert_71 htb (Nat.le_of_ble_eq_true rfl) (Nat.le_of_ble_eq_true rfl) (Nat.le_of_ble_eq_true rfl) (Nat.le_of_ble_eq_true rfl) hlocks (Or.inr ⟨rfl, by simp [k_divert, c_1, c_2, c_3]⟩)
      · refine lv_aload_n hx hb d_F_divert_41 rfl (lv_at hl 1 rfl) ?_
        refine va_get (D := (dC, dI)) (ci := 3) (v := .ref sh) (C := R_F) (T := T_F) (N := 7) hx hb hts in_F hown hK hP 0 rfl rfl 0 (by decide) (hts _ kw_153) (fun _ h9 => h9) rfl d_F_divert_42 ?_
        refine va_get (D := (dC, dI)) (ci := 1) (v := .ref sg) (C := R_S) (T := T_S) (N := 10) hx hb hts in_S hown hK hP 1 rfl rfl 0 (by decide) (hts _ kw_30) (fun _ h9 => h9) rfl d_F_divert_45 ?_
        refine lv_iload_n hx hb d_F_divert_48 rfl (lv_at hl 0 rfl) ?_
        refine fw_iald hx hb hK hP 2 0 rfl rfl ((ao ((h).toNat)).toNat) (by omega) (by omega) (by omega) d_F_divert_49 ?_
        refine lv_aload_n hx hb d_F_divert_50 rfl (lv_at hl 1 rfl) ?_
        refine va_get (D := (dC, dI)) (ci := 3) (v := .ref sh) (C := R_F) (T := T_F) (N := 7) hx hb hts in_F hown hK hP 0 rfl rfl 0 (by decide) (hts _ kw_153) (fun _ h9 => h9) rfl d_F_divert_51 ?_
        refine va_get (D := (dC, dI)) (ci := 1) (v := .ref sg) (C := R_S) (T := T_S) (N := 10) hx hb hts in_S hown hK hP 1 rfl rfl 0 (by decide) (hts _ kw_30) (fun _ h9 => h9) rfl d_F_divert_54 ?_
        refine lv_iload_n hx hb d_F_divert_57 rfl (lv_at hl 3 rfl) ?_
        refine fw_iald hx hb hK hP 2 0 rfl rfl ((o).toNat) (by omega) (by omega) (by omega) d_F_divert_58 ?_
        refine fw_icmp_eq (tgt := 72) hx hb d_F_divert_59 (by decide) ⟨by omega, by omega⟩ ⟨by omega, by omega⟩ (fun c_4 => ?_) (fun c_4 => ?_)
        · refine lv_aload_n hx hb d_F_divert_72 rfl (lv_at hl 1 rfl) ?_
          refine fw_callvP [0, 3, 4, 5, 6, 7, 8, 9, 10] (va_runV (As := []) (rest := []) ⟨hx, hb, hml, hown, hts⟩ (c_F_rememberForUndo l dC dI _ fc pl be ud cp kp se plu plm plo au am ao beu bem beo eu em eo kI sh ) (cwV 0 hts (gw_V kw_417 kw_419 ks_F_rememberForUndo kw_1 kw_420) rfl rfl rfl (by decide +kernel) ⟨Nat.le_of_ble_eq_true rfl, Nat.le_of_ble_eq_true rfl⟩) (fw_preV (ci := 3) (q0 := 0) hP hK hD hN [0, 3, 4, 5, 6, 7, 8, 9, 10] [0] rfl rfl rfl rfl rfl) rfl rfl hl.1 rfl (lv_room (Nat.le_of_ble_eq_true rfl)) d_F_divert_73 ⟨Nat.le_of_ble_eq_true rfl, Nat.le_of_ble_eq_true rfl⟩) hP hD hS hA rfl rfl rfl (fun H locs hP hD hS => ?_)
          have hP : va_P (dC, dI) cls_ [(fc, .inr (3, [.ref sh, .ref pl, .ref be, .int (bI (true)), .ref cp, .ref kp, .ref se])), (sh, .inr (1, [.ref sg, .ref sd, .int (iI (nO)), .ref sl, .ref su, .int (iI (nH)), .ref ss, .int (iI (nS)), .int (iI (nW)), .int (iI (nF))])), (sg, fw_a kI 8 (fG)), (pl, .inr (0, [.ref plu, .ref plm, .ref plo])), (plu, fw_a kI 6 (au)), (plm, fw_a kI 6 (am)), (plo, fw_a kI 6 (ao)), (be, .inr (0, [.ref beu, .ref bem, .ref beo])), (beu, fw_a kI 6 (au)), (bem, fw_a kI 6 (am)), (beo, fw_a kI 6 (ao))] H := hP
          have hD : va_D A [(fc, .inr (3, [.ref sh, .ref pl, .ref be, .int (bI (true)), .ref cp, .ref kp, .ref se])), (sh, .inr (1, [.ref sg, .ref sd, .int (iI (nO)), .ref sl, .ref su, .int (iI (nH)), .ref ss, .int (iI (nS)), .int (iI (nW)), .int (iI (nF))])), (sg, fw_a kI 8 (fG)), (pl, .inr (0, [.ref plu, .ref plm, .ref plo])), (plu, fw_a kI 6 (au)), (plm, fw_a kI 6 (am)), (plo, fw_a kI 6 (ao)), (be, .inr (0, [.ref beu, .ref bem, .ref beo])), (beu, fw_a kI 6 (au)), (bem, fw_a kI 6 (am)), (beo, fw_a kI 6 (ao))] := hD
          refine lv_aload_n hx hb d_F_divert_76 rfl (lv_at hl 1 rfl) ?_
          refine va_get (D := (dC, dI)) (ci := 3) (v := .ref pl) (C := R_F) (T := T_F) (N := 7) hx hb hts in_F hown hK hP 0 rfl rfl 1 (by decide) (hts _ kw_154) (fun _ h9 => h9) rfl d_F_divert_77 ?_
          refine va_get (D := (dC, dI)) (ci := 0) (v := .ref plo) (C := R_P) (T := T_P) (N := 3) hx hb hts in_P hown hK hP 3 rfl rfl 2 (by decide) (hts _ kw_88) (fun _ h9 => h9) rfl d_F_divert_80 ?_
          refine lv_iload_n hx hb d_F_divert_83 rfl (lv_at hl 2 rfl) ?_
          refine lv_iload_n hx hb d_F_divert_84 rfl (lv_at hl 3 rfl) ?_
          refine fw_iast hx hb hK hP hD hS 6 0 rfl rfl ((h).toNat) (by omega) (by omega) (by omega) d_F_divert_85 (fun H locs hP hD hS => ?_)
          have hP : va_P (dC, dI) cls_ [(fc, .inr (3, [.ref sh, .ref pl, .ref be, .int (bI (true)), .ref cp, .ref kp, .ref se])), (sh, .inr (1, [.ref sg, .ref sd, .int (iI (nO)), .ref sl, .ref su, .int (iI (nH)), .ref ss, .int (iI (nS)), .int (iI (nW)), .int (iI (nF))])), (sg, fw_a kI 8 (fG)), (pl, .inr (0, [.ref plu, .ref plm, .ref plo])), (plu, fw_a kI 6 (au)), (plm, fw_a kI 6 (am)), (plo, fw_a kI 6 (fw_up ao ((h).toNat) o)), (be, .inr (0, [.ref beu, .ref bem, .ref beo])), (beu, fw_a kI 6 (au)), (bem, fw_a kI 6 (am)), (beo, fw_a kI 6 (ao))] H := hP
          have hD : va_D A [(fc, .inr (3, [.ref sh, .ref pl, .ref be, .int (bI (true)), .ref cp, .ref kp, .ref se])), (sh, .inr (1, [.ref sg, .ref sd, .int (iI (nO)), .ref sl, .ref su, .int (iI (nH)), .ref ss, .int (iI (nS)), .int (iI (nW)), .int (iI (nF))])), (sg, fw_a kI 8 (fG)), (pl, .inr (0, [.ref plu, .ref plm, .ref plo])), (plu, fw_a kI 6 (au)), (plm, fw_a kI 6 (am)), (plo, fw_a kI 6 (fw_up ao ((h).toNat) o)), (be, .inr (0, [.ref beu, .ref bem, .ref beo])), (beu, fw_a kI 6 (au)), (bem, fw_a kI 6 (am)), (beo, fw_a kI 6 (ao))] := hD
          refine W.widen (k := 1) (n := 6) (Nat.zero_le _) (Nat.zero_le _) ?_
          refine vx_ret ?_
          refine fw_vret hx hb hr hlocks hS ?_ d_F_divert_86
          · exact ⟨by simp [k_divert, c_1, c_2, c_3, c_4], hP⟩
        · exact fw_throw hx hb hlt hown hts hN hX (List.mem_of_getElem? (i := 15) rfl) fw_E4 hP0 (hl.1.trans hml.symm) d_F_divert_62 d_F_divert_65 d_F_divert_66 d_F_divert_68 d_F_divert_71 htb (Nat.le_of_ble_eq_true rfl) (Nat.le_of_ble_eq_true rfl) (Nat.le_of_ble_eq_true rfl) (Nat.le_of_ble_eq_true rfl) hlocks (Or.inr ⟨rfl, by simp [k_divert, c_1, c_2, c_3, c_4]⟩)
    · exact fw_throw hx hb hlt hown hts hN hX (List.mem_of_getElem? (i := 14) rfl) fw_E3 hP0 (hl.1.trans hml.symm) d_F_divert_16 d_F_divert_19 d_F_divert_20 d_F_divert_22 d_F_divert_25 htb (Nat.le_of_ble_eq_true rfl) (Nat.le_of_ble_eq_true rfl) (Nat.le_of_ble_eq_true rfl) (Nat.le_of_ble_eq_true rfl) hlocks (Or.inl ⟨rfl, by simp [k_divert, c_1, c_2]⟩)

set_option maxHeartbeats 4000000 in
set_option maxRecDepth 100000 in
theorem c_F_place (l : Launch) (hlt : l.stackTraces = false) (dC : Nat → ClassId) (dI : Nat → Nat → Nat) (sz : Nat) (fc : Nat) (pl : Nat) (be : Nat) (ud : Bool) (cp : Nat) (kp : Nat) (se : Nat) (sh : Nat) (sg : Nat) (sd : Nat) (sl : Nat) (su : Nat) (ss : Nat) (nO : Int) (nH : Int) (nS : Int) (nW : Int) (nF : Int) (plu : Nat) (plm : Nat) (plo : Nat) (au : Nat → Int) (am : Nat → Int) (ao : Nat → Int) (beu : Nat) (bem : Nat) (beo : Nat) (eu : Nat → Int) (em : Nat → Int) (eo : Nat → Int) (kI : ClassId) (fL : Nat → Int) (fU : Nat → Int) (fG : Nat → Int) (fD : Nat → Int) (kL : ClassId) (fS : Nat → Int64) (h : Int) (u : Int) (mi : Int) (hsh : iv_sh nO nH nS nW nF fL fU fG fD) (hpl : iv_pl nO nH fL fU au am ao) (hb_h : fw_b h) (hb_u : fw_b u) (hb_mi : fw_b mi) : vx_Met l y_F_place (Cond.code y_F_place b_F_place 4 none :: gw) ({ frames := 6, locals := 90, cells := 1, slots := 6 }) (fw_Px (dC, dI) [.ref fc, .int (iI (h)), .int (iI (u)), .int (iI (mi))] [(fc, .inr (3, [.ref sh, .ref pl, .ref be, .int (bI (ud)), .ref cp, .ref kp, .ref se])), (sh, .inr (1, [.ref sg, .ref sd, .int (iI (nO)), .ref sl, .ref su, .int (iI (nH)), .ref ss, .int (iI (nS)), .int (iI (nW)), .int (iI (nF))])), (sl, fw_a kI 6 (fL)), (su, fw_a kI 6 (fU)), (ss, fw_l kL 3 (fS)), (pl, .inr (0, [.ref plu, .ref plm, .ref plo])), (plu, fw_a kI 6 (au)), (plm, fw_a kI 6 (am)), (plo, fw_a kI 6 (ao)), (be, .inr (0, [.ref beu, .ref bem, .ref beo])), (beu, fw_a kI 6 (eu)), (bem, fw_a kI 6 (em)), (beo, fw_a kI 6 (eo))] [(kI, .int), (kL, .long)] sz) (fw_Qv (fun H => (k_place nH nW nF h u mi fS fU fL au am = 0) ∧ va_P (dC, dI) cls_ [(fc, .inr (3, [.ref sh, .ref pl, .ref be, .int (bI (true)), .ref cp, .ref kp, .ref se])), (sh, .inr (1, [.ref sg, .ref sd, .int (iI (nO)), .ref sl, .ref su, .int (iI (nH)), .ref ss, .int (iI (nS)), .int (iI (nW)), .int (iI (nF))])), (sl, fw_a kI 6 (fL)), (su, fw_a kI 6 (fU)), (ss, fw_l kL 3 (fS)), (pl, .inr (0, [.ref plu, .ref plm, .ref plo])), (plu, fw_a kI 6 (fw_up au h.toNat u)), (plm, fw_a kI 6 (fw_up am h.toNat mi)), (plo, fw_a kI 6 (ao)), (be, .inr (0, [.ref beu, .ref bem, .ref beo])), (beu, fw_a kI 6 (au)), (bem, fw_a kI 6 (am)), (beo, fw_a kI 6 (ao))] H) (va_A [(fc, .inr (3, [.ref sh, .ref pl, .ref be, .int (bI (ud)), .ref cp, .ref kp, .ref se])), (sh, .inr (1, [.ref sg, .ref sd, .int (iI (nO)), .ref sl, .ref su, .int (iI (nH)), .ref ss, .int (iI (nS)), .int (iI (nW)), .int (iI (nF))])), (sl, fw_a kI 6 (fL)), (su, fw_a kI 6 (fU)), (ss, fw_l kL 3 (fS)), (pl, .inr (0, [.ref plu, .ref plm, .ref plo])), (plu, fw_a kI 6 (au)), (plm, fw_a kI 6 (am)), (plo, fw_a kI 6 (ao)), (be, .inr (0, [.ref beu, .ref bem, .ref beo])), (beu, fw_a kI 6 (eu)), (bem, fw_a kI 6 (em)), (beo, fw_a kI 6 (eo))] sz)) (fw_XC (dC, dI) [(fc, .inr (3, [.ref sh, .ref pl, .ref be, .int (bI (ud)), .ref cp, .ref kp, .ref se])), (sh, .inr (1, [.ref sg, .ref sd, .int (iI (nO)), .ref sl, .ref su, .int (iI (nH)), .ref ss, .int (iI (nS)), .int (iI (nW)), .int (iI (nF))])), (sl, fw_a kI 6 (fL)), (su, fw_a kI 6 (fU)), (ss, fw_l kL 3 (fS)), (pl, .inr (0, [.ref plu, .ref plm, .ref plo])), (plu, fw_a kI 6 (au)), (plm, fw_a kI 6 (am)), (plo, fw_a kI 6 (ao)), (be, .inr (0, [.ref beu, .ref bem, .ref beo])), (beu, fw_a kI 6 (eu)), (bem, fw_a kI 6 (em)), (beo, fw_a kI 6 (eo))] (fun E => (E = "java/lang/IndexOutOfBoundsException" ∧ k_place nH nW nF h u mi fS fU fL au am = 1) ∨ (E = "java/lang/IllegalStateException" ∧ k_place nH nW nF h u mi fS fU fL au am = 2) ∨ (E = "java/lang/IllegalArgumentException" ∧ k_place nH nW nF h u mi fS fU fL au am = 3) ∨ (E = "java/lang/UnsupportedOperationException" ∧ k_place nH nW nF h u mi fS fU fL au am = 4)) (va_A [(fc, .inr (3, [.ref sh, .ref pl, .ref be, .int (bI (ud)), .ref cp, .ref kp, .ref se])), (sh, .inr (1, [.ref sg, .ref sd, .int (iI (nO)), .ref sl, .ref su, .int (iI (nH)), .ref ss, .int (iI (nS)), .int (iI (nW)), .int (iI (nF))])), (sl, fw_a kI 6 (fL)), (su, fw_a kI 6 (fU)), (ss, fw_l kL 3 (fS)), (pl, .inr (0, [.ref plu, .ref plm, .ref plo])), (plu, fw_a kI 6 (au)), (plm, fw_a kI 6 (am)), (plo, fw_a kI 6 (ao)), (be, .inr (0, [.ref beu, .ref bem, .ref beo])), (beu, fw_a kI 6 (eu)), (bem, fw_a kI 6 (em)), (beo, fw_a kI 6 (eo))] sz)) 1 6 (va_A [(fc, .inr (3, [.ref sh, .ref pl, .ref be, .int (bI (ud)), .ref cp, .ref kp, .ref se])), (sh, .inr (1, [.ref sg, .ref sd, .int (iI (nO)), .ref sl, .ref su, .int (iI (nH)), .ref ss, .int (iI (nS)), .int (iI (nW)), .int (iI (nF))])), (sl, fw_a kI 6 (fL)), (su, fw_a kI 6 (fU)), (ss, fw_l kL 3 (fS)), (pl, .inr (0, [.ref plu, .ref plm, .ref plo])), (plu, fw_a kI 6 (au)), (plm, fw_a kI 6 (am)), (plo, fw_a kI 6 (ao)), (be, .inr (0, [.ref beu, .ref bem, .ref beo])), (beu, fw_a kI 6 (eu)), (bem, fw_a kI 6 (em)), (beo, fw_a kI 6 (eo))] sz) := by
  refine fw_ofX (Qc := fun A => fw_Qv (fun H => (k_place nH nW nF h u mi fS fU fL au am = 0) ∧ va_P (dC, dI) cls_ [(fc, .inr (3, [.ref sh, .ref pl, .ref be, .int (bI (true)), .ref cp, .ref kp, .ref se])), (sh, .inr (1, [.ref sg, .ref sd, .int (iI (nO)), .ref sl, .ref su, .int (iI (nH)), .ref ss, .int (iI (nS)), .int (iI (nW)), .int (iI (nF))])), (sl, fw_a kI 6 (fL)), (su, fw_a kI 6 (fU)), (ss, fw_l kL 3 (fS)), (pl, .inr (0, [.ref plu, .ref plm, .ref plo])), (plu, fw_a kI 6 (fw_up au h.toNat u)), (plm, fw_a kI 6 (fw_up am h.toNat mi)), (plo, fw_a kI 6 (ao)), (be, .inr (0, [.ref beu, .ref bem, .ref beo])), (beu, fw_a kI 6 (au)), (bem, fw_a kI 6 (am)), (beo, fw_a kI 6 (ao))] H) A) (XC := fun A => fw_XC (dC, dI) [(fc, .inr (3, [.ref sh, .ref pl, .ref be, .int (bI (ud)), .ref cp, .ref kp, .ref se])), (sh, .inr (1, [.ref sg, .ref sd, .int (iI (nO)), .ref sl, .ref su, .int (iI (nH)), .ref ss, .int (iI (nS)), .int (iI (nW)), .int (iI (nF))])), (sl, fw_a kI 6 (fL)), (su, fw_a kI 6 (fU)), (ss, fw_l kL 3 (fS)), (pl, .inr (0, [.ref plu, .ref plm, .ref plo])), (plu, fw_a kI 6 (au)), (plm, fw_a kI 6 (am)), (plo, fw_a kI 6 (ao)), (be, .inr (0, [.ref beu, .ref bem, .ref beo])), (beu, fw_a kI 6 (eu)), (bem, fw_a kI 6 (em)), (beo, fw_a kI 6 (eo))] (fun E => (E = "java/lang/IndexOutOfBoundsException" ∧ k_place nH nW nF h u mi fS fU fL au am = 1) ∨ (E = "java/lang/IllegalStateException" ∧ k_place nH nW nF h u mi fS fU fL au am = 2) ∨ (E = "java/lang/IllegalArgumentException" ∧ k_place nH nW nF h u mi fS fU fL au am = 3) ∨ (E = "java/lang/UnsupportedOperationException" ∧ k_place nH nW nF h u mi fS fU fL au am = 4)) A) (by decide) (Nat.le_of_ble_eq_true rfl) ?_
  intro p e s m below meth c A ls hx hb hr hts hown hlocks htb hml hsz hP hK hD hN hX hA hS hl
  have hP0 := hP
  have hl : lv_has ls 4 [(0, .ref fc), (1, .int (iI (h))), (2, .int (iI (u))), (3, .int (iI (mi)))] := hl
  obtain ⟨⟨i1, i2, i3, i4, i5, i6, i7, i8, i9, i10⟩, hi2, hi3⟩ := hsh
  refine lv_aload_n hx hb d_F_place_0 rfl (lv_at hl 0 rfl) ?_
  refine lv_iload_n hx hb d_F_place_1 rfl (lv_at hl 1 rfl) ?_
  refine fw_callR (va_runV (As := [.int (iI (h))]) (rest := []) ⟨hx, hb, hml, hown, hts⟩ (c_F_isHeat l dC dI fc pl be ud cp kp se sh sg sd sl su ss nO nH nS nW nF h ⟨by omega, by omega⟩ ⟨by omega, by omega⟩) (cwV 1 hts (gw_V kw_399 kw_401 ks_F_isHeat kw_1 kw_402) rfl rfl rfl (by decide +kernel) ⟨Nat.le_of_ble_eq_true rfl, Nat.le_of_ble_eq_true rfl⟩) (fw_preRV (ci := 3) (q0 := 0) hP hK hN [0, 1] [] rfl rfl rfl rfl) rfl rfl hl.1 rfl (lv_room (Nat.le_of_ble_eq_true rfl)) d_F_place_2 ⟨Nat.le_of_ble_eq_true rfl, Nat.le_of_ble_eq_true rfl⟩).run ?_
  refine fw_bif_eq (tgt := 15) hx hb d_F_place_5 (by decide) (fun c_1 => ?_) (fun c_1 => ?_)
  · exact fw_throw hx hb hlt hown hts hN hX (List.mem_of_getElem? (i := 10) rfl) fw_E3 hP0 (hl.1.trans hml.symm) d_F_place_15 d_F_place_18 d_F_place_19 d_F_place_21 d_F_place_24 htb (Nat.le_of_ble_eq_true rfl) (Nat.le_of_ble_eq_true rfl) (Nat.le_of_ble_eq_true rfl) (Nat.le_of_ble_eq_true rfl) hlocks (Or.inl ⟨rfl, by simp [k_place, c_1]⟩)
  · refine lv_iload_n hx hb d_F_place_8 rfl (lv_at hl 2 rfl) ?_
    refine fw_callR (va_runS (As := [.int (iI (u))]) (rest := []) ⟨hx, hb, hml, hown, hts⟩ (c_F_isUnit l dC dI u ⟨by omega, by omega⟩) (cwS 1 hts (gw_S kw_308 kw_309 kw_1 kw_310) rfl rfl rfl (by decide +kernel) ⟨Nat.le_of_ble_eq_true rfl, Nat.le_of_ble_eq_true rfl⟩) (fw_preRS hP hK hN [] [] rfl rfl) rfl rfl hl.1 rfl (lv_room (Nat.le_of_ble_eq_true rfl)) d_F_place_9 ⟨Nat.le_of_ble_eq_true rfl, Nat.le_of_ble_eq_true rfl⟩).run ?_
    refine fw_bif_ne (tgt := 25) hx hb d_F_place_12 (by decide) (fun c_2 => ?_) (fun c_2 => ?_)
    · obtain ⟨g1, g2⟩ := fc_in_t c_1
      obtain ⟨g3, g4⟩ := fc_in_t c_2
      obtain ⟨p1, p2, p3, p4, p5, p6, p7⟩ := hpl h.toNat (by omega)
      have q1 := hi2 h.toNat (by omega)
      have q3 : ∀ j : Nat, (j : Int) < nH → fw_b (au j) := fun j hj => by have := hpl j hj; omega
      refine lv_aload_n hx hb d_F_place_25 rfl (lv_at hl 0 rfl) ?_
      refine va_get (D := (dC, dI)) (ci := 3) (v := .ref sh) (C := R_F) (T := T_F) (N := 7) hx hb hts in_F hown hK hP 0 rfl rfl 0 (by decide) (hts _ kw_153) (fun _ h9 => h9) rfl d_F_place_26 ?_
      refine lv_aload_n hx hb d_F_place_29 rfl (lv_at hl 0 rfl) ?_
      refine va_get (D := (dC, dI)) (ci := 3) (v := .ref pl) (C := R_F) (T := T_F) (N := 7) hx hb hts in_F hown hK hP 0 rfl rfl 1 (by decide) (hts _ kw_154) (fun _ h9 => h9) rfl d_F_place_30 ?_
      refine lv_iload_n hx hb d_F_place_33 rfl (lv_at hl 1 rfl) ?_
      refine fw_callR (va_runV (As := [.ref pl, .int (iI (h))]) (rest := []) ⟨hx, hb, hml, hown, hts⟩ (c_S_isFrozen l dC dI sh sg sd sl su ss nO nH nS nW nF pl plu plm plo am kI h (by first | assumption | omega) (by first | assumption | omega) (by first | assumption | omega) (by first | assumption | omega)) (cwV 2 hts (gw_V kw_404 kw_405 kw_406 kw_2 kw_407) rfl rfl rfl (by decide +kernel) ⟨Nat.le_of_ble_eq_true rfl, Nat.le_of_ble_eq_true rfl⟩) (fw_preRV (ci := 1) (q0 := 1) hP hK hN [1, 5, 7] [0] rfl rfl rfl rfl) rfl rfl hl.1 rfl (lv_room (Nat.le_of_ble_eq_true rfl)) d_F_place_34 ⟨Nat.le_of_ble_eq_true rfl, Nat.le_of_ble_eq_true rfl⟩).run ?_
      refine fw_bif_eq (tgt := 50) hx hb d_F_place_37 (by decide) (fun c_3 => ?_) (fun c_3 => ?_)
      · refine lv_iload_n hx hb d_F_place_50 rfl (lv_at hl 3 rfl) ?_
        refine fw_callR (va_runS (As := [.int (iI (mi))]) (rest := []) ⟨hx, hb, hml, hown, hts⟩ (c_F_isMinute l dC dI mi ⟨by omega, by omega⟩) (cwS 1 hts (gw_S kw_328 kw_329 kw_1 kw_330) rfl rfl rfl (by decide +kernel) ⟨Nat.le_of_ble_eq_true rfl, Nat.le_of_ble_eq_true rfl⟩) (fw_preRS hP hK hN [] [] rfl rfl) rfl rfl hl.1 rfl (lv_room (Nat.le_of_ble_eq_true rfl)) d_F_place_51 ⟨Nat.le_of_ble_eq_true rfl, Nat.le_of_ble_eq_true rfl⟩).run ?_
        refine fw_bif_ne (tgt := 67) hx hb d_F_place_54 (by decide) (fun c_4 => ?_) (fun c_4 => ?_)
        · obtain ⟨g5, g6⟩ := fc_in_t c_4
          refine lv_aload_n hx hb d_F_place_67 rfl (lv_at hl 0 rfl) ?_
          refine va_get (D := (dC, dI)) (ci := 3) (v := .ref sh) (C := R_F) (T := T_F) (N := 7) hx hb hts in_F hown hK hP 0 rfl rfl 0 (by decide) (hts _ kw_153) (fun _ h9 => h9) rfl d_F_place_68 ?_
          refine lv_aload_n hx hb d_F_place_71 rfl (lv_at hl 0 rfl) ?_
          refine va_get (D := (dC, dI)) (ci := 3) (v := .ref pl) (C := R_F) (T := T_F) (N := 7) hx hb hts in_F hown hK hP 0 rfl rfl 1 (by decide) (hts _ kw_154) (fun _ h9 => h9) rfl d_F_place_72 ?_
          refine lv_iload_n hx hb d_F_place_75 rfl (lv_at hl 1 rfl) ?_
          refine lv_iload_n hx hb d_F_place_76 rfl (lv_at hl 2 rfl) ?_
          refine lv_iload_n hx hb d_F_place_77 rfl (lv_at hl 3 rfl) ?_
          refine fw_callR (va_runV (As := [.ref pl, .int (iI (h)), .int (iI (u)), .int (iI (mi))]) (rest := []) ⟨hx, hb, hml, hown, hts⟩ (c_S_fits l dC dI sh sg sd sl su ss nO nH nS nW nF pl plu plm plo au am kI kL fL fU fS h u mi (by first | assumption | omega) (by first | assumption | omega) (by first | assumption | omega) (by first | assumption | omega) (by first | assumption | omega) (by first | assumption | omega) ⟨by omega, by omega⟩ (by assumption) (by first | assumption | omega) (by first | assumption | omega)) (cwV 4 hts (gw_V kw_410 kw_411 kw_412 kw_2 kw_413) rfl rfl rfl (by decide +kernel) ⟨Nat.le_of_ble_eq_true rfl, Nat.le_of_ble_eq_true rfl⟩) (fw_preRV (ci := 1) (q0 := 1) hP hK hN [1, 2, 3, 4, 5, 6, 7] [0, 1] rfl rfl rfl rfl) rfl rfl hl.1 rfl (lv_room (Nat.le_of_ble_eq_true rfl)) d_F_place_78 ⟨Nat.le_of_ble_eq_true rfl, Nat.le_of_ble_eq_true rfl⟩).run ?_
          refine fw_bif_ne (tgt := 94) hx hb d_F_place_81 (by decide) (fun c_5 => ?_) (fun c_5 => ?_)
          · refine lv_aload_n hx hb d_F_place_94 rfl (lv_at hl 0 rfl) ?_
            refine fw_callvP [0, 5, 6, 7, 8, 9, 10, 11, 12] (va_runV (As := []) (rest := []) ⟨hx, hb, hml, hown, hts⟩ (c_F_rememberForUndo l dC dI _ fc pl be ud cp kp se plu plm plo au am ao beu bem beo eu em eo kI sh ) (cwV 0 hts (gw_V kw_417 kw_419 ks_F_rememberForUndo kw_1 kw_420) rfl rfl rfl (by decide +kernel) ⟨Nat.le_of_ble_eq_true rfl, Nat.le_of_ble_eq_true rfl⟩) (fw_preV (ci := 3) (q0 := 0) hP hK hD hN [0, 5, 6, 7, 8, 9, 10, 11, 12] [0] rfl rfl rfl rfl rfl) rfl rfl hl.1 rfl (lv_room (Nat.le_of_ble_eq_true rfl)) d_F_place_95 ⟨Nat.le_of_ble_eq_true rfl, Nat.le_of_ble_eq_true rfl⟩) hP hD hS hA rfl rfl rfl (fun H locs hP hD hS => ?_)
            have hP : va_P (dC, dI) cls_ [(fc, .inr (3, [.ref sh, .ref pl, .ref be, .int (bI (true)), .ref cp, .ref kp, .ref se])), (sh, .inr (1, [.ref sg, .ref sd, .int (iI (nO)), .ref sl, .ref su, .int (iI (nH)), .ref ss, .int (iI (nS)), .int (iI (nW)), .int (iI (nF))])), (sl, fw_a kI 6 (fL)), (su, fw_a kI 6 (fU)), (ss, fw_l kL 3 (fS)), (pl, .inr (0, [.ref plu, .ref plm, .ref plo])), (plu, fw_a kI 6 (au)), (plm, fw_a kI 6 (am)), (plo, fw_a kI 6 (ao)), (be, .inr (0, [.ref beu, .ref bem, .ref beo])), (beu, fw_a kI 6 (au)), (bem, fw_a kI 6 (am)), (beo, fw_a kI 6 (ao))] H := hP
            have hD : va_D A [(fc, .inr (3, [.ref sh, .ref pl, .ref be, .int (bI (true)), .ref cp, .ref kp, .ref se])), (sh, .inr (1, [.ref sg, .ref sd, .int (iI (nO)), .ref sl, .ref su, .int (iI (nH)), .ref ss, .int (iI (nS)), .int (iI (nW)), .int (iI (nF))])), (sl, fw_a kI 6 (fL)), (su, fw_a kI 6 (fU)), (ss, fw_l kL 3 (fS)), (pl, .inr (0, [.ref plu, .ref plm, .ref plo])), (plu, fw_a kI 6 (au)), (plm, fw_a kI 6 (am)), (plo, fw_a kI 6 (ao)), (be, .inr (0, [.ref beu, .ref bem, .ref beo])), (beu, fw_a kI 6 (au)), (bem, fw_a kI 6 (am)), (beo, fw_a kI 6 (ao))] := hD
            refine lv_aload_n hx hb d_F_place_98 rfl (lv_at hl 0 rfl) ?_
            refine va_get (D := (dC, dI)) (ci := 3) (v := .ref pl) (C := R_F) (T := T_F) (N := 7) hx hb hts in_F hown hK hP 0 rfl rfl 1 (by decide) (hts _ kw_154) (fun _ h9 => h9) rfl d_F_place_99 ?_
            refine lv_iload_n hx hb d_F_place_102 rfl (lv_at hl 1 rfl) ?_
            refine lv_iload_n hx hb d_F_place_103 rfl (lv_at hl 2 rfl) ?_
            refine lv_iload_n hx hb d_F_place_104 rfl (lv_at hl 3 rfl) ?_
            refine fw_callvP [5, 6, 7] (va_runV (As := [.int (iI (h)), .int (iI (u)), .int (iI (mi))]) (rest := []) ⟨hx, hb, hml, hown, hts⟩ (c_P_put l dC dI _ pl plu plm plo au am kI h u mi (by first | assumption | omega) (by first | assumption | omega)) (cwV 3 hts (gw_V kw_362 kw_363 kw_364 kw_3 kw_365) rfl rfl rfl (by decide +kernel) ⟨Nat.le_of_ble_eq_true rfl, Nat.le_of_ble_eq_true rfl⟩) (fw_preV (ci := 0) (q0 := 5) hP hK hD hN [5, 6, 7] [0] rfl rfl rfl rfl rfl) rfl rfl hl.1 rfl (lv_room (Nat.le_of_ble_eq_true rfl)) d_F_place_105 ⟨Nat.le_of_ble_eq_true rfl, Nat.le_of_ble_eq_true rfl⟩) hP hD hS hA rfl rfl rfl (fun H locs hP hD hS => ?_)
            have hP : va_P (dC, dI) cls_ [(fc, .inr (3, [.ref sh, .ref pl, .ref be, .int (bI (true)), .ref cp, .ref kp, .ref se])), (sh, .inr (1, [.ref sg, .ref sd, .int (iI (nO)), .ref sl, .ref su, .int (iI (nH)), .ref ss, .int (iI (nS)), .int (iI (nW)), .int (iI (nF))])), (sl, fw_a kI 6 (fL)), (su, fw_a kI 6 (fU)), (ss, fw_l kL 3 (fS)), (pl, .inr (0, [.ref plu, .ref plm, .ref plo])), (plu, fw_a kI 6 (fw_up au h.toNat u)), (plm, fw_a kI 6 (fw_up am h.toNat mi)), (plo, fw_a kI 6 (ao)), (be, .inr (0, [.ref beu, .ref bem, .ref beo])), (beu, fw_a kI 6 (au)), (bem, fw_a kI 6 (am)), (beo, fw_a kI 6 (ao))] H := hP
            have hD : va_D A [(fc, .inr (3, [.ref sh, .ref pl, .ref be, .int (bI (true)), .ref cp, .ref kp, .ref se])), (sh, .inr (1, [.ref sg, .ref sd, .int (iI (nO)), .ref sl, .ref su, .int (iI (nH)), .ref ss, .int (iI (nS)), .int (iI (nW)), .int (iI (nF))])), (sl, fw_a kI 6 (fL)), (su, fw_a kI 6 (fU)), (ss, fw_l kL 3 (fS)), (pl, .inr (0, [.ref plu, .ref plm, .ref plo])), (plu, fw_a kI 6 (fw_up au h.toNat u)), (plm, fw_a kI 6 (fw_up am h.toNat mi)), (plo, fw_a kI 6 (ao)), (be, .inr (0, [.ref beu, .ref bem, .ref beo])), (beu, fw_a kI 6 (au)), (bem, fw_a kI 6 (am)), (beo, fw_a kI 6 (ao))] := hD
            refine W.widen (k := 1) (n := 6) (Nat.zero_le _) (Nat.zero_le _) ?_
            refine vx_ret ?_
            refine fw_vret hx hb hr hlocks hS ?_ d_F_place_108
            · exact ⟨by simp [k_place, c_1, c_2, c_3, c_4, c_5], hP⟩
          · exact fw_throw hx hb hlt hown hts hN hX (List.mem_of_getElem? (i := 13) rfl) fw_E4 hP0 (hl.1.trans hml.symm) d_F_place_84 d_F_place_87 d_F_place_88 d_F_place_90 d_F_place_93 htb (Nat.le_of_ble_eq_true rfl) (Nat.le_of_ble_eq_true rfl) (Nat.le_of_ble_eq_true rfl) (Nat.le_of_ble_eq_true rfl) hlocks (Or.inr (Or.inr (Or.inr ⟨rfl, by simp [k_place, c_1, c_2, c_3, c_4, c_5]⟩)))
        · exact fw_throw hx hb hlt hown hts hN hX (List.mem_of_getElem? (i := 12) rfl) fw_E2 hP0 (hl.1.trans hml.symm) d_F_place_57 d_F_place_60 d_F_place_61 d_F_place_63 d_F_place_66 htb (Nat.le_of_ble_eq_true rfl) (Nat.le_of_ble_eq_true rfl) (Nat.le_of_ble_eq_true rfl) (Nat.le_of_ble_eq_true rfl) hlocks (Or.inr (Or.inr (Or.inl ⟨rfl, by simp [k_place, c_1, c_2, c_3, c_4]⟩)))
      · exact fw_throw hx hb hlt hown hts hN hX (List.mem_of_getElem? (i := 11) rfl) fw_E1 hP0 (hl.1.trans hml.symm) d_F_place_40 d_F_place_43 d_F_place_44 d_F_place_46 d_F_place_49 htb (Nat.le_of_ble_eq_true rfl) (Nat.le_of_ble_eq_true rfl) (Nat.le_of_ble_eq_true rfl) (Nat.le_of_ble_eq_true rfl) hlocks (Or.inr (Or.inl ⟨rfl, by simp [k_place, c_1, c_2, c_3]⟩))
    · exact fw_throw hx hb hlt hown hts hN hX (List.mem_of_getElem? (i := 10) rfl) fw_E3 hP0 (hl.1.trans hml.symm) d_F_place_15 d_F_place_18 d_F_place_19 d_F_place_21 d_F_place_24 htb (Nat.le_of_ble_eq_true rfl) (Nat.le_of_ble_eq_true rfl) (Nat.le_of_ble_eq_true rfl) (Nat.le_of_ble_eq_true rfl) hlocks (Or.inl ⟨rfl, by simp [k_place, c_1, c_2]⟩)
end
section
def k_told (w : Int) (wr : Bool) : Int := if fc_in w 0 3 = true then (if wr = true then 0 else 2) else 1
def fc_told (w : Int) (sp : Bool) (nd rd li : Int) : Int := if w = 0 then (if sp = true then 1 else 0) else if w = 1 then nd else if w = 2 then rd else li
def k_at (nH h w : Int) : Int := if fc_in h 0 (nH - 1) = false then 1 else if fc_in w 0 4 = true then 0 else 1
def fc_at (w h nH nW nF : Int) (fS : Nat → Int64) (fU fL au am ao : Nat → Int) : Int := if w = 0 then au h.toNat else if w = 1 then am h.toNat else if w = 2 then ao h.toNat else if w = 3 then (if fc_fits fS fU fL au am nH h (au h.toNat) (am h.toNat) = true then 1 else 0) else (if decide (am h.toNat < nW + nF) = true then 1 else 0)
def fc_sum (f : Nat → Int) : Nat → Int
  | 0 => 0
  | n + 1 => fc_sum f n + f n
def fc_late (fL fD am ao : Nat → Int) (j : Nat) : Int := max 0 (am j + fL j - fD (ao j).toNat)
def k_on (u mi : Int) : Int := if fc_in u 0 2 = true then (if fc_in mi 0 59 = true then 0 else 2) else 1
def fc_find (P : Nat → Bool) : Nat → Nat → Int
  | 0, _ => -1
  | k + 1, i => if P i = true then (i : Int) else fc_find P k (i + 1)
def fc_onP (fL au am : Nat → Int) (u mi : Int) (j : Nat) : Bool := decide (au j = u) && decide (am j ≤ mi) && decide (mi < am j + fL j)
def fw_4 (y0 y1 y2 y3 : Nat) : Nat → Option Nat := fun j => match j with
  | 0 => some y0
  | 1 => some y1
  | 2 => some y2
  | _ => some y3
def k_keep (z : Int) : Int := if fc_in z 0 3 = true then 0 else 1
def k_use (z : Int) (kf : Nat → Bool) : Int := if fc_in z 0 3 = true then (if kf z.toNat = true then 0 else 2) else 1
def fc_same (au am ao bu bm bo : Nat → Int) (j : Nat) : Bool := decide (au j = bu j) && decide (am j = bm j) && decide (ao j = bo j)
def fc_cmp (au am ao bu bm bo : Nat → Int) (j : Nat) : Int := if fc_same au am ao bu bm bo j = true then 0 else 1
def k_undo (ud : Bool) : Int := if ud = true then 0 else 1
def k_heat (nO nH o le us u mi : Int) (fS : Nat → Int64) (fL au am : Nat → Int) : Int := if fc_in o 0 (nO - 1) = false then 1 else if fc_in u 0 2 = true then (if nH < 6 then (if fc_in le 1 20 = false then 3 else if fc_in us 1 7 = false then 3 else if fc_in mi 0 59 = true then (if fc_bit us u.toNat = false then 4 else if fc_room (fS u.toNat) nH u au am fL nH.toNat mi le = true then 0 else 4) else 3) else 2) else 1
set_option maxHeartbeats 4000000 in
set_option maxRecDepth 100000 in
theorem c_F_told (l : Launch) (hlt : l.stackTraces = false) (dC : Nat → ClassId) (dI : Nat → Nat → Nat) (sz : Nat) (fc : Nat) (pl : Nat) (be : Nat) (ud : Bool) (cp : Nat) (kp : Nat) (se : Nat) (sh : Nat) (tr : Nat) (bs : Nat) (tk : Nat) (bc : Int) (st : Int) (al : Int) (wr : Bool) (sp : Bool) (nd : Int) (rd : Int) (li : Int) (w : Int) (hb_w : fw_b w) : vx_Met l y_F_told (Cond.code y_F_told b_F_told 2 (some .int) :: gw) ({ frames := 6, locals := 90, cells := 1, slots := 6 }) (fw_Px (dC, dI) [.ref fc, .int (iI (w))] [(fc, .inr (3, [.ref sh, .ref pl, .ref be, .int (bI (ud)), .ref cp, .ref kp, .ref se])), (se, .inr (2, [.ref sh, .ref pl, .ref tr, .ref bs, .int (iI (bc)), .ref tk, .int (iI (st)), .int (iI (al)), .int (bI (wr)), .int (bI (sp)), .int (iI (nd)), .int (iI (rd)), .int (iI (li))]))] [] sz) (fw_Qi (iI (fc_told w sp nd rd li)) (fun H => (k_told w wr = 0) ∧ va_P (dC, dI) cls_ [(fc, .inr (3, [.ref sh, .ref pl, .ref be, .int (bI (ud)), .ref cp, .ref kp, .ref se])), (se, .inr (2, [.ref sh, .ref pl, .ref tr, .ref bs, .int (iI (bc)), .ref tk, .int (iI (st)), .int (iI (al)), .int (bI (wr)), .int (bI (sp)), .int (iI (nd)), .int (iI (rd)), .int (iI (li))]))] H) (va_A [(fc, .inr (3, [.ref sh, .ref pl, .ref be, .int (bI (ud)), .ref cp, .ref kp, .ref se])), (se, .inr (2, [.ref sh, .ref pl, .ref tr, .ref bs, .int (iI (bc)), .ref tk, .int (iI (st)), .int (iI (al)), .int (bI (wr)), .int (bI (sp)), .int (iI (nd)), .int (iI (rd)), .int (iI (li))]))] sz)) (fw_XC (dC, dI) [(fc, .inr (3, [.ref sh, .ref pl, .ref be, .int (bI (ud)), .ref cp, .ref kp, .ref se])), (se, .inr (2, [.ref sh, .ref pl, .ref tr, .ref bs, .int (iI (bc)), .ref tk, .int (iI (st)), .int (iI (al)), .int (bI (wr)), .int (bI (sp)), .int (iI (nd)), .int (iI (rd)), .int (iI (li))]))] (fun E => (E = "java/lang/IndexOutOfBoundsException" ∧ k_told w wr = 1) ∨ (E = "java/lang/IllegalStateException" ∧ k_told w wr = 2)) (va_A [(fc, .inr (3, [.ref sh, .ref pl, .ref be, .int (bI (ud)), .ref cp, .ref kp, .ref se])), (se, .inr (2, [.ref sh, .ref pl, .ref tr, .ref bs, .int (iI (bc)), .ref tk, .int (iI (st)), .int (iI (al)), .int (bI (wr)), .int (bI (sp)), .int (iI (nd)), .int (iI (rd)), .int (iI (li))]))] sz)) 1 6 (va_A [(fc, .inr (3, [.ref sh, .ref pl, .ref be, .int (bI (ud)), .ref cp, .ref kp, .ref se])), (se, .inr (2, [.ref sh, .ref pl, .ref tr, .ref bs, .int (iI (bc)), .ref tk, .int (iI (st)), .int (iI (al)), .int (bI (wr)), .int (bI (sp)), .int (iI (nd)), .int (iI (rd)), .int (iI (li))]))] sz) := by
  refine fw_ofX (Qc := fun A => fw_Qi (iI (fc_told w sp nd rd li)) (fun H => (k_told w wr = 0) ∧ va_P (dC, dI) cls_ [(fc, .inr (3, [.ref sh, .ref pl, .ref be, .int (bI (ud)), .ref cp, .ref kp, .ref se])), (se, .inr (2, [.ref sh, .ref pl, .ref tr, .ref bs, .int (iI (bc)), .ref tk, .int (iI (st)), .int (iI (al)), .int (bI (wr)), .int (bI (sp)), .int (iI (nd)), .int (iI (rd)), .int (iI (li))]))] H) A) (XC := fun A => fw_XC (dC, dI) [(fc, .inr (3, [.ref sh, .ref pl, .ref be, .int (bI (ud)), .ref cp, .ref kp, .ref se])), (se, .inr (2, [.ref sh, .ref pl, .ref tr, .ref bs, .int (iI (bc)), .ref tk, .int (iI (st)), .int (iI (al)), .int (bI (wr)), .int (bI (sp)), .int (iI (nd)), .int (iI (rd)), .int (iI (li))]))] (fun E => (E = "java/lang/IndexOutOfBoundsException" ∧ k_told w wr = 1) ∨ (E = "java/lang/IllegalStateException" ∧ k_told w wr = 2)) A) (by decide) (Nat.le_of_ble_eq_true rfl) ?_
  intro p e s m below meth c A ls hx hb hr hts hown hlocks htb hml hsz hP hK hD hN hX hA hS hl
  have hP0 := hP
  have hl : lv_has ls 2 [(0, .ref fc), (1, .int (iI (w)))] := hl
  refine lv_iload_n hx hb d_F_told_0 rfl (lv_at hl 1 rfl) ?_
  refine lv_iconst (v := (iI (0))) hx hb d_F_told_1 (by decide) ?_
  refine lv_iconst (v := (iI (3))) hx hb d_F_told_2 (by decide) ?_
  refine fw_callR (va_runS (As := [.int (iI (w)), .int (iI (0)), .int (iI (3))]) (rest := []) ⟨hx, hb, hml, hown, hts⟩ (c_F_isWithin l dC dI w 0 3 ⟨by omega, by omega⟩ ⟨by omega, by omega⟩ ⟨by omega, by omega⟩) (cwS 3 hts (gw_S kw_272 kw_273 kw_1 kw_274) rfl rfl rfl (by decide +kernel) ⟨Nat.le_of_ble_eq_true rfl, Nat.le_of_ble_eq_true rfl⟩) (fw_preRS hP hK hN [] [] rfl rfl) rfl rfl hl.1 rfl (lv_room (Nat.le_of_ble_eq_true rfl)) d_F_told_3 ⟨Nat.le_of_ble_eq_true rfl, Nat.le_of_ble_eq_true rfl⟩).run ?_
  refine fw_bif_ne (tgt := 19) hx hb d_F_told_6 (by decide) (fun c_1 => ?_) (fun c_1 => ?_)
  · refine lv_aload_n hx hb d_F_told_19 rfl (lv_at hl 0 rfl) ?_
    refine va_get (D := (dC, dI)) (ci := 3) (v := .ref se) (C := R_F) (T := T_F) (N := 7) hx hb hts in_F hown hK hP 0 rfl rfl 6 (by decide) (hts _ kw_159) (fun _ h9 => h9) rfl d_F_told_20 ?_
    refine va_get (D := (dC, dI)) (ci := 2) (v := .int (bI (wr))) (C := R_Q) (T := T_Q) (N := 13) hx hb hts in_Q hown hK hP 1 rfl rfl 8 (by decide) (hts _ kw_116) (fun _ h9 => h9) rfl d_F_told_23 ?_
    refine fw_bif_ne (tgt := 39) hx hb d_F_told_26 (by decide) (fun c_2 => ?_) (fun c_2 => ?_)
    · rcases fc_in3 c_1 with rfl | rfl | rfl | rfl
      · refine lv_iload_n hx hb d_F_told_39 rfl (lv_at hl 1 rfl) ?_
        refine lv_tableIn (off := 28) (tgt := 68) hx hb d_F_told_40 (by decide) (by decide) (by decide) (by decide) ?_
        refine lv_aload_n hx hb d_F_told_68 rfl (lv_at hl 0 rfl) ?_
        refine va_get (D := (dC, dI)) (ci := 3) (v := .ref se) (C := R_F) (T := T_F) (N := 7) hx hb hts in_F hown hK hP 0 rfl rfl 6 (by decide) (hts _ kw_159) (fun _ h9 => h9) rfl d_F_told_69 ?_
        refine va_get (D := (dC, dI)) (ci := 2) (v := .int (bI (sp))) (C := R_Q) (T := T_Q) (N := 13) hx hb hts in_Q hown hK hP 1 rfl rfl 9 (by decide) (hts _ kw_118) (fun _ h9 => h9) rfl d_F_told_72 ?_
        refine fw_bif_eq (tgt := 82) hx hb d_F_told_75 (by decide) (fun c_3 => ?_) (fun c_3 => ?_)
        · refine lv_iconst (v := (iI (0))) hx hb d_F_told_82 (by decide) ?_
          refine W.widen (k := 1) (n := 6) (Nat.zero_le _) (Nat.zero_le _) ?_
          refine vx_ret ?_
          refine fw_iret hx hb hr hlocks hS ?_ ?_ d_F_told_83
          · exact ⟨by simp [k_told, c_1, c_2, c_3], hP⟩
          · simp [fc_told, c_3]
        · refine lv_iconst (v := (iI (1))) hx hb d_F_told_78 (by decide) ?_
          refine lv_goto (tgt := 83) hx hb d_F_told_79 (by decide) ?_
          refine W.widen (k := 1) (n := 6) (Nat.zero_le _) (Nat.zero_le _) ?_
          refine vx_ret ?_
          refine fw_iret hx hb hr hlocks hS ?_ ?_ d_F_told_83
          · exact ⟨by simp [k_told, c_1, c_2, c_3], hP⟩
          · simp [fc_told, c_3]
      · refine lv_iload_n hx hb d_F_told_39 rfl (lv_at hl 1 rfl) ?_
        refine lv_tableIn (off := 44) (tgt := 84) hx hb d_F_told_40 (by decide) (by decide) (by decide) (by decide) ?_
        refine lv_aload_n hx hb d_F_told_84 rfl (lv_at hl 0 rfl) ?_
        refine va_get (D := (dC, dI)) (ci := 3) (v := .ref se) (C := R_F) (T := T_F) (N := 7) hx hb hts in_F hown hK hP 0 rfl rfl 6 (by decide) (hts _ kw_159) (fun _ h9 => h9) rfl d_F_told_85 ?_
        refine va_get (D := (dC, dI)) (ci := 2) (v := .int (iI (nd))) (C := R_Q) (T := T_Q) (N := 13) hx hb hts in_Q hown hK hP 1 rfl rfl 10 (by decide) (hts _ kw_120) (fun _ h9 => h9) rfl d_F_told_88 ?_
        refine W.widen (k := 1) (n := 6) (Nat.zero_le _) (Nat.zero_le _) ?_
        refine vx_ret ?_
        refine fw_iret hx hb hr hlocks hS ?_ ?_ d_F_told_91
        · exact ⟨by simp [k_told, c_1, c_2], hP⟩
        · simp [fc_told]
      · refine lv_iload_n hx hb d_F_told_39 rfl (lv_at hl 1 rfl) ?_
        refine lv_tableIn (off := 52) (tgt := 92) hx hb d_F_told_40 (by decide) (by decide) (by decide) (by decide) ?_
        refine lv_aload_n hx hb d_F_told_92 rfl (lv_at hl 0 rfl) ?_
        refine va_get (D := (dC, dI)) (ci := 3) (v := .ref se) (C := R_F) (T := T_F) (N := 7) hx hb hts in_F hown hK hP 0 rfl rfl 6 (by decide) (hts _ kw_159) (fun _ h9 => h9) rfl d_F_told_93 ?_
        refine va_get (D := (dC, dI)) (ci := 2) (v := .int (iI (rd))) (C := R_Q) (T := T_Q) (N := 13) hx hb hts in_Q hown hK hP 1 rfl rfl 11 (by decide) (hts _ kw_122) (fun _ h9 => h9) rfl d_F_told_96 ?_
        refine W.widen (k := 1) (n := 6) (Nat.zero_le _) (Nat.zero_le _) ?_
        refine vx_ret ?_
        refine fw_iret hx hb hr hlocks hS ?_ ?_ d_F_told_99
        · exact ⟨by simp [k_told, c_1, c_2], hP⟩
        · simp [fc_told]
      · refine lv_iload_n hx hb d_F_told_39 rfl (lv_at hl 1 rfl) ?_
        refine lv_tableOut (tgt := 100) hx hb d_F_told_40 (by decide) (by decide) ?_
        refine lv_aload_n hx hb d_F_told_100 rfl (lv_at hl 0 rfl) ?_
        refine va_get (D := (dC, dI)) (ci := 3) (v := .ref se) (C := R_F) (T := T_F) (N := 7) hx hb hts in_F hown hK hP 0 rfl rfl 6 (by decide) (hts _ kw_159) (fun _ h9 => h9) rfl d_F_told_101 ?_
        refine va_get (D := (dC, dI)) (ci := 2) (v := .int (iI (li))) (C := R_Q) (T := T_Q) (N := 13) hx hb hts in_Q hown hK hP 1 rfl rfl 12 (by decide) (hts _ kw_124) (fun _ h9 => h9) rfl d_F_told_104 ?_
        refine W.widen (k := 1) (n := 6) (Nat.zero_le _) (Nat.zero_le _) ?_
        refine vx_ret ?_
        refine fw_iret hx hb hr hlocks hS ?_ ?_ d_F_told_107
        · exact ⟨by simp [k_told, c_1, c_2], hP⟩
        · simp [fc_told]
    · exact fw_throw hx hb hlt hown hts hN hX (List.mem_of_getElem? (i := 18) rfl) fw_E1 hP0 (hl.1.trans hml.symm) d_F_told_29 d_F_told_32 d_F_told_33 d_F_told_35 d_F_told_38 htb (Nat.le_of_ble_eq_true rfl) (Nat.le_of_ble_eq_true rfl) (Nat.le_of_ble_eq_true rfl) (Nat.le_of_ble_eq_true rfl) hlocks (Or.inr ⟨rfl, by simp [k_told, c_1, c_2]⟩)
  · exact fw_throw hx hb hlt hown hts hN hX (List.mem_of_getElem? (i := 17) rfl) fw_E3 hP0 (hl.1.trans hml.symm) d_F_told_9 d_F_told_12 d_F_told_13 d_F_told_15 d_F_told_18 htb (Nat.le_of_ble_eq_true rfl) (Nat.le_of_ble_eq_true rfl) (Nat.le_of_ble_eq_true rfl) (Nat.le_of_ble_eq_true rfl) hlocks (Or.inl ⟨rfl, by simp [k_told, c_1]⟩)

set_option maxHeartbeats 4000000 in
set_option maxRecDepth 100000 in
theorem c_F_at (l : Launch) (hlt : l.stackTraces = false) (dC : Nat → ClassId) (dI : Nat → Nat → Nat) (sz : Nat) (fc : Nat) (pl : Nat) (be : Nat) (ud : Bool) (cp : Nat) (kp : Nat) (se : Nat) (sh : Nat) (sg : Nat) (sd : Nat) (sl : Nat) (su : Nat) (ss : Nat) (nO : Int) (nH : Int) (nS : Int) (nW : Int) (nF : Int) (plu : Nat) (plm : Nat) (plo : Nat) (au : Nat → Int) (am : Nat → Int) (ao : Nat → Int) (kI : ClassId) (fL : Nat → Int) (fU : Nat → Int) (fG : Nat → Int) (fD : Nat → Int) (kL : ClassId) (fS : Nat → Int64) (h : Int) (w : Int) (hsh : iv_sh nO nH nS nW nF fL fU fG fD) (hpl : iv_pl nO nH fL fU au am ao) (hb_h : fw_b h) (hb_w : fw_b w) : vx_Met l y_F_at (Cond.code y_F_at b_F_at 3 (some .int) :: gw) ({ frames := 6, locals := 90, cells := 1, slots := 6 }) (fw_Px (dC, dI) [.ref fc, .int (iI (h)), .int (iI (w))] [(fc, .inr (3, [.ref sh, .ref pl, .ref be, .int (bI (ud)), .ref cp, .ref kp, .ref se])), (sh, .inr (1, [.ref sg, .ref sd, .int (iI (nO)), .ref sl, .ref su, .int (iI (nH)), .ref ss, .int (iI (nS)), .int (iI (nW)), .int (iI (nF))])), (sl, fw_a kI 6 (fL)), (su, fw_a kI 6 (fU)), (ss, fw_l kL 3 (fS)), (pl, .inr (0, [.ref plu, .ref plm, .ref plo])), (plu, fw_a kI 6 (au)), (plm, fw_a kI 6 (am)), (plo, fw_a kI 6 (ao))] [(kI, .int), (kL, .long)] sz) (fw_Qi (iI (fc_at w h nH nW nF fS fU fL au am ao)) (fun H => (k_at nH h w = 0) ∧ va_P (dC, dI) cls_ [(fc, .inr (3, [.ref sh, .ref pl, .ref be, .int (bI (ud)), .ref cp, .ref kp, .ref se])), (sh, .inr (1, [.ref sg, .ref sd, .int (iI (nO)), .ref sl, .ref su, .int (iI (nH)), .ref ss, .int (iI (nS)), .int (iI (nW)), .int (iI (nF))])), (sl, fw_a kI 6 (fL)), (su, fw_a kI 6 (fU)), (ss, fw_l kL 3 (fS)), (pl, .inr (0, [.ref plu, .ref plm, .ref plo])), (plu, fw_a kI 6 (au)), (plm, fw_a kI 6 (am)), (plo, fw_a kI 6 (ao))] H) (va_A [(fc, .inr (3, [.ref sh, .ref pl, .ref be, .int (bI (ud)), .ref cp, .ref kp, .ref se])), (sh, .inr (1, [.ref sg, .ref sd, .int (iI (nO)), .ref sl, .ref su, .int (iI (nH)), .ref ss, .int (iI (nS)), .int (iI (nW)), .int (iI (nF))])), (sl, fw_a kI 6 (fL)), (su, fw_a kI 6 (fU)), (ss, fw_l kL 3 (fS)), (pl, .inr (0, [.ref plu, .ref plm, .ref plo])), (plu, fw_a kI 6 (au)), (plm, fw_a kI 6 (am)), (plo, fw_a kI 6 (ao))] sz)) (fw_XC (dC, dI) [(fc, .inr (3, [.ref sh, .ref pl, .ref be, .int (bI (ud)), .ref cp, .ref kp, .ref se])), (sh, .inr (1, [.ref sg, .ref sd, .int (iI (nO)), .ref sl, .ref su, .int (iI (nH)), .ref ss, .int (iI (nS)), .int (iI (nW)), .int (iI (nF))])), (sl, fw_a kI 6 (fL)), (su, fw_a kI 6 (fU)), (ss, fw_l kL 3 (fS)), (pl, .inr (0, [.ref plu, .ref plm, .ref plo])), (plu, fw_a kI 6 (au)), (plm, fw_a kI 6 (am)), (plo, fw_a kI 6 (ao))] (fun E => (E = "java/lang/IndexOutOfBoundsException" ∧ k_at nH h w = 1)) (va_A [(fc, .inr (3, [.ref sh, .ref pl, .ref be, .int (bI (ud)), .ref cp, .ref kp, .ref se])), (sh, .inr (1, [.ref sg, .ref sd, .int (iI (nO)), .ref sl, .ref su, .int (iI (nH)), .ref ss, .int (iI (nS)), .int (iI (nW)), .int (iI (nF))])), (sl, fw_a kI 6 (fL)), (su, fw_a kI 6 (fU)), (ss, fw_l kL 3 (fS)), (pl, .inr (0, [.ref plu, .ref plm, .ref plo])), (plu, fw_a kI 6 (au)), (plm, fw_a kI 6 (am)), (plo, fw_a kI 6 (ao))] sz)) 1 6 (va_A [(fc, .inr (3, [.ref sh, .ref pl, .ref be, .int (bI (ud)), .ref cp, .ref kp, .ref se])), (sh, .inr (1, [.ref sg, .ref sd, .int (iI (nO)), .ref sl, .ref su, .int (iI (nH)), .ref ss, .int (iI (nS)), .int (iI (nW)), .int (iI (nF))])), (sl, fw_a kI 6 (fL)), (su, fw_a kI 6 (fU)), (ss, fw_l kL 3 (fS)), (pl, .inr (0, [.ref plu, .ref plm, .ref plo])), (plu, fw_a kI 6 (au)), (plm, fw_a kI 6 (am)), (plo, fw_a kI 6 (ao))] sz) := by
  refine fw_ofX (Qc := fun A => fw_Qi (iI (fc_at w h nH nW nF fS fU fL au am ao)) (fun H => (k_at nH h w = 0) ∧ va_P (dC, dI) cls_ [(fc, .inr (3, [.ref sh, .ref pl, .ref be, .int (bI (ud)), .ref cp, .ref kp, .ref se])), (sh, .inr (1, [.ref sg, .ref sd, .int (iI (nO)), .ref sl, .ref su, .int (iI (nH)), .ref ss, .int (iI (nS)), .int (iI (nW)), .int (iI (nF))])), (sl, fw_a kI 6 (fL)), (su, fw_a kI 6 (fU)), (ss, fw_l kL 3 (fS)), (pl, .inr (0, [.ref plu, .ref plm, .ref plo])), (plu, fw_a kI 6 (au)), (plm, fw_a kI 6 (am)), (plo, fw_a kI 6 (ao))] H) A) (XC := fun A => fw_XC (dC, dI) [(fc, .inr (3, [.ref sh, .ref pl, .ref be, .int (bI (ud)), .ref cp, .ref kp, .ref se])), (sh, .inr (1, [.ref sg, .ref sd, .int (iI (nO)), .ref sl, .ref su, .int (iI (nH)), .ref ss, .int (iI (nS)), .int (iI (nW)), .int (iI (nF))])), (sl, fw_a kI 6 (fL)), (su, fw_a kI 6 (fU)), (ss, fw_l kL 3 (fS)), (pl, .inr (0, [.ref plu, .ref plm, .ref plo])), (plu, fw_a kI 6 (au)), (plm, fw_a kI 6 (am)), (plo, fw_a kI 6 (ao))] (fun E => (E = "java/lang/IndexOutOfBoundsException" ∧ k_at nH h w = 1)) A) (by decide) (Nat.le_of_ble_eq_true rfl) ?_
  intro p e s m below meth c A ls hx hb hr hts hown hlocks htb hml hsz hP hK hD hN hX hA hS hl
  have hP0 := hP
  have hl : lv_has ls 3 [(0, .ref fc), (1, .int (iI (h))), (2, .int (iI (w)))] := hl
  obtain ⟨⟨i1, i2, i3, i4, i5, i6, i7, i8, i9, i10⟩, hi2, hi3⟩ := hsh
  refine lv_aload_n hx hb d_F_at_0 rfl (lv_at hl 0 rfl) ?_
  refine lv_iload_n hx hb d_F_at_1 rfl (lv_at hl 1 rfl) ?_
  refine fw_callR (va_runV (As := [.int (iI (h))]) (rest := []) ⟨hx, hb, hml, hown, hts⟩ (c_F_isHeat l dC dI fc pl be ud cp kp se sh sg sd sl su ss nO nH nS nW nF h ⟨by omega, by omega⟩ ⟨by omega, by omega⟩) (cwV 1 hts (gw_V kw_399 kw_401 ks_F_isHeat kw_1 kw_402) rfl rfl rfl (by decide +kernel) ⟨Nat.le_of_ble_eq_true rfl, Nat.le_of_ble_eq_true rfl⟩) (fw_preRV (ci := 3) (q0 := 0) hP hK hN [0, 1] [] rfl rfl rfl rfl) rfl rfl hl.1 rfl (lv_room (Nat.le_of_ble_eq_true rfl)) d_F_at_2 ⟨Nat.le_of_ble_eq_true rfl, Nat.le_of_ble_eq_true rfl⟩).run ?_
  refine fw_bif_eq (tgt := 17) hx hb d_F_at_5 (by decide) (fun c_1 => ?_) (fun c_1 => ?_)
  · exact fw_throw hx hb hlt hown hts hN hX (List.mem_of_getElem? (i := 19) rfl) fw_E3 hP0 (hl.1.trans hml.symm) d_F_at_17 d_F_at_20 d_F_at_21 d_F_at_23 d_F_at_26 htb (Nat.le_of_ble_eq_true rfl) (Nat.le_of_ble_eq_true rfl) (Nat.le_of_ble_eq_true rfl) (Nat.le_of_ble_eq_true rfl) hlocks ⟨rfl, by simp [k_at, c_1]⟩
  · refine lv_iload_n hx hb d_F_at_8 rfl (lv_at hl 2 rfl) ?_
    refine lv_iconst (v := (iI (0))) hx hb d_F_at_9 (by decide) ?_
    refine lv_iconst (v := (iI (4))) hx hb d_F_at_10 (by decide) ?_
    refine fw_callR (va_runS (As := [.int (iI (w)), .int (iI (0)), .int (iI (4))]) (rest := []) ⟨hx, hb, hml, hown, hts⟩ (c_F_isWithin l dC dI w 0 4 ⟨by omega, by omega⟩ ⟨by omega, by omega⟩ ⟨by omega, by omega⟩) (cwS 3 hts (gw_S kw_272 kw_273 kw_1 kw_274) rfl rfl rfl (by decide +kernel) ⟨Nat.le_of_ble_eq_true rfl, Nat.le_of_ble_eq_true rfl⟩) (fw_preRS hP hK hN [] [] rfl rfl) rfl rfl hl.1 rfl (lv_room (Nat.le_of_ble_eq_true rfl)) d_F_at_11 ⟨Nat.le_of_ble_eq_true rfl, Nat.le_of_ble_eq_true rfl⟩).run ?_
    refine fw_bif_ne (tgt := 27) hx hb d_F_at_14 (by decide) (fun c_2 => ?_) (fun c_2 => ?_)
    · obtain ⟨g1, g2⟩ := fc_in_t c_1
      obtain ⟨p1, p2, p3, p4, p5, p6, p7⟩ := hpl h.toNat (by omega)
      have q1 := hi2 h.toNat (by omega)
      have q3 : ∀ j : Nat, (j : Int) < nH → fw_b (au j) := fun j hj => by have := hpl j hj; omega
      refine lv_iload_n hx hb d_F_at_27 rfl (lv_at hl 2 rfl) ?_
      rcases fc_in4 c_2 with rfl | rfl | rfl | rfl | rfl
      · refine lv_tableIn (off := 32) (tgt := 60) hx hb d_F_at_28 (by decide) (by decide) (by decide) (by decide) ?_
        refine lv_aload_n hx hb d_F_at_60 rfl (lv_at hl 0 rfl) ?_
        refine va_get (D := (dC, dI)) (ci := 3) (v := .ref pl) (C := R_F) (T := T_F) (N := 7) hx hb hts in_F hown hK hP 0 rfl rfl 1 (by decide) (hts _ kw_154) (fun _ h9 => h9) rfl d_F_at_61 ?_
        refine va_get (D := (dC, dI)) (ci := 0) (v := .ref plu) (C := R_P) (T := T_P) (N := 3) hx hb hts in_P hown hK hP 5 rfl rfl 0 (by decide) (hts _ kw_82) (fun _ h9 => h9) rfl d_F_at_64 ?_
        refine lv_iload_n hx hb d_F_at_67 rfl (lv_at hl 1 rfl) ?_
        refine fw_iald hx hb hK hP 6 0 rfl rfl ((h).toNat) (by omega) (by omega) (by omega) d_F_at_68 ?_
        refine W.widen (k := 1) (n := 6) (Nat.zero_le _) (Nat.zero_le _) ?_
        refine vx_ret ?_
        refine fw_iret hx hb hr hlocks hS ?_ ?_ d_F_at_69
        · exact ⟨by simp [k_at, c_1, c_2], hP⟩
        · simp [fc_at]
      · refine lv_tableIn (off := 42) (tgt := 70) hx hb d_F_at_28 (by decide) (by decide) (by decide) (by decide) ?_
        refine lv_aload_n hx hb d_F_at_70 rfl (lv_at hl 0 rfl) ?_
        refine va_get (D := (dC, dI)) (ci := 3) (v := .ref pl) (C := R_F) (T := T_F) (N := 7) hx hb hts in_F hown hK hP 0 rfl rfl 1 (by decide) (hts _ kw_154) (fun _ h9 => h9) rfl d_F_at_71 ?_
        refine va_get (D := (dC, dI)) (ci := 0) (v := .ref plm) (C := R_P) (T := T_P) (N := 3) hx hb hts in_P hown hK hP 5 rfl rfl 1 (by decide) (hts _ kw_86) (fun _ h9 => h9) rfl d_F_at_74 ?_
        refine lv_iload_n hx hb d_F_at_77 rfl (lv_at hl 1 rfl) ?_
        refine fw_iald hx hb hK hP 7 0 rfl rfl ((h).toNat) (by omega) (by omega) (by omega) d_F_at_78 ?_
        refine W.widen (k := 1) (n := 6) (Nat.zero_le _) (Nat.zero_le _) ?_
        refine vx_ret ?_
        refine fw_iret hx hb hr hlocks hS ?_ ?_ d_F_at_79
        · exact ⟨by simp [k_at, c_1, c_2], hP⟩
        · simp [fc_at]
      · refine lv_tableIn (off := 52) (tgt := 80) hx hb d_F_at_28 (by decide) (by decide) (by decide) (by decide) ?_
        refine lv_aload_n hx hb d_F_at_80 rfl (lv_at hl 0 rfl) ?_
        refine va_get (D := (dC, dI)) (ci := 3) (v := .ref pl) (C := R_F) (T := T_F) (N := 7) hx hb hts in_F hown hK hP 0 rfl rfl 1 (by decide) (hts _ kw_154) (fun _ h9 => h9) rfl d_F_at_81 ?_
        refine va_get (D := (dC, dI)) (ci := 0) (v := .ref plo) (C := R_P) (T := T_P) (N := 3) hx hb hts in_P hown hK hP 5 rfl rfl 2 (by decide) (hts _ kw_88) (fun _ h9 => h9) rfl d_F_at_84 ?_
        refine lv_iload_n hx hb d_F_at_87 rfl (lv_at hl 1 rfl) ?_
        refine fw_iald hx hb hK hP 8 0 rfl rfl ((h).toNat) (by omega) (by omega) (by omega) d_F_at_88 ?_
        refine W.widen (k := 1) (n := 6) (Nat.zero_le _) (Nat.zero_le _) ?_
        refine vx_ret ?_
        refine fw_iret hx hb hr hlocks hS ?_ ?_ d_F_at_89
        · exact ⟨by simp [k_at, c_1, c_2], hP⟩
        · simp [fc_at]
      · refine lv_tableIn (off := 62) (tgt := 90) hx hb d_F_at_28 (by decide) (by decide) (by decide) (by decide) ?_
        refine lv_aload_n hx hb d_F_at_90 rfl (lv_at hl 0 rfl) ?_
        refine va_get (D := (dC, dI)) (ci := 3) (v := .ref sh) (C := R_F) (T := T_F) (N := 7) hx hb hts in_F hown hK hP 0 rfl rfl 0 (by decide) (hts _ kw_153) (fun _ h9 => h9) rfl d_F_at_91 ?_
        refine lv_aload_n hx hb d_F_at_94 rfl (lv_at hl 0 rfl) ?_
        refine va_get (D := (dC, dI)) (ci := 3) (v := .ref pl) (C := R_F) (T := T_F) (N := 7) hx hb hts in_F hown hK hP 0 rfl rfl 1 (by decide) (hts _ kw_154) (fun _ h9 => h9) rfl d_F_at_95 ?_
        refine lv_iload_n hx hb d_F_at_98 rfl (lv_at hl 1 rfl) ?_
        refine lv_aload_n hx hb d_F_at_99 rfl (lv_at hl 0 rfl) ?_
        refine va_get (D := (dC, dI)) (ci := 3) (v := .ref pl) (C := R_F) (T := T_F) (N := 7) hx hb hts in_F hown hK hP 0 rfl rfl 1 (by decide) (hts _ kw_154) (fun _ h9 => h9) rfl d_F_at_100 ?_
        refine va_get (D := (dC, dI)) (ci := 0) (v := .ref plu) (C := R_P) (T := T_P) (N := 3) hx hb hts in_P hown hK hP 5 rfl rfl 0 (by decide) (hts _ kw_82) (fun _ h9 => h9) rfl d_F_at_103 ?_
        refine lv_iload_n hx hb d_F_at_106 rfl (lv_at hl 1 rfl) ?_
        refine fw_iald hx hb hK hP 6 0 rfl rfl ((h).toNat) (by omega) (by omega) (by omega) d_F_at_107 ?_
        refine lv_aload_n hx hb d_F_at_108 rfl (lv_at hl 0 rfl) ?_
        refine va_get (D := (dC, dI)) (ci := 3) (v := .ref pl) (C := R_F) (T := T_F) (N := 7) hx hb hts in_F hown hK hP 0 rfl rfl 1 (by decide) (hts _ kw_154) (fun _ h9 => h9) rfl d_F_at_109 ?_
        refine va_get (D := (dC, dI)) (ci := 0) (v := .ref plm) (C := R_P) (T := T_P) (N := 3) hx hb hts in_P hown hK hP 5 rfl rfl 1 (by decide) (hts _ kw_86) (fun _ h9 => h9) rfl d_F_at_112 ?_
        refine lv_iload_n hx hb d_F_at_115 rfl (lv_at hl 1 rfl) ?_
        refine fw_iald hx hb hK hP 7 0 rfl rfl ((h).toNat) (by omega) (by omega) (by omega) d_F_at_116 ?_
        refine fw_callR (va_runV (As := [.ref pl, .int (iI (h)), .int (iI (au ((h).toNat))), .int (iI (am ((h).toNat)))]) (rest := []) ⟨hx, hb, hml, hown, hts⟩ (c_S_fits l dC dI sh sg sd sl su ss nO nH nS nW nF pl plu plm plo au am kI kL fL fU fS h (au ((h).toNat)) (am ((h).toNat)) (by first | assumption | omega) (by first | assumption | omega) (by first | assumption | omega) (by first | assumption | omega) (by first | assumption | omega) (by first | assumption | omega) ⟨by omega, by omega⟩ (by assumption) (by first | assumption | omega) (by first | assumption | omega)) (cwV 4 hts (gw_V kw_410 kw_411 kw_412 kw_2 kw_413) rfl rfl rfl (by decide +kernel) ⟨Nat.le_of_ble_eq_true rfl, Nat.le_of_ble_eq_true rfl⟩) (fw_preRV (ci := 1) (q0 := 1) hP hK hN [1, 2, 3, 4, 5, 6, 7] [0, 1] rfl rfl rfl rfl) rfl rfl hl.1 rfl (lv_room (Nat.le_of_ble_eq_true rfl)) d_F_at_117 ⟨Nat.le_of_ble_eq_true rfl, Nat.le_of_ble_eq_true rfl⟩).run ?_
        refine fw_bif_eq (tgt := 127) hx hb d_F_at_120 (by decide) (fun c_3 => ?_) (fun c_3 => ?_)
        · refine lv_iconst (v := (iI (0))) hx hb d_F_at_127 (by decide) ?_
          refine W.widen (k := 1) (n := 6) (Nat.zero_le _) (Nat.zero_le _) ?_
          refine vx_ret ?_
          refine fw_iret hx hb hr hlocks hS ?_ ?_ d_F_at_128
          · exact ⟨by simp [k_at, c_1, c_2, c_3], hP⟩
          · simp [fc_at, c_3]
        · refine lv_iconst (v := (iI (1))) hx hb d_F_at_123 (by decide) ?_
          refine lv_goto (tgt := 128) hx hb d_F_at_124 (by decide) ?_
          refine W.widen (k := 1) (n := 6) (Nat.zero_le _) (Nat.zero_le _) ?_
          refine vx_ret ?_
          refine fw_iret hx hb hr hlocks hS ?_ ?_ d_F_at_128
          · exact ⟨by simp [k_at, c_1, c_2, c_3], hP⟩
          · simp [fc_at, c_3]
      · refine lv_tableOut (tgt := 129) hx hb d_F_at_28 (by decide) (by decide) ?_
        refine lv_aload_n hx hb d_F_at_129 rfl (lv_at hl 0 rfl) ?_
        refine va_get (D := (dC, dI)) (ci := 3) (v := .ref sh) (C := R_F) (T := T_F) (N := 7) hx hb hts in_F hown hK hP 0 rfl rfl 0 (by decide) (hts _ kw_153) (fun _ h9 => h9) rfl d_F_at_130 ?_
        refine lv_aload_n hx hb d_F_at_133 rfl (lv_at hl 0 rfl) ?_
        refine va_get (D := (dC, dI)) (ci := 3) (v := .ref pl) (C := R_F) (T := T_F) (N := 7) hx hb hts in_F hown hK hP 0 rfl rfl 1 (by decide) (hts _ kw_154) (fun _ h9 => h9) rfl d_F_at_134 ?_
        refine lv_iload_n hx hb d_F_at_137 rfl (lv_at hl 1 rfl) ?_
        refine fw_callR (va_runV (As := [.ref pl, .int (iI (h))]) (rest := []) ⟨hx, hb, hml, hown, hts⟩ (c_S_isFrozen l dC dI sh sg sd sl su ss nO nH nS nW nF pl plu plm plo am kI h (by first | assumption | omega) (by first | assumption | omega) (by first | assumption | omega) (by first | assumption | omega)) (cwV 2 hts (gw_V kw_404 kw_405 kw_406 kw_2 kw_407) rfl rfl rfl (by decide +kernel) ⟨Nat.le_of_ble_eq_true rfl, Nat.le_of_ble_eq_true rfl⟩) (fw_preRV (ci := 1) (q0 := 1) hP hK hN [1, 5, 7] [0] rfl rfl rfl rfl) rfl rfl hl.1 rfl (lv_room (Nat.le_of_ble_eq_true rfl)) d_F_at_138 ⟨Nat.le_of_ble_eq_true rfl, Nat.le_of_ble_eq_true rfl⟩).run ?_
        refine fw_bif_eq (tgt := 148) hx hb d_F_at_141 (by decide) (fun c_4 => ?_) (fun c_4 => ?_)
        · refine lv_iconst (v := (iI (0))) hx hb d_F_at_148 (by decide) ?_
          refine W.widen (k := 1) (n := 6) (Nat.zero_le _) (Nat.zero_le _) ?_
          refine vx_ret ?_
          refine fw_iret hx hb hr hlocks hS ?_ ?_ d_F_at_149
          · exact ⟨by simp [k_at, c_1, c_2, c_4], hP⟩
          · simp [fc_at, c_4]
        · refine lv_iconst (v := (iI (1))) hx hb d_F_at_144 (by decide) ?_
          refine lv_goto (tgt := 149) hx hb d_F_at_145 (by decide) ?_
          refine W.widen (k := 1) (n := 6) (Nat.zero_le _) (Nat.zero_le _) ?_
          refine vx_ret ?_
          refine fw_iret hx hb hr hlocks hS ?_ ?_ d_F_at_149
          · exact ⟨by simp [k_at, c_1, c_2, c_4], hP⟩
          · simp [fc_at, c_4]
    · exact fw_throw hx hb hlt hown hts hN hX (List.mem_of_getElem? (i := 19) rfl) fw_E3 hP0 (hl.1.trans hml.symm) d_F_at_17 d_F_at_20 d_F_at_21 d_F_at_23 d_F_at_26 htb (Nat.le_of_ble_eq_true rfl) (Nat.le_of_ble_eq_true rfl) (Nat.le_of_ble_eq_true rfl) (Nat.le_of_ble_eq_true rfl) hlocks ⟨rfl, by simp [k_at, c_1, c_2]⟩

set_option maxHeartbeats 4000000 in
set_option maxRecDepth 100000 in
theorem c_F_cost (l : Launch) (dC : Nat → ClassId) (dI : Nat → Nat → Nat) (fc : Nat) (pl : Nat) (be : Nat) (ud : Bool) (cp : Nat) (kp : Nat) (se : Nat) (sh : Nat) (sg : Nat) (sd : Nat) (sl : Nat) (su : Nat) (ss : Nat) (nO : Int) (nH : Int) (nS : Int) (nW : Int) (nF : Int) (plu : Nat) (plm : Nat) (plo : Nat) (au : Nat → Int) (am : Nat → Int) (ao : Nat → Int) (kI : ClassId) (fL : Nat → Int) (fU : Nat → Int) (fG : Nat → Int) (fD : Nat → Int) (hsh : iv_sh nO nH nS nW nF fL fU fG fD) (hpl : iv_pl nO nH fL fU au am ao) : Met l y_F_cost (Cond.code y_F_cost b_F_cost 3 (some .int) :: gw) ({ frames := 2, locals := 44, cells := 0, slots := 0 }) (fw_Pr (dC, dI) [.ref fc] [(fc, .inr (3, [.ref sh, .ref pl, .ref be, .int (bI (ud)), .ref cp, .ref kp, .ref se])), (sh, .inr (1, [.ref sg, .ref sd, .int (iI (nO)), .ref sl, .ref su, .int (iI (nH)), .ref ss, .int (iI (nS)), .int (iI (nW)), .int (iI (nF))])), (sl, fw_a kI 6 (fL)), (sd, fw_a kI 8 (fD)), (pl, .inr (0, [.ref plu, .ref plm, .ref plo])), (plu, fw_a kI 6 (au)), (plm, fw_a kI 6 (am)), (plo, fw_a kI 6 (ao))] [(kI, .int)]) (fw_Rv (.int (iI (fc_sum (fc_late fL fD am ao) nH.toNat)))) 0 0 (fun _ => False) := by
  refine fw_ofR (by decide) (Nat.le_of_ble_eq_true rfl) ?_
  intro p e s m below meth c ls hx hb hr hts hown hlocks hml hP hK hN hl
  have hl : lv_has ls 3 [(0, .ref fc)] := hl
  obtain ⟨⟨i1, i2, i3, i4, i5, i6, i7, i8, i9, i10⟩, hi2, hi3⟩ := hsh
  refine lv_iconst (v := (iI (0))) hx hb d_F_cost_0 (by decide) ?_
  refine lv_istore_n (lv' := [(1, .int (iI (0))), (0, .ref fc)]) hx hb d_F_cost_1 rfl hl (by decide) rfl (fun ls hl => ?_)
  refine lv_iconst (v := (iI (0))) hx hb d_F_cost_2 (by decide) ?_
  refine lv_istore_n (lv' := [(2, .int (iI (0))), (1, .int (iI (0))), (0, .ref fc)]) hx hb d_F_cost_3 rfl hl (by decide) rfl (fun ls hl => ?_)
  have hlp_4 : ∀ (n : Nat) (i : Nat) (z1 : Int) (z2 : Int) (ls : Array Slot), (nH.toNat - i) < n → (z2 = (i : Int)) → ((i : Int) ≤ nH) → (z1 = fc_sum (fc_late fL fD am ao) i) → lv_has ls 3 [(1, .int (iI (z1))), (2, .int (iI (z2))), (0, .ref fc)] → W p l e ({ frames := 2, locals := 44, cells := 0, slots := 0 }) s m ([.ref fc] : List Value).toArray below meth c s.heap [] 0 0 (MQ below (fw_Rv (.int (iI (fc_sum (fc_late fL fD am ao) nH.toNat)))) ([.ref fc] : List Value).toArray s 0 0 (fun _ => False)) (F0 m 4 ls []) := by
    intro n
    induction n with
    | zero => intro i z1 z2 ls hms; exact absurd hms (Nat.not_lt_zero _)
    | succ n ih =>
      intro i z1 z2 ls hms hz hi hs hl
      refine lv_iload_n hx hb d_F_cost_4 rfl (lv_at hl 1 rfl) ?_
      refine lv_aload_n hx hb d_F_cost_5 rfl (lv_at hl 2 rfl) ?_
      refine va_get (D := (dC, dI)) (ci := 3) (v := .ref sh) (C := R_F) (T := T_F) (N := 7) hx hb hts in_F hown hK hP 0 rfl rfl 0 (by decide) (hts _ kw_153) (fun _ h9 => h9) rfl d_F_cost_6 ?_
      refine va_get (D := (dC, dI)) (ci := 1) (v := .int (iI (nH))) (C := R_S) (T := T_S) (N := 10) hx hb hts in_S hown hK hP 1 rfl rfl 5 (by decide) (hts _ kw_40) (fun _ h9 => h9) rfl d_F_cost_9 ?_
      refine fw_icmp_ge (tgt := 50) hx hb d_F_cost_12 (by decide) ⟨by omega, by omega⟩ ⟨by omega, by omega⟩ (fun c_1 => ?_) (fun c_1 => ?_)
      · refine lv_iload_n hx hb d_F_cost_50 rfl (lv_at hl 0 rfl) ?_
        refine fw_Riret hx hb hr hlocks ?_ d_F_cost_51
        · have e1 : nH.toNat = i := by omega
          rw [e1, hs]
      · obtain ⟨p1, p2, p3, p4, p5, p6, p7⟩ := hpl i (by omega)
        have q1 := hi2 i (by omega)
        have q2 := hi3 (ao i).toNat (by omega)
        have q3 : z2.toNat = i := by omega
        refine lv_iload_n hx hb d_F_cost_15 rfl (lv_at hl 0 rfl) ?_
        refine lv_aload_n hx hb d_F_cost_16 rfl (lv_at hl 2 rfl) ?_
        refine va_get (D := (dC, dI)) (ci := 3) (v := .ref sh) (C := R_F) (T := T_F) (N := 7) hx hb hts in_F hown hK hP 0 rfl rfl 0 (by decide) (hts _ kw_153) (fun _ h9 => h9) rfl d_F_cost_17 ?_
        refine lv_iload_n hx hb d_F_cost_20 rfl (lv_at hl 1 rfl) ?_
        refine lv_aload_n hx hb d_F_cost_21 rfl (lv_at hl 2 rfl) ?_
        refine va_get (D := (dC, dI)) (ci := 3) (v := .ref pl) (C := R_F) (T := T_F) (N := 7) hx hb hts in_F hown hK hP 0 rfl rfl 1 (by decide) (hts _ kw_154) (fun _ h9 => h9) rfl d_F_cost_22 ?_
        refine va_get (D := (dC, dI)) (ci := 0) (v := .ref plo) (C := R_P) (T := T_P) (N := 3) hx hb hts in_P hown hK hP 4 rfl rfl 2 (by decide) (hts _ kw_88) (fun _ h9 => h9) rfl d_F_cost_25 ?_
        refine lv_iload_n hx hb d_F_cost_28 rfl (lv_at hl 1 rfl) ?_
        refine fw_iald hx hb hK hP 7 0 rfl rfl (i) (by omega) (by omega) (by omega) d_F_cost_29 ?_
        refine lv_aload_n hx hb d_F_cost_30 rfl (lv_at hl 2 rfl) ?_
        refine va_get (D := (dC, dI)) (ci := 3) (v := .ref pl) (C := R_F) (T := T_F) (N := 7) hx hb hts in_F hown hK hP 0 rfl rfl 1 (by decide) (hts _ kw_154) (fun _ h9 => h9) rfl d_F_cost_31 ?_
        refine va_get (D := (dC, dI)) (ci := 0) (v := .ref plm) (C := R_P) (T := T_P) (N := 3) hx hb hts in_P hown hK hP 4 rfl rfl 1 (by decide) (hts _ kw_86) (fun _ h9 => h9) rfl d_F_cost_34 ?_
        refine lv_iload_n hx hb d_F_cost_37 rfl (lv_at hl 1 rfl) ?_
        refine fw_iald hx hb hK hP 6 0 rfl rfl (i) (by omega) (by omega) (by omega) d_F_cost_38 ?_
        refine fw_callR (va_runV (As := [.int (iI (z2)), .int (iI (ao i)), .int (iI (am i))]) (rest := [.int (iI (z1))]) ⟨hx, hb, hml, hown, hts⟩ (c_S_lateness l dC dI sh sg sd sl su ss nO nH nS nW nF kI fL fD z2 (ao i) (am i) (by omega) (by omega) (by omega) (by omega) (by rw [q3]; omega)) (cwV 3 hts (gw_V kw_187 kw_188 kw_189 kw_2 kw_190) rfl rfl rfl (by decide +kernel) ⟨Nat.le_of_ble_eq_true rfl, Nat.le_of_ble_eq_true rfl⟩) (fw_preRV (ci := 1) (q0 := 1) hP hK hN [1, 2, 3] [0] rfl rfl rfl rfl) rfl rfl hl.1 rfl (lv_room (Nat.le_of_ble_eq_true rfl)) d_F_cost_39 ⟨Nat.le_of_ble_eq_true rfl, Nat.le_of_ble_eq_true rfl⟩).run ?_
        refine fw_iadd hx hb d_F_cost_42 ?_
        refine lv_istore_n (lv' := [(1, .int (iI (z1 + (max 0 ((am i) + fL z2.toNat - fD (ao i).toNat))))), (2, .int (iI (z2))), (0, .ref fc)]) hx hb d_F_cost_43 rfl hl (by decide) rfl (fun ls hl => ?_)
        refine lv_iinc (v := iI (z2 + 1)) (lv' := [(2, .int (iI (z2 + 1))), (1, .int (iI (z1 + (max 0 ((am i) + fL z2.toNat - fD (ao i).toNat))))), (0, .ref fc)]) hx hb d_F_cost_44 hl (k := 1) rfl (by rw [show Int32.ofInt 1 = iI 1 from rfl, iI_add]) (by decide) rfl (fun ls hl => ?_)
        refine lv_goto (tgt := 4) hx hb d_F_cost_47 (by decide) ?_
        exact ih (i + 1) (z1 + (max 0 ((am i) + fL z2.toNat - fD (ao i).toNat))) (z2 + 1) ls (by omega) (by omega) (by omega) (by rw [hs]; subst hz; rfl) (lv_sub hl [1, 0, 2] rfl)
  exact hlp_4 ((nH.toNat - 0) + 1) 0 0 0 ls (Nat.lt_succ_self _) rfl (by omega) rfl (lv_sub hl [1, 0, 2] rfl)

set_option maxHeartbeats 4000000 in
set_option maxRecDepth 100000 in
theorem c_F_on (l : Launch) (hlt : l.stackTraces = false) (dC : Nat → ClassId) (dI : Nat → Nat → Nat) (sz : Nat) (fc : Nat) (pl : Nat) (be : Nat) (ud : Bool) (cp : Nat) (kp : Nat) (se : Nat) (sh : Nat) (sg : Nat) (sd : Nat) (sl : Nat) (su : Nat) (ss : Nat) (nO : Int) (nH : Int) (nS : Int) (nW : Int) (nF : Int) (plu : Nat) (plm : Nat) (plo : Nat) (au : Nat → Int) (am : Nat → Int) (ao : Nat → Int) (kI : ClassId) (fL : Nat → Int) (fU : Nat → Int) (fG : Nat → Int) (fD : Nat → Int) (u : Int) (mi : Int) (hsh : iv_sh nO nH nS nW nF fL fU fG fD) (hpl : iv_pl nO nH fL fU au am ao) (hb_u : fw_b u) (hb_mi : fw_b mi) : vx_Met l y_F_on (Cond.code y_F_on b_F_on 5 (some .int) :: gw) ({ frames := 6, locals := 90, cells := 1, slots := 6 }) (fw_Px (dC, dI) [.ref fc, .int (iI (u)), .int (iI (mi))] [(fc, .inr (3, [.ref sh, .ref pl, .ref be, .int (bI (ud)), .ref cp, .ref kp, .ref se])), (sh, .inr (1, [.ref sg, .ref sd, .int (iI (nO)), .ref sl, .ref su, .int (iI (nH)), .ref ss, .int (iI (nS)), .int (iI (nW)), .int (iI (nF))])), (sl, fw_a kI 6 (fL)), (pl, .inr (0, [.ref plu, .ref plm, .ref plo])), (plu, fw_a kI 6 (au)), (plm, fw_a kI 6 (am)), (plo, fw_a kI 6 (ao))] [(kI, .int)] sz) (fw_Qi (iI (fc_find (fc_onP fL au am u mi) nH.toNat 0)) (fun H => (k_on u mi = 0) ∧ va_P (dC, dI) cls_ [(fc, .inr (3, [.ref sh, .ref pl, .ref be, .int (bI (ud)), .ref cp, .ref kp, .ref se])), (sh, .inr (1, [.ref sg, .ref sd, .int (iI (nO)), .ref sl, .ref su, .int (iI (nH)), .ref ss, .int (iI (nS)), .int (iI (nW)), .int (iI (nF))])), (sl, fw_a kI 6 (fL)), (pl, .inr (0, [.ref plu, .ref plm, .ref plo])), (plu, fw_a kI 6 (au)), (plm, fw_a kI 6 (am)), (plo, fw_a kI 6 (ao))] H) (va_A [(fc, .inr (3, [.ref sh, .ref pl, .ref be, .int (bI (ud)), .ref cp, .ref kp, .ref se])), (sh, .inr (1, [.ref sg, .ref sd, .int (iI (nO)), .ref sl, .ref su, .int (iI (nH)), .ref ss, .int (iI (nS)), .int (iI (nW)), .int (iI (nF))])), (sl, fw_a kI 6 (fL)), (pl, .inr (0, [.ref plu, .ref plm, .ref plo])), (plu, fw_a kI 6 (au)), (plm, fw_a kI 6 (am)), (plo, fw_a kI 6 (ao))] sz)) (fw_XC (dC, dI) [(fc, .inr (3, [.ref sh, .ref pl, .ref be, .int (bI (ud)), .ref cp, .ref kp, .ref se])), (sh, .inr (1, [.ref sg, .ref sd, .int (iI (nO)), .ref sl, .ref su, .int (iI (nH)), .ref ss, .int (iI (nS)), .int (iI (nW)), .int (iI (nF))])), (sl, fw_a kI 6 (fL)), (pl, .inr (0, [.ref plu, .ref plm, .ref plo])), (plu, fw_a kI 6 (au)), (plm, fw_a kI 6 (am)), (plo, fw_a kI 6 (ao))] (fun E => (E = "java/lang/IndexOutOfBoundsException" ∧ k_on u mi = 1) ∨ (E = "java/lang/IllegalArgumentException" ∧ k_on u mi = 2)) (va_A [(fc, .inr (3, [.ref sh, .ref pl, .ref be, .int (bI (ud)), .ref cp, .ref kp, .ref se])), (sh, .inr (1, [.ref sg, .ref sd, .int (iI (nO)), .ref sl, .ref su, .int (iI (nH)), .ref ss, .int (iI (nS)), .int (iI (nW)), .int (iI (nF))])), (sl, fw_a kI 6 (fL)), (pl, .inr (0, [.ref plu, .ref plm, .ref plo])), (plu, fw_a kI 6 (au)), (plm, fw_a kI 6 (am)), (plo, fw_a kI 6 (ao))] sz)) 1 6 (va_A [(fc, .inr (3, [.ref sh, .ref pl, .ref be, .int (bI (ud)), .ref cp, .ref kp, .ref se])), (sh, .inr (1, [.ref sg, .ref sd, .int (iI (nO)), .ref sl, .ref su, .int (iI (nH)), .ref ss, .int (iI (nS)), .int (iI (nW)), .int (iI (nF))])), (sl, fw_a kI 6 (fL)), (pl, .inr (0, [.ref plu, .ref plm, .ref plo])), (plu, fw_a kI 6 (au)), (plm, fw_a kI 6 (am)), (plo, fw_a kI 6 (ao))] sz) := by
  refine fw_ofX (Qc := fun A => fw_Qi (iI (fc_find (fc_onP fL au am u mi) nH.toNat 0)) (fun H => (k_on u mi = 0) ∧ va_P (dC, dI) cls_ [(fc, .inr (3, [.ref sh, .ref pl, .ref be, .int (bI (ud)), .ref cp, .ref kp, .ref se])), (sh, .inr (1, [.ref sg, .ref sd, .int (iI (nO)), .ref sl, .ref su, .int (iI (nH)), .ref ss, .int (iI (nS)), .int (iI (nW)), .int (iI (nF))])), (sl, fw_a kI 6 (fL)), (pl, .inr (0, [.ref plu, .ref plm, .ref plo])), (plu, fw_a kI 6 (au)), (plm, fw_a kI 6 (am)), (plo, fw_a kI 6 (ao))] H) A) (XC := fun A => fw_XC (dC, dI) [(fc, .inr (3, [.ref sh, .ref pl, .ref be, .int (bI (ud)), .ref cp, .ref kp, .ref se])), (sh, .inr (1, [.ref sg, .ref sd, .int (iI (nO)), .ref sl, .ref su, .int (iI (nH)), .ref ss, .int (iI (nS)), .int (iI (nW)), .int (iI (nF))])), (sl, fw_a kI 6 (fL)), (pl, .inr (0, [.ref plu, .ref plm, .ref plo])), (plu, fw_a kI 6 (au)), (plm, fw_a kI 6 (am)), (plo, fw_a kI 6 (ao))] (fun E => (E = "java/lang/IndexOutOfBoundsException" ∧ k_on u mi = 1) ∨ (E = "java/lang/IllegalArgumentException" ∧ k_on u mi = 2)) A) (by decide) (Nat.le_of_ble_eq_true rfl) ?_
  intro p e s m below meth c A ls hx hb hr hts hown hlocks htb hml hsz hP hK hD hN hX hA hS hl
  have hP0 := hP
  have hl : lv_has ls 5 [(0, .ref fc), (1, .int (iI (u))), (2, .int (iI (mi)))] := hl
  obtain ⟨⟨i1, i2, i3, i4, i5, i6, i7, i8, i9, i10⟩, hi2, hi3⟩ := hsh
  refine lv_iload_n hx hb d_F_on_0 rfl (lv_at hl 1 rfl) ?_
  refine fw_callR (va_runS (As := [.int (iI (u))]) (rest := []) ⟨hx, hb, hml, hown, hts⟩ (c_F_isUnit l dC dI u ⟨by omega, by omega⟩) (cwS 1 hts (gw_S kw_308 kw_309 kw_1 kw_310) rfl rfl rfl (by decide +kernel) ⟨Nat.le_of_ble_eq_true rfl, Nat.le_of_ble_eq_true rfl⟩) (fw_preRS hP hK hN [] [] rfl rfl) rfl rfl hl.1 rfl (lv_room (Nat.le_of_ble_eq_true rfl)) d_F_on_1 ⟨Nat.le_of_ble_eq_true rfl, Nat.le_of_ble_eq_true rfl⟩).run ?_
  refine fw_bif_ne (tgt := 17) hx hb d_F_on_4 (by decide) (fun c_1 => ?_) (fun c_1 => ?_)
  · refine lv_iload_n hx hb d_F_on_17 rfl (lv_at hl 2 rfl) ?_
    refine fw_callR (va_runS (As := [.int (iI (mi))]) (rest := []) ⟨hx, hb, hml, hown, hts⟩ (c_F_isMinute l dC dI mi ⟨by omega, by omega⟩) (cwS 1 hts (gw_S kw_328 kw_329 kw_1 kw_330) rfl rfl rfl (by decide +kernel) ⟨Nat.le_of_ble_eq_true rfl, Nat.le_of_ble_eq_true rfl⟩) (fw_preRS hP hK hN [] [] rfl rfl) rfl rfl hl.1 rfl (lv_room (Nat.le_of_ble_eq_true rfl)) d_F_on_18 ⟨Nat.le_of_ble_eq_true rfl, Nat.le_of_ble_eq_true rfl⟩).run ?_
    refine fw_bif_ne (tgt := 34) hx hb d_F_on_21 (by decide) (fun c_2 => ?_) (fun c_2 => ?_)
    · refine lv_iconst (v := (iI (0))) hx hb d_F_on_34 (by decide) ?_
      refine lv_istore_n (lv' := [(3, .int (iI (0))), (0, .ref fc), (1, .int (iI (u))), (2, .int (iI (mi)))]) hx hb d_F_on_35 rfl hl (by decide) rfl (fun ls hl => ?_)
      have hlp_36 : ∀ (n : Nat) (i : Nat) (z3 : Int) (ls : Array Slot), (nH.toNat - i) < n → (z3 = (i : Int)) → ((i : Int) ≤ nH) → (fc_find (fc_onP fL au am u mi) nH.toNat 0 = fc_find (fc_onP fL au am u mi) (nH.toNat - i) i) → lv_has ls 5 [(3, .int (iI (z3))), (0, .ref fc), (1, .int (iI (u))), (2, .int (iI (mi)))] → W p l e ({ frames := 6, locals := 90, cells := 1, slots := 6 }) s m ([.ref fc, .int (iI (u)), .int (iI (mi))] : List Value).toArray below meth c s.heap [] 0 0 (vx_MQ below (fw_Qi (iI (fc_find (fc_onP fL au am u mi) nH.toNat 0)) (fun H => (k_on u mi = 0) ∧ va_P (dC, dI) cls_ [(fc, .inr (3, [.ref sh, .ref pl, .ref be, .int (bI (ud)), .ref cp, .ref kp, .ref se])), (sh, .inr (1, [.ref sg, .ref sd, .int (iI (nO)), .ref sl, .ref su, .int (iI (nH)), .ref ss, .int (iI (nS)), .int (iI (nW)), .int (iI (nF))])), (sl, fw_a kI 6 (fL)), (pl, .inr (0, [.ref plu, .ref plm, .ref plo])), (plu, fw_a kI 6 (au)), (plm, fw_a kI 6 (am)), (plo, fw_a kI 6 (ao))] H) A) (fw_XC (dC, dI) [(fc, .inr (3, [.ref sh, .ref pl, .ref be, .int (bI (ud)), .ref cp, .ref kp, .ref se])), (sh, .inr (1, [.ref sg, .ref sd, .int (iI (nO)), .ref sl, .ref su, .int (iI (nH)), .ref ss, .int (iI (nS)), .int (iI (nW)), .int (iI (nF))])), (sl, fw_a kI 6 (fL)), (pl, .inr (0, [.ref plu, .ref plm, .ref plo])), (plu, fw_a kI 6 (au)), (plm, fw_a kI 6 (am)), (plo, fw_a kI 6 (ao))] (fun E => (E = "java/lang/IndexOutOfBoundsException" ∧ k_on u mi = 1) ∨ (E = "java/lang/IllegalArgumentException" ∧ k_on u mi = 2)) A) ([.ref fc, .int (iI (u)), .int (iI (mi))] : List Value).toArray s 1 6 A) (F0 m 36 ls []) := by
        intro n
        induction n with
        | zero => intro i z3 ls hms; exact absurd hms (Nat.not_lt_zero _)
        | succ n ih =>
          intro i z3 ls hms hz hi hf hl
          refine lv_iload_n hx hb d_F_on_36 rfl (lv_at hl 0 rfl) ?_
          refine lv_aload_n hx hb d_F_on_37 rfl (lv_at hl 1 rfl) ?_
          refine va_get (D := (dC, dI)) (ci := 3) (v := .ref sh) (C := R_F) (T := T_F) (N := 7) hx hb hts in_F hown hK hP 0 rfl rfl 0 (by decide) (hts _ kw_153) (fun _ h9 => h9) rfl d_F_on_38 ?_
          refine va_get (D := (dC, dI)) (ci := 1) (v := .int (iI (nH))) (C := R_S) (T := T_S) (N := 10) hx hb hts in_S hown hK hP 1 rfl rfl 5 (by decide) (hts _ kw_40) (fun _ h9 => h9) rfl d_F_on_41 ?_
          refine fw_icmp_ge (tgt := 101) hx hb d_F_on_44 (by decide) ⟨by omega, by omega⟩ ⟨by omega, by omega⟩ (fun c_3 => ?_) (fun c_3 => ?_)
          · refine lv_iconst (v := (iI (-1))) hx hb d_F_on_101 (by decide) ?_
            refine W.widen (k := 1) (n := 6) (Nat.zero_le _) (Nat.zero_le _) ?_
            refine vx_ret ?_
            refine fw_iret hx hb hr hlocks hS ?_ ?_ d_F_on_102
            · exact ⟨by simp [k_on, c_1, c_2, c_3], hP⟩
            · rw [hf, show nH.toNat - i = 0 by omega]; rfl
          · obtain ⟨p1, p2, p3, p4, p5, p6, p7⟩ := hpl i (by omega)
            have q1 := hi2 i (by omega)
            refine lv_aload_n hx hb d_F_on_47 rfl (lv_at hl 1 rfl) ?_
            refine va_get (D := (dC, dI)) (ci := 3) (v := .ref pl) (C := R_F) (T := T_F) (N := 7) hx hb hts in_F hown hK hP 0 rfl rfl 1 (by decide) (hts _ kw_154) (fun _ h9 => h9) rfl d_F_on_48 ?_
            refine va_get (D := (dC, dI)) (ci := 0) (v := .ref plm) (C := R_P) (T := T_P) (N := 3) hx hb hts in_P hown hK hP 3 rfl rfl 1 (by decide) (hts _ kw_86) (fun _ h9 => h9) rfl d_F_on_51 ?_
            refine lv_iload_n hx hb d_F_on_54 rfl (lv_at hl 0 rfl) ?_
            refine fw_iald hx hb hK hP 5 0 rfl rfl (i) (by omega) (by omega) (by omega) d_F_on_55 ?_
            refine lv_istore (lv' := [(4, .int (iI (am i))), (3, .int (iI (z3))), (0, .ref fc), (1, .int (iI (u))), (2, .int (iI (mi)))]) hx hb d_F_on_56 hl (by decide) rfl (fun ls hl => ?_)
            refine lv_aload_n hx hb d_F_on_58 rfl (lv_at hl 2 rfl) ?_
            refine va_get (D := (dC, dI)) (ci := 3) (v := .ref pl) (C := R_F) (T := T_F) (N := 7) hx hb hts in_F hown hK hP 0 rfl rfl 1 (by decide) (hts _ kw_154) (fun _ h9 => h9) rfl d_F_on_59 ?_
            refine va_get (D := (dC, dI)) (ci := 0) (v := .ref plu) (C := R_P) (T := T_P) (N := 3) hx hb hts in_P hown hK hP 3 rfl rfl 0 (by decide) (hts _ kw_82) (fun _ h9 => h9) rfl d_F_on_62 ?_
            refine lv_iload_n hx hb d_F_on_65 rfl (lv_at hl 1 rfl) ?_
            refine fw_iald hx hb hK hP 4 0 rfl rfl (i) (by omega) (by omega) (by omega) d_F_on_66 ?_
            refine lv_iload_n hx hb d_F_on_67 rfl (lv_at hl 3 rfl) ?_
            refine fw_icmp_ne (tgt := 95) hx hb d_F_on_68 (by decide) ⟨by omega, by omega⟩ ⟨by omega, by omega⟩ (fun c_4 => ?_) (fun c_4 => ?_)
            · refine lv_iinc (v := iI (z3 + 1)) (lv' := [(3, .int (iI (z3 + 1))), (4, .int (iI (am i))), (0, .ref fc), (1, .int (iI (u))), (2, .int (iI (mi)))]) hx hb d_F_on_95 hl (k := 1) rfl (by rw [show Int32.ofInt 1 = iI 1 from rfl, iI_add]) (by decide) rfl (fun ls hl => ?_)
              refine lv_goto (tgt := 36) hx hb d_F_on_98 (by decide) ?_
              exact ih (i + 1) (z3 + 1) ls (by omega) (by omega) (by omega) (by rw [hf, show nH.toNat - i = (nH.toNat - (i + 1)) + 1 by omega]; simp only [fc_find]; rw [if_neg]; simp only [fc_onP, Bool.and_eq_true, decide_eq_true_eq]; omega) (lv_sub hl [0, 2, 3, 4] rfl)
            · refine lv_iload hx hb d_F_on_71 (lv_at hl 0 rfl) ?_
              refine lv_iload_n hx hb d_F_on_73 rfl (lv_at hl 4 rfl) ?_
              refine fw_icmp_gt (tgt := 95) hx hb d_F_on_74 (by decide) ⟨by omega, by omega⟩ ⟨by omega, by omega⟩ (fun c_5 => ?_) (fun c_5 => ?_)
              · refine lv_iinc (v := iI (z3 + 1)) (lv' := [(3, .int (iI (z3 + 1))), (4, .int (iI (am i))), (0, .ref fc), (1, .int (iI (u))), (2, .int (iI (mi)))]) hx hb d_F_on_95 hl (k := 1) rfl (by rw [show Int32.ofInt 1 = iI 1 from rfl, iI_add]) (by decide) rfl (fun ls hl => ?_)
                refine lv_goto (tgt := 36) hx hb d_F_on_98 (by decide) ?_
                exact ih (i + 1) (z3 + 1) ls (by omega) (by omega) (by omega) (by rw [hf, show nH.toNat - i = (nH.toNat - (i + 1)) + 1 by omega]; simp only [fc_find]; rw [if_neg]; simp only [fc_onP, Bool.and_eq_true, decide_eq_true_eq]; omega) (lv_sub hl [0, 2, 3, 4] rfl)
              · refine lv_iload_n hx hb d_F_on_77 rfl (lv_at hl 4 rfl) ?_
                refine lv_iload hx hb d_F_on_78 (lv_at hl 0 rfl) ?_
                refine lv_aload_n hx hb d_F_on_80 rfl (lv_at hl 2 rfl) ?_
                refine va_get (D := (dC, dI)) (ci := 3) (v := .ref sh) (C := R_F) (T := T_F) (N := 7) hx hb hts in_F hown hK hP 0 rfl rfl 0 (by decide) (hts _ kw_153) (fun _ h9 => h9) rfl d_F_on_81 ?_
                refine va_get (D := (dC, dI)) (ci := 1) (v := .ref sl) (C := R_S) (T := T_S) (N := 10) hx hb hts in_S hown hK hP 1 rfl rfl 3 (by decide) (hts _ kw_36) (fun _ h9 => h9) rfl d_F_on_84 ?_
                refine lv_iload_n hx hb d_F_on_87 rfl (lv_at hl 1 rfl) ?_
                refine fw_iald hx hb hK hP 2 0 rfl rfl (i) (by omega) (by omega) (by omega) d_F_on_88 ?_
                refine fw_iadd hx hb d_F_on_89 ?_
                refine fw_icmp_ge (tgt := 95) hx hb d_F_on_90 (by decide) ⟨by omega, by omega⟩ ⟨by omega, by omega⟩ (fun c_6 => ?_) (fun c_6 => ?_)
                · refine lv_iinc (v := iI (z3 + 1)) (lv' := [(3, .int (iI (z3 + 1))), (4, .int (iI (am i))), (0, .ref fc), (1, .int (iI (u))), (2, .int (iI (mi)))]) hx hb d_F_on_95 hl (k := 1) rfl (by rw [show Int32.ofInt 1 = iI 1 from rfl, iI_add]) (by decide) rfl (fun ls hl => ?_)
                  refine lv_goto (tgt := 36) hx hb d_F_on_98 (by decide) ?_
                  exact ih (i + 1) (z3 + 1) ls (by omega) (by omega) (by omega) (by rw [hf, show nH.toNat - i = (nH.toNat - (i + 1)) + 1 by omega]; simp only [fc_find]; rw [if_neg]; simp only [fc_onP, Bool.and_eq_true, decide_eq_true_eq]; omega) (lv_sub hl [0, 2, 3, 4] rfl)
                · refine lv_iload_n hx hb d_F_on_93 rfl (lv_at hl 1 rfl) ?_
                  refine W.widen (k := 1) (n := 6) (Nat.zero_le _) (Nat.zero_le _) ?_
                  refine vx_ret ?_
                  refine fw_iret hx hb hr hlocks hS ?_ ?_ d_F_on_94
                  · exact ⟨by simp [k_on, c_1, c_2, c_3, c_4, c_5, c_6], hP⟩
                  · rw [hf, show nH.toNat - i = (nH.toNat - (i + 1)) + 1 by omega]; simp only [fc_find]; rw [if_pos (by simp only [fc_onP, Bool.and_eq_true, decide_eq_true_eq]; omega), hz]
      exact hlp_36 ((nH.toNat - 0) + 1) 0 0 ls (Nat.lt_succ_self _) rfl (by omega) rfl (lv_sub hl [0, 1, 2, 3] rfl)
    · exact fw_throw hx hb hlt hown hts hN hX (List.mem_of_getElem? (i := 12) rfl) fw_E2 hP0 (hl.1.trans hml.symm) d_F_on_24 d_F_on_27 d_F_on_28 d_F_on_30 d_F_on_33 htb (Nat.le_of_ble_eq_true rfl) (Nat.le_of_ble_eq_true rfl) (Nat.le_of_ble_eq_true rfl) (Nat.le_of_ble_eq_true rfl) hlocks (Or.inr ⟨rfl, by simp [k_on, c_1, c_2]⟩)
  · exact fw_throw hx hb hlt hown hts hN hX (List.mem_of_getElem? (i := 6) rfl) fw_E3 hP0 (hl.1.trans hml.symm) d_F_on_7 d_F_on_10 d_F_on_11 d_F_on_13 d_F_on_16 htb (Nat.le_of_ble_eq_true rfl) (Nat.le_of_ble_eq_true rfl) (Nat.le_of_ble_eq_true rfl) (Nat.le_of_ble_eq_true rfl) hlocks (Or.inl ⟨rfl, by simp [k_on, c_1]⟩)

set_option maxHeartbeats 4000000 in
set_option maxRecDepth 100000 in
theorem c_F_keep (l : Launch) (hlt : l.stackTraces = false) (dC : Nat → ClassId) (dI : Nat → Nat → Nat) (sz : Nat) (fc : Nat) (pl : Nat) (be : Nat) (ud : Bool) (cp : Nat) (kp : Nat) (se : Nat) (sh : Nat) (plu : Nat) (plm : Nat) (plo : Nat) (au : Nat → Int) (am : Nat → Int) (ao : Nat → Int) (kI : ClassId) (kR : ClassId) (kZ : ClassId) (kf : Nat → Bool) (cu : Nat → Nat → Int) (cm : Nat → Nat → Int) (co : Nat → Nat → Int) (y0 : Nat) (y0u : Nat) (y0m : Nat) (y0o : Nat) (y1 : Nat) (y1u : Nat) (y1m : Nat) (y1o : Nat) (y2 : Nat) (y2u : Nat) (y2m : Nat) (y2o : Nat) (y3 : Nat) (y3u : Nat) (y3m : Nat) (y3o : Nat) (z : Int) (hb_z : fw_b z) : vx_Met l y_F_keep (Cond.code y_F_keep b_F_keep 2 none :: gw) ({ frames := 6, locals := 90, cells := 1, slots := 6 }) (fw_Px (dC, dI) [.ref fc, .int (iI (z))] [(fc, .inr (3, [.ref sh, .ref pl, .ref be, .int (bI (ud)), .ref cp, .ref kp, .ref se])), (cp, fw_r kR 4 (fw_4 y0 y1 y2 y3)), (kp, fw_z kZ 4 (kf)), (pl, .inr (0, [.ref plu, .ref plm, .ref plo])), (plu, fw_a kI 6 (au)), (plm, fw_a kI 6 (am)), (plo, fw_a kI 6 (ao)), (y0, .inr (0, [.ref y0u, .ref y0m, .ref y0o])), (y0u, fw_a kI 6 (cu 0)), (y0m, fw_a kI 6 (cm 0)), (y0o, fw_a kI 6 (co 0)), (y1, .inr (0, [.ref y1u, .ref y1m, .ref y1o])), (y1u, fw_a kI 6 (cu 1)), (y1m, fw_a kI 6 (cm 1)), (y1o, fw_a kI 6 (co 1)), (y2, .inr (0, [.ref y2u, .ref y2m, .ref y2o])), (y2u, fw_a kI 6 (cu 2)), (y2m, fw_a kI 6 (cm 2)), (y2o, fw_a kI 6 (co 2)), (y3, .inr (0, [.ref y3u, .ref y3m, .ref y3o])), (y3u, fw_a kI 6 (cu 3)), (y3m, fw_a kI 6 (cm 3)), (y3o, fw_a kI 6 (co 3))] [(kR, .object "FewChanges$Plan"), (kZ, .boolean), (kI, .int)] sz) (fw_Qv (fun H => (k_keep z = 0) ∧ va_P (dC, dI) cls_ [(fc, .inr (3, [.ref sh, .ref pl, .ref be, .int (bI (ud)), .ref cp, .ref kp, .ref se])), (cp, fw_r kR 4 (fw_4 y0 y1 y2 y3)), (kp, fw_z kZ 4 (fw_up kf z.toNat true)), (pl, .inr (0, [.ref plu, .ref plm, .ref plo])), (plu, fw_a kI 6 (au)), (plm, fw_a kI 6 (am)), (plo, fw_a kI 6 (ao)), (y0, .inr (0, [.ref y0u, .ref y0m, .ref y0o])), (y0u, fw_a kI 6 (fw_up cu z.toNat au 0)), (y0m, fw_a kI 6 (fw_up cm z.toNat am 0)), (y0o, fw_a kI 6 (fw_up co z.toNat ao 0)), (y1, .inr (0, [.ref y1u, .ref y1m, .ref y1o])), (y1u, fw_a kI 6 (fw_up cu z.toNat au 1)), (y1m, fw_a kI 6 (fw_up cm z.toNat am 1)), (y1o, fw_a kI 6 (fw_up co z.toNat ao 1)), (y2, .inr (0, [.ref y2u, .ref y2m, .ref y2o])), (y2u, fw_a kI 6 (fw_up cu z.toNat au 2)), (y2m, fw_a kI 6 (fw_up cm z.toNat am 2)), (y2o, fw_a kI 6 (fw_up co z.toNat ao 2)), (y3, .inr (0, [.ref y3u, .ref y3m, .ref y3o])), (y3u, fw_a kI 6 (fw_up cu z.toNat au 3)), (y3m, fw_a kI 6 (fw_up cm z.toNat am 3)), (y3o, fw_a kI 6 (fw_up co z.toNat ao 3))] H) (va_A [(fc, .inr (3, [.ref sh, .ref pl, .ref be, .int (bI (ud)), .ref cp, .ref kp, .ref se])), (cp, fw_r kR 4 (fw_4 y0 y1 y2 y3)), (kp, fw_z kZ 4 (kf)), (pl, .inr (0, [.ref plu, .ref plm, .ref plo])), (plu, fw_a kI 6 (au)), (plm, fw_a kI 6 (am)), (plo, fw_a kI 6 (ao)), (y0, .inr (0, [.ref y0u, .ref y0m, .ref y0o])), (y0u, fw_a kI 6 (cu 0)), (y0m, fw_a kI 6 (cm 0)), (y0o, fw_a kI 6 (co 0)), (y1, .inr (0, [.ref y1u, .ref y1m, .ref y1o])), (y1u, fw_a kI 6 (cu 1)), (y1m, fw_a kI 6 (cm 1)), (y1o, fw_a kI 6 (co 1)), (y2, .inr (0, [.ref y2u, .ref y2m, .ref y2o])), (y2u, fw_a kI 6 (cu 2)), (y2m, fw_a kI 6 (cm 2)), (y2o, fw_a kI 6 (co 2)), (y3, .inr (0, [.ref y3u, .ref y3m, .ref y3o])), (y3u, fw_a kI 6 (cu 3)), (y3m, fw_a kI 6 (cm 3)), (y3o, fw_a kI 6 (co 3))] sz)) (fw_XC (dC, dI) [(fc, .inr (3, [.ref sh, .ref pl, .ref be, .int (bI (ud)), .ref cp, .ref kp, .ref se])), (cp, fw_r kR 4 (fw_4 y0 y1 y2 y3)), (kp, fw_z kZ 4 (kf)), (pl, .inr (0, [.ref plu, .ref plm, .ref plo])), (plu, fw_a kI 6 (au)), (plm, fw_a kI 6 (am)), (plo, fw_a kI 6 (ao)), (y0, .inr (0, [.ref y0u, .ref y0m, .ref y0o])), (y0u, fw_a kI 6 (cu 0)), (y0m, fw_a kI 6 (cm 0)), (y0o, fw_a kI 6 (co 0)), (y1, .inr (0, [.ref y1u, .ref y1m, .ref y1o])), (y1u, fw_a kI 6 (cu 1)), (y1m, fw_a kI 6 (cm 1)), (y1o, fw_a kI 6 (co 1)), (y2, .inr (0, [.ref y2u, .ref y2m, .ref y2o])), (y2u, fw_a kI 6 (cu 2)), (y2m, fw_a kI 6 (cm 2)), (y2o, fw_a kI 6 (co 2)), (y3, .inr (0, [.ref y3u, .ref y3m, .ref y3o])), (y3u, fw_a kI 6 (cu 3)), (y3m, fw_a kI 6 (cm 3)), (y3o, fw_a kI 6 (co 3))] (fun E => (E = "java/lang/IndexOutOfBoundsException" ∧ k_keep z = 1)) (va_A [(fc, .inr (3, [.ref sh, .ref pl, .ref be, .int (bI (ud)), .ref cp, .ref kp, .ref se])), (cp, fw_r kR 4 (fw_4 y0 y1 y2 y3)), (kp, fw_z kZ 4 (kf)), (pl, .inr (0, [.ref plu, .ref plm, .ref plo])), (plu, fw_a kI 6 (au)), (plm, fw_a kI 6 (am)), (plo, fw_a kI 6 (ao)), (y0, .inr (0, [.ref y0u, .ref y0m, .ref y0o])), (y0u, fw_a kI 6 (cu 0)), (y0m, fw_a kI 6 (cm 0)), (y0o, fw_a kI 6 (co 0)), (y1, .inr (0, [.ref y1u, .ref y1m, .ref y1o])), (y1u, fw_a kI 6 (cu 1)), (y1m, fw_a kI 6 (cm 1)), (y1o, fw_a kI 6 (co 1)), (y2, .inr (0, [.ref y2u, .ref y2m, .ref y2o])), (y2u, fw_a kI 6 (cu 2)), (y2m, fw_a kI 6 (cm 2)), (y2o, fw_a kI 6 (co 2)), (y3, .inr (0, [.ref y3u, .ref y3m, .ref y3o])), (y3u, fw_a kI 6 (cu 3)), (y3m, fw_a kI 6 (cm 3)), (y3o, fw_a kI 6 (co 3))] sz)) 1 6 (va_A [(fc, .inr (3, [.ref sh, .ref pl, .ref be, .int (bI (ud)), .ref cp, .ref kp, .ref se])), (cp, fw_r kR 4 (fw_4 y0 y1 y2 y3)), (kp, fw_z kZ 4 (kf)), (pl, .inr (0, [.ref plu, .ref plm, .ref plo])), (plu, fw_a kI 6 (au)), (plm, fw_a kI 6 (am)), (plo, fw_a kI 6 (ao)), (y0, .inr (0, [.ref y0u, .ref y0m, .ref y0o])), (y0u, fw_a kI 6 (cu 0)), (y0m, fw_a kI 6 (cm 0)), (y0o, fw_a kI 6 (co 0)), (y1, .inr (0, [.ref y1u, .ref y1m, .ref y1o])), (y1u, fw_a kI 6 (cu 1)), (y1m, fw_a kI 6 (cm 1)), (y1o, fw_a kI 6 (co 1)), (y2, .inr (0, [.ref y2u, .ref y2m, .ref y2o])), (y2u, fw_a kI 6 (cu 2)), (y2m, fw_a kI 6 (cm 2)), (y2o, fw_a kI 6 (co 2)), (y3, .inr (0, [.ref y3u, .ref y3m, .ref y3o])), (y3u, fw_a kI 6 (cu 3)), (y3m, fw_a kI 6 (cm 3)), (y3o, fw_a kI 6 (co 3))] sz) := by
  refine fw_ofX (Qc := fun A => fw_Qv (fun H => (k_keep z = 0) ∧ va_P (dC, dI) cls_ [(fc, .inr (3, [.ref sh, .ref pl, .ref be, .int (bI (ud)), .ref cp, .ref kp, .ref se])), (cp, fw_r kR 4 (fw_4 y0 y1 y2 y3)), (kp, fw_z kZ 4 (fw_up kf z.toNat true)), (pl, .inr (0, [.ref plu, .ref plm, .ref plo])), (plu, fw_a kI 6 (au)), (plm, fw_a kI 6 (am)), (plo, fw_a kI 6 (ao)), (y0, .inr (0, [.ref y0u, .ref y0m, .ref y0o])), (y0u, fw_a kI 6 (fw_up cu z.toNat au 0)), (y0m, fw_a kI 6 (fw_up cm z.toNat am 0)), (y0o, fw_a kI 6 (fw_up co z.toNat ao 0)), (y1, .inr (0, [.ref y1u, .ref y1m, .ref y1o])), (y1u, fw_a kI 6 (fw_up cu z.toNat au 1)), (y1m, fw_a kI 6 (fw_up cm z.toNat am 1)), (y1o, fw_a kI 6 (fw_up co z.toNat ao 1)), (y2, .inr (0, [.ref y2u, .ref y2m, .ref y2o])), (y2u, fw_a kI 6 (fw_up cu z.toNat au 2)), (y2m, fw_a kI 6 (fw_up cm z.toNat am 2)), (y2o, fw_a kI 6 (fw_up co z.toNat ao 2)), (y3, .inr (0, [.ref y3u, .ref y3m, .ref y3o])), (y3u, fw_a kI 6 (fw_up cu z.toNat au 3)), (y3m, fw_a kI 6 (fw_up cm z.toNat am 3)), (y3o, fw_a kI 6 (fw_up co z.toNat ao 3))] H) A) (XC := fun A => fw_XC (dC, dI) [(fc, .inr (3, [.ref sh, .ref pl, .ref be, .int (bI (ud)), .ref cp, .ref kp, .ref se])), (cp, fw_r kR 4 (fw_4 y0 y1 y2 y3)), (kp, fw_z kZ 4 (kf)), (pl, .inr (0, [.ref plu, .ref plm, .ref plo])), (plu, fw_a kI 6 (au)), (plm, fw_a kI 6 (am)), (plo, fw_a kI 6 (ao)), (y0, .inr (0, [.ref y0u, .ref y0m, .ref y0o])), (y0u, fw_a kI 6 (cu 0)), (y0m, fw_a kI 6 (cm 0)), (y0o, fw_a kI 6 (co 0)), (y1, .inr (0, [.ref y1u, .ref y1m, .ref y1o])), (y1u, fw_a kI 6 (cu 1)), (y1m, fw_a kI 6 (cm 1)), (y1o, fw_a kI 6 (co 1)), (y2, .inr (0, [.ref y2u, .ref y2m, .ref y2o])), (y2u, fw_a kI 6 (cu 2)), (y2m, fw_a kI 6 (cm 2)), (y2o, fw_a kI 6 (co 2)), (y3, .inr (0, [.ref y3u, .ref y3m, .ref y3o])), (y3u, fw_a kI 6 (cu 3)), (y3m, fw_a kI 6 (cm 3)), (y3o, fw_a kI 6 (co 3))] (fun E => (E = "java/lang/IndexOutOfBoundsException" ∧ k_keep z = 1)) A) (by decide) (Nat.le_of_ble_eq_true rfl) ?_
  intro p e s m below meth c A ls hx hb hr hts hown hlocks htb hml hsz hP hK hD hN hX hA hS hl
  have hP0 := hP
  have hl : lv_has ls 2 [(0, .ref fc), (1, .int (iI (z)))] := hl
  refine lv_iload_n hx hb d_F_keep_0 rfl (lv_at hl 1 rfl) ?_
  refine fw_callR (va_runS (As := [.int (iI (z))]) (rest := []) ⟨hx, hb, hml, hown, hts⟩ (c_F_isCopy l dC dI z ⟨by omega, by omega⟩) (cwS 1 hts (gw_S kw_537 kw_538 kw_1 kw_539) rfl rfl rfl (by decide +kernel) ⟨Nat.le_of_ble_eq_true rfl, Nat.le_of_ble_eq_true rfl⟩) (fw_preRS hP hK hN [] [] rfl rfl) rfl rfl hl.1 rfl (lv_room (Nat.le_of_ble_eq_true rfl)) d_F_keep_1 ⟨Nat.le_of_ble_eq_true rfl, Nat.le_of_ble_eq_true rfl⟩).run ?_
  refine fw_bif_ne (tgt := 17) hx hb d_F_keep_4 (by decide) (fun c_1 => ?_) (fun c_1 => ?_)
  · rcases fc_in3 c_1 with rfl | rfl | rfl | rfl
    · refine lv_aload_n hx hb d_F_keep_17 rfl (lv_at hl 0 rfl) ?_
      refine va_get (D := (dC, dI)) (ci := 3) (v := .ref cp) (C := R_F) (T := T_F) (N := 7) hx hb hts in_F hown hK hP 0 rfl rfl 4 (by decide) (hts _ kw_157) (fun _ h9 => h9) rfl d_F_keep_18 ?_
      refine lv_iload_n hx hb d_F_keep_21 rfl (lv_at hl 1 rfl) ?_
      refine fw_aldq hx hb hK hP 1 0 rfl rfl (0) (by omega) (by omega) (by omega) d_F_keep_22 ?_
      refine fw_cast (show ((va_rf ((fw_4 y0 y1 y2 y3) 0)) : Value) = .ref y0 from rfl) ?_
      refine lv_aload_n hx hb d_F_keep_23 rfl (lv_at hl 0 rfl) ?_
      refine va_get (D := (dC, dI)) (ci := 3) (v := .ref pl) (C := R_F) (T := T_F) (N := 7) hx hb hts in_F hown hK hP 0 rfl rfl 1 (by decide) (hts _ kw_154) (fun _ h9 => h9) rfl d_F_keep_24 ?_
      refine fw_callvP [7, 8, 9, 10, 3, 4, 5, 6] (va_runV (As := [.ref pl]) (rest := []) ⟨hx, hb, hml, hown, hts⟩ (c_P_takeFrom l dC dI _ y0 y0u y0m y0o (cu 0) (cm 0) (co 0) pl plu plm plo au am ao kI ) (cwV 1 hts (gw_V kw_421 kw_422 kw_423 kw_3 kw_424) rfl rfl rfl (by decide +kernel) ⟨Nat.le_of_ble_eq_true rfl, Nat.le_of_ble_eq_true rfl⟩) (fw_preV (ci := 0) (q0 := 7) hP hK hD hN [7, 8, 9, 10, 3, 4, 5, 6] [2] rfl rfl rfl rfl rfl) rfl rfl hl.1 rfl (lv_room (Nat.le_of_ble_eq_true rfl)) d_F_keep_27 ⟨Nat.le_of_ble_eq_true rfl, Nat.le_of_ble_eq_true rfl⟩) hP hD hS hA rfl rfl rfl (fun H locs hP hD hS => ?_)
      have hP : va_P (dC, dI) cls_ [(fc, .inr (3, [.ref sh, .ref pl, .ref be, .int (bI (ud)), .ref cp, .ref kp, .ref se])), (cp, fw_r kR 4 (fw_4 y0 y1 y2 y3)), (kp, fw_z kZ 4 (kf)), (pl, .inr (0, [.ref plu, .ref plm, .ref plo])), (plu, fw_a kI 6 (au)), (plm, fw_a kI 6 (am)), (plo, fw_a kI 6 (ao)), (y0, .inr (0, [.ref y0u, .ref y0m, .ref y0o])), (y0u, fw_a kI 6 (au)), (y0m, fw_a kI 6 (am)), (y0o, fw_a kI 6 (ao)), (y1, .inr (0, [.ref y1u, .ref y1m, .ref y1o])), (y1u, fw_a kI 6 (cu 1)), (y1m, fw_a kI 6 (cm 1)), (y1o, fw_a kI 6 (co 1)), (y2, .inr (0, [.ref y2u, .ref y2m, .ref y2o])), (y2u, fw_a kI 6 (cu 2)), (y2m, fw_a kI 6 (cm 2)), (y2o, fw_a kI 6 (co 2)), (y3, .inr (0, [.ref y3u, .ref y3m, .ref y3o])), (y3u, fw_a kI 6 (cu 3)), (y3m, fw_a kI 6 (cm 3)), (y3o, fw_a kI 6 (co 3))] H := hP
      have hD : va_D A [(fc, .inr (3, [.ref sh, .ref pl, .ref be, .int (bI (ud)), .ref cp, .ref kp, .ref se])), (cp, fw_r kR 4 (fw_4 y0 y1 y2 y3)), (kp, fw_z kZ 4 (kf)), (pl, .inr (0, [.ref plu, .ref plm, .ref plo])), (plu, fw_a kI 6 (au)), (plm, fw_a kI 6 (am)), (plo, fw_a kI 6 (ao)), (y0, .inr (0, [.ref y0u, .ref y0m, .ref y0o])), (y0u, fw_a kI 6 (au)), (y0m, fw_a kI 6 (am)), (y0o, fw_a kI 6 (ao)), (y1, .inr (0, [.ref y1u, .ref y1m, .ref y1o])), (y1u, fw_a kI 6 (cu 1)), (y1m, fw_a kI 6 (cm 1)), (y1o, fw_a kI 6 (co 1)), (y2, .inr (0, [.ref y2u, .ref y2m, .ref y2o])), (y2u, fw_a kI 6 (cu 2)), (y2m, fw_a kI 6 (cm 2)), (y2o, fw_a kI 6 (co 2)), (y3, .inr (0, [.ref y3u, .ref y3m, .ref y3o])), (y3u, fw_a kI 6 (cu 3)), (y3m, fw_a kI 6 (cm 3)), (y3o, fw_a kI 6 (co 3))] := hD
      refine lv_aload_n hx hb d_F_keep_30 rfl (lv_at hl 0 rfl) ?_
      refine va_get (D := (dC, dI)) (ci := 3) (v := .ref kp) (C := R_F) (T := T_F) (N := 7) hx hb hts in_F hown hK hP 0 rfl rfl 5 (by decide) (hts _ kw_158) (fun _ h9 => h9) rfl d_F_keep_31 ?_
      refine lv_iload_n hx hb d_F_keep_34 rfl (lv_at hl 1 rfl) ?_
      refine lv_iconst (v := (bI (true))) hx hb d_F_keep_35 (by decide) ?_
      refine fw_zast hx hb hK hP hD hS 2 1 rfl rfl (0) (by omega) (by omega) (by omega) d_F_keep_36 (fun H locs hP hD hS => ?_)
      have hP : va_P (dC, dI) cls_ [(fc, .inr (3, [.ref sh, .ref pl, .ref be, .int (bI (ud)), .ref cp, .ref kp, .ref se])), (cp, fw_r kR 4 (fw_4 y0 y1 y2 y3)), (kp, fw_z kZ 4 (fw_up kf 0 true)), (pl, .inr (0, [.ref plu, .ref plm, .ref plo])), (plu, fw_a kI 6 (au)), (plm, fw_a kI 6 (am)), (plo, fw_a kI 6 (ao)), (y0, .inr (0, [.ref y0u, .ref y0m, .ref y0o])), (y0u, fw_a kI 6 (au)), (y0m, fw_a kI 6 (am)), (y0o, fw_a kI 6 (ao)), (y1, .inr (0, [.ref y1u, .ref y1m, .ref y1o])), (y1u, fw_a kI 6 (cu 1)), (y1m, fw_a kI 6 (cm 1)), (y1o, fw_a kI 6 (co 1)), (y2, .inr (0, [.ref y2u, .ref y2m, .ref y2o])), (y2u, fw_a kI 6 (cu 2)), (y2m, fw_a kI 6 (cm 2)), (y2o, fw_a kI 6 (co 2)), (y3, .inr (0, [.ref y3u, .ref y3m, .ref y3o])), (y3u, fw_a kI 6 (cu 3)), (y3m, fw_a kI 6 (cm 3)), (y3o, fw_a kI 6 (co 3))] H := hP
      have hD : va_D A [(fc, .inr (3, [.ref sh, .ref pl, .ref be, .int (bI (ud)), .ref cp, .ref kp, .ref se])), (cp, fw_r kR 4 (fw_4 y0 y1 y2 y3)), (kp, fw_z kZ 4 (fw_up kf 0 true)), (pl, .inr (0, [.ref plu, .ref plm, .ref plo])), (plu, fw_a kI 6 (au)), (plm, fw_a kI 6 (am)), (plo, fw_a kI 6 (ao)), (y0, .inr (0, [.ref y0u, .ref y0m, .ref y0o])), (y0u, fw_a kI 6 (au)), (y0m, fw_a kI 6 (am)), (y0o, fw_a kI 6 (ao)), (y1, .inr (0, [.ref y1u, .ref y1m, .ref y1o])), (y1u, fw_a kI 6 (cu 1)), (y1m, fw_a kI 6 (cm 1)), (y1o, fw_a kI 6 (co 1)), (y2, .inr (0, [.ref y2u, .ref y2m, .ref y2o])), (y2u, fw_a kI 6 (cu 2)), (y2m, fw_a kI 6 (cm 2)), (y2o, fw_a kI 6 (co 2)), (y3, .inr (0, [.ref y3u, .ref y3m, .ref y3o])), (y3u, fw_a kI 6 (cu 3)), (y3m, fw_a kI 6 (cm 3)), (y3o, fw_a kI 6 (co 3))] := hD
      refine W.widen (k := 1) (n := 6) (Nat.zero_le _) (Nat.zero_le _) ?_
      refine vx_ret ?_
      refine fw_vret hx hb hr hlocks hS ?_ d_F_keep_37
      · exact ⟨by simp [k_keep, c_1], hP⟩
    · refine lv_aload_n hx hb d_F_keep_17 rfl (lv_at hl 0 rfl) ?_
      refine va_get (D := (dC, dI)) (ci := 3) (v := .ref cp) (C := R_F) (T := T_F) (N := 7) hx hb hts in_F hown hK hP 0 rfl rfl 4 (by decide) (hts _ kw_157) (fun _ h9 => h9) rfl d_F_keep_18 ?_
      refine lv_iload_n hx hb d_F_keep_21 rfl (lv_at hl 1 rfl) ?_
      refine fw_aldq hx hb hK hP 1 0 rfl rfl (1) (by omega) (by omega) (by omega) d_F_keep_22 ?_
      refine fw_cast (show ((va_rf ((fw_4 y0 y1 y2 y3) 1)) : Value) = .ref y1 from rfl) ?_
      refine lv_aload_n hx hb d_F_keep_23 rfl (lv_at hl 0 rfl) ?_
      refine va_get (D := (dC, dI)) (ci := 3) (v := .ref pl) (C := R_F) (T := T_F) (N := 7) hx hb hts in_F hown hK hP 0 rfl rfl 1 (by decide) (hts _ kw_154) (fun _ h9 => h9) rfl d_F_keep_24 ?_
      refine fw_callvP [11, 12, 13, 14, 3, 4, 5, 6] (va_runV (As := [.ref pl]) (rest := []) ⟨hx, hb, hml, hown, hts⟩ (c_P_takeFrom l dC dI _ y1 y1u y1m y1o (cu 1) (cm 1) (co 1) pl plu plm plo au am ao kI ) (cwV 1 hts (gw_V kw_421 kw_422 kw_423 kw_3 kw_424) rfl rfl rfl (by decide +kernel) ⟨Nat.le_of_ble_eq_true rfl, Nat.le_of_ble_eq_true rfl⟩) (fw_preV (ci := 0) (q0 := 11) hP hK hD hN [11, 12, 13, 14, 3, 4, 5, 6] [2] rfl rfl rfl rfl rfl) rfl rfl hl.1 rfl (lv_room (Nat.le_of_ble_eq_true rfl)) d_F_keep_27 ⟨Nat.le_of_ble_eq_true rfl, Nat.le_of_ble_eq_true rfl⟩) hP hD hS hA rfl rfl rfl (fun H locs hP hD hS => ?_)
      have hP : va_P (dC, dI) cls_ [(fc, .inr (3, [.ref sh, .ref pl, .ref be, .int (bI (ud)), .ref cp, .ref kp, .ref se])), (cp, fw_r kR 4 (fw_4 y0 y1 y2 y3)), (kp, fw_z kZ 4 (kf)), (pl, .inr (0, [.ref plu, .ref plm, .ref plo])), (plu, fw_a kI 6 (au)), (plm, fw_a kI 6 (am)), (plo, fw_a kI 6 (ao)), (y0, .inr (0, [.ref y0u, .ref y0m, .ref y0o])), (y0u, fw_a kI 6 (cu 0)), (y0m, fw_a kI 6 (cm 0)), (y0o, fw_a kI 6 (co 0)), (y1, .inr (0, [.ref y1u, .ref y1m, .ref y1o])), (y1u, fw_a kI 6 (au)), (y1m, fw_a kI 6 (am)), (y1o, fw_a kI 6 (ao)), (y2, .inr (0, [.ref y2u, .ref y2m, .ref y2o])), (y2u, fw_a kI 6 (cu 2)), (y2m, fw_a kI 6 (cm 2)), (y2o, fw_a kI 6 (co 2)), (y3, .inr (0, [.ref y3u, .ref y3m, .ref y3o])), (y3u, fw_a kI 6 (cu 3)), (y3m, fw_a kI 6 (cm 3)), (y3o, fw_a kI 6 (co 3))] H := hP
      have hD : va_D A [(fc, .inr (3, [.ref sh, .ref pl, .ref be, .int (bI (ud)), .ref cp, .ref kp, .ref se])), (cp, fw_r kR 4 (fw_4 y0 y1 y2 y3)), (kp, fw_z kZ 4 (kf)), (pl, .inr (0, [.ref plu, .ref plm, .ref plo])), (plu, fw_a kI 6 (au)), (plm, fw_a kI 6 (am)), (plo, fw_a kI 6 (ao)), (y0, .inr (0, [.ref y0u, .ref y0m, .ref y0o])), (y0u, fw_a kI 6 (cu 0)), (y0m, fw_a kI 6 (cm 0)), (y0o, fw_a kI 6 (co 0)), (y1, .inr (0, [.ref y1u, .ref y1m, .ref y1o])), (y1u, fw_a kI 6 (au)), (y1m, fw_a kI 6 (am)), (y1o, fw_a kI 6 (ao)), (y2, .inr (0, [.ref y2u, .ref y2m, .ref y2o])), (y2u, fw_a kI 6 (cu 2)), (y2m, fw_a kI 6 (cm 2)), (y2o, fw_a kI 6 (co 2)), (y3, .inr (0, [.ref y3u, .ref y3m, .ref y3o])), (y3u, fw_a kI 6 (cu 3)), (y3m, fw_a kI 6 (cm 3)), (y3o, fw_a kI 6 (co 3))] := hD
      refine lv_aload_n hx hb d_F_keep_30 rfl (lv_at hl 0 rfl) ?_
      refine va_get (D := (dC, dI)) (ci := 3) (v := .ref kp) (C := R_F) (T := T_F) (N := 7) hx hb hts in_F hown hK hP 0 rfl rfl 5 (by decide) (hts _ kw_158) (fun _ h9 => h9) rfl d_F_keep_31 ?_
      refine lv_iload_n hx hb d_F_keep_34 rfl (lv_at hl 1 rfl) ?_
      refine lv_iconst (v := (bI (true))) hx hb d_F_keep_35 (by decide) ?_
      refine fw_zast hx hb hK hP hD hS 2 1 rfl rfl (1) (by omega) (by omega) (by omega) d_F_keep_36 (fun H locs hP hD hS => ?_)
      have hP : va_P (dC, dI) cls_ [(fc, .inr (3, [.ref sh, .ref pl, .ref be, .int (bI (ud)), .ref cp, .ref kp, .ref se])), (cp, fw_r kR 4 (fw_4 y0 y1 y2 y3)), (kp, fw_z kZ 4 (fw_up kf 1 true)), (pl, .inr (0, [.ref plu, .ref plm, .ref plo])), (plu, fw_a kI 6 (au)), (plm, fw_a kI 6 (am)), (plo, fw_a kI 6 (ao)), (y0, .inr (0, [.ref y0u, .ref y0m, .ref y0o])), (y0u, fw_a kI 6 (cu 0)), (y0m, fw_a kI 6 (cm 0)), (y0o, fw_a kI 6 (co 0)), (y1, .inr (0, [.ref y1u, .ref y1m, .ref y1o])), (y1u, fw_a kI 6 (au)), (y1m, fw_a kI 6 (am)), (y1o, fw_a kI 6 (ao)), (y2, .inr (0, [.ref y2u, .ref y2m, .ref y2o])), (y2u, fw_a kI 6 (cu 2)), (y2m, fw_a kI 6 (cm 2)), (y2o, fw_a kI 6 (co 2)), (y3, .inr (0, [.ref y3u, .ref y3m, .ref y3o])), (y3u, fw_a kI 6 (cu 3)), (y3m, fw_a kI 6 (cm 3)), (y3o, fw_a kI 6 (co 3))] H := hP
      have hD : va_D A [(fc, .inr (3, [.ref sh, .ref pl, .ref be, .int (bI (ud)), .ref cp, .ref kp, .ref se])), (cp, fw_r kR 4 (fw_4 y0 y1 y2 y3)), (kp, fw_z kZ 4 (fw_up kf 1 true)), (pl, .inr (0, [.ref plu, .ref plm, .ref plo])), (plu, fw_a kI 6 (au)), (plm, fw_a kI 6 (am)), (plo, fw_a kI 6 (ao)), (y0, .inr (0, [.ref y0u, .ref y0m, .ref y0o])), (y0u, fw_a kI 6 (cu 0)), (y0m, fw_a kI 6 (cm 0)), (y0o, fw_a kI 6 (co 0)), (y1, .inr (0, [.ref y1u, .ref y1m, .ref y1o])), (y1u, fw_a kI 6 (au)), (y1m, fw_a kI 6 (am)), (y1o, fw_a kI 6 (ao)), (y2, .inr (0, [.ref y2u, .ref y2m, .ref y2o])), (y2u, fw_a kI 6 (cu 2)), (y2m, fw_a kI 6 (cm 2)), (y2o, fw_a kI 6 (co 2)), (y3, .inr (0, [.ref y3u, .ref y3m, .ref y3o])), (y3u, fw_a kI 6 (cu 3)), (y3m, fw_a kI 6 (cm 3)), (y3o, fw_a kI 6 (co 3))] := hD
      refine W.widen (k := 1) (n := 6) (Nat.zero_le _) (Nat.zero_le _) ?_
      refine vx_ret ?_
      refine fw_vret hx hb hr hlocks hS ?_ d_F_keep_37
      · exact ⟨by simp [k_keep, c_1], hP⟩
    · refine lv_aload_n hx hb d_F_keep_17 rfl (lv_at hl 0 rfl) ?_
      refine va_get (D := (dC, dI)) (ci := 3) (v := .ref cp) (C := R_F) (T := T_F) (N := 7) hx hb hts in_F hown hK hP 0 rfl rfl 4 (by decide) (hts _ kw_157) (fun _ h9 => h9) rfl d_F_keep_18 ?_
      refine lv_iload_n hx hb d_F_keep_21 rfl (lv_at hl 1 rfl) ?_
      refine fw_aldq hx hb hK hP 1 0 rfl rfl (2) (by omega) (by omega) (by omega) d_F_keep_22 ?_
      refine fw_cast (show ((va_rf ((fw_4 y0 y1 y2 y3) 2)) : Value) = .ref y2 from rfl) ?_
      refine lv_aload_n hx hb d_F_keep_23 rfl (lv_at hl 0 rfl) ?_
      refine va_get (D := (dC, dI)) (ci := 3) (v := .ref pl) (C := R_F) (T := T_F) (N := 7) hx hb hts in_F hown hK hP 0 rfl rfl 1 (by decide) (hts _ kw_154) (fun _ h9 => h9) rfl d_F_keep_24 ?_
      refine fw_callvP [15, 16, 17, 18, 3, 4, 5, 6] (va_runV (As := [.ref pl]) (rest := []) ⟨hx, hb, hml, hown, hts⟩ (c_P_takeFrom l dC dI _ y2 y2u y2m y2o (cu 2) (cm 2) (co 2) pl plu plm plo au am ao kI ) (cwV 1 hts (gw_V kw_421 kw_422 kw_423 kw_3 kw_424) rfl rfl rfl (by decide +kernel) ⟨Nat.le_of_ble_eq_true rfl, Nat.le_of_ble_eq_true rfl⟩) (fw_preV (ci := 0) (q0 := 15) hP hK hD hN [15, 16, 17, 18, 3, 4, 5, 6] [2] rfl rfl rfl rfl rfl) rfl rfl hl.1 rfl (lv_room (Nat.le_of_ble_eq_true rfl)) d_F_keep_27 ⟨Nat.le_of_ble_eq_true rfl, Nat.le_of_ble_eq_true rfl⟩) hP hD hS hA rfl rfl rfl (fun H locs hP hD hS => ?_)
      have hP : va_P (dC, dI) cls_ [(fc, .inr (3, [.ref sh, .ref pl, .ref be, .int (bI (ud)), .ref cp, .ref kp, .ref se])), (cp, fw_r kR 4 (fw_4 y0 y1 y2 y3)), (kp, fw_z kZ 4 (kf)), (pl, .inr (0, [.ref plu, .ref plm, .ref plo])), (plu, fw_a kI 6 (au)), (plm, fw_a kI 6 (am)), (plo, fw_a kI 6 (ao)), (y0, .inr (0, [.ref y0u, .ref y0m, .ref y0o])), (y0u, fw_a kI 6 (cu 0)), (y0m, fw_a kI 6 (cm 0)), (y0o, fw_a kI 6 (co 0)), (y1, .inr (0, [.ref y1u, .ref y1m, .ref y1o])), (y1u, fw_a kI 6 (cu 1)), (y1m, fw_a kI 6 (cm 1)), (y1o, fw_a kI 6 (co 1)), (y2, .inr (0, [.ref y2u, .ref y2m, .ref y2o])), (y2u, fw_a kI 6 (au)), (y2m, fw_a kI 6 (am)), (y2o, fw_a kI 6 (ao)), (y3, .inr (0, [.ref y3u, .ref y3m, .ref y3o])), (y3u, fw_a kI 6 (cu 3)), (y3m, fw_a kI 6 (cm 3)), (y3o, fw_a kI 6 (co 3))] H := hP
      have hD : va_D A [(fc, .inr (3, [.ref sh, .ref pl, .ref be, .int (bI (ud)), .ref cp, .ref kp, .ref se])), (cp, fw_r kR 4 (fw_4 y0 y1 y2 y3)), (kp, fw_z kZ 4 (kf)), (pl, .inr (0, [.ref plu, .ref plm, .ref plo])), (plu, fw_a kI 6 (au)), (plm, fw_a kI 6 (am)), (plo, fw_a kI 6 (ao)), (y0, .inr (0, [.ref y0u, .ref y0m, .ref y0o])), (y0u, fw_a kI 6 (cu 0)), (y0m, fw_a kI 6 (cm 0)), (y0o, fw_a kI 6 (co 0)), (y1, .inr (0, [.ref y1u, .ref y1m, .ref y1o])), (y1u, fw_a kI 6 (cu 1)), (y1m, fw_a kI 6 (cm 1)), (y1o, fw_a kI 6 (co 1)), (y2, .inr (0, [.ref y2u, .ref y2m, .ref y2o])), (y2u, fw_a kI 6 (au)), (y2m, fw_a kI 6 (am)), (y2o, fw_a kI 6 (ao)), (y3, .inr (0, [.ref y3u, .ref y3m, .ref y3o])), (y3u, fw_a kI 6 (cu 3)), (y3m, fw_a kI 6 (cm 3)), (y3o, fw_a kI 6 (co 3))] := hD
      refine lv_aload_n hx hb d_F_keep_30 rfl (lv_at hl 0 rfl) ?_
      refine va_get (D := (dC, dI)) (ci := 3) (v := .ref kp) (C := R_F) (T := T_F) (N := 7) hx hb hts in_F hown hK hP 0 rfl rfl 5 (by decide) (hts _ kw_158) (fun _ h9 => h9) rfl d_F_keep_31 ?_
      refine lv_iload_n hx hb d_F_keep_34 rfl (lv_at hl 1 rfl) ?_
      refine lv_iconst (v := (bI (true))) hx hb d_F_keep_35 (by decide) ?_
      refine fw_zast hx hb hK hP hD hS 2 1 rfl rfl (2) (by omega) (by omega) (by omega) d_F_keep_36 (fun H locs hP hD hS => ?_)
      have hP : va_P (dC, dI) cls_ [(fc, .inr (3, [.ref sh, .ref pl, .ref be, .int (bI (ud)), .ref cp, .ref kp, .ref se])), (cp, fw_r kR 4 (fw_4 y0 y1 y2 y3)), (kp, fw_z kZ 4 (fw_up kf 2 true)), (pl, .inr (0, [.ref plu, .ref plm, .ref plo])), (plu, fw_a kI 6 (au)), (plm, fw_a kI 6 (am)), (plo, fw_a kI 6 (ao)), (y0, .inr (0, [.ref y0u, .ref y0m, .ref y0o])), (y0u, fw_a kI 6 (cu 0)), (y0m, fw_a kI 6 (cm 0)), (y0o, fw_a kI 6 (co 0)), (y1, .inr (0, [.ref y1u, .ref y1m, .ref y1o])), (y1u, fw_a kI 6 (cu 1)), (y1m, fw_a kI 6 (cm 1)), (y1o, fw_a kI 6 (co 1)), (y2, .inr (0, [.ref y2u, .ref y2m, .ref y2o])), (y2u, fw_a kI 6 (au)), (y2m, fw_a kI 6 (am)), (y2o, fw_a kI 6 (ao)), (y3, .inr (0, [.ref y3u, .ref y3m, .ref y3o])), (y3u, fw_a kI 6 (cu 3)), (y3m, fw_a kI 6 (cm 3)), (y3o, fw_a kI 6 (co 3))] H := hP
      have hD : va_D A [(fc, .inr (3, [.ref sh, .ref pl, .ref be, .int (bI (ud)), .ref cp, .ref kp, .ref se])), (cp, fw_r kR 4 (fw_4 y0 y1 y2 y3)), (kp, fw_z kZ 4 (fw_up kf 2 true)), (pl, .inr (0, [.ref plu, .ref plm, .ref plo])), (plu, fw_a kI 6 (au)), (plm, fw_a kI 6 (am)), (plo, fw_a kI 6 (ao)), (y0, .inr (0, [.ref y0u, .ref y0m, .ref y0o])), (y0u, fw_a kI 6 (cu 0)), (y0m, fw_a kI 6 (cm 0)), (y0o, fw_a kI 6 (co 0)), (y1, .inr (0, [.ref y1u, .ref y1m, .ref y1o])), (y1u, fw_a kI 6 (cu 1)), (y1m, fw_a kI 6 (cm 1)), (y1o, fw_a kI 6 (co 1)), (y2, .inr (0, [.ref y2u, .ref y2m, .ref y2o])), (y2u, fw_a kI 6 (au)), (y2m, fw_a kI 6 (am)), (y2o, fw_a kI 6 (ao)), (y3, .inr (0, [.ref y3u, .ref y3m, .ref y3o])), (y3u, fw_a kI 6 (cu 3)), (y3m, fw_a kI 6 (cm 3)), (y3o, fw_a kI 6 (co 3))] := hD
      refine W.widen (k := 1) (n := 6) (Nat.zero_le _) (Nat.zero_le _) ?_
      refine vx_ret ?_
      refine fw_vret hx hb hr hlocks hS ?_ d_F_keep_37
      · exact ⟨by simp [k_keep, c_1], hP⟩
    · refine lv_aload_n hx hb d_F_keep_17 rfl (lv_at hl 0 rfl) ?_
      refine va_get (D := (dC, dI)) (ci := 3) (v := .ref cp) (C := R_F) (T := T_F) (N := 7) hx hb hts in_F hown hK hP 0 rfl rfl 4 (by decide) (hts _ kw_157) (fun _ h9 => h9) rfl d_F_keep_18 ?_
      refine lv_iload_n hx hb d_F_keep_21 rfl (lv_at hl 1 rfl) ?_
      refine fw_aldq hx hb hK hP 1 0 rfl rfl (3) (by omega) (by omega) (by omega) d_F_keep_22 ?_
      refine fw_cast (show ((va_rf ((fw_4 y0 y1 y2 y3) 3)) : Value) = .ref y3 from rfl) ?_
      refine lv_aload_n hx hb d_F_keep_23 rfl (lv_at hl 0 rfl) ?_
      refine va_get (D := (dC, dI)) (ci := 3) (v := .ref pl) (C := R_F) (T := T_F) (N := 7) hx hb hts in_F hown hK hP 0 rfl rfl 1 (by decide) (hts _ kw_154) (fun _ h9 => h9) rfl d_F_keep_24 ?_
      refine fw_callvP [19, 20, 21, 22, 3, 4, 5, 6] (va_runV (As := [.ref pl]) (rest := []) ⟨hx, hb, hml, hown, hts⟩ (c_P_takeFrom l dC dI _ y3 y3u y3m y3o (cu 3) (cm 3) (co 3) pl plu plm plo au am ao kI ) (cwV 1 hts (gw_V kw_421 kw_422 kw_423 kw_3 kw_424) rfl rfl rfl (by decide +kernel) ⟨Nat.le_of_ble_eq_true rfl, Nat.le_of_ble_eq_true rfl⟩) (fw_preV (ci := 0) (q0 := 19) hP hK hD hN [19, 20, 21, 22, 3, 4, 5, 6] [2] rfl rfl rfl rfl rfl) rfl rfl hl.1 rfl (lv_room (Nat.le_of_ble_eq_true rfl)) d_F_keep_27 ⟨Nat.le_of_ble_eq_true rfl, Nat.le_of_ble_eq_true rfl⟩) hP hD hS hA rfl rfl rfl (fun H locs hP hD hS => ?_)
      have hP : va_P (dC, dI) cls_ [(fc, .inr (3, [.ref sh, .ref pl, .ref be, .int (bI (ud)), .ref cp, .ref kp, .ref se])), (cp, fw_r kR 4 (fw_4 y0 y1 y2 y3)), (kp, fw_z kZ 4 (kf)), (pl, .inr (0, [.ref plu, .ref plm, .ref plo])), (plu, fw_a kI 6 (au)), (plm, fw_a kI 6 (am)), (plo, fw_a kI 6 (ao)), (y0, .inr (0, [.ref y0u, .ref y0m, .ref y0o])), (y0u, fw_a kI 6 (cu 0)), (y0m, fw_a kI 6 (cm 0)), (y0o, fw_a kI 6 (co 0)), (y1, .inr (0, [.ref y1u, .ref y1m, .ref y1o])), (y1u, fw_a kI 6 (cu 1)), (y1m, fw_a kI 6 (cm 1)), (y1o, fw_a kI 6 (co 1)), (y2, .inr (0, [.ref y2u, .ref y2m, .ref y2o])), (y2u, fw_a kI 6 (cu 2)), (y2m, fw_a kI 6 (cm 2)), (y2o, fw_a kI 6 (co 2)), (y3, .inr (0, [.ref y3u, .ref y3m, .ref y3o])), (y3u, fw_a kI 6 (au)), (y3m, fw_a kI 6 (am)), (y3o, fw_a kI 6 (ao))] H := hP
      have hD : va_D A [(fc, .inr (3, [.ref sh, .ref pl, .ref be, .int (bI (ud)), .ref cp, .ref kp, .ref se])), (cp, fw_r kR 4 (fw_4 y0 y1 y2 y3)), (kp, fw_z kZ 4 (kf)), (pl, .inr (0, [.ref plu, .ref plm, .ref plo])), (plu, fw_a kI 6 (au)), (plm, fw_a kI 6 (am)), (plo, fw_a kI 6 (ao)), (y0, .inr (0, [.ref y0u, .ref y0m, .ref y0o])), (y0u, fw_a kI 6 (cu 0)), (y0m, fw_a kI 6 (cm 0)), (y0o, fw_a kI 6 (co 0)), (y1, .inr (0, [.ref y1u, .ref y1m, .ref y1o])), (y1u, fw_a kI 6 (cu 1)), (y1m, fw_a kI 6 (cm 1)), (y1o, fw_a kI 6 (co 1)), (y2, .inr (0, [.ref y2u, .ref y2m, .ref y2o])), (y2u, fw_a kI 6 (cu 2)), (y2m, fw_a kI 6 (cm 2)), (y2o, fw_a kI 6 (co 2)), (y3, .inr (0, [.ref y3u, .ref y3m, .ref y3o])), (y3u, fw_a kI 6 (au)), (y3m, fw_a kI 6 (am)), (y3o, fw_a kI 6 (ao))] := hD
      refine lv_aload_n hx hb d_F_keep_30 rfl (lv_at hl 0 rfl) ?_
      refine va_get (D := (dC, dI)) (ci := 3) (v := .ref kp) (C := R_F) (T := T_F) (N := 7) hx hb hts in_F hown hK hP 0 rfl rfl 5 (by decide) (hts _ kw_158) (fun _ h9 => h9) rfl d_F_keep_31 ?_
      refine lv_iload_n hx hb d_F_keep_34 rfl (lv_at hl 1 rfl) ?_
      refine lv_iconst (v := (bI (true))) hx hb d_F_keep_35 (by decide) ?_
      refine fw_zast hx hb hK hP hD hS 2 1 rfl rfl (3) (by omega) (by omega) (by omega) d_F_keep_36 (fun H locs hP hD hS => ?_)
      have hP : va_P (dC, dI) cls_ [(fc, .inr (3, [.ref sh, .ref pl, .ref be, .int (bI (ud)), .ref cp, .ref kp, .ref se])), (cp, fw_r kR 4 (fw_4 y0 y1 y2 y3)), (kp, fw_z kZ 4 (fw_up kf 3 true)), (pl, .inr (0, [.ref plu, .ref plm, .ref plo])), (plu, fw_a kI 6 (au)), (plm, fw_a kI 6 (am)), (plo, fw_a kI 6 (ao)), (y0, .inr (0, [.ref y0u, .ref y0m, .ref y0o])), (y0u, fw_a kI 6 (cu 0)), (y0m, fw_a kI 6 (cm 0)), (y0o, fw_a kI 6 (co 0)), (y1, .inr (0, [.ref y1u, .ref y1m, .ref y1o])), (y1u, fw_a kI 6 (cu 1)), (y1m, fw_a kI 6 (cm 1)), (y1o, fw_a kI 6 (co 1)), (y2, .inr (0, [.ref y2u, .ref y2m, .ref y2o])), (y2u, fw_a kI 6 (cu 2)), (y2m, fw_a kI 6 (cm 2)), (y2o, fw_a kI 6 (co 2)), (y3, .inr (0, [.ref y3u, .ref y3m, .ref y3o])), (y3u, fw_a kI 6 (au)), (y3m, fw_a kI 6 (am)), (y3o, fw_a kI 6 (ao))] H := hP
      have hD : va_D A [(fc, .inr (3, [.ref sh, .ref pl, .ref be, .int (bI (ud)), .ref cp, .ref kp, .ref se])), (cp, fw_r kR 4 (fw_4 y0 y1 y2 y3)), (kp, fw_z kZ 4 (fw_up kf 3 true)), (pl, .inr (0, [.ref plu, .ref plm, .ref plo])), (plu, fw_a kI 6 (au)), (plm, fw_a kI 6 (am)), (plo, fw_a kI 6 (ao)), (y0, .inr (0, [.ref y0u, .ref y0m, .ref y0o])), (y0u, fw_a kI 6 (cu 0)), (y0m, fw_a kI 6 (cm 0)), (y0o, fw_a kI 6 (co 0)), (y1, .inr (0, [.ref y1u, .ref y1m, .ref y1o])), (y1u, fw_a kI 6 (cu 1)), (y1m, fw_a kI 6 (cm 1)), (y1o, fw_a kI 6 (co 1)), (y2, .inr (0, [.ref y2u, .ref y2m, .ref y2o])), (y2u, fw_a kI 6 (cu 2)), (y2m, fw_a kI 6 (cm 2)), (y2o, fw_a kI 6 (co 2)), (y3, .inr (0, [.ref y3u, .ref y3m, .ref y3o])), (y3u, fw_a kI 6 (au)), (y3m, fw_a kI 6 (am)), (y3o, fw_a kI 6 (ao))] := hD
      refine W.widen (k := 1) (n := 6) (Nat.zero_le _) (Nat.zero_le _) ?_
      refine vx_ret ?_
      refine fw_vret hx hb hr hlocks hS ?_ d_F_keep_37
      · exact ⟨by simp [k_keep, c_1], hP⟩
  · exact fw_throw hx hb hlt hown hts hN hX (List.mem_of_getElem? (i := 20) rfl) fw_E3 hP0 (hl.1.trans hml.symm) d_F_keep_7 d_F_keep_10 d_F_keep_11 d_F_keep_13 d_F_keep_16 htb (Nat.le_of_ble_eq_true rfl) (Nat.le_of_ble_eq_true rfl) (Nat.le_of_ble_eq_true rfl) (Nat.le_of_ble_eq_true rfl) hlocks ⟨rfl, by simp [k_keep, c_1]⟩

set_option maxHeartbeats 4000000 in
set_option maxRecDepth 100000 in
theorem c_F_compare (l : Launch) (hlt : l.stackTraces = false) (dC : Nat → ClassId) (dI : Nat → Nat → Nat) (sz : Nat) (fc : Nat) (pl : Nat) (be : Nat) (ud : Bool) (cp : Nat) (kp : Nat) (se : Nat) (sh : Nat) (sg : Nat) (sd : Nat) (sl : Nat) (su : Nat) (ss : Nat) (nO : Int) (nH : Int) (nS : Int) (nW : Int) (nF : Int) (plu : Nat) (plm : Nat) (plo : Nat) (au : Nat → Int) (am : Nat → Int) (ao : Nat → Int) (kI : ClassId) (fL : Nat → Int) (fU : Nat → Int) (fG : Nat → Int) (fD : Nat → Int) (kR : ClassId) (kZ : ClassId) (kf : Nat → Bool) (cu : Nat → Nat → Int) (cm : Nat → Nat → Int) (co : Nat → Nat → Int) (y0 : Nat) (y0u : Nat) (y0m : Nat) (y0o : Nat) (y1 : Nat) (y1u : Nat) (y1m : Nat) (y1o : Nat) (y2 : Nat) (y2u : Nat) (y2m : Nat) (y2o : Nat) (y3 : Nat) (y3u : Nat) (y3m : Nat) (y3o : Nat) (z : Int) (hsh : iv_sh nO nH nS nW nF fL fU fG fD) (hpl : iv_pl nO nH fL fU au am ao) (hcp : ∀ k, kf k = true → iv_pl nO nH fL fU (cu k) (cm k) (co k)) (hb_z : fw_b z) : vx_Met l y_F_compare (Cond.code y_F_compare b_F_compare 4 (some .int) :: gw) ({ frames := 6, locals := 90, cells := 1, slots := 6 }) (fw_Px (dC, dI) [.ref fc, .int (iI (z))] [(fc, .inr (3, [.ref sh, .ref pl, .ref be, .int (bI (ud)), .ref cp, .ref kp, .ref se])), (sh, .inr (1, [.ref sg, .ref sd, .int (iI (nO)), .ref sl, .ref su, .int (iI (nH)), .ref ss, .int (iI (nS)), .int (iI (nW)), .int (iI (nF))])), (cp, fw_r kR 4 (fw_4 y0 y1 y2 y3)), (kp, fw_z kZ 4 (kf)), (pl, .inr (0, [.ref plu, .ref plm, .ref plo])), (plu, fw_a kI 6 (au)), (plm, fw_a kI 6 (am)), (plo, fw_a kI 6 (ao)), (y0, .inr (0, [.ref y0u, .ref y0m, .ref y0o])), (y0u, fw_a kI 6 (cu 0)), (y0m, fw_a kI 6 (cm 0)), (y0o, fw_a kI 6 (co 0)), (y1, .inr (0, [.ref y1u, .ref y1m, .ref y1o])), (y1u, fw_a kI 6 (cu 1)), (y1m, fw_a kI 6 (cm 1)), (y1o, fw_a kI 6 (co 1)), (y2, .inr (0, [.ref y2u, .ref y2m, .ref y2o])), (y2u, fw_a kI 6 (cu 2)), (y2m, fw_a kI 6 (cm 2)), (y2o, fw_a kI 6 (co 2)), (y3, .inr (0, [.ref y3u, .ref y3m, .ref y3o])), (y3u, fw_a kI 6 (cu 3)), (y3m, fw_a kI 6 (cm 3)), (y3o, fw_a kI 6 (co 3))] [(kR, .object "FewChanges$Plan"), (kZ, .boolean), (kI, .int)] sz) (fw_Qi (iI (fc_sum (fc_cmp au am ao (cu z.toNat) (cm z.toNat) (co z.toNat)) nH.toNat)) (fun H => (k_use z kf = 0) ∧ va_P (dC, dI) cls_ [(fc, .inr (3, [.ref sh, .ref pl, .ref be, .int (bI (ud)), .ref cp, .ref kp, .ref se])), (sh, .inr (1, [.ref sg, .ref sd, .int (iI (nO)), .ref sl, .ref su, .int (iI (nH)), .ref ss, .int (iI (nS)), .int (iI (nW)), .int (iI (nF))])), (cp, fw_r kR 4 (fw_4 y0 y1 y2 y3)), (kp, fw_z kZ 4 (kf)), (pl, .inr (0, [.ref plu, .ref plm, .ref plo])), (plu, fw_a kI 6 (au)), (plm, fw_a kI 6 (am)), (plo, fw_a kI 6 (ao)), (y0, .inr (0, [.ref y0u, .ref y0m, .ref y0o])), (y0u, fw_a kI 6 (cu 0)), (y0m, fw_a kI 6 (cm 0)), (y0o, fw_a kI 6 (co 0)), (y1, .inr (0, [.ref y1u, .ref y1m, .ref y1o])), (y1u, fw_a kI 6 (cu 1)), (y1m, fw_a kI 6 (cm 1)), (y1o, fw_a kI 6 (co 1)), (y2, .inr (0, [.ref y2u, .ref y2m, .ref y2o])), (y2u, fw_a kI 6 (cu 2)), (y2m, fw_a kI 6 (cm 2)), (y2o, fw_a kI 6 (co 2)), (y3, .inr (0, [.ref y3u, .ref y3m, .ref y3o])), (y3u, fw_a kI 6 (cu 3)), (y3m, fw_a kI 6 (cm 3)), (y3o, fw_a kI 6 (co 3))] H) (va_A [(fc, .inr (3, [.ref sh, .ref pl, .ref be, .int (bI (ud)), .ref cp, .ref kp, .ref se])), (sh, .inr (1, [.ref sg, .ref sd, .int (iI (nO)), .ref sl, .ref su, .int (iI (nH)), .ref ss, .int (iI (nS)), .int (iI (nW)), .int (iI (nF))])), (cp, fw_r kR 4 (fw_4 y0 y1 y2 y3)), (kp, fw_z kZ 4 (kf)), (pl, .inr (0, [.ref plu, .ref plm, .ref plo])), (plu, fw_a kI 6 (au)), (plm, fw_a kI 6 (am)), (plo, fw_a kI 6 (ao)), (y0, .inr (0, [.ref y0u, .ref y0m, .ref y0o])), (y0u, fw_a kI 6 (cu 0)), (y0m, fw_a kI 6 (cm 0)), (y0o, fw_a kI 6 (co 0)), (y1, .inr (0, [.ref y1u, .ref y1m, .ref y1o])), (y1u, fw_a kI 6 (cu 1)), (y1m, fw_a kI 6 (cm 1)), (y1o, fw_a kI 6 (co 1)), (y2, .inr (0, [.ref y2u, .ref y2m, .ref y2o])), (y2u, fw_a kI 6 (cu 2)), (y2m, fw_a kI 6 (cm 2)), (y2o, fw_a kI 6 (co 2)), (y3, .inr (0, [.ref y3u, .ref y3m, .ref y3o])), (y3u, fw_a kI 6 (cu 3)), (y3m, fw_a kI 6 (cm 3)), (y3o, fw_a kI 6 (co 3))] sz)) (fw_XC (dC, dI) [(fc, .inr (3, [.ref sh, .ref pl, .ref be, .int (bI (ud)), .ref cp, .ref kp, .ref se])), (sh, .inr (1, [.ref sg, .ref sd, .int (iI (nO)), .ref sl, .ref su, .int (iI (nH)), .ref ss, .int (iI (nS)), .int (iI (nW)), .int (iI (nF))])), (cp, fw_r kR 4 (fw_4 y0 y1 y2 y3)), (kp, fw_z kZ 4 (kf)), (pl, .inr (0, [.ref plu, .ref plm, .ref plo])), (plu, fw_a kI 6 (au)), (plm, fw_a kI 6 (am)), (plo, fw_a kI 6 (ao)), (y0, .inr (0, [.ref y0u, .ref y0m, .ref y0o])), (y0u, fw_a kI 6 (cu 0)), (y0m, fw_a kI 6 (cm 0)), (y0o, fw_a kI 6 (co 0)), (y1, .inr (0, [.ref y1u, .ref y1m, .ref y1o])), (y1u, fw_a kI 6 (cu 1)), (y1m, fw_a kI 6 (cm 1)), (y1o, fw_a kI 6 (co 1)), (y2, .inr (0, [.ref y2u, .ref y2m, .ref y2o])), (y2u, fw_a kI 6 (cu 2)), (y2m, fw_a kI 6 (cm 2)), (y2o, fw_a kI 6 (co 2)), (y3, .inr (0, [.ref y3u, .ref y3m, .ref y3o])), (y3u, fw_a kI 6 (cu 3)), (y3m, fw_a kI 6 (cm 3)), (y3o, fw_a kI 6 (co 3))] (fun E => (E = "java/lang/IndexOutOfBoundsException" ∧ k_use z kf = 1) ∨ (E = "java/lang/IllegalStateException" ∧ k_use z kf = 2)) (va_A [(fc, .inr (3, [.ref sh, .ref pl, .ref be, .int (bI (ud)), .ref cp, .ref kp, .ref se])), (sh, .inr (1, [.ref sg, .ref sd, .int (iI (nO)), .ref sl, .ref su, .int (iI (nH)), .ref ss, .int (iI (nS)), .int (iI (nW)), .int (iI (nF))])), (cp, fw_r kR 4 (fw_4 y0 y1 y2 y3)), (kp, fw_z kZ 4 (kf)), (pl, .inr (0, [.ref plu, .ref plm, .ref plo])), (plu, fw_a kI 6 (au)), (plm, fw_a kI 6 (am)), (plo, fw_a kI 6 (ao)), (y0, .inr (0, [.ref y0u, .ref y0m, .ref y0o])), (y0u, fw_a kI 6 (cu 0)), (y0m, fw_a kI 6 (cm 0)), (y0o, fw_a kI 6 (co 0)), (y1, .inr (0, [.ref y1u, .ref y1m, .ref y1o])), (y1u, fw_a kI 6 (cu 1)), (y1m, fw_a kI 6 (cm 1)), (y1o, fw_a kI 6 (co 1)), (y2, .inr (0, [.ref y2u, .ref y2m, .ref y2o])), (y2u, fw_a kI 6 (cu 2)), (y2m, fw_a kI 6 (cm 2)), (y2o, fw_a kI 6 (co 2)), (y3, .inr (0, [.ref y3u, .ref y3m, .ref y3o])), (y3u, fw_a kI 6 (cu 3)), (y3m, fw_a kI 6 (cm 3)), (y3o, fw_a kI 6 (co 3))] sz)) 1 6 (va_A [(fc, .inr (3, [.ref sh, .ref pl, .ref be, .int (bI (ud)), .ref cp, .ref kp, .ref se])), (sh, .inr (1, [.ref sg, .ref sd, .int (iI (nO)), .ref sl, .ref su, .int (iI (nH)), .ref ss, .int (iI (nS)), .int (iI (nW)), .int (iI (nF))])), (cp, fw_r kR 4 (fw_4 y0 y1 y2 y3)), (kp, fw_z kZ 4 (kf)), (pl, .inr (0, [.ref plu, .ref plm, .ref plo])), (plu, fw_a kI 6 (au)), (plm, fw_a kI 6 (am)), (plo, fw_a kI 6 (ao)), (y0, .inr (0, [.ref y0u, .ref y0m, .ref y0o])), (y0u, fw_a kI 6 (cu 0)), (y0m, fw_a kI 6 (cm 0)), (y0o, fw_a kI 6 (co 0)), (y1, .inr (0, [.ref y1u, .ref y1m, .ref y1o])), (y1u, fw_a kI 6 (cu 1)), (y1m, fw_a kI 6 (cm 1)), (y1o, fw_a kI 6 (co 1)), (y2, .inr (0, [.ref y2u, .ref y2m, .ref y2o])), (y2u, fw_a kI 6 (cu 2)), (y2m, fw_a kI 6 (cm 2)), (y2o, fw_a kI 6 (co 2)), (y3, .inr (0, [.ref y3u, .ref y3m, .ref y3o])), (y3u, fw_a kI 6 (cu 3)), (y3m, fw_a kI 6 (cm 3)), (y3o, fw_a kI 6 (co 3))] sz) := by
  refine fw_ofX (Qc := fun A => fw_Qi (iI (fc_sum (fc_cmp au am ao (cu z.toNat) (cm z.toNat) (co z.toNat)) nH.toNat)) (fun H => (k_use z kf = 0) ∧ va_P (dC, dI) cls_ [(fc, .inr (3, [.ref sh, .ref pl, .ref be, .int (bI (ud)), .ref cp, .ref kp, .ref se])), (sh, .inr (1, [.ref sg, .ref sd, .int (iI (nO)), .ref sl, .ref su, .int (iI (nH)), .ref ss, .int (iI (nS)), .int (iI (nW)), .int (iI (nF))])), (cp, fw_r kR 4 (fw_4 y0 y1 y2 y3)), (kp, fw_z kZ 4 (kf)), (pl, .inr (0, [.ref plu, .ref plm, .ref plo])), (plu, fw_a kI 6 (au)), (plm, fw_a kI 6 (am)), (plo, fw_a kI 6 (ao)), (y0, .inr (0, [.ref y0u, .ref y0m, .ref y0o])), (y0u, fw_a kI 6 (cu 0)), (y0m, fw_a kI 6 (cm 0)), (y0o, fw_a kI 6 (co 0)), (y1, .inr (0, [.ref y1u, .ref y1m, .ref y1o])), (y1u, fw_a kI 6 (cu 1)), (y1m, fw_a kI 6 (cm 1)), (y1o, fw_a kI 6 (co 1)), (y2, .inr (0, [.ref y2u, .ref y2m, .ref y2o])), (y2u, fw_a kI 6 (cu 2)), (y2m, fw_a kI 6 (cm 2)), (y2o, fw_a kI 6 (co 2)), (y3, .inr (0, [.ref y3u, .ref y3m, .ref y3o])), (y3u, fw_a kI 6 (cu 3)), (y3m, fw_a kI 6 (cm 3)), (y3o, fw_a kI 6 (co 3))] H) A) (XC := fun A => fw_XC (dC, dI) [(fc, .inr (3, [.ref sh, .ref pl, .ref be, .int (bI (ud)), .ref cp, .ref kp, .ref se])), (sh, .inr (1, [.ref sg, .ref sd, .int (iI (nO)), .ref sl, .ref su, .int (iI (nH)), .ref ss, .int (iI (nS)), .int (iI (nW)), .int (iI (nF))])), (cp, fw_r kR 4 (fw_4 y0 y1 y2 y3)), (kp, fw_z kZ 4 (kf)), (pl, .inr (0, [.ref plu, .ref plm, .ref plo])), (plu, fw_a kI 6 (au)), (plm, fw_a kI 6 (am)), (plo, fw_a kI 6 (ao)), (y0, .inr (0, [.ref y0u, .ref y0m, .ref y0o])), (y0u, fw_a kI 6 (cu 0)), (y0m, fw_a kI 6 (cm 0)), (y0o, fw_a kI 6 (co 0)), (y1, .inr (0, [.ref y1u, .ref y1m, .ref y1o])), (y1u, fw_a kI 6 (cu 1)), (y1m, fw_a kI 6 (cm 1)), (y1o, fw_a kI 6 (co 1)), (y2, .inr (0, [.ref y2u, .ref y2m, .ref y2o])), (y2u, fw_a kI 6 (cu 2)), (y2m, fw_a kI 6 (cm 2)), (y2o, fw_a kI 6 (co 2)), (y3, .inr (0, [.ref y3u, .ref y3m, .ref y3o])), (y3u, fw_a kI 6 (cu 3)), (y3m, fw_a kI 6 (cm 3)), (y3o, fw_a kI 6 (co 3))] (fun E => (E = "java/lang/IndexOutOfBoundsException" ∧ k_use z kf = 1) ∨ (E = "java/lang/IllegalStateException" ∧ k_use z kf = 2)) A) (by decide) (Nat.le_of_ble_eq_true rfl) ?_
  intro p e s m below meth c A ls hx hb hr hts hown hlocks htb hml hsz hP hK hD hN hX hA hS hl
  have hP0 := hP
  have hl : lv_has ls 4 [(0, .ref fc), (1, .int (iI (z)))] := hl
  obtain ⟨⟨i1, i2, i3, i4, i5, i6, i7, i8, i9, i10⟩, hi2, hi3⟩ := hsh
  refine lv_iload_n hx hb d_F_compare_0 rfl (lv_at hl 1 rfl) ?_
  refine fw_callR (va_runS (As := [.int (iI (z))]) (rest := []) ⟨hx, hb, hml, hown, hts⟩ (c_F_isCopy l dC dI z ⟨by omega, by omega⟩) (cwS 1 hts (gw_S kw_537 kw_538 kw_1 kw_539) rfl rfl rfl (by decide +kernel) ⟨Nat.le_of_ble_eq_true rfl, Nat.le_of_ble_eq_true rfl⟩) (fw_preRS hP hK hN [] [] rfl rfl) rfl rfl hl.1 rfl (lv_room (Nat.le_of_ble_eq_true rfl)) d_F_compare_1 ⟨Nat.le_of_ble_eq_true rfl, Nat.le_of_ble_eq_true rfl⟩).run ?_
  refine fw_bif_ne (tgt := 17) hx hb d_F_compare_4 (by decide) (fun c_1 => ?_) (fun c_1 => ?_)
  · have hz9 := fc_in_t c_1
    refine lv_aload_n hx hb d_F_compare_17 rfl (lv_at hl 0 rfl) ?_
    refine va_get (D := (dC, dI)) (ci := 3) (v := .ref kp) (C := R_F) (T := T_F) (N := 7) hx hb hts in_F hown hK hP 0 rfl rfl 5 (by decide) (hts _ kw_158) (fun _ h9 => h9) rfl d_F_compare_18 ?_
    refine lv_iload_n hx hb d_F_compare_21 rfl (lv_at hl 1 rfl) ?_
    refine fw_zald hx hb hK hP 3 1 rfl rfl ((z).toNat) (by omega) (by omega) (by omega) d_F_compare_22 ?_
    refine fw_bif_ne (tgt := 36) hx hb d_F_compare_23 (by decide) (fun c_2 => ?_) (fun c_2 => ?_)
    · rcases fc_in3 c_1 with rfl | rfl | rfl | rfl
      · refine lv_iconst (v := (iI (0))) hx hb d_F_compare_36 (by decide) ?_
        have hk9 : kf 0 = true := c_2
        refine lv_istore_n (lv' := [(2, .int (iI (0))), (0, .ref fc), (1, .int (iI ((0 : Int))))]) hx hb d_F_compare_37 rfl hl (by decide) rfl (fun ls hl => ?_)
        refine lv_iconst (v := (iI (0))) hx hb d_F_compare_38 (by decide) ?_
        refine lv_istore_n (lv' := [(3, .int (iI (0))), (2, .int (iI (0))), (0, .ref fc), (1, .int (iI ((0 : Int))))]) hx hb d_F_compare_39 rfl hl (by decide) rfl (fun ls hl => ?_)
        have hlp_40 : ∀ (n : Nat) (i : Nat) (z2 : Int) (z3 : Int) (ls : Array Slot), (nH.toNat - i) < n → (z3 = (i : Int)) → ((i : Int) ≤ nH) → (z2 = fc_sum (fc_cmp au am ao (cu (0 : Int).toNat) (cm (0 : Int).toNat) (co (0 : Int).toNat)) i) → lv_has ls 4 [(2, .int (iI (z2))), (3, .int (iI (z3))), (0, .ref fc), (1, .int (iI ((0 : Int))))] → W p l e ({ frames := 6, locals := 90, cells := 1, slots := 6 }) s m ([.ref fc, .int (iI ((0 : Int)))] : List Value).toArray below meth c s.heap [] 0 0 (vx_MQ below (fw_Qi (iI (fc_sum (fc_cmp au am ao (cu (0 : Int).toNat) (cm (0 : Int).toNat) (co (0 : Int).toNat)) nH.toNat)) (fun H => (k_use (0 : Int) kf = 0) ∧ va_P (dC, dI) cls_ [(fc, .inr (3, [.ref sh, .ref pl, .ref be, .int (bI (ud)), .ref cp, .ref kp, .ref se])), (sh, .inr (1, [.ref sg, .ref sd, .int (iI (nO)), .ref sl, .ref su, .int (iI (nH)), .ref ss, .int (iI (nS)), .int (iI (nW)), .int (iI (nF))])), (cp, fw_r kR 4 (fw_4 y0 y1 y2 y3)), (kp, fw_z kZ 4 (kf)), (pl, .inr (0, [.ref plu, .ref plm, .ref plo])), (plu, fw_a kI 6 (au)), (plm, fw_a kI 6 (am)), (plo, fw_a kI 6 (ao)), (y0, .inr (0, [.ref y0u, .ref y0m, .ref y0o])), (y0u, fw_a kI 6 (cu 0)), (y0m, fw_a kI 6 (cm 0)), (y0o, fw_a kI 6 (co 0)), (y1, .inr (0, [.ref y1u, .ref y1m, .ref y1o])), (y1u, fw_a kI 6 (cu 1)), (y1m, fw_a kI 6 (cm 1)), (y1o, fw_a kI 6 (co 1)), (y2, .inr (0, [.ref y2u, .ref y2m, .ref y2o])), (y2u, fw_a kI 6 (cu 2)), (y2m, fw_a kI 6 (cm 2)), (y2o, fw_a kI 6 (co 2)), (y3, .inr (0, [.ref y3u, .ref y3m, .ref y3o])), (y3u, fw_a kI 6 (cu 3)), (y3m, fw_a kI 6 (cm 3)), (y3o, fw_a kI 6 (co 3))] H) A) (fw_XC (dC, dI) [(fc, .inr (3, [.ref sh, .ref pl, .ref be, .int (bI (ud)), .ref cp, .ref kp, .ref se])), (sh, .inr (1, [.ref sg, .ref sd, .int (iI (nO)), .ref sl, .ref su, .int (iI (nH)), .ref ss, .int (iI (nS)), .int (iI (nW)), .int (iI (nF))])), (cp, fw_r kR 4 (fw_4 y0 y1 y2 y3)), (kp, fw_z kZ 4 (kf)), (pl, .inr (0, [.ref plu, .ref plm, .ref plo])), (plu, fw_a kI 6 (au)), (plm, fw_a kI 6 (am)), (plo, fw_a kI 6 (ao)), (y0, .inr (0, [.ref y0u, .ref y0m, .ref y0o])), (y0u, fw_a kI 6 (cu 0)), (y0m, fw_a kI 6 (cm 0)), (y0o, fw_a kI 6 (co 0)), (y1, .inr (0, [.ref y1u, .ref y1m, .ref y1o])), (y1u, fw_a kI 6 (cu 1)), (y1m, fw_a kI 6 (cm 1)), (y1o, fw_a kI 6 (co 1)), (y2, .inr (0, [.ref y2u, .ref y2m, .ref y2o])), (y2u, fw_a kI 6 (cu 2)), (y2m, fw_a kI 6 (cm 2)), (y2o, fw_a kI 6 (co 2)), (y3, .inr (0, [.ref y3u, .ref y3m, .ref y3o])), (y3u, fw_a kI 6 (cu 3)), (y3m, fw_a kI 6 (cm 3)), (y3o, fw_a kI 6 (co 3))] (fun E => (E = "java/lang/IndexOutOfBoundsException" ∧ k_use (0 : Int) kf = 1) ∨ (E = "java/lang/IllegalStateException" ∧ k_use (0 : Int) kf = 2)) A) ([.ref fc, .int (iI ((0 : Int)))] : List Value).toArray s 1 6 A) (F0 m 40 ls []) := by
          intro n
          induction n with
          | zero => intro i z2 z3 ls hms; exact absurd hms (Nat.not_lt_zero _)
          | succ n ih =>
            intro i z2 z3 ls hms hz hi hs hl
            refine lv_iload_n hx hb d_F_compare_40 rfl (lv_at hl 1 rfl) ?_
            refine lv_aload_n hx hb d_F_compare_41 rfl (lv_at hl 2 rfl) ?_
            refine va_get (D := (dC, dI)) (ci := 3) (v := .ref sh) (C := R_F) (T := T_F) (N := 7) hx hb hts in_F hown hK hP 0 rfl rfl 0 (by decide) (hts _ kw_153) (fun _ h9 => h9) rfl d_F_compare_42 ?_
            refine va_get (D := (dC, dI)) (ci := 1) (v := .int (iI (nH))) (C := R_S) (T := T_S) (N := 10) hx hb hts in_S hown hK hP 1 rfl rfl 5 (by decide) (hts _ kw_40) (fun _ h9 => h9) rfl d_F_compare_45 ?_
            refine fw_icmp_ge (tgt := 77) hx hb d_F_compare_48 (by decide) ⟨by omega, by omega⟩ ⟨by omega, by omega⟩ (fun c_3 => ?_) (fun c_3 => ?_)
            · refine lv_iload_n hx hb d_F_compare_77 rfl (lv_at hl 0 rfl) ?_
              refine W.widen (k := 1) (n := 6) (Nat.zero_le _) (Nat.zero_le _) ?_
              refine vx_ret ?_
              refine fw_iret hx hb hr hlocks hS ?_ ?_ d_F_compare_78
              · exact ⟨by simp [k_use, c_1, c_2, c_3, hk9], hP⟩
              · have e1 : nH.toNat = i := by omega
                rw [e1, hs]
            · obtain ⟨p1, p2, p3, p4, p5, p6, p7⟩ := hpl i (by omega)
              have q1 := hi2 i (by omega)
              have r1 := hcp 0 hk9 i (by omega)
              have q3 : z3.toNat = i := by omega
              refine lv_aload_n hx hb d_F_compare_51 rfl (lv_at hl 2 rfl) ?_
              refine va_get (D := (dC, dI)) (ci := 3) (v := .ref pl) (C := R_F) (T := T_F) (N := 7) hx hb hts in_F hown hK hP 0 rfl rfl 1 (by decide) (hts _ kw_154) (fun _ h9 => h9) rfl d_F_compare_52 ?_
              refine lv_aload_n hx hb d_F_compare_55 rfl (lv_at hl 2 rfl) ?_
              refine va_get (D := (dC, dI)) (ci := 3) (v := .ref cp) (C := R_F) (T := T_F) (N := 7) hx hb hts in_F hown hK hP 0 rfl rfl 4 (by decide) (hts _ kw_157) (fun _ h9 => h9) rfl d_F_compare_56 ?_
              refine lv_iload_n hx hb d_F_compare_59 rfl (lv_at hl 3 rfl) ?_
              refine fw_aldq hx hb hK hP 2 0 rfl rfl (0) (by omega) (by omega) (by omega) d_F_compare_60 ?_
              refine fw_cast (show ((va_rf ((fw_4 y0 y1 y2 y3) 0)) : Value) = .ref y0 from rfl) ?_
              refine lv_iload_n hx hb d_F_compare_61 rfl (lv_at hl 1 rfl) ?_
              refine fw_callR (va_runV (As := [.ref y0, .int (iI (z3))]) (rest := []) ⟨hx, hb, hml, hown, hts⟩ (c_P_isSameIn l dC dI pl plu plm plo au am ao y0 y0u y0m y0o (cu 0) (cm 0) (co 0) kI z3 (by omega) (by omega) (by rw [q3]; omega) (by rw [q3]; omega) (by rw [q3]; omega) (by rw [q3]; omega) (by rw [q3]; omega) (by rw [q3]; omega)) (cwV 2 hts (gw_V kw_549 kw_550 kw_551 kw_3 kw_552) rfl rfl rfl (by decide +kernel) ⟨Nat.le_of_ble_eq_true rfl, Nat.le_of_ble_eq_true rfl⟩) (fw_preRV (ci := 0) (q0 := 4) hP hK hN [4, 5, 6, 7, 8, 9, 10, 11] [2] rfl rfl rfl rfl) rfl rfl hl.1 rfl (lv_room (Nat.le_of_ble_eq_true rfl)) d_F_compare_62 ⟨Nat.le_of_ble_eq_true rfl, Nat.le_of_ble_eq_true rfl⟩).run ?_
              refine fw_bif_ne (tgt := 71) hx hb d_F_compare_65 (by decide) (fun c_4 => ?_) (fun c_4 => ?_)
              · refine lv_iinc (v := iI (z3 + 1)) (lv' := [(3, .int (iI (z3 + 1))), (2, .int (iI (z2))), (0, .ref fc), (1, .int (iI ((0 : Int))))]) hx hb d_F_compare_71 hl (k := 1) rfl (by rw [show Int32.ofInt 1 = iI 1 from rfl, iI_add]) (by decide) rfl (fun ls hl => ?_)
                refine lv_goto (tgt := 40) hx hb d_F_compare_74 (by decide) ?_
                exact ih (i + 1) z2 (z3 + 1) ls (by omega) (by omega) (by omega) (by subst hz; rw [hs]; show _ = fc_sum _ i + fc_cmp au am ao (cu 0) (cm 0) (co 0) i; unfold fc_cmp; first | (rw [if_pos (show fc_same au am ao (cu 0) (cm 0) (co 0) i = true from c_4)]; omega) | (rw [if_neg (by rw [show fc_same au am ao (cu 0) (cm 0) (co 0) i = false from c_4]; decide)])) (lv_sub hl [1, 0, 2, 3] rfl)
              · refine lv_iinc (v := iI (z2 + 1)) (lv' := [(2, .int (iI (z2 + 1))), (3, .int (iI (z3))), (0, .ref fc), (1, .int (iI ((0 : Int))))]) hx hb d_F_compare_68 hl (k := 0) rfl (by rw [show Int32.ofInt 1 = iI 1 from rfl, iI_add]) (by decide) rfl (fun ls hl => ?_)
                refine lv_iinc (v := iI (z3 + 1)) (lv' := [(3, .int (iI (z3 + 1))), (2, .int (iI (z2 + 1))), (0, .ref fc), (1, .int (iI ((0 : Int))))]) hx hb d_F_compare_71 hl (k := 1) rfl (by rw [show Int32.ofInt 1 = iI 1 from rfl, iI_add]) (by decide) rfl (fun ls hl => ?_)
                refine lv_goto (tgt := 40) hx hb d_F_compare_74 (by decide) ?_
                exact ih (i + 1) (z2 + 1) (z3 + 1) ls (by omega) (by omega) (by omega) (by subst hz; rw [hs]; show _ = fc_sum _ i + fc_cmp au am ao (cu 0) (cm 0) (co 0) i; unfold fc_cmp; first | (rw [if_pos (show fc_same au am ao (cu 0) (cm 0) (co 0) i = true from c_4)]; omega) | (rw [if_neg (by rw [show fc_same au am ao (cu 0) (cm 0) (co 0) i = false from c_4]; decide)])) (lv_sub hl [1, 0, 2, 3] rfl)
        exact hlp_40 ((nH.toNat - 0) + 1) 0 0 0 ls (Nat.lt_succ_self _) rfl (by omega) rfl (lv_sub hl [1, 0, 2, 3] rfl)
      · refine lv_iconst (v := (iI (0))) hx hb d_F_compare_36 (by decide) ?_
        have hk9 : kf 1 = true := c_2
        refine lv_istore_n (lv' := [(2, .int (iI (0))), (0, .ref fc), (1, .int (iI ((1 : Int))))]) hx hb d_F_compare_37 rfl hl (by decide) rfl (fun ls hl => ?_)
        refine lv_iconst (v := (iI (0))) hx hb d_F_compare_38 (by decide) ?_
        refine lv_istore_n (lv' := [(3, .int (iI (0))), (2, .int (iI (0))), (0, .ref fc), (1, .int (iI ((1 : Int))))]) hx hb d_F_compare_39 rfl hl (by decide) rfl (fun ls hl => ?_)
        have hlp_40 : ∀ (n : Nat) (i : Nat) (z2 : Int) (z3 : Int) (ls : Array Slot), (nH.toNat - i) < n → (z3 = (i : Int)) → ((i : Int) ≤ nH) → (z2 = fc_sum (fc_cmp au am ao (cu (1 : Int).toNat) (cm (1 : Int).toNat) (co (1 : Int).toNat)) i) → lv_has ls 4 [(2, .int (iI (z2))), (3, .int (iI (z3))), (0, .ref fc), (1, .int (iI ((1 : Int))))] → W p l e ({ frames := 6, locals := 90, cells := 1, slots := 6 }) s m ([.ref fc, .int (iI ((1 : Int)))] : List Value).toArray below meth c s.heap [] 0 0 (vx_MQ below (fw_Qi (iI (fc_sum (fc_cmp au am ao (cu (1 : Int).toNat) (cm (1 : Int).toNat) (co (1 : Int).toNat)) nH.toNat)) (fun H => (k_use (1 : Int) kf = 0) ∧ va_P (dC, dI) cls_ [(fc, .inr (3, [.ref sh, .ref pl, .ref be, .int (bI (ud)), .ref cp, .ref kp, .ref se])), (sh, .inr (1, [.ref sg, .ref sd, .int (iI (nO)), .ref sl, .ref su, .int (iI (nH)), .ref ss, .int (iI (nS)), .int (iI (nW)), .int (iI (nF))])), (cp, fw_r kR 4 (fw_4 y0 y1 y2 y3)), (kp, fw_z kZ 4 (kf)), (pl, .inr (0, [.ref plu, .ref plm, .ref plo])), (plu, fw_a kI 6 (au)), (plm, fw_a kI 6 (am)), (plo, fw_a kI 6 (ao)), (y0, .inr (0, [.ref y0u, .ref y0m, .ref y0o])), (y0u, fw_a kI 6 (cu 0)), (y0m, fw_a kI 6 (cm 0)), (y0o, fw_a kI 6 (co 0)), (y1, .inr (0, [.ref y1u, .ref y1m, .ref y1o])), (y1u, fw_a kI 6 (cu 1)), (y1m, fw_a kI 6 (cm 1)), (y1o, fw_a kI 6 (co 1)), (y2, .inr (0, [.ref y2u, .ref y2m, .ref y2o])), (y2u, fw_a kI 6 (cu 2)), (y2m, fw_a kI 6 (cm 2)), (y2o, fw_a kI 6 (co 2)), (y3, .inr (0, [.ref y3u, .ref y3m, .ref y3o])), (y3u, fw_a kI 6 (cu 3)), (y3m, fw_a kI 6 (cm 3)), (y3o, fw_a kI 6 (co 3))] H) A) (fw_XC (dC, dI) [(fc, .inr (3, [.ref sh, .ref pl, .ref be, .int (bI (ud)), .ref cp, .ref kp, .ref se])), (sh, .inr (1, [.ref sg, .ref sd, .int (iI (nO)), .ref sl, .ref su, .int (iI (nH)), .ref ss, .int (iI (nS)), .int (iI (nW)), .int (iI (nF))])), (cp, fw_r kR 4 (fw_4 y0 y1 y2 y3)), (kp, fw_z kZ 4 (kf)), (pl, .inr (0, [.ref plu, .ref plm, .ref plo])), (plu, fw_a kI 6 (au)), (plm, fw_a kI 6 (am)), (plo, fw_a kI 6 (ao)), (y0, .inr (0, [.ref y0u, .ref y0m, .ref y0o])), (y0u, fw_a kI 6 (cu 0)), (y0m, fw_a kI 6 (cm 0)), (y0o, fw_a kI 6 (co 0)), (y1, .inr (0, [.ref y1u, .ref y1m, .ref y1o])), (y1u, fw_a kI 6 (cu 1)), (y1m, fw_a kI 6 (cm 1)), (y1o, fw_a kI 6 (co 1)), (y2, .inr (0, [.ref y2u, .ref y2m, .ref y2o])), (y2u, fw_a kI 6 (cu 2)), (y2m, fw_a kI 6 (cm 2)), (y2o, fw_a kI 6 (co 2)), (y3, .inr (0, [.ref y3u, .ref y3m, .ref y3o])), (y3u, fw_a kI 6 (cu 3)), (y3m, fw_a kI 6 (cm 3)), (y3o, fw_a kI 6 (co 3))] (fun E => (E = "java/lang/IndexOutOfBoundsException" ∧ k_use (1 : Int) kf = 1) ∨ (E = "java/lang/IllegalStateException" ∧ k_use (1 : Int) kf = 2)) A) ([.ref fc, .int (iI ((1 : Int)))] : List Value).toArray s 1 6 A) (F0 m 40 ls []) := by
          intro n
          induction n with
          | zero => intro i z2 z3 ls hms; exact absurd hms (Nat.not_lt_zero _)
          | succ n ih =>
            intro i z2 z3 ls hms hz hi hs hl
            refine lv_iload_n hx hb d_F_compare_40 rfl (lv_at hl 1 rfl) ?_
            refine lv_aload_n hx hb d_F_compare_41 rfl (lv_at hl 2 rfl) ?_
            refine va_get (D := (dC, dI)) (ci := 3) (v := .ref sh) (C := R_F) (T := T_F) (N := 7) hx hb hts in_F hown hK hP 0 rfl rfl 0 (by decide) (hts _ kw_153) (fun _ h9 => h9) rfl d_F_compare_42 ?_
            refine va_get (D := (dC, dI)) (ci := 1) (v := .int (iI (nH))) (C := R_S) (T := T_S) (N := 10) hx hb hts in_S hown hK hP 1 rfl rfl 5 (by decide) (hts _ kw_40) (fun _ h9 => h9) rfl d_F_compare_45 ?_
            refine fw_icmp_ge (tgt := 77) hx hb d_F_compare_48 (by decide) ⟨by omega, by omega⟩ ⟨by omega, by omega⟩ (fun c_5 => ?_) (fun c_5 => ?_)
            · refine lv_iload_n hx hb d_F_compare_77 rfl (lv_at hl 0 rfl) ?_
              refine W.widen (k := 1) (n := 6) (Nat.zero_le _) (Nat.zero_le _) ?_
              refine vx_ret ?_
              refine fw_iret hx hb hr hlocks hS ?_ ?_ d_F_compare_78
              · exact ⟨by simp [k_use, c_1, c_2, c_5, hk9], hP⟩
              · have e1 : nH.toNat = i := by omega
                rw [e1, hs]
            · obtain ⟨p1, p2, p3, p4, p5, p6, p7⟩ := hpl i (by omega)
              have q1 := hi2 i (by omega)
              have r1 := hcp 1 hk9 i (by omega)
              have q3 : z3.toNat = i := by omega
              refine lv_aload_n hx hb d_F_compare_51 rfl (lv_at hl 2 rfl) ?_
              refine va_get (D := (dC, dI)) (ci := 3) (v := .ref pl) (C := R_F) (T := T_F) (N := 7) hx hb hts in_F hown hK hP 0 rfl rfl 1 (by decide) (hts _ kw_154) (fun _ h9 => h9) rfl d_F_compare_52 ?_
              refine lv_aload_n hx hb d_F_compare_55 rfl (lv_at hl 2 rfl) ?_
              refine va_get (D := (dC, dI)) (ci := 3) (v := .ref cp) (C := R_F) (T := T_F) (N := 7) hx hb hts in_F hown hK hP 0 rfl rfl 4 (by decide) (hts _ kw_157) (fun _ h9 => h9) rfl d_F_compare_56 ?_
              refine lv_iload_n hx hb d_F_compare_59 rfl (lv_at hl 3 rfl) ?_
              refine fw_aldq hx hb hK hP 2 0 rfl rfl (1) (by omega) (by omega) (by omega) d_F_compare_60 ?_
              refine fw_cast (show ((va_rf ((fw_4 y0 y1 y2 y3) 1)) : Value) = .ref y1 from rfl) ?_
              refine lv_iload_n hx hb d_F_compare_61 rfl (lv_at hl 1 rfl) ?_
              refine fw_callR (va_runV (As := [.ref y1, .int (iI (z3))]) (rest := []) ⟨hx, hb, hml, hown, hts⟩ (c_P_isSameIn l dC dI pl plu plm plo au am ao y1 y1u y1m y1o (cu 1) (cm 1) (co 1) kI z3 (by omega) (by omega) (by rw [q3]; omega) (by rw [q3]; omega) (by rw [q3]; omega) (by rw [q3]; omega) (by rw [q3]; omega) (by rw [q3]; omega)) (cwV 2 hts (gw_V kw_549 kw_550 kw_551 kw_3 kw_552) rfl rfl rfl (by decide +kernel) ⟨Nat.le_of_ble_eq_true rfl, Nat.le_of_ble_eq_true rfl⟩) (fw_preRV (ci := 0) (q0 := 4) hP hK hN [4, 5, 6, 7, 12, 13, 14, 15] [2] rfl rfl rfl rfl) rfl rfl hl.1 rfl (lv_room (Nat.le_of_ble_eq_true rfl)) d_F_compare_62 ⟨Nat.le_of_ble_eq_true rfl, Nat.le_of_ble_eq_true rfl⟩).run ?_
              refine fw_bif_ne (tgt := 71) hx hb d_F_compare_65 (by decide) (fun c_6 => ?_) (fun c_6 => ?_)
              · refine lv_iinc (v := iI (z3 + 1)) (lv' := [(3, .int (iI (z3 + 1))), (2, .int (iI (z2))), (0, .ref fc), (1, .int (iI ((1 : Int))))]) hx hb d_F_compare_71 hl (k := 1) rfl (by rw [show Int32.ofInt 1 = iI 1 from rfl, iI_add]) (by decide) rfl (fun ls hl => ?_)
                refine lv_goto (tgt := 40) hx hb d_F_compare_74 (by decide) ?_
                exact ih (i + 1) z2 (z3 + 1) ls (by omega) (by omega) (by omega) (by subst hz; rw [hs]; show _ = fc_sum _ i + fc_cmp au am ao (cu 1) (cm 1) (co 1) i; unfold fc_cmp; first | (rw [if_pos (show fc_same au am ao (cu 1) (cm 1) (co 1) i = true from c_6)]; omega) | (rw [if_neg (by rw [show fc_same au am ao (cu 1) (cm 1) (co 1) i = false from c_6]; decide)])) (lv_sub hl [1, 0, 2, 3] rfl)
              · refine lv_iinc (v := iI (z2 + 1)) (lv' := [(2, .int (iI (z2 + 1))), (3, .int (iI (z3))), (0, .ref fc), (1, .int (iI ((1 : Int))))]) hx hb d_F_compare_68 hl (k := 0) rfl (by rw [show Int32.ofInt 1 = iI 1 from rfl, iI_add]) (by decide) rfl (fun ls hl => ?_)
                refine lv_iinc (v := iI (z3 + 1)) (lv' := [(3, .int (iI (z3 + 1))), (2, .int (iI (z2 + 1))), (0, .ref fc), (1, .int (iI ((1 : Int))))]) hx hb d_F_compare_71 hl (k := 1) rfl (by rw [show Int32.ofInt 1 = iI 1 from rfl, iI_add]) (by decide) rfl (fun ls hl => ?_)
                refine lv_goto (tgt := 40) hx hb d_F_compare_74 (by decide) ?_
                exact ih (i + 1) (z2 + 1) (z3 + 1) ls (by omega) (by omega) (by omega) (by subst hz; rw [hs]; show _ = fc_sum _ i + fc_cmp au am ao (cu 1) (cm 1) (co 1) i; unfold fc_cmp; first | (rw [if_pos (show fc_same au am ao (cu 1) (cm 1) (co 1) i = true from c_6)]; omega) | (rw [if_neg (by rw [show fc_same au am ao (cu 1) (cm 1) (co 1) i = false from c_6]; decide)])) (lv_sub hl [1, 0, 2, 3] rfl)
        exact hlp_40 ((nH.toNat - 0) + 1) 0 0 0 ls (Nat.lt_succ_self _) rfl (by omega) rfl (lv_sub hl [1, 0, 2, 3] rfl)
      · refine lv_iconst (v := (iI (0))) hx hb d_F_compare_36 (by decide) ?_
        have hk9 : kf 2 = true := c_2
        refine lv_istore_n (lv' := [(2, .int (iI (0))), (0, .ref fc), (1, .int (iI ((2 : Int))))]) hx hb d_F_compare_37 rfl hl (by decide) rfl (fun ls hl => ?_)
        refine lv_iconst (v := (iI (0))) hx hb d_F_compare_38 (by decide) ?_
        refine lv_istore_n (lv' := [(3, .int (iI (0))), (2, .int (iI (0))), (0, .ref fc), (1, .int (iI ((2 : Int))))]) hx hb d_F_compare_39 rfl hl (by decide) rfl (fun ls hl => ?_)
        have hlp_40 : ∀ (n : Nat) (i : Nat) (z2 : Int) (z3 : Int) (ls : Array Slot), (nH.toNat - i) < n → (z3 = (i : Int)) → ((i : Int) ≤ nH) → (z2 = fc_sum (fc_cmp au am ao (cu (2 : Int).toNat) (cm (2 : Int).toNat) (co (2 : Int).toNat)) i) → lv_has ls 4 [(2, .int (iI (z2))), (3, .int (iI (z3))), (0, .ref fc), (1, .int (iI ((2 : Int))))] → W p l e ({ frames := 6, locals := 90, cells := 1, slots := 6 }) s m ([.ref fc, .int (iI ((2 : Int)))] : List Value).toArray below meth c s.heap [] 0 0 (vx_MQ below (fw_Qi (iI (fc_sum (fc_cmp au am ao (cu (2 : Int).toNat) (cm (2 : Int).toNat) (co (2 : Int).toNat)) nH.toNat)) (fun H => (k_use (2 : Int) kf = 0) ∧ va_P (dC, dI) cls_ [(fc, .inr (3, [.ref sh, .ref pl, .ref be, .int (bI (ud)), .ref cp, .ref kp, .ref se])), (sh, .inr (1, [.ref sg, .ref sd, .int (iI (nO)), .ref sl, .ref su, .int (iI (nH)), .ref ss, .int (iI (nS)), .int (iI (nW)), .int (iI (nF))])), (cp, fw_r kR 4 (fw_4 y0 y1 y2 y3)), (kp, fw_z kZ 4 (kf)), (pl, .inr (0, [.ref plu, .ref plm, .ref plo])), (plu, fw_a kI 6 (au)), (plm, fw_a kI 6 (am)), (plo, fw_a kI 6 (ao)), (y0, .inr (0, [.ref y0u, .ref y0m, .ref y0o])), (y0u, fw_a kI 6 (cu 0)), (y0m, fw_a kI 6 (cm 0)), (y0o, fw_a kI 6 (co 0)), (y1, .inr (0, [.ref y1u, .ref y1m, .ref y1o])), (y1u, fw_a kI 6 (cu 1)), (y1m, fw_a kI 6 (cm 1)), (y1o, fw_a kI 6 (co 1)), (y2, .inr (0, [.ref y2u, .ref y2m, .ref y2o])), (y2u, fw_a kI 6 (cu 2)), (y2m, fw_a kI 6 (cm 2)), (y2o, fw_a kI 6 (co 2)), (y3, .inr (0, [.ref y3u, .ref y3m, .ref y3o])), (y3u, fw_a kI 6 (cu 3)), (y3m, fw_a kI 6 (cm 3)), (y3o, fw_a kI 6 (co 3))] H) A) (fw_XC (dC, dI) [(fc, .inr (3, [.ref sh, .ref pl, .ref be, .int (bI (ud)), .ref cp, .ref kp, .ref se])), (sh, .inr (1, [.ref sg, .ref sd, .int (iI (nO)), .ref sl, .ref su, .int (iI (nH)), .ref ss, .int (iI (nS)), .int (iI (nW)), .int (iI (nF))])), (cp, fw_r kR 4 (fw_4 y0 y1 y2 y3)), (kp, fw_z kZ 4 (kf)), (pl, .inr (0, [.ref plu, .ref plm, .ref plo])), (plu, fw_a kI 6 (au)), (plm, fw_a kI 6 (am)), (plo, fw_a kI 6 (ao)), (y0, .inr (0, [.ref y0u, .ref y0m, .ref y0o])), (y0u, fw_a kI 6 (cu 0)), (y0m, fw_a kI 6 (cm 0)), (y0o, fw_a kI 6 (co 0)), (y1, .inr (0, [.ref y1u, .ref y1m, .ref y1o])), (y1u, fw_a kI 6 (cu 1)), (y1m, fw_a kI 6 (cm 1)), (y1o, fw_a kI 6 (co 1)), (y2, .inr (0, [.ref y2u, .ref y2m, .ref y2o])), (y2u, fw_a kI 6 (cu 2)), (y2m, fw_a kI 6 (cm 2)), (y2o, fw_a kI 6 (co 2)), (y3, .inr (0, [.ref y3u, .ref y3m, .ref y3o])), (y3u, fw_a kI 6 (cu 3)), (y3m, fw_a kI 6 (cm 3)), (y3o, fw_a kI 6 (co 3))] (fun E => (E = "java/lang/IndexOutOfBoundsException" ∧ k_use (2 : Int) kf = 1) ∨ (E = "java/lang/IllegalStateException" ∧ k_use (2 : Int) kf = 2)) A) ([.ref fc, .int (iI ((2 : Int)))] : List Value).toArray s 1 6 A) (F0 m 40 ls []) := by
          intro n
          induction n with
          | zero => intro i z2 z3 ls hms; exact absurd hms (Nat.not_lt_zero _)
          | succ n ih =>
            intro i z2 z3 ls hms hz hi hs hl
            refine lv_iload_n hx hb d_F_compare_40 rfl (lv_at hl 1 rfl) ?_
            refine lv_aload_n hx hb d_F_compare_41 rfl (lv_at hl 2 rfl) ?_
            refine va_get (D := (dC, dI)) (ci := 3) (v := .ref sh) (C := R_F) (T := T_F) (N := 7) hx hb hts in_F hown hK hP 0 rfl rfl 0 (by decide) (hts _ kw_153) (fun _ h9 => h9) rfl d_F_compare_42 ?_
            refine va_get (D := (dC, dI)) (ci := 1) (v := .int (iI (nH))) (C := R_S) (T := T_S) (N := 10) hx hb hts in_S hown hK hP 1 rfl rfl 5 (by decide) (hts _ kw_40) (fun _ h9 => h9) rfl d_F_compare_45 ?_
            refine fw_icmp_ge (tgt := 77) hx hb d_F_compare_48 (by decide) ⟨by omega, by omega⟩ ⟨by omega, by omega⟩ (fun c_7 => ?_) (fun c_7 => ?_)
            · refine lv_iload_n hx hb d_F_compare_77 rfl (lv_at hl 0 rfl) ?_
              refine W.widen (k := 1) (n := 6) (Nat.zero_le _) (Nat.zero_le _) ?_
              refine vx_ret ?_
              refine fw_iret hx hb hr hlocks hS ?_ ?_ d_F_compare_78
              · exact ⟨by simp [k_use, c_1, c_2, c_7, hk9], hP⟩
              · have e1 : nH.toNat = i := by omega
                rw [e1, hs]
            · obtain ⟨p1, p2, p3, p4, p5, p6, p7⟩ := hpl i (by omega)
              have q1 := hi2 i (by omega)
              have r1 := hcp 2 hk9 i (by omega)
              have q3 : z3.toNat = i := by omega
              refine lv_aload_n hx hb d_F_compare_51 rfl (lv_at hl 2 rfl) ?_
              refine va_get (D := (dC, dI)) (ci := 3) (v := .ref pl) (C := R_F) (T := T_F) (N := 7) hx hb hts in_F hown hK hP 0 rfl rfl 1 (by decide) (hts _ kw_154) (fun _ h9 => h9) rfl d_F_compare_52 ?_
              refine lv_aload_n hx hb d_F_compare_55 rfl (lv_at hl 2 rfl) ?_
              refine va_get (D := (dC, dI)) (ci := 3) (v := .ref cp) (C := R_F) (T := T_F) (N := 7) hx hb hts in_F hown hK hP 0 rfl rfl 4 (by decide) (hts _ kw_157) (fun _ h9 => h9) rfl d_F_compare_56 ?_
              refine lv_iload_n hx hb d_F_compare_59 rfl (lv_at hl 3 rfl) ?_
              refine fw_aldq hx hb hK hP 2 0 rfl rfl (2) (by omega) (by omega) (by omega) d_F_compare_60 ?_
              refine fw_cast (show ((va_rf ((fw_4 y0 y1 y2 y3) 2)) : Value) = .ref y2 from rfl) ?_
              refine lv_iload_n hx hb d_F_compare_61 rfl (lv_at hl 1 rfl) ?_
              refine fw_callR (va_runV (As := [.ref y2, .int (iI (z3))]) (rest := []) ⟨hx, hb, hml, hown, hts⟩ (c_P_isSameIn l dC dI pl plu plm plo au am ao y2 y2u y2m y2o (cu 2) (cm 2) (co 2) kI z3 (by omega) (by omega) (by rw [q3]; omega) (by rw [q3]; omega) (by rw [q3]; omega) (by rw [q3]; omega) (by rw [q3]; omega) (by rw [q3]; omega)) (cwV 2 hts (gw_V kw_549 kw_550 kw_551 kw_3 kw_552) rfl rfl rfl (by decide +kernel) ⟨Nat.le_of_ble_eq_true rfl, Nat.le_of_ble_eq_true rfl⟩) (fw_preRV (ci := 0) (q0 := 4) hP hK hN [4, 5, 6, 7, 16, 17, 18, 19] [2] rfl rfl rfl rfl) rfl rfl hl.1 rfl (lv_room (Nat.le_of_ble_eq_true rfl)) d_F_compare_62 ⟨Nat.le_of_ble_eq_true rfl, Nat.le_of_ble_eq_true rfl⟩).run ?_
              refine fw_bif_ne (tgt := 71) hx hb d_F_compare_65 (by decide) (fun c_8 => ?_) (fun c_8 => ?_)
              · refine lv_iinc (v := iI (z3 + 1)) (lv' := [(3, .int (iI (z3 + 1))), (2, .int (iI (z2))), (0, .ref fc), (1, .int (iI ((2 : Int))))]) hx hb d_F_compare_71 hl (k := 1) rfl (by rw [show Int32.ofInt 1 = iI 1 from rfl, iI_add]) (by decide) rfl (fun ls hl => ?_)
                refine lv_goto (tgt := 40) hx hb d_F_compare_74 (by decide) ?_
                exact ih (i + 1) z2 (z3 + 1) ls (by omega) (by omega) (by omega) (by subst hz; rw [hs]; show _ = fc_sum _ i + fc_cmp au am ao (cu 2) (cm 2) (co 2) i; unfold fc_cmp; first | (rw [if_pos (show fc_same au am ao (cu 2) (cm 2) (co 2) i = true from c_8)]; omega) | (rw [if_neg (by rw [show fc_same au am ao (cu 2) (cm 2) (co 2) i = false from c_8]; decide)])) (lv_sub hl [1, 0, 2, 3] rfl)
              · refine lv_iinc (v := iI (z2 + 1)) (lv' := [(2, .int (iI (z2 + 1))), (3, .int (iI (z3))), (0, .ref fc), (1, .int (iI ((2 : Int))))]) hx hb d_F_compare_68 hl (k := 0) rfl (by rw [show Int32.ofInt 1 = iI 1 from rfl, iI_add]) (by decide) rfl (fun ls hl => ?_)
                refine lv_iinc (v := iI (z3 + 1)) (lv' := [(3, .int (iI (z3 + 1))), (2, .int (iI (z2 + 1))), (0, .ref fc), (1, .int (iI ((2 : Int))))]) hx hb d_F_compare_71 hl (k := 1) rfl (by rw [show Int32.ofInt 1 = iI 1 from rfl, iI_add]) (by decide) rfl (fun ls hl => ?_)
                refine lv_goto (tgt := 40) hx hb d_F_compare_74 (by decide) ?_
                exact ih (i + 1) (z2 + 1) (z3 + 1) ls (by omega) (by omega) (by omega) (by subst hz; rw [hs]; show _ = fc_sum _ i + fc_cmp au am ao (cu 2) (cm 2) (co 2) i; unfold fc_cmp; first | (rw [if_pos (show fc_same au am ao (cu 2) (cm 2) (co 2) i = true from c_8)]; omega) | (rw [if_neg (by rw [show fc_same au am ao (cu 2) (cm 2) (co 2) i = false from c_8]; decide)])) (lv_sub hl [1, 0, 2, 3] rfl)
        exact hlp_40 ((nH.toNat - 0) + 1) 0 0 0 ls (Nat.lt_succ_self _) rfl (by omega) rfl (lv_sub hl [1, 0, 2, 3] rfl)
      · refine lv_iconst (v := (iI (0))) hx hb d_F_compare_36 (by decide) ?_
        have hk9 : kf 3 = true := c_2
        refine lv_istore_n (lv' := [(2, .int (iI (0))), (0, .ref fc), (1, .int (iI ((3 : Int))))]) hx hb d_F_compare_37 rfl hl (by decide) rfl (fun ls hl => ?_)
        refine lv_iconst (v := (iI (0))) hx hb d_F_compare_38 (by decide) ?_
        refine lv_istore_n (lv' := [(3, .int (iI (0))), (2, .int (iI (0))), (0, .ref fc), (1, .int (iI ((3 : Int))))]) hx hb d_F_compare_39 rfl hl (by decide) rfl (fun ls hl => ?_)
        have hlp_40 : ∀ (n : Nat) (i : Nat) (z2 : Int) (z3 : Int) (ls : Array Slot), (nH.toNat - i) < n → (z3 = (i : Int)) → ((i : Int) ≤ nH) → (z2 = fc_sum (fc_cmp au am ao (cu (3 : Int).toNat) (cm (3 : Int).toNat) (co (3 : Int).toNat)) i) → lv_has ls 4 [(2, .int (iI (z2))), (3, .int (iI (z3))), (0, .ref fc), (1, .int (iI ((3 : Int))))] → W p l e ({ frames := 6, locals := 90, cells := 1, slots := 6 }) s m ([.ref fc, .int (iI ((3 : Int)))] : List Value).toArray below meth c s.heap [] 0 0 (vx_MQ below (fw_Qi (iI (fc_sum (fc_cmp au am ao (cu (3 : Int).toNat) (cm (3 : Int).toNat) (co (3 : Int).toNat)) nH.toNat)) (fun H => (k_use (3 : Int) kf = 0) ∧ va_P (dC, dI) cls_ [(fc, .inr (3, [.ref sh, .ref pl, .ref be, .int (bI (ud)), .ref cp, .ref kp, .ref se])), (sh, .inr (1, [.ref sg, .ref sd, .int (iI (nO)), .ref sl, .ref su, .int (iI (nH)), .ref ss, .int (iI (nS)), .int (iI (nW)), .int (iI (nF))])), (cp, fw_r kR 4 (fw_4 y0 y1 y2 y3)), (kp, fw_z kZ 4 (kf)), (pl, .inr (0, [.ref plu, .ref plm, .ref plo])), (plu, fw_a kI 6 (au)), (plm, fw_a kI 6 (am)), (plo, fw_a kI 6 (ao)), (y0, .inr (0, [.ref y0u, .ref y0m, .ref y0o])), (y0u, fw_a kI 6 (cu 0)), (y0m, fw_a kI 6 (cm 0)), (y0o, fw_a kI 6 (co 0)), (y1, .inr (0, [.ref y1u, .ref y1m, .ref y1o])), (y1u, fw_a kI 6 (cu 1)), (y1m, fw_a kI 6 (cm 1)), (y1o, fw_a kI 6 (co 1)), (y2, .inr (0, [.ref y2u, .ref y2m, .ref y2o])), (y2u, fw_a kI 6 (cu 2)), (y2m, fw_a kI 6 (cm 2)), (y2o, fw_a kI 6 (co 2)), (y3, .inr (0, [.ref y3u, .ref y3m, .ref y3o])), (y3u, fw_a kI 6 (cu 3)), (y3m, fw_a kI 6 (cm 3)), (y3o, fw_a kI 6 (co 3))] H) A) (fw_XC (dC, dI) [(fc, .inr (3, [.ref sh, .ref pl, .ref be, .int (bI (ud)), .ref cp, .ref kp, .ref se])), (sh, .inr (1, [.ref sg, .ref sd, .int (iI (nO)), .ref sl, .ref su, .int (iI (nH)), .ref ss, .int (iI (nS)), .int (iI (nW)), .int (iI (nF))])), (cp, fw_r kR 4 (fw_4 y0 y1 y2 y3)), (kp, fw_z kZ 4 (kf)), (pl, .inr (0, [.ref plu, .ref plm, .ref plo])), (plu, fw_a kI 6 (au)), (plm, fw_a kI 6 (am)), (plo, fw_a kI 6 (ao)), (y0, .inr (0, [.ref y0u, .ref y0m, .ref y0o])), (y0u, fw_a kI 6 (cu 0)), (y0m, fw_a kI 6 (cm 0)), (y0o, fw_a kI 6 (co 0)), (y1, .inr (0, [.ref y1u, .ref y1m, .ref y1o])), (y1u, fw_a kI 6 (cu 1)), (y1m, fw_a kI 6 (cm 1)), (y1o, fw_a kI 6 (co 1)), (y2, .inr (0, [.ref y2u, .ref y2m, .ref y2o])), (y2u, fw_a kI 6 (cu 2)), (y2m, fw_a kI 6 (cm 2)), (y2o, fw_a kI 6 (co 2)), (y3, .inr (0, [.ref y3u, .ref y3m, .ref y3o])), (y3u, fw_a kI 6 (cu 3)), (y3m, fw_a kI 6 (cm 3)), (y3o, fw_a kI 6 (co 3))] (fun E => (E = "java/lang/IndexOutOfBoundsException" ∧ k_use (3 : Int) kf = 1) ∨ (E = "java/lang/IllegalStateException" ∧ k_use (3 : Int) kf = 2)) A) ([.ref fc, .int (iI ((3 : Int)))] : List Value).toArray s 1 6 A) (F0 m 40 ls []) := by
          intro n
          induction n with
          | zero => intro i z2 z3 ls hms; exact absurd hms (Nat.not_lt_zero _)
          | succ n ih =>
            intro i z2 z3 ls hms hz hi hs hl
            refine lv_iload_n hx hb d_F_compare_40 rfl (lv_at hl 1 rfl) ?_
            refine lv_aload_n hx hb d_F_compare_41 rfl (lv_at hl 2 rfl) ?_
            refine va_get (D := (dC, dI)) (ci := 3) (v := .ref sh) (C := R_F) (T := T_F) (N := 7) hx hb hts in_F hown hK hP 0 rfl rfl 0 (by decide) (hts _ kw_153) (fun _ h9 => h9) rfl d_F_compare_42 ?_
            refine va_get (D := (dC, dI)) (ci := 1) (v := .int (iI (nH))) (C := R_S) (T := T_S) (N := 10) hx hb hts in_S hown hK hP 1 rfl rfl 5 (by decide) (hts _ kw_40) (fun _ h9 => h9) rfl d_F_compare_45 ?_
            refine fw_icmp_ge (tgt := 77) hx hb d_F_compare_48 (by decide) ⟨by omega, by omega⟩ ⟨by omega, by omega⟩ (fun c_9 => ?_) (fun c_9 => ?_)
            · refine lv_iload_n hx hb d_F_compare_77 rfl (lv_at hl 0 rfl) ?_
              refine W.widen (k := 1) (n := 6) (Nat.zero_le _) (Nat.zero_le _) ?_
              refine vx_ret ?_
              refine fw_iret hx hb hr hlocks hS ?_ ?_ d_F_compare_78
              · exact ⟨by simp [k_use, c_1, c_2, c_9, hk9], hP⟩
              · have e1 : nH.toNat = i := by omega
                rw [e1, hs]
            · obtain ⟨p1, p2, p3, p4, p5, p6, p7⟩ := hpl i (by omega)
              have q1 := hi2 i (by omega)
              have r1 := hcp 3 hk9 i (by omega)
              have q3 : z3.toNat = i := by omega
              refine lv_aload_n hx hb d_F_compare_51 rfl (lv_at hl 2 rfl) ?_
              refine va_get (D := (dC, dI)) (ci := 3) (v := .ref pl) (C := R_F) (T := T_F) (N := 7) hx hb hts in_F hown hK hP 0 rfl rfl 1 (by decide) (hts _ kw_154) (fun _ h9 => h9) rfl d_F_compare_52 ?_
              refine lv_aload_n hx hb d_F_compare_55 rfl (lv_at hl 2 rfl) ?_
              refine va_get (D := (dC, dI)) (ci := 3) (v := .ref cp) (C := R_F) (T := T_F) (N := 7) hx hb hts in_F hown hK hP 0 rfl rfl 4 (by decide) (hts _ kw_157) (fun _ h9 => h9) rfl d_F_compare_56 ?_
              refine lv_iload_n hx hb d_F_compare_59 rfl (lv_at hl 3 rfl) ?_
              refine fw_aldq hx hb hK hP 2 0 rfl rfl (3) (by omega) (by omega) (by omega) d_F_compare_60 ?_
              refine fw_cast (show ((va_rf ((fw_4 y0 y1 y2 y3) 3)) : Value) = .ref y3 from rfl) ?_
              refine lv_iload_n hx hb d_F_compare_61 rfl (lv_at hl 1 rfl) ?_
              refine fw_callR (va_runV (As := [.ref y3, .int (iI (z3))]) (rest := []) ⟨hx, hb, hml, hown, hts⟩ (c_P_isSameIn l dC dI pl plu plm plo au am ao y3 y3u y3m y3o (cu 3) (cm 3) (co 3) kI z3 (by omega) (by omega) (by rw [q3]; omega) (by rw [q3]; omega) (by rw [q3]; omega) (by rw [q3]; omega) (by rw [q3]; omega) (by rw [q3]; omega)) (cwV 2 hts (gw_V kw_549 kw_550 kw_551 kw_3 kw_552) rfl rfl rfl (by decide +kernel) ⟨Nat.le_of_ble_eq_true rfl, Nat.le_of_ble_eq_true rfl⟩) (fw_preRV (ci := 0) (q0 := 4) hP hK hN [4, 5, 6, 7, 20, 21, 22, 23] [2] rfl rfl rfl rfl) rfl rfl hl.1 rfl (lv_room (Nat.le_of_ble_eq_true rfl)) d_F_compare_62 ⟨Nat.le_of_ble_eq_true rfl, Nat.le_of_ble_eq_true rfl⟩).run ?_
              refine fw_bif_ne (tgt := 71) hx hb d_F_compare_65 (by decide) (fun c_10 => ?_) (fun c_10 => ?_)
              · refine lv_iinc (v := iI (z3 + 1)) (lv' := [(3, .int (iI (z3 + 1))), (2, .int (iI (z2))), (0, .ref fc), (1, .int (iI ((3 : Int))))]) hx hb d_F_compare_71 hl (k := 1) rfl (by rw [show Int32.ofInt 1 = iI 1 from rfl, iI_add]) (by decide) rfl (fun ls hl => ?_)
                refine lv_goto (tgt := 40) hx hb d_F_compare_74 (by decide) ?_
                exact ih (i + 1) z2 (z3 + 1) ls (by omega) (by omega) (by omega) (by subst hz; rw [hs]; show _ = fc_sum _ i + fc_cmp au am ao (cu 3) (cm 3) (co 3) i; unfold fc_cmp; first | (rw [if_pos (show fc_same au am ao (cu 3) (cm 3) (co 3) i = true from c_10)]; omega) | (rw [if_neg (by rw [show fc_same au am ao (cu 3) (cm 3) (co 3) i = false from c_10]; decide)])) (lv_sub hl [1, 0, 2, 3] rfl)
              · refine lv_iinc (v := iI (z2 + 1)) (lv' := [(2, .int (iI (z2 + 1))), (3, .int (iI (z3))), (0, .ref fc), (1, .int (iI ((3 : Int))))]) hx hb d_F_compare_68 hl (k := 0) rfl (by rw [show Int32.ofInt 1 = iI 1 from rfl, iI_add]) (by decide) rfl (fun ls hl => ?_)
                refine lv_iinc (v := iI (z3 + 1)) (lv' := [(3, .int (iI (z3 + 1))), (2, .int (iI (z2 + 1))), (0, .ref fc), (1, .int (iI ((3 : Int))))]) hx hb d_F_compare_71 hl (k := 1) rfl (by rw [show Int32.ofInt 1 = iI 1 from rfl, iI_add]) (by decide) rfl (fun ls hl => ?_)
                refine lv_goto (tgt := 40) hx hb d_F_compare_74 (by decide) ?_
                exact ih (i + 1) (z2 + 1) (z3 + 1) ls (by omega) (by omega) (by omega) (by subst hz; rw [hs]; show _ = fc_sum _ i + fc_cmp au am ao (cu 3) (cm 3) (co 3) i; unfold fc_cmp; first | (rw [if_pos (show fc_same au am ao (cu 3) (cm 3) (co 3) i = true from c_10)]; omega) | (rw [if_neg (by rw [show fc_same au am ao (cu 3) (cm 3) (co 3) i = false from c_10]; decide)])) (lv_sub hl [1, 0, 2, 3] rfl)
        exact hlp_40 ((nH.toNat - 0) + 1) 0 0 0 ls (Nat.lt_succ_self _) rfl (by omega) rfl (lv_sub hl [1, 0, 2, 3] rfl)
    · exact fw_throw hx hb hlt hown hts hN hX (List.mem_of_getElem? (i := 21) rfl) fw_E1 hP0 (hl.1.trans hml.symm) d_F_compare_26 d_F_compare_29 d_F_compare_30 d_F_compare_32 d_F_compare_35 htb (Nat.le_of_ble_eq_true rfl) (Nat.le_of_ble_eq_true rfl) (Nat.le_of_ble_eq_true rfl) (Nat.le_of_ble_eq_true rfl) hlocks (Or.inr ⟨rfl, by simp [k_use, c_1, c_2]⟩)
  · exact fw_throw hx hb hlt hown hts hN hX (List.mem_of_getElem? (i := 20) rfl) fw_E3 hP0 (hl.1.trans hml.symm) d_F_compare_7 d_F_compare_10 d_F_compare_11 d_F_compare_13 d_F_compare_16 htb (Nat.le_of_ble_eq_true rfl) (Nat.le_of_ble_eq_true rfl) (Nat.le_of_ble_eq_true rfl) (Nat.le_of_ble_eq_true rfl) hlocks (Or.inl ⟨rfl, by simp [k_use, c_1]⟩)

set_option maxHeartbeats 4000000 in
set_option maxRecDepth 100000 in
theorem c_F_use (l : Launch) (hlt : l.stackTraces = false) (dC : Nat → ClassId) (dI : Nat → Nat → Nat) (sz : Nat) (fc : Nat) (pl : Nat) (be : Nat) (ud : Bool) (cp : Nat) (kp : Nat) (se : Nat) (sh : Nat) (plu : Nat) (plm : Nat) (plo : Nat) (au : Nat → Int) (am : Nat → Int) (ao : Nat → Int) (beu : Nat) (bem : Nat) (beo : Nat) (eu : Nat → Int) (em : Nat → Int) (eo : Nat → Int) (kI : ClassId) (kR : ClassId) (kZ : ClassId) (kf : Nat → Bool) (cu : Nat → Nat → Int) (cm : Nat → Nat → Int) (co : Nat → Nat → Int) (y0 : Nat) (y0u : Nat) (y0m : Nat) (y0o : Nat) (y1 : Nat) (y1u : Nat) (y1m : Nat) (y1o : Nat) (y2 : Nat) (y2u : Nat) (y2m : Nat) (y2o : Nat) (y3 : Nat) (y3u : Nat) (y3m : Nat) (y3o : Nat) (z : Int) (hb_z : fw_b z) : vx_Met l y_F_use (Cond.code y_F_use b_F_use 2 none :: gw) ({ frames := 6, locals := 90, cells := 1, slots := 6 }) (fw_Px (dC, dI) [.ref fc, .int (iI (z))] [(fc, .inr (3, [.ref sh, .ref pl, .ref be, .int (bI (ud)), .ref cp, .ref kp, .ref se])), (cp, fw_r kR 4 (fw_4 y0 y1 y2 y3)), (kp, fw_z kZ 4 (kf)), (pl, .inr (0, [.ref plu, .ref plm, .ref plo])), (plu, fw_a kI 6 (au)), (plm, fw_a kI 6 (am)), (plo, fw_a kI 6 (ao)), (be, .inr (0, [.ref beu, .ref bem, .ref beo])), (beu, fw_a kI 6 (eu)), (bem, fw_a kI 6 (em)), (beo, fw_a kI 6 (eo)), (y0, .inr (0, [.ref y0u, .ref y0m, .ref y0o])), (y0u, fw_a kI 6 (cu 0)), (y0m, fw_a kI 6 (cm 0)), (y0o, fw_a kI 6 (co 0)), (y1, .inr (0, [.ref y1u, .ref y1m, .ref y1o])), (y1u, fw_a kI 6 (cu 1)), (y1m, fw_a kI 6 (cm 1)), (y1o, fw_a kI 6 (co 1)), (y2, .inr (0, [.ref y2u, .ref y2m, .ref y2o])), (y2u, fw_a kI 6 (cu 2)), (y2m, fw_a kI 6 (cm 2)), (y2o, fw_a kI 6 (co 2)), (y3, .inr (0, [.ref y3u, .ref y3m, .ref y3o])), (y3u, fw_a kI 6 (cu 3)), (y3m, fw_a kI 6 (cm 3)), (y3o, fw_a kI 6 (co 3))] [(kR, .object "FewChanges$Plan"), (kZ, .boolean), (kI, .int)] sz) (fw_Qv (fun H => (k_use z kf = 0) ∧ va_P (dC, dI) cls_ [(fc, .inr (3, [.ref sh, .ref pl, .ref be, .int (bI (true)), .ref cp, .ref kp, .ref se])), (cp, fw_r kR 4 (fw_4 y0 y1 y2 y3)), (kp, fw_z kZ 4 (kf)), (pl, .inr (0, [.ref plu, .ref plm, .ref plo])), (plu, fw_a kI 6 (cu z.toNat)), (plm, fw_a kI 6 (cm z.toNat)), (plo, fw_a kI 6 (co z.toNat)), (be, .inr (0, [.ref beu, .ref bem, .ref beo])), (beu, fw_a kI 6 (au)), (bem, fw_a kI 6 (am)), (beo, fw_a kI 6 (ao)), (y0, .inr (0, [.ref y0u, .ref y0m, .ref y0o])), (y0u, fw_a kI 6 (cu 0)), (y0m, fw_a kI 6 (cm 0)), (y0o, fw_a kI 6 (co 0)), (y1, .inr (0, [.ref y1u, .ref y1m, .ref y1o])), (y1u, fw_a kI 6 (cu 1)), (y1m, fw_a kI 6 (cm 1)), (y1o, fw_a kI 6 (co 1)), (y2, .inr (0, [.ref y2u, .ref y2m, .ref y2o])), (y2u, fw_a kI 6 (cu 2)), (y2m, fw_a kI 6 (cm 2)), (y2o, fw_a kI 6 (co 2)), (y3, .inr (0, [.ref y3u, .ref y3m, .ref y3o])), (y3u, fw_a kI 6 (cu 3)), (y3m, fw_a kI 6 (cm 3)), (y3o, fw_a kI 6 (co 3))] H) (va_A [(fc, .inr (3, [.ref sh, .ref pl, .ref be, .int (bI (ud)), .ref cp, .ref kp, .ref se])), (cp, fw_r kR 4 (fw_4 y0 y1 y2 y3)), (kp, fw_z kZ 4 (kf)), (pl, .inr (0, [.ref plu, .ref plm, .ref plo])), (plu, fw_a kI 6 (au)), (plm, fw_a kI 6 (am)), (plo, fw_a kI 6 (ao)), (be, .inr (0, [.ref beu, .ref bem, .ref beo])), (beu, fw_a kI 6 (eu)), (bem, fw_a kI 6 (em)), (beo, fw_a kI 6 (eo)), (y0, .inr (0, [.ref y0u, .ref y0m, .ref y0o])), (y0u, fw_a kI 6 (cu 0)), (y0m, fw_a kI 6 (cm 0)), (y0o, fw_a kI 6 (co 0)), (y1, .inr (0, [.ref y1u, .ref y1m, .ref y1o])), (y1u, fw_a kI 6 (cu 1)), (y1m, fw_a kI 6 (cm 1)), (y1o, fw_a kI 6 (co 1)), (y2, .inr (0, [.ref y2u, .ref y2m, .ref y2o])), (y2u, fw_a kI 6 (cu 2)), (y2m, fw_a kI 6 (cm 2)), (y2o, fw_a kI 6 (co 2)), (y3, .inr (0, [.ref y3u, .ref y3m, .ref y3o])), (y3u, fw_a kI 6 (cu 3)), (y3m, fw_a kI 6 (cm 3)), (y3o, fw_a kI 6 (co 3))] sz)) (fw_XC (dC, dI) [(fc, .inr (3, [.ref sh, .ref pl, .ref be, .int (bI (ud)), .ref cp, .ref kp, .ref se])), (cp, fw_r kR 4 (fw_4 y0 y1 y2 y3)), (kp, fw_z kZ 4 (kf)), (pl, .inr (0, [.ref plu, .ref plm, .ref plo])), (plu, fw_a kI 6 (au)), (plm, fw_a kI 6 (am)), (plo, fw_a kI 6 (ao)), (be, .inr (0, [.ref beu, .ref bem, .ref beo])), (beu, fw_a kI 6 (eu)), (bem, fw_a kI 6 (em)), (beo, fw_a kI 6 (eo)), (y0, .inr (0, [.ref y0u, .ref y0m, .ref y0o])), (y0u, fw_a kI 6 (cu 0)), (y0m, fw_a kI 6 (cm 0)), (y0o, fw_a kI 6 (co 0)), (y1, .inr (0, [.ref y1u, .ref y1m, .ref y1o])), (y1u, fw_a kI 6 (cu 1)), (y1m, fw_a kI 6 (cm 1)), (y1o, fw_a kI 6 (co 1)), (y2, .inr (0, [.ref y2u, .ref y2m, .ref y2o])), (y2u, fw_a kI 6 (cu 2)), (y2m, fw_a kI 6 (cm 2)), (y2o, fw_a kI 6 (co 2)), (y3, .inr (0, [.ref y3u, .ref y3m, .ref y3o])), (y3u, fw_a kI 6 (cu 3)), (y3m, fw_a kI 6 (cm 3)), (y3o, fw_a kI 6 (co 3))] (fun E => (E = "java/lang/IndexOutOfBoundsException" ∧ k_use z kf = 1) ∨ (E = "java/lang/IllegalStateException" ∧ k_use z kf = 2)) (va_A [(fc, .inr (3, [.ref sh, .ref pl, .ref be, .int (bI (ud)), .ref cp, .ref kp, .ref se])), (cp, fw_r kR 4 (fw_4 y0 y1 y2 y3)), (kp, fw_z kZ 4 (kf)), (pl, .inr (0, [.ref plu, .ref plm, .ref plo])), (plu, fw_a kI 6 (au)), (plm, fw_a kI 6 (am)), (plo, fw_a kI 6 (ao)), (be, .inr (0, [.ref beu, .ref bem, .ref beo])), (beu, fw_a kI 6 (eu)), (bem, fw_a kI 6 (em)), (beo, fw_a kI 6 (eo)), (y0, .inr (0, [.ref y0u, .ref y0m, .ref y0o])), (y0u, fw_a kI 6 (cu 0)), (y0m, fw_a kI 6 (cm 0)), (y0o, fw_a kI 6 (co 0)), (y1, .inr (0, [.ref y1u, .ref y1m, .ref y1o])), (y1u, fw_a kI 6 (cu 1)), (y1m, fw_a kI 6 (cm 1)), (y1o, fw_a kI 6 (co 1)), (y2, .inr (0, [.ref y2u, .ref y2m, .ref y2o])), (y2u, fw_a kI 6 (cu 2)), (y2m, fw_a kI 6 (cm 2)), (y2o, fw_a kI 6 (co 2)), (y3, .inr (0, [.ref y3u, .ref y3m, .ref y3o])), (y3u, fw_a kI 6 (cu 3)), (y3m, fw_a kI 6 (cm 3)), (y3o, fw_a kI 6 (co 3))] sz)) 1 6 (va_A [(fc, .inr (3, [.ref sh, .ref pl, .ref be, .int (bI (ud)), .ref cp, .ref kp, .ref se])), (cp, fw_r kR 4 (fw_4 y0 y1 y2 y3)), (kp, fw_z kZ 4 (kf)), (pl, .inr (0, [.ref plu, .ref plm, .ref plo])), (plu, fw_a kI 6 (au)), (plm, fw_a kI 6 (am)), (plo, fw_a kI 6 (ao)), (be, .inr (0, [.ref beu, .ref bem, .ref beo])), (beu, fw_a kI 6 (eu)), (bem, fw_a kI 6 (em)), (beo, fw_a kI 6 (eo)), (y0, .inr (0, [.ref y0u, .ref y0m, .ref y0o])), (y0u, fw_a kI 6 (cu 0)), (y0m, fw_a kI 6 (cm 0)), (y0o, fw_a kI 6 (co 0)), (y1, .inr (0, [.ref y1u, .ref y1m, .ref y1o])), (y1u, fw_a kI 6 (cu 1)), (y1m, fw_a kI 6 (cm 1)), (y1o, fw_a kI 6 (co 1)), (y2, .inr (0, [.ref y2u, .ref y2m, .ref y2o])), (y2u, fw_a kI 6 (cu 2)), (y2m, fw_a kI 6 (cm 2)), (y2o, fw_a kI 6 (co 2)), (y3, .inr (0, [.ref y3u, .ref y3m, .ref y3o])), (y3u, fw_a kI 6 (cu 3)), (y3m, fw_a kI 6 (cm 3)), (y3o, fw_a kI 6 (co 3))] sz) := by
  refine fw_ofX (Qc := fun A => fw_Qv (fun H => (k_use z kf = 0) ∧ va_P (dC, dI) cls_ [(fc, .inr (3, [.ref sh, .ref pl, .ref be, .int (bI (true)), .ref cp, .ref kp, .ref se])), (cp, fw_r kR 4 (fw_4 y0 y1 y2 y3)), (kp, fw_z kZ 4 (kf)), (pl, .inr (0, [.ref plu, .ref plm, .ref plo])), (plu, fw_a kI 6 (cu z.toNat)), (plm, fw_a kI 6 (cm z.toNat)), (plo, fw_a kI 6 (co z.toNat)), (be, .inr (0, [.ref beu, .ref bem, .ref beo])), (beu, fw_a kI 6 (au)), (bem, fw_a kI 6 (am)), (beo, fw_a kI 6 (ao)), (y0, .inr (0, [.ref y0u, .ref y0m, .ref y0o])), (y0u, fw_a kI 6 (cu 0)), (y0m, fw_a kI 6 (cm 0)), (y0o, fw_a kI 6 (co 0)), (y1, .inr (0, [.ref y1u, .ref y1m, .ref y1o])), (y1u, fw_a kI 6 (cu 1)), (y1m, fw_a kI 6 (cm 1)), (y1o, fw_a kI 6 (co 1)), (y2, .inr (0, [.ref y2u, .ref y2m, .ref y2o])), (y2u, fw_a kI 6 (cu 2)), (y2m, fw_a kI 6 (cm 2)), (y2o, fw_a kI 6 (co 2)), (y3, .inr (0, [.ref y3u, .ref y3m, .ref y3o])), (y3u, fw_a kI 6 (cu 3)), (y3m, fw_a kI 6 (cm 3)), (y3o, fw_a kI 6 (co 3))] H) A) (XC := fun A => fw_XC (dC, dI) [(fc, .inr (3, [.ref sh, .ref pl, .ref be, .int (bI (ud)), .ref cp, .ref kp, .ref se])), (cp, fw_r kR 4 (fw_4 y0 y1 y2 y3)), (kp, fw_z kZ 4 (kf)), (pl, .inr (0, [.ref plu, .ref plm, .ref plo])), (plu, fw_a kI 6 (au)), (plm, fw_a kI 6 (am)), (plo, fw_a kI 6 (ao)), (be, .inr (0, [.ref beu, .ref bem, .ref beo])), (beu, fw_a kI 6 (eu)), (bem, fw_a kI 6 (em)), (beo, fw_a kI 6 (eo)), (y0, .inr (0, [.ref y0u, .ref y0m, .ref y0o])), (y0u, fw_a kI 6 (cu 0)), (y0m, fw_a kI 6 (cm 0)), (y0o, fw_a kI 6 (co 0)), (y1, .inr (0, [.ref y1u, .ref y1m, .ref y1o])), (y1u, fw_a kI 6 (cu 1)), (y1m, fw_a kI 6 (cm 1)), (y1o, fw_a kI 6 (co 1)), (y2, .inr (0, [.ref y2u, .ref y2m, .ref y2o])), (y2u, fw_a kI 6 (cu 2)), (y2m, fw_a kI 6 (cm 2)), (y2o, fw_a kI 6 (co 2)), (y3, .inr (0, [.ref y3u, .ref y3m, .ref y3o])), (y3u, fw_a kI 6 (cu 3)), (y3m, fw_a kI 6 (cm 3)), (y3o, fw_a kI 6 (co 3))] (fun E => (E = "java/lang/IndexOutOfBoundsException" ∧ k_use z kf = 1) ∨ (E = "java/lang/IllegalStateException" ∧ k_use z kf = 2)) A) (by decide) (Nat.le_of_ble_eq_true rfl) ?_
  intro p e s m below meth c A ls hx hb hr hts hown hlocks htb hml hsz hP hK hD hN hX hA hS hl
  have hP0 := hP
  have hl : lv_has ls 2 [(0, .ref fc), (1, .int (iI (z)))] := hl
  refine lv_iload_n hx hb d_F_use_0 rfl (lv_at hl 1 rfl) ?_
  refine fw_callR (va_runS (As := [.int (iI (z))]) (rest := []) ⟨hx, hb, hml, hown, hts⟩ (c_F_isCopy l dC dI z ⟨by omega, by omega⟩) (cwS 1 hts (gw_S kw_537 kw_538 kw_1 kw_539) rfl rfl rfl (by decide +kernel) ⟨Nat.le_of_ble_eq_true rfl, Nat.le_of_ble_eq_true rfl⟩) (fw_preRS hP hK hN [] [] rfl rfl) rfl rfl hl.1 rfl (lv_room (Nat.le_of_ble_eq_true rfl)) d_F_use_1 ⟨Nat.le_of_ble_eq_true rfl, Nat.le_of_ble_eq_true rfl⟩).run ?_
  refine fw_bif_ne (tgt := 17) hx hb d_F_use_4 (by decide) (fun c_1 => ?_) (fun c_1 => ?_)
  · have hz9 := fc_in_t c_1
    refine lv_aload_n hx hb d_F_use_17 rfl (lv_at hl 0 rfl) ?_
    refine va_get (D := (dC, dI)) (ci := 3) (v := .ref kp) (C := R_F) (T := T_F) (N := 7) hx hb hts in_F hown hK hP 0 rfl rfl 5 (by decide) (hts _ kw_158) (fun _ h9 => h9) rfl d_F_use_18 ?_
    refine lv_iload_n hx hb d_F_use_21 rfl (lv_at hl 1 rfl) ?_
    refine fw_zald hx hb hK hP 2 1 rfl rfl ((z).toNat) (by omega) (by omega) (by omega) d_F_use_22 ?_
    refine fw_bif_ne (tgt := 36) hx hb d_F_use_23 (by decide) (fun c_2 => ?_) (fun c_2 => ?_)
    · rcases fc_in3 c_1 with rfl | rfl | rfl | rfl
      · refine lv_aload_n hx hb d_F_use_36 rfl (lv_at hl 0 rfl) ?_
        have hk9 : kf 0 = true := c_2
        refine fw_callvP [0, 3, 4, 5, 6, 7, 8, 9, 10] (va_runV (As := []) (rest := []) ⟨hx, hb, hml, hown, hts⟩ (c_F_rememberForUndo l dC dI _ fc pl be ud cp kp se plu plm plo au am ao beu bem beo eu em eo kI sh ) (cwV 0 hts (gw_V kw_417 kw_419 ks_F_rememberForUndo kw_1 kw_420) rfl rfl rfl (by decide +kernel) ⟨Nat.le_of_ble_eq_true rfl, Nat.le_of_ble_eq_true rfl⟩) (fw_preV (ci := 3) (q0 := 0) hP hK hD hN [0, 3, 4, 5, 6, 7, 8, 9, 10] [2] rfl rfl rfl rfl rfl) rfl rfl hl.1 rfl (lv_room (Nat.le_of_ble_eq_true rfl)) d_F_use_37 ⟨Nat.le_of_ble_eq_true rfl, Nat.le_of_ble_eq_true rfl⟩) hP hD hS hA rfl rfl rfl (fun H locs hP hD hS => ?_)
        have hP : va_P (dC, dI) cls_ [(fc, .inr (3, [.ref sh, .ref pl, .ref be, .int (bI (true)), .ref cp, .ref kp, .ref se])), (cp, fw_r kR 4 (fw_4 y0 y1 y2 y3)), (kp, fw_z kZ 4 (kf)), (pl, .inr (0, [.ref plu, .ref plm, .ref plo])), (plu, fw_a kI 6 (au)), (plm, fw_a kI 6 (am)), (plo, fw_a kI 6 (ao)), (be, .inr (0, [.ref beu, .ref bem, .ref beo])), (beu, fw_a kI 6 (au)), (bem, fw_a kI 6 (am)), (beo, fw_a kI 6 (ao)), (y0, .inr (0, [.ref y0u, .ref y0m, .ref y0o])), (y0u, fw_a kI 6 (cu 0)), (y0m, fw_a kI 6 (cm 0)), (y0o, fw_a kI 6 (co 0)), (y1, .inr (0, [.ref y1u, .ref y1m, .ref y1o])), (y1u, fw_a kI 6 (cu 1)), (y1m, fw_a kI 6 (cm 1)), (y1o, fw_a kI 6 (co 1)), (y2, .inr (0, [.ref y2u, .ref y2m, .ref y2o])), (y2u, fw_a kI 6 (cu 2)), (y2m, fw_a kI 6 (cm 2)), (y2o, fw_a kI 6 (co 2)), (y3, .inr (0, [.ref y3u, .ref y3m, .ref y3o])), (y3u, fw_a kI 6 (cu 3)), (y3m, fw_a kI 6 (cm 3)), (y3o, fw_a kI 6 (co 3))] H := hP
        have hD : va_D A [(fc, .inr (3, [.ref sh, .ref pl, .ref be, .int (bI (true)), .ref cp, .ref kp, .ref se])), (cp, fw_r kR 4 (fw_4 y0 y1 y2 y3)), (kp, fw_z kZ 4 (kf)), (pl, .inr (0, [.ref plu, .ref plm, .ref plo])), (plu, fw_a kI 6 (au)), (plm, fw_a kI 6 (am)), (plo, fw_a kI 6 (ao)), (be, .inr (0, [.ref beu, .ref bem, .ref beo])), (beu, fw_a kI 6 (au)), (bem, fw_a kI 6 (am)), (beo, fw_a kI 6 (ao)), (y0, .inr (0, [.ref y0u, .ref y0m, .ref y0o])), (y0u, fw_a kI 6 (cu 0)), (y0m, fw_a kI 6 (cm 0)), (y0o, fw_a kI 6 (co 0)), (y1, .inr (0, [.ref y1u, .ref y1m, .ref y1o])), (y1u, fw_a kI 6 (cu 1)), (y1m, fw_a kI 6 (cm 1)), (y1o, fw_a kI 6 (co 1)), (y2, .inr (0, [.ref y2u, .ref y2m, .ref y2o])), (y2u, fw_a kI 6 (cu 2)), (y2m, fw_a kI 6 (cm 2)), (y2o, fw_a kI 6 (co 2)), (y3, .inr (0, [.ref y3u, .ref y3m, .ref y3o])), (y3u, fw_a kI 6 (cu 3)), (y3m, fw_a kI 6 (cm 3)), (y3o, fw_a kI 6 (co 3))] := hD
        refine lv_aload_n hx hb d_F_use_40 rfl (lv_at hl 0 rfl) ?_
        refine va_get (D := (dC, dI)) (ci := 3) (v := .ref pl) (C := R_F) (T := T_F) (N := 7) hx hb hts in_F hown hK hP 0 rfl rfl 1 (by decide) (hts _ kw_154) (fun _ h9 => h9) rfl d_F_use_41 ?_
        refine lv_aload_n hx hb d_F_use_44 rfl (lv_at hl 0 rfl) ?_
        refine va_get (D := (dC, dI)) (ci := 3) (v := .ref cp) (C := R_F) (T := T_F) (N := 7) hx hb hts in_F hown hK hP 0 rfl rfl 4 (by decide) (hts _ kw_157) (fun _ h9 => h9) rfl d_F_use_45 ?_
        refine lv_iload_n hx hb d_F_use_48 rfl (lv_at hl 1 rfl) ?_
        refine fw_aldq hx hb hK hP 1 0 rfl rfl (0) (by omega) (by omega) (by omega) d_F_use_49 ?_
        refine fw_cast (show ((va_rf ((fw_4 y0 y1 y2 y3) 0)) : Value) = .ref y0 from rfl) ?_
        refine fw_callvP [3, 4, 5, 6, 11, 12, 13, 14] (va_runV (As := [.ref y0]) (rest := []) ⟨hx, hb, hml, hown, hts⟩ (c_P_takeFrom l dC dI _ pl plu plm plo au am ao y0 y0u y0m y0o (cu 0) (cm 0) (co 0) kI ) (cwV 1 hts (gw_V kw_421 kw_422 kw_423 kw_3 kw_424) rfl rfl rfl (by decide +kernel) ⟨Nat.le_of_ble_eq_true rfl, Nat.le_of_ble_eq_true rfl⟩) (fw_preV (ci := 0) (q0 := 3) hP hK hD hN [3, 4, 5, 6, 11, 12, 13, 14] [2] rfl rfl rfl rfl rfl) rfl rfl hl.1 rfl (lv_room (Nat.le_of_ble_eq_true rfl)) d_F_use_50 ⟨Nat.le_of_ble_eq_true rfl, Nat.le_of_ble_eq_true rfl⟩) hP hD hS hA rfl rfl rfl (fun H locs hP hD hS => ?_)
        have hP : va_P (dC, dI) cls_ [(fc, .inr (3, [.ref sh, .ref pl, .ref be, .int (bI (true)), .ref cp, .ref kp, .ref se])), (cp, fw_r kR 4 (fw_4 y0 y1 y2 y3)), (kp, fw_z kZ 4 (kf)), (pl, .inr (0, [.ref plu, .ref plm, .ref plo])), (plu, fw_a kI 6 ((cu 0))), (plm, fw_a kI 6 ((cm 0))), (plo, fw_a kI 6 ((co 0))), (be, .inr (0, [.ref beu, .ref bem, .ref beo])), (beu, fw_a kI 6 (au)), (bem, fw_a kI 6 (am)), (beo, fw_a kI 6 (ao)), (y0, .inr (0, [.ref y0u, .ref y0m, .ref y0o])), (y0u, fw_a kI 6 ((cu 0))), (y0m, fw_a kI 6 ((cm 0))), (y0o, fw_a kI 6 ((co 0))), (y1, .inr (0, [.ref y1u, .ref y1m, .ref y1o])), (y1u, fw_a kI 6 (cu 1)), (y1m, fw_a kI 6 (cm 1)), (y1o, fw_a kI 6 (co 1)), (y2, .inr (0, [.ref y2u, .ref y2m, .ref y2o])), (y2u, fw_a kI 6 (cu 2)), (y2m, fw_a kI 6 (cm 2)), (y2o, fw_a kI 6 (co 2)), (y3, .inr (0, [.ref y3u, .ref y3m, .ref y3o])), (y3u, fw_a kI 6 (cu 3)), (y3m, fw_a kI 6 (cm 3)), (y3o, fw_a kI 6 (co 3))] H := hP
        have hD : va_D A [(fc, .inr (3, [.ref sh, .ref pl, .ref be, .int (bI (true)), .ref cp, .ref kp, .ref se])), (cp, fw_r kR 4 (fw_4 y0 y1 y2 y3)), (kp, fw_z kZ 4 (kf)), (pl, .inr (0, [.ref plu, .ref plm, .ref plo])), (plu, fw_a kI 6 ((cu 0))), (plm, fw_a kI 6 ((cm 0))), (plo, fw_a kI 6 ((co 0))), (be, .inr (0, [.ref beu, .ref bem, .ref beo])), (beu, fw_a kI 6 (au)), (bem, fw_a kI 6 (am)), (beo, fw_a kI 6 (ao)), (y0, .inr (0, [.ref y0u, .ref y0m, .ref y0o])), (y0u, fw_a kI 6 ((cu 0))), (y0m, fw_a kI 6 ((cm 0))), (y0o, fw_a kI 6 ((co 0))), (y1, .inr (0, [.ref y1u, .ref y1m, .ref y1o])), (y1u, fw_a kI 6 (cu 1)), (y1m, fw_a kI 6 (cm 1)), (y1o, fw_a kI 6 (co 1)), (y2, .inr (0, [.ref y2u, .ref y2m, .ref y2o])), (y2u, fw_a kI 6 (cu 2)), (y2m, fw_a kI 6 (cm 2)), (y2o, fw_a kI 6 (co 2)), (y3, .inr (0, [.ref y3u, .ref y3m, .ref y3o])), (y3u, fw_a kI 6 (cu 3)), (y3m, fw_a kI 6 (cm 3)), (y3o, fw_a kI 6 (co 3))] := hD
        refine W.widen (k := 1) (n := 6) (Nat.zero_le _) (Nat.zero_le _) ?_
        refine vx_ret ?_
        refine fw_vret hx hb hr hlocks hS ?_ d_F_use_53
        · exact ⟨by simp [k_use, c_1, c_2, hk9], hP⟩
      · refine lv_aload_n hx hb d_F_use_36 rfl (lv_at hl 0 rfl) ?_
        have hk9 : kf 1 = true := c_2
        refine fw_callvP [0, 3, 4, 5, 6, 7, 8, 9, 10] (va_runV (As := []) (rest := []) ⟨hx, hb, hml, hown, hts⟩ (c_F_rememberForUndo l dC dI _ fc pl be ud cp kp se plu plm plo au am ao beu bem beo eu em eo kI sh ) (cwV 0 hts (gw_V kw_417 kw_419 ks_F_rememberForUndo kw_1 kw_420) rfl rfl rfl (by decide +kernel) ⟨Nat.le_of_ble_eq_true rfl, Nat.le_of_ble_eq_true rfl⟩) (fw_preV (ci := 3) (q0 := 0) hP hK hD hN [0, 3, 4, 5, 6, 7, 8, 9, 10] [2] rfl rfl rfl rfl rfl) rfl rfl hl.1 rfl (lv_room (Nat.le_of_ble_eq_true rfl)) d_F_use_37 ⟨Nat.le_of_ble_eq_true rfl, Nat.le_of_ble_eq_true rfl⟩) hP hD hS hA rfl rfl rfl (fun H locs hP hD hS => ?_)
        have hP : va_P (dC, dI) cls_ [(fc, .inr (3, [.ref sh, .ref pl, .ref be, .int (bI (true)), .ref cp, .ref kp, .ref se])), (cp, fw_r kR 4 (fw_4 y0 y1 y2 y3)), (kp, fw_z kZ 4 (kf)), (pl, .inr (0, [.ref plu, .ref plm, .ref plo])), (plu, fw_a kI 6 (au)), (plm, fw_a kI 6 (am)), (plo, fw_a kI 6 (ao)), (be, .inr (0, [.ref beu, .ref bem, .ref beo])), (beu, fw_a kI 6 (au)), (bem, fw_a kI 6 (am)), (beo, fw_a kI 6 (ao)), (y0, .inr (0, [.ref y0u, .ref y0m, .ref y0o])), (y0u, fw_a kI 6 (cu 0)), (y0m, fw_a kI 6 (cm 0)), (y0o, fw_a kI 6 (co 0)), (y1, .inr (0, [.ref y1u, .ref y1m, .ref y1o])), (y1u, fw_a kI 6 (cu 1)), (y1m, fw_a kI 6 (cm 1)), (y1o, fw_a kI 6 (co 1)), (y2, .inr (0, [.ref y2u, .ref y2m, .ref y2o])), (y2u, fw_a kI 6 (cu 2)), (y2m, fw_a kI 6 (cm 2)), (y2o, fw_a kI 6 (co 2)), (y3, .inr (0, [.ref y3u, .ref y3m, .ref y3o])), (y3u, fw_a kI 6 (cu 3)), (y3m, fw_a kI 6 (cm 3)), (y3o, fw_a kI 6 (co 3))] H := hP
        have hD : va_D A [(fc, .inr (3, [.ref sh, .ref pl, .ref be, .int (bI (true)), .ref cp, .ref kp, .ref se])), (cp, fw_r kR 4 (fw_4 y0 y1 y2 y3)), (kp, fw_z kZ 4 (kf)), (pl, .inr (0, [.ref plu, .ref plm, .ref plo])), (plu, fw_a kI 6 (au)), (plm, fw_a kI 6 (am)), (plo, fw_a kI 6 (ao)), (be, .inr (0, [.ref beu, .ref bem, .ref beo])), (beu, fw_a kI 6 (au)), (bem, fw_a kI 6 (am)), (beo, fw_a kI 6 (ao)), (y0, .inr (0, [.ref y0u, .ref y0m, .ref y0o])), (y0u, fw_a kI 6 (cu 0)), (y0m, fw_a kI 6 (cm 0)), (y0o, fw_a kI 6 (co 0)), (y1, .inr (0, [.ref y1u, .ref y1m, .ref y1o])), (y1u, fw_a kI 6 (cu 1)), (y1m, fw_a kI 6 (cm 1)), (y1o, fw_a kI 6 (co 1)), (y2, .inr (0, [.ref y2u, .ref y2m, .ref y2o])), (y2u, fw_a kI 6 (cu 2)), (y2m, fw_a kI 6 (cm 2)), (y2o, fw_a kI 6 (co 2)), (y3, .inr (0, [.ref y3u, .ref y3m, .ref y3o])), (y3u, fw_a kI 6 (cu 3)), (y3m, fw_a kI 6 (cm 3)), (y3o, fw_a kI 6 (co 3))] := hD
        refine lv_aload_n hx hb d_F_use_40 rfl (lv_at hl 0 rfl) ?_
        refine va_get (D := (dC, dI)) (ci := 3) (v := .ref pl) (C := R_F) (T := T_F) (N := 7) hx hb hts in_F hown hK hP 0 rfl rfl 1 (by decide) (hts _ kw_154) (fun _ h9 => h9) rfl d_F_use_41 ?_
        refine lv_aload_n hx hb d_F_use_44 rfl (lv_at hl 0 rfl) ?_
        refine va_get (D := (dC, dI)) (ci := 3) (v := .ref cp) (C := R_F) (T := T_F) (N := 7) hx hb hts in_F hown hK hP 0 rfl rfl 4 (by decide) (hts _ kw_157) (fun _ h9 => h9) rfl d_F_use_45 ?_
        refine lv_iload_n hx hb d_F_use_48 rfl (lv_at hl 1 rfl) ?_
        refine fw_aldq hx hb hK hP 1 0 rfl rfl (1) (by omega) (by omega) (by omega) d_F_use_49 ?_
        refine fw_cast (show ((va_rf ((fw_4 y0 y1 y2 y3) 1)) : Value) = .ref y1 from rfl) ?_
        refine fw_callvP [3, 4, 5, 6, 15, 16, 17, 18] (va_runV (As := [.ref y1]) (rest := []) ⟨hx, hb, hml, hown, hts⟩ (c_P_takeFrom l dC dI _ pl plu plm plo au am ao y1 y1u y1m y1o (cu 1) (cm 1) (co 1) kI ) (cwV 1 hts (gw_V kw_421 kw_422 kw_423 kw_3 kw_424) rfl rfl rfl (by decide +kernel) ⟨Nat.le_of_ble_eq_true rfl, Nat.le_of_ble_eq_true rfl⟩) (fw_preV (ci := 0) (q0 := 3) hP hK hD hN [3, 4, 5, 6, 15, 16, 17, 18] [2] rfl rfl rfl rfl rfl) rfl rfl hl.1 rfl (lv_room (Nat.le_of_ble_eq_true rfl)) d_F_use_50 ⟨Nat.le_of_ble_eq_true rfl, Nat.le_of_ble_eq_true rfl⟩) hP hD hS hA rfl rfl rfl (fun H locs hP hD hS => ?_)
        have hP : va_P (dC, dI) cls_ [(fc, .inr (3, [.ref sh, .ref pl, .ref be, .int (bI (true)), .ref cp, .ref kp, .ref se])), (cp, fw_r kR 4 (fw_4 y0 y1 y2 y3)), (kp, fw_z kZ 4 (kf)), (pl, .inr (0, [.ref plu, .ref plm, .ref plo])), (plu, fw_a kI 6 ((cu 1))), (plm, fw_a kI 6 ((cm 1))), (plo, fw_a kI 6 ((co 1))), (be, .inr (0, [.ref beu, .ref bem, .ref beo])), (beu, fw_a kI 6 (au)), (bem, fw_a kI 6 (am)), (beo, fw_a kI 6 (ao)), (y0, .inr (0, [.ref y0u, .ref y0m, .ref y0o])), (y0u, fw_a kI 6 (cu 0)), (y0m, fw_a kI 6 (cm 0)), (y0o, fw_a kI 6 (co 0)), (y1, .inr (0, [.ref y1u, .ref y1m, .ref y1o])), (y1u, fw_a kI 6 ((cu 1))), (y1m, fw_a kI 6 ((cm 1))), (y1o, fw_a kI 6 ((co 1))), (y2, .inr (0, [.ref y2u, .ref y2m, .ref y2o])), (y2u, fw_a kI 6 (cu 2)), (y2m, fw_a kI 6 (cm 2)), (y2o, fw_a kI 6 (co 2)), (y3, .inr (0, [.ref y3u, .ref y3m, .ref y3o])), (y3u, fw_a kI 6 (cu 3)), (y3m, fw_a kI 6 (cm 3)), (y3o, fw_a kI 6 (co 3))] H := hP
        have hD : va_D A [(fc, .inr (3, [.ref sh, .ref pl, .ref be, .int (bI (true)), .ref cp, .ref kp, .ref se])), (cp, fw_r kR 4 (fw_4 y0 y1 y2 y3)), (kp, fw_z kZ 4 (kf)), (pl, .inr (0, [.ref plu, .ref plm, .ref plo])), (plu, fw_a kI 6 ((cu 1))), (plm, fw_a kI 6 ((cm 1))), (plo, fw_a kI 6 ((co 1))), (be, .inr (0, [.ref beu, .ref bem, .ref beo])), (beu, fw_a kI 6 (au)), (bem, fw_a kI 6 (am)), (beo, fw_a kI 6 (ao)), (y0, .inr (0, [.ref y0u, .ref y0m, .ref y0o])), (y0u, fw_a kI 6 (cu 0)), (y0m, fw_a kI 6 (cm 0)), (y0o, fw_a kI 6 (co 0)), (y1, .inr (0, [.ref y1u, .ref y1m, .ref y1o])), (y1u, fw_a kI 6 ((cu 1))), (y1m, fw_a kI 6 ((cm 1))), (y1o, fw_a kI 6 ((co 1))), (y2, .inr (0, [.ref y2u, .ref y2m, .ref y2o])), (y2u, fw_a kI 6 (cu 2)), (y2m, fw_a kI 6 (cm 2)), (y2o, fw_a kI 6 (co 2)), (y3, .inr (0, [.ref y3u, .ref y3m, .ref y3o])), (y3u, fw_a kI 6 (cu 3)), (y3m, fw_a kI 6 (cm 3)), (y3o, fw_a kI 6 (co 3))] := hD
        refine W.widen (k := 1) (n := 6) (Nat.zero_le _) (Nat.zero_le _) ?_
        refine vx_ret ?_
        refine fw_vret hx hb hr hlocks hS ?_ d_F_use_53
        · exact ⟨by simp [k_use, c_1, c_2, hk9], hP⟩
      · refine lv_aload_n hx hb d_F_use_36 rfl (lv_at hl 0 rfl) ?_
        have hk9 : kf 2 = true := c_2
        refine fw_callvP [0, 3, 4, 5, 6, 7, 8, 9, 10] (va_runV (As := []) (rest := []) ⟨hx, hb, hml, hown, hts⟩ (c_F_rememberForUndo l dC dI _ fc pl be ud cp kp se plu plm plo au am ao beu bem beo eu em eo kI sh ) (cwV 0 hts (gw_V kw_417 kw_419 ks_F_rememberForUndo kw_1 kw_420) rfl rfl rfl (by decide +kernel) ⟨Nat.le_of_ble_eq_true rfl, Nat.le_of_ble_eq_true rfl⟩) (fw_preV (ci := 3) (q0 := 0) hP hK hD hN [0, 3, 4, 5, 6, 7, 8, 9, 10] [2] rfl rfl rfl rfl rfl) rfl rfl hl.1 rfl (lv_room (Nat.le_of_ble_eq_true rfl)) d_F_use_37 ⟨Nat.le_of_ble_eq_true rfl, Nat.le_of_ble_eq_true rfl⟩) hP hD hS hA rfl rfl rfl (fun H locs hP hD hS => ?_)
        have hP : va_P (dC, dI) cls_ [(fc, .inr (3, [.ref sh, .ref pl, .ref be, .int (bI (true)), .ref cp, .ref kp, .ref se])), (cp, fw_r kR 4 (fw_4 y0 y1 y2 y3)), (kp, fw_z kZ 4 (kf)), (pl, .inr (0, [.ref plu, .ref plm, .ref plo])), (plu, fw_a kI 6 (au)), (plm, fw_a kI 6 (am)), (plo, fw_a kI 6 (ao)), (be, .inr (0, [.ref beu, .ref bem, .ref beo])), (beu, fw_a kI 6 (au)), (bem, fw_a kI 6 (am)), (beo, fw_a kI 6 (ao)), (y0, .inr (0, [.ref y0u, .ref y0m, .ref y0o])), (y0u, fw_a kI 6 (cu 0)), (y0m, fw_a kI 6 (cm 0)), (y0o, fw_a kI 6 (co 0)), (y1, .inr (0, [.ref y1u, .ref y1m, .ref y1o])), (y1u, fw_a kI 6 (cu 1)), (y1m, fw_a kI 6 (cm 1)), (y1o, fw_a kI 6 (co 1)), (y2, .inr (0, [.ref y2u, .ref y2m, .ref y2o])), (y2u, fw_a kI 6 (cu 2)), (y2m, fw_a kI 6 (cm 2)), (y2o, fw_a kI 6 (co 2)), (y3, .inr (0, [.ref y3u, .ref y3m, .ref y3o])), (y3u, fw_a kI 6 (cu 3)), (y3m, fw_a kI 6 (cm 3)), (y3o, fw_a kI 6 (co 3))] H := hP
        have hD : va_D A [(fc, .inr (3, [.ref sh, .ref pl, .ref be, .int (bI (true)), .ref cp, .ref kp, .ref se])), (cp, fw_r kR 4 (fw_4 y0 y1 y2 y3)), (kp, fw_z kZ 4 (kf)), (pl, .inr (0, [.ref plu, .ref plm, .ref plo])), (plu, fw_a kI 6 (au)), (plm, fw_a kI 6 (am)), (plo, fw_a kI 6 (ao)), (be, .inr (0, [.ref beu, .ref bem, .ref beo])), (beu, fw_a kI 6 (au)), (bem, fw_a kI 6 (am)), (beo, fw_a kI 6 (ao)), (y0, .inr (0, [.ref y0u, .ref y0m, .ref y0o])), (y0u, fw_a kI 6 (cu 0)), (y0m, fw_a kI 6 (cm 0)), (y0o, fw_a kI 6 (co 0)), (y1, .inr (0, [.ref y1u, .ref y1m, .ref y1o])), (y1u, fw_a kI 6 (cu 1)), (y1m, fw_a kI 6 (cm 1)), (y1o, fw_a kI 6 (co 1)), (y2, .inr (0, [.ref y2u, .ref y2m, .ref y2o])), (y2u, fw_a kI 6 (cu 2)), (y2m, fw_a kI 6 (cm 2)), (y2o, fw_a kI 6 (co 2)), (y3, .inr (0, [.ref y3u, .ref y3m, .ref y3o])), (y3u, fw_a kI 6 (cu 3)), (y3m, fw_a kI 6 (cm 3)), (y3o, fw_a kI 6 (co 3))] := hD
        refine lv_aload_n hx hb d_F_use_40 rfl (lv_at hl 0 rfl) ?_
        refine va_get (D := (dC, dI)) (ci := 3) (v := .ref pl) (C := R_F) (T := T_F) (N := 7) hx hb hts in_F hown hK hP 0 rfl rfl 1 (by decide) (hts _ kw_154) (fun _ h9 => h9) rfl d_F_use_41 ?_
        refine lv_aload_n hx hb d_F_use_44 rfl (lv_at hl 0 rfl) ?_
        refine va_get (D := (dC, dI)) (ci := 3) (v := .ref cp) (C := R_F) (T := T_F) (N := 7) hx hb hts in_F hown hK hP 0 rfl rfl 4 (by decide) (hts _ kw_157) (fun _ h9 => h9) rfl d_F_use_45 ?_
        refine lv_iload_n hx hb d_F_use_48 rfl (lv_at hl 1 rfl) ?_
        refine fw_aldq hx hb hK hP 1 0 rfl rfl (2) (by omega) (by omega) (by omega) d_F_use_49 ?_
        refine fw_cast (show ((va_rf ((fw_4 y0 y1 y2 y3) 2)) : Value) = .ref y2 from rfl) ?_
        refine fw_callvP [3, 4, 5, 6, 19, 20, 21, 22] (va_runV (As := [.ref y2]) (rest := []) ⟨hx, hb, hml, hown, hts⟩ (c_P_takeFrom l dC dI _ pl plu plm plo au am ao y2 y2u y2m y2o (cu 2) (cm 2) (co 2) kI ) (cwV 1 hts (gw_V kw_421 kw_422 kw_423 kw_3 kw_424) rfl rfl rfl (by decide +kernel) ⟨Nat.le_of_ble_eq_true rfl, Nat.le_of_ble_eq_true rfl⟩) (fw_preV (ci := 0) (q0 := 3) hP hK hD hN [3, 4, 5, 6, 19, 20, 21, 22] [2] rfl rfl rfl rfl rfl) rfl rfl hl.1 rfl (lv_room (Nat.le_of_ble_eq_true rfl)) d_F_use_50 ⟨Nat.le_of_ble_eq_true rfl, Nat.le_of_ble_eq_true rfl⟩) hP hD hS hA rfl rfl rfl (fun H locs hP hD hS => ?_)
        have hP : va_P (dC, dI) cls_ [(fc, .inr (3, [.ref sh, .ref pl, .ref be, .int (bI (true)), .ref cp, .ref kp, .ref se])), (cp, fw_r kR 4 (fw_4 y0 y1 y2 y3)), (kp, fw_z kZ 4 (kf)), (pl, .inr (0, [.ref plu, .ref plm, .ref plo])), (plu, fw_a kI 6 ((cu 2))), (plm, fw_a kI 6 ((cm 2))), (plo, fw_a kI 6 ((co 2))), (be, .inr (0, [.ref beu, .ref bem, .ref beo])), (beu, fw_a kI 6 (au)), (bem, fw_a kI 6 (am)), (beo, fw_a kI 6 (ao)), (y0, .inr (0, [.ref y0u, .ref y0m, .ref y0o])), (y0u, fw_a kI 6 (cu 0)), (y0m, fw_a kI 6 (cm 0)), (y0o, fw_a kI 6 (co 0)), (y1, .inr (0, [.ref y1u, .ref y1m, .ref y1o])), (y1u, fw_a kI 6 (cu 1)), (y1m, fw_a kI 6 (cm 1)), (y1o, fw_a kI 6 (co 1)), (y2, .inr (0, [.ref y2u, .ref y2m, .ref y2o])), (y2u, fw_a kI 6 ((cu 2))), (y2m, fw_a kI 6 ((cm 2))), (y2o, fw_a kI 6 ((co 2))), (y3, .inr (0, [.ref y3u, .ref y3m, .ref y3o])), (y3u, fw_a kI 6 (cu 3)), (y3m, fw_a kI 6 (cm 3)), (y3o, fw_a kI 6 (co 3))] H := hP
        have hD : va_D A [(fc, .inr (3, [.ref sh, .ref pl, .ref be, .int (bI (true)), .ref cp, .ref kp, .ref se])), (cp, fw_r kR 4 (fw_4 y0 y1 y2 y3)), (kp, fw_z kZ 4 (kf)), (pl, .inr (0, [.ref plu, .ref plm, .ref plo])), (plu, fw_a kI 6 ((cu 2))), (plm, fw_a kI 6 ((cm 2))), (plo, fw_a kI 6 ((co 2))), (be, .inr (0, [.ref beu, .ref bem, .ref beo])), (beu, fw_a kI 6 (au)), (bem, fw_a kI 6 (am)), (beo, fw_a kI 6 (ao)), (y0, .inr (0, [.ref y0u, .ref y0m, .ref y0o])), (y0u, fw_a kI 6 (cu 0)), (y0m, fw_a kI 6 (cm 0)), (y0o, fw_a kI 6 (co 0)), (y1, .inr (0, [.ref y1u, .ref y1m, .ref y1o])), (y1u, fw_a kI 6 (cu 1)), (y1m, fw_a kI 6 (cm 1)), (y1o, fw_a kI 6 (co 1)), (y2, .inr (0, [.ref y2u, .ref y2m, .ref y2o])), (y2u, fw_a kI 6 ((cu 2))), (y2m, fw_a kI 6 ((cm 2))), (y2o, fw_a kI 6 ((co 2))), (y3, .inr (0, [.ref y3u, .ref y3m, .ref y3o])), (y3u, fw_a kI 6 (cu 3)), (y3m, fw_a kI 6 (cm 3)), (y3o, fw_a kI 6 (co 3))] := hD
        refine W.widen (k := 1) (n := 6) (Nat.zero_le _) (Nat.zero_le _) ?_
        refine vx_ret ?_
        refine fw_vret hx hb hr hlocks hS ?_ d_F_use_53
        · exact ⟨by simp [k_use, c_1, c_2, hk9], hP⟩
      · refine lv_aload_n hx hb d_F_use_36 rfl (lv_at hl 0 rfl) ?_
        have hk9 : kf 3 = true := c_2
        refine fw_callvP [0, 3, 4, 5, 6, 7, 8, 9, 10] (va_runV (As := []) (rest := []) ⟨hx, hb, hml, hown, hts⟩ (c_F_rememberForUndo l dC dI _ fc pl be ud cp kp se plu plm plo au am ao beu bem beo eu em eo kI sh ) (cwV 0 hts (gw_V kw_417 kw_419 ks_F_rememberForUndo kw_1 kw_420) rfl rfl rfl (by decide +kernel) ⟨Nat.le_of_ble_eq_true rfl, Nat.le_of_ble_eq_true rfl⟩) (fw_preV (ci := 3) (q0 := 0) hP hK hD hN [0, 3, 4, 5, 6, 7, 8, 9, 10] [2] rfl rfl rfl rfl rfl) rfl rfl hl.1 rfl (lv_room (Nat.le_of_ble_eq_true rfl)) d_F_use_37 ⟨Nat.le_of_ble_eq_true rfl, Nat.le_of_ble_eq_true rfl⟩) hP hD hS hA rfl rfl rfl (fun H locs hP hD hS => ?_)
        have hP : va_P (dC, dI) cls_ [(fc, .inr (3, [.ref sh, .ref pl, .ref be, .int (bI (true)), .ref cp, .ref kp, .ref se])), (cp, fw_r kR 4 (fw_4 y0 y1 y2 y3)), (kp, fw_z kZ 4 (kf)), (pl, .inr (0, [.ref plu, .ref plm, .ref plo])), (plu, fw_a kI 6 (au)), (plm, fw_a kI 6 (am)), (plo, fw_a kI 6 (ao)), (be, .inr (0, [.ref beu, .ref bem, .ref beo])), (beu, fw_a kI 6 (au)), (bem, fw_a kI 6 (am)), (beo, fw_a kI 6 (ao)), (y0, .inr (0, [.ref y0u, .ref y0m, .ref y0o])), (y0u, fw_a kI 6 (cu 0)), (y0m, fw_a kI 6 (cm 0)), (y0o, fw_a kI 6 (co 0)), (y1, .inr (0, [.ref y1u, .ref y1m, .ref y1o])), (y1u, fw_a kI 6 (cu 1)), (y1m, fw_a kI 6 (cm 1)), (y1o, fw_a kI 6 (co 1)), (y2, .inr (0, [.ref y2u, .ref y2m, .ref y2o])), (y2u, fw_a kI 6 (cu 2)), (y2m, fw_a kI 6 (cm 2)), (y2o, fw_a kI 6 (co 2)), (y3, .inr (0, [.ref y3u, .ref y3m, .ref y3o])), (y3u, fw_a kI 6 (cu 3)), (y3m, fw_a kI 6 (cm 3)), (y3o, fw_a kI 6 (co 3))] H := hP
        have hD : va_D A [(fc, .inr (3, [.ref sh, .ref pl, .ref be, .int (bI (true)), .ref cp, .ref kp, .ref se])), (cp, fw_r kR 4 (fw_4 y0 y1 y2 y3)), (kp, fw_z kZ 4 (kf)), (pl, .inr (0, [.ref plu, .ref plm, .ref plo])), (plu, fw_a kI 6 (au)), (plm, fw_a kI 6 (am)), (plo, fw_a kI 6 (ao)), (be, .inr (0, [.ref beu, .ref bem, .ref beo])), (beu, fw_a kI 6 (au)), (bem, fw_a kI 6 (am)), (beo, fw_a kI 6 (ao)), (y0, .inr (0, [.ref y0u, .ref y0m, .ref y0o])), (y0u, fw_a kI 6 (cu 0)), (y0m, fw_a kI 6 (cm 0)), (y0o, fw_a kI 6 (co 0)), (y1, .inr (0, [.ref y1u, .ref y1m, .ref y1o])), (y1u, fw_a kI 6 (cu 1)), (y1m, fw_a kI 6 (cm 1)), (y1o, fw_a kI 6 (co 1)), (y2, .inr (0, [.ref y2u, .ref y2m, .ref y2o])), (y2u, fw_a kI 6 (cu 2)), (y2m, fw_a kI 6 (cm 2)), (y2o, fw_a kI 6 (co 2)), (y3, .inr (0, [.ref y3u, .ref y3m, .ref y3o])), (y3u, fw_a kI 6 (cu 3)), (y3m, fw_a kI 6 (cm 3)), (y3o, fw_a kI 6 (co 3))] := hD
        refine lv_aload_n hx hb d_F_use_40 rfl (lv_at hl 0 rfl) ?_
        refine va_get (D := (dC, dI)) (ci := 3) (v := .ref pl) (C := R_F) (T := T_F) (N := 7) hx hb hts in_F hown hK hP 0 rfl rfl 1 (by decide) (hts _ kw_154) (fun _ h9 => h9) rfl d_F_use_41 ?_
        refine lv_aload_n hx hb d_F_use_44 rfl (lv_at hl 0 rfl) ?_
        refine va_get (D := (dC, dI)) (ci := 3) (v := .ref cp) (C := R_F) (T := T_F) (N := 7) hx hb hts in_F hown hK hP 0 rfl rfl 4 (by decide) (hts _ kw_157) (fun _ h9 => h9) rfl d_F_use_45 ?_
        refine lv_iload_n hx hb d_F_use_48 rfl (lv_at hl 1 rfl) ?_
        refine fw_aldq hx hb hK hP 1 0 rfl rfl (3) (by omega) (by omega) (by omega) d_F_use_49 ?_
        refine fw_cast (show ((va_rf ((fw_4 y0 y1 y2 y3) 3)) : Value) = .ref y3 from rfl) ?_
        refine fw_callvP [3, 4, 5, 6, 23, 24, 25, 26] (va_runV (As := [.ref y3]) (rest := []) ⟨hx, hb, hml, hown, hts⟩ (c_P_takeFrom l dC dI _ pl plu plm plo au am ao y3 y3u y3m y3o (cu 3) (cm 3) (co 3) kI ) (cwV 1 hts (gw_V kw_421 kw_422 kw_423 kw_3 kw_424) rfl rfl rfl (by decide +kernel) ⟨Nat.le_of_ble_eq_true rfl, Nat.le_of_ble_eq_true rfl⟩) (fw_preV (ci := 0) (q0 := 3) hP hK hD hN [3, 4, 5, 6, 23, 24, 25, 26] [2] rfl rfl rfl rfl rfl) rfl rfl hl.1 rfl (lv_room (Nat.le_of_ble_eq_true rfl)) d_F_use_50 ⟨Nat.le_of_ble_eq_true rfl, Nat.le_of_ble_eq_true rfl⟩) hP hD hS hA rfl rfl rfl (fun H locs hP hD hS => ?_)
        have hP : va_P (dC, dI) cls_ [(fc, .inr (3, [.ref sh, .ref pl, .ref be, .int (bI (true)), .ref cp, .ref kp, .ref se])), (cp, fw_r kR 4 (fw_4 y0 y1 y2 y3)), (kp, fw_z kZ 4 (kf)), (pl, .inr (0, [.ref plu, .ref plm, .ref plo])), (plu, fw_a kI 6 ((cu 3))), (plm, fw_a kI 6 ((cm 3))), (plo, fw_a kI 6 ((co 3))), (be, .inr (0, [.ref beu, .ref bem, .ref beo])), (beu, fw_a kI 6 (au)), (bem, fw_a kI 6 (am)), (beo, fw_a kI 6 (ao)), (y0, .inr (0, [.ref y0u, .ref y0m, .ref y0o])), (y0u, fw_a kI 6 (cu 0)), (y0m, fw_a kI 6 (cm 0)), (y0o, fw_a kI 6 (co 0)), (y1, .inr (0, [.ref y1u, .ref y1m, .ref y1o])), (y1u, fw_a kI 6 (cu 1)), (y1m, fw_a kI 6 (cm 1)), (y1o, fw_a kI 6 (co 1)), (y2, .inr (0, [.ref y2u, .ref y2m, .ref y2o])), (y2u, fw_a kI 6 (cu 2)), (y2m, fw_a kI 6 (cm 2)), (y2o, fw_a kI 6 (co 2)), (y3, .inr (0, [.ref y3u, .ref y3m, .ref y3o])), (y3u, fw_a kI 6 ((cu 3))), (y3m, fw_a kI 6 ((cm 3))), (y3o, fw_a kI 6 ((co 3)))] H := hP
        have hD : va_D A [(fc, .inr (3, [.ref sh, .ref pl, .ref be, .int (bI (true)), .ref cp, .ref kp, .ref se])), (cp, fw_r kR 4 (fw_4 y0 y1 y2 y3)), (kp, fw_z kZ 4 (kf)), (pl, .inr (0, [.ref plu, .ref plm, .ref plo])), (plu, fw_a kI 6 ((cu 3))), (plm, fw_a kI 6 ((cm 3))), (plo, fw_a kI 6 ((co 3))), (be, .inr (0, [.ref beu, .ref bem, .ref beo])), (beu, fw_a kI 6 (au)), (bem, fw_a kI 6 (am)), (beo, fw_a kI 6 (ao)), (y0, .inr (0, [.ref y0u, .ref y0m, .ref y0o])), (y0u, fw_a kI 6 (cu 0)), (y0m, fw_a kI 6 (cm 0)), (y0o, fw_a kI 6 (co 0)), (y1, .inr (0, [.ref y1u, .ref y1m, .ref y1o])), (y1u, fw_a kI 6 (cu 1)), (y1m, fw_a kI 6 (cm 1)), (y1o, fw_a kI 6 (co 1)), (y2, .inr (0, [.ref y2u, .ref y2m, .ref y2o])), (y2u, fw_a kI 6 (cu 2)), (y2m, fw_a kI 6 (cm 2)), (y2o, fw_a kI 6 (co 2)), (y3, .inr (0, [.ref y3u, .ref y3m, .ref y3o])), (y3u, fw_a kI 6 ((cu 3))), (y3m, fw_a kI 6 ((cm 3))), (y3o, fw_a kI 6 ((co 3)))] := hD
        refine W.widen (k := 1) (n := 6) (Nat.zero_le _) (Nat.zero_le _) ?_
        refine vx_ret ?_
        refine fw_vret hx hb hr hlocks hS ?_ d_F_use_53
        · exact ⟨by simp [k_use, c_1, c_2, hk9], hP⟩
    · exact fw_throw hx hb hlt hown hts hN hX (List.mem_of_getElem? (i := 21) rfl) fw_E1 hP0 (hl.1.trans hml.symm) d_F_use_26 d_F_use_29 d_F_use_30 d_F_use_32 d_F_use_35 htb (Nat.le_of_ble_eq_true rfl) (Nat.le_of_ble_eq_true rfl) (Nat.le_of_ble_eq_true rfl) (Nat.le_of_ble_eq_true rfl) hlocks (Or.inr ⟨rfl, by simp [k_use, c_1, c_2]⟩)
  · exact fw_throw hx hb hlt hown hts hN hX (List.mem_of_getElem? (i := 20) rfl) fw_E3 hP0 (hl.1.trans hml.symm) d_F_use_7 d_F_use_10 d_F_use_11 d_F_use_13 d_F_use_16 htb (Nat.le_of_ble_eq_true rfl) (Nat.le_of_ble_eq_true rfl) (Nat.le_of_ble_eq_true rfl) (Nat.le_of_ble_eq_true rfl) hlocks (Or.inl ⟨rfl, by simp [k_use, c_1]⟩)

set_option maxHeartbeats 4000000 in
set_option maxRecDepth 100000 in
theorem c_F_undo (l : Launch) (hlt : l.stackTraces = false) (dC : Nat → ClassId) (dI : Nat → Nat → Nat) (sz : Nat) (fc : Nat) (pl : Nat) (be : Nat) (ud : Bool) (cp : Nat) (kp : Nat) (se : Nat) (sh : Nat) (plu : Nat) (plm : Nat) (plo : Nat) (au : Nat → Int) (am : Nat → Int) (ao : Nat → Int) (beu : Nat) (bem : Nat) (beo : Nat) (eu : Nat → Int) (em : Nat → Int) (eo : Nat → Int) (kI : ClassId)  : vx_Met l y_F_undo (Cond.code y_F_undo b_F_undo 1 none :: gw) ({ frames := 6, locals := 90, cells := 1, slots := 6 }) (fw_Px (dC, dI) [.ref fc] [(fc, .inr (3, [.ref sh, .ref pl, .ref be, .int (bI (ud)), .ref cp, .ref kp, .ref se])), (pl, .inr (0, [.ref plu, .ref plm, .ref plo])), (plu, fw_a kI 6 (au)), (plm, fw_a kI 6 (am)), (plo, fw_a kI 6 (ao)), (be, .inr (0, [.ref beu, .ref bem, .ref beo])), (beu, fw_a kI 6 (eu)), (bem, fw_a kI 6 (em)), (beo, fw_a kI 6 (eo))] [(kI, .int)] sz) (fw_Qv (fun H => (k_undo ud = 0) ∧ va_P (dC, dI) cls_ [(fc, .inr (3, [.ref sh, .ref pl, .ref be, .int (bI (false)), .ref cp, .ref kp, .ref se])), (pl, .inr (0, [.ref plu, .ref plm, .ref plo])), (plu, fw_a kI 6 (eu)), (plm, fw_a kI 6 (em)), (plo, fw_a kI 6 (eo)), (be, .inr (0, [.ref beu, .ref bem, .ref beo])), (beu, fw_a kI 6 (eu)), (bem, fw_a kI 6 (em)), (beo, fw_a kI 6 (eo))] H) (va_A [(fc, .inr (3, [.ref sh, .ref pl, .ref be, .int (bI (ud)), .ref cp, .ref kp, .ref se])), (pl, .inr (0, [.ref plu, .ref plm, .ref plo])), (plu, fw_a kI 6 (au)), (plm, fw_a kI 6 (am)), (plo, fw_a kI 6 (ao)), (be, .inr (0, [.ref beu, .ref bem, .ref beo])), (beu, fw_a kI 6 (eu)), (bem, fw_a kI 6 (em)), (beo, fw_a kI 6 (eo))] sz)) (fw_XC (dC, dI) [(fc, .inr (3, [.ref sh, .ref pl, .ref be, .int (bI (ud)), .ref cp, .ref kp, .ref se])), (pl, .inr (0, [.ref plu, .ref plm, .ref plo])), (plu, fw_a kI 6 (au)), (plm, fw_a kI 6 (am)), (plo, fw_a kI 6 (ao)), (be, .inr (0, [.ref beu, .ref bem, .ref beo])), (beu, fw_a kI 6 (eu)), (bem, fw_a kI 6 (em)), (beo, fw_a kI 6 (eo))] (fun E => (E = "java/lang/IllegalStateException" ∧ k_undo ud = 1)) (va_A [(fc, .inr (3, [.ref sh, .ref pl, .ref be, .int (bI (ud)), .ref cp, .ref kp, .ref se])), (pl, .inr (0, [.ref plu, .ref plm, .ref plo])), (plu, fw_a kI 6 (au)), (plm, fw_a kI 6 (am)), (plo, fw_a kI 6 (ao)), (be, .inr (0, [.ref beu, .ref bem, .ref beo])), (beu, fw_a kI 6 (eu)), (bem, fw_a kI 6 (em)), (beo, fw_a kI 6 (eo))] sz)) 1 6 (va_A [(fc, .inr (3, [.ref sh, .ref pl, .ref be, .int (bI (ud)), .ref cp, .ref kp, .ref se])), (pl, .inr (0, [.ref plu, .ref plm, .ref plo])), (plu, fw_a kI 6 (au)), (plm, fw_a kI 6 (am)), (plo, fw_a kI 6 (ao)), (be, .inr (0, [.ref beu, .ref bem, .ref beo])), (beu, fw_a kI 6 (eu)), (bem, fw_a kI 6 (em)), (beo, fw_a kI 6 (eo))] sz) := by
  refine fw_ofX (Qc := fun A => fw_Qv (fun H => (k_undo ud = 0) ∧ va_P (dC, dI) cls_ [(fc, .inr (3, [.ref sh, .ref pl, .ref be, .int (bI (false)), .ref cp, .ref kp, .ref se])), (pl, .inr (0, [.ref plu, .ref plm, .ref plo])), (plu, fw_a kI 6 (eu)), (plm, fw_a kI 6 (em)), (plo, fw_a kI 6 (eo)), (be, .inr (0, [.ref beu, .ref bem, .ref beo])), (beu, fw_a kI 6 (eu)), (bem, fw_a kI 6 (em)), (beo, fw_a kI 6 (eo))] H) A) (XC := fun A => fw_XC (dC, dI) [(fc, .inr (3, [.ref sh, .ref pl, .ref be, .int (bI (ud)), .ref cp, .ref kp, .ref se])), (pl, .inr (0, [.ref plu, .ref plm, .ref plo])), (plu, fw_a kI 6 (au)), (plm, fw_a kI 6 (am)), (plo, fw_a kI 6 (ao)), (be, .inr (0, [.ref beu, .ref bem, .ref beo])), (beu, fw_a kI 6 (eu)), (bem, fw_a kI 6 (em)), (beo, fw_a kI 6 (eo))] (fun E => (E = "java/lang/IllegalStateException" ∧ k_undo ud = 1)) A) (by decide) (Nat.le_of_ble_eq_true rfl) ?_
  intro p e s m below meth c A ls hx hb hr hts hown hlocks htb hml hsz hP hK hD hN hX hA hS hl
  have hP0 := hP
  have hl : lv_has ls 1 [(0, .ref fc)] := hl
  refine lv_aload_n hx hb d_F_undo_0 rfl (lv_at hl 0 rfl) ?_
  refine va_get (D := (dC, dI)) (ci := 3) (v := .int (bI (ud))) (C := R_F) (T := T_F) (N := 7) hx hb hts in_F hown hK hP 0 rfl rfl 3 (by decide) (hts _ kw_156) (fun _ h9 => h9) rfl d_F_undo_1 ?_
  refine fw_bif_ne (tgt := 17) hx hb d_F_undo_4 (by decide) (fun c_1 => ?_) (fun c_1 => ?_)
  · refine lv_aload_n hx hb d_F_undo_17 rfl (lv_at hl 0 rfl) ?_
    refine va_get (D := (dC, dI)) (ci := 3) (v := .ref pl) (C := R_F) (T := T_F) (N := 7) hx hb hts in_F hown hK hP 0 rfl rfl 1 (by decide) (hts _ kw_154) (fun _ h9 => h9) rfl d_F_undo_18 ?_
    refine lv_aload_n hx hb d_F_undo_21 rfl (lv_at hl 0 rfl) ?_
    refine va_get (D := (dC, dI)) (ci := 3) (v := .ref be) (C := R_F) (T := T_F) (N := 7) hx hb hts in_F hown hK hP 0 rfl rfl 2 (by decide) (hts _ kw_155) (fun _ h9 => h9) rfl d_F_undo_22 ?_
    refine fw_callvP [1, 2, 3, 4, 5, 6, 7, 8] (va_runV (As := [.ref be]) (rest := []) ⟨hx, hb, hml, hown, hts⟩ (c_P_takeFrom l dC dI _ pl plu plm plo au am ao be beu bem beo eu em eo kI ) (cwV 1 hts (gw_V kw_421 kw_422 kw_423 kw_3 kw_424) rfl rfl rfl (by decide +kernel) ⟨Nat.le_of_ble_eq_true rfl, Nat.le_of_ble_eq_true rfl⟩) (fw_preV (ci := 0) (q0 := 1) hP hK hD hN [1, 2, 3, 4, 5, 6, 7, 8] [0] rfl rfl rfl rfl rfl) rfl rfl hl.1 rfl (lv_room (Nat.le_of_ble_eq_true rfl)) d_F_undo_25 ⟨Nat.le_of_ble_eq_true rfl, Nat.le_of_ble_eq_true rfl⟩) hP hD hS hA rfl rfl rfl (fun H locs hP hD hS => ?_)
    have hP : va_P (dC, dI) cls_ [(fc, .inr (3, [.ref sh, .ref pl, .ref be, .int (bI (ud)), .ref cp, .ref kp, .ref se])), (pl, .inr (0, [.ref plu, .ref plm, .ref plo])), (plu, fw_a kI 6 (eu)), (plm, fw_a kI 6 (em)), (plo, fw_a kI 6 (eo)), (be, .inr (0, [.ref beu, .ref bem, .ref beo])), (beu, fw_a kI 6 (eu)), (bem, fw_a kI 6 (em)), (beo, fw_a kI 6 (eo))] H := hP
    have hD : va_D A [(fc, .inr (3, [.ref sh, .ref pl, .ref be, .int (bI (ud)), .ref cp, .ref kp, .ref se])), (pl, .inr (0, [.ref plu, .ref plm, .ref plo])), (plu, fw_a kI 6 (eu)), (plm, fw_a kI 6 (em)), (plo, fw_a kI 6 (eo)), (be, .inr (0, [.ref beu, .ref bem, .ref beo])), (beu, fw_a kI 6 (eu)), (bem, fw_a kI 6 (em)), (beo, fw_a kI 6 (eo))] := hD
    refine lv_aload_n hx hb d_F_undo_28 rfl (lv_at hl 0 rfl) ?_
    refine lv_iconst (v := (bI (false))) hx hb d_F_undo_29 (by decide) ?_
    refine va_put (D := (dC, dI)) (ci := 3) (v := .int (bI (false))) (ty := .boolean) (C := R_F) (T := T_F) (N := 7) hx hb hts in_F t_F t_F_ok n_F hown hK hP hD hS 0 rfl rfl 3 (by decide) (hts _ kw_156) (fun _ h9 => h9) rfl (by decide +kernel) (bI_nar _) (bI_fit _) (Nat.le_of_ble_eq_true rfl) d_F_undo_30 (fun H locs hP hD hS => ?_)
    have hP : va_P (dC, dI) cls_ [(fc, .inr (3, [.ref sh, .ref pl, .ref be, .int (bI (false)), .ref cp, .ref kp, .ref se])), (pl, .inr (0, [.ref plu, .ref plm, .ref plo])), (plu, fw_a kI 6 (eu)), (plm, fw_a kI 6 (em)), (plo, fw_a kI 6 (eo)), (be, .inr (0, [.ref beu, .ref bem, .ref beo])), (beu, fw_a kI 6 (eu)), (bem, fw_a kI 6 (em)), (beo, fw_a kI 6 (eo))] H := hP
    have hD : va_D A [(fc, .inr (3, [.ref sh, .ref pl, .ref be, .int (bI (false)), .ref cp, .ref kp, .ref se])), (pl, .inr (0, [.ref plu, .ref plm, .ref plo])), (plu, fw_a kI 6 (eu)), (plm, fw_a kI 6 (em)), (plo, fw_a kI 6 (eo)), (be, .inr (0, [.ref beu, .ref bem, .ref beo])), (beu, fw_a kI 6 (eu)), (bem, fw_a kI 6 (em)), (beo, fw_a kI 6 (eo))] := hD
    refine W.widen (k := 1) (n := 6) (Nat.zero_le _) (Nat.zero_le _) ?_
    refine vx_ret ?_
    refine fw_vret hx hb hr hlocks hS ?_ d_F_undo_33
    · exact ⟨by simp [k_undo, c_1], hP⟩
  · exact fw_throw hx hb hlt hown hts hN hX (List.mem_of_getElem? (i := 22) rfl) fw_E1 hP0 (hl.1.trans hml.symm) d_F_undo_7 d_F_undo_10 d_F_undo_11 d_F_undo_13 d_F_undo_16 htb (Nat.le_of_ble_eq_true rfl) (Nat.le_of_ble_eq_true rfl) (Nat.le_of_ble_eq_true rfl) (Nat.le_of_ble_eq_true rfl) hlocks ⟨rfl, by simp [k_undo, c_1]⟩

set_option maxHeartbeats 4000000 in
set_option maxRecDepth 100000 in
theorem c_F_heat (l : Launch) (hlt : l.stackTraces = false) (dC : Nat → ClassId) (dI : Nat → Nat → Nat) (sz : Nat) (fc : Nat) (pl : Nat) (be : Nat) (ud : Bool) (cp : Nat) (kp : Nat) (se : Nat) (sh : Nat) (sg : Nat) (sd : Nat) (sl : Nat) (su : Nat) (ss : Nat) (nO : Int) (nH : Int) (nS : Int) (nW : Int) (nF : Int) (plu : Nat) (plm : Nat) (plo : Nat) (au : Nat → Int) (am : Nat → Int) (ao : Nat → Int) (kI : ClassId) (fL : Nat → Int) (fU : Nat → Int) (fG : Nat → Int) (fD : Nat → Int) (kL : ClassId) (fS : Nat → Int64) (kZ : ClassId) (kf : Nat → Bool) (o : Int) (le : Int) (us : Int) (u : Int) (mi : Int) (hsh : iv_sh nO nH nS nW nF fL fU fG fD) (hpl : iv_pl nO nH fL fU au am ao) (hb_o : fw_b o) (hb_le : fw_b le) (hb_us : fw_b us) (hb_u : fw_b u) (hb_mi : fw_b mi) : vx_Met l y_F_heat (Cond.code y_F_heat b_F_heat 7 (some .int) :: gw) ({ frames := 6, locals := 90, cells := 1, slots := 6 }) (fw_Px (dC, dI) [.ref fc, .int (iI (o)), .int (iI (le)), .int (iI (us)), .int (iI (u)), .int (iI (mi))] [(fc, .inr (3, [.ref sh, .ref pl, .ref be, .int (bI (ud)), .ref cp, .ref kp, .ref se])), (sh, .inr (1, [.ref sg, .ref sd, .int (iI (nO)), .ref sl, .ref su, .int (iI (nH)), .ref ss, .int (iI (nS)), .int (iI (nW)), .int (iI (nF))])), (sl, fw_a kI 6 (fL)), (su, fw_a kI 6 (fU)), (ss, fw_l kL 3 (fS)), (kp, fw_z kZ 4 (kf)), (pl, .inr (0, [.ref plu, .ref plm, .ref plo])), (plu, fw_a kI 6 (au)), (plm, fw_a kI 6 (am)), (plo, fw_a kI 6 (ao))] [(kI, .int), (kL, .long), (kZ, .boolean)] sz) (fw_Qi (iI (nH + 1 - 1)) (fun H => (k_heat nO nH o le us u mi fS fL au am = 0) ∧ va_P (dC, dI) cls_ [(fc, .inr (3, [.ref sh, .ref pl, .ref be, .int (bI (false)), .ref cp, .ref kp, .ref se])), (sh, .inr (1, [.ref sg, .ref sd, .int (iI (nO)), .ref sl, .ref su, .int (iI (nH + 1)), .ref ss, .int (iI (nS)), .int (iI (nW)), .int (iI (nF))])), (sl, fw_a kI 6 (fw_up fL nH.toNat le)), (su, fw_a kI 6 (fw_up fU nH.toNat us)), (ss, fw_l kL 3 (fS)), (kp, fw_z kZ 4 (fun _ => false)), (pl, .inr (0, [.ref plu, .ref plm, .ref plo])), (plu, fw_a kI 6 (fw_up au (nH + 1 - 1).toNat u)), (plm, fw_a kI 6 (fw_up am (nH + 1 - 1).toNat mi)), (plo, fw_a kI 6 (fw_up ao (nH + 1 - 1).toNat o))] H) (va_A [(fc, .inr (3, [.ref sh, .ref pl, .ref be, .int (bI (ud)), .ref cp, .ref kp, .ref se])), (sh, .inr (1, [.ref sg, .ref sd, .int (iI (nO)), .ref sl, .ref su, .int (iI (nH)), .ref ss, .int (iI (nS)), .int (iI (nW)), .int (iI (nF))])), (sl, fw_a kI 6 (fL)), (su, fw_a kI 6 (fU)), (ss, fw_l kL 3 (fS)), (kp, fw_z kZ 4 (kf)), (pl, .inr (0, [.ref plu, .ref plm, .ref plo])), (plu, fw_a kI 6 (au)), (plm, fw_a kI 6 (am)), (plo, fw_a kI 6 (ao))] sz)) (fw_XC (dC, dI) [(fc, .inr (3, [.ref sh, .ref pl, .ref be, .int (bI (ud)), .ref cp, .ref kp, .ref se])), (sh, .inr (1, [.ref sg, .ref sd, .int (iI (nO)), .ref sl, .ref su, .int (iI (nH)), .ref ss, .int (iI (nS)), .int (iI (nW)), .int (iI (nF))])), (sl, fw_a kI 6 (fL)), (su, fw_a kI 6 (fU)), (ss, fw_l kL 3 (fS)), (kp, fw_z kZ 4 (kf)), (pl, .inr (0, [.ref plu, .ref plm, .ref plo])), (plu, fw_a kI 6 (au)), (plm, fw_a kI 6 (am)), (plo, fw_a kI 6 (ao))] (fun E => (E = "java/lang/IndexOutOfBoundsException" ∧ k_heat nO nH o le us u mi fS fL au am = 1) ∨ (E = "java/lang/IllegalStateException" ∧ k_heat nO nH o le us u mi fS fL au am = 2) ∨ (E = "java/lang/IllegalArgumentException" ∧ k_heat nO nH o le us u mi fS fL au am = 3) ∨ (E = "java/lang/UnsupportedOperationException" ∧ k_heat nO nH o le us u mi fS fL au am = 4)) (va_A [(fc, .inr (3, [.ref sh, .ref pl, .ref be, .int (bI (ud)), .ref cp, .ref kp, .ref se])), (sh, .inr (1, [.ref sg, .ref sd, .int (iI (nO)), .ref sl, .ref su, .int (iI (nH)), .ref ss, .int (iI (nS)), .int (iI (nW)), .int (iI (nF))])), (sl, fw_a kI 6 (fL)), (su, fw_a kI 6 (fU)), (ss, fw_l kL 3 (fS)), (kp, fw_z kZ 4 (kf)), (pl, .inr (0, [.ref plu, .ref plm, .ref plo])), (plu, fw_a kI 6 (au)), (plm, fw_a kI 6 (am)), (plo, fw_a kI 6 (ao))] sz)) 1 6 (va_A [(fc, .inr (3, [.ref sh, .ref pl, .ref be, .int (bI (ud)), .ref cp, .ref kp, .ref se])), (sh, .inr (1, [.ref sg, .ref sd, .int (iI (nO)), .ref sl, .ref su, .int (iI (nH)), .ref ss, .int (iI (nS)), .int (iI (nW)), .int (iI (nF))])), (sl, fw_a kI 6 (fL)), (su, fw_a kI 6 (fU)), (ss, fw_l kL 3 (fS)), (kp, fw_z kZ 4 (kf)), (pl, .inr (0, [.ref plu, .ref plm, .ref plo])), (plu, fw_a kI 6 (au)), (plm, fw_a kI 6 (am)), (plo, fw_a kI 6 (ao))] sz) := by
  refine fw_ofX (Qc := fun A => fw_Qi (iI (nH + 1 - 1)) (fun H => (k_heat nO nH o le us u mi fS fL au am = 0) ∧ va_P (dC, dI) cls_ [(fc, .inr (3, [.ref sh, .ref pl, .ref be, .int (bI (false)), .ref cp, .ref kp, .ref se])), (sh, .inr (1, [.ref sg, .ref sd, .int (iI (nO)), .ref sl, .ref su, .int (iI (nH + 1)), .ref ss, .int (iI (nS)), .int (iI (nW)), .int (iI (nF))])), (sl, fw_a kI 6 (fw_up fL nH.toNat le)), (su, fw_a kI 6 (fw_up fU nH.toNat us)), (ss, fw_l kL 3 (fS)), (kp, fw_z kZ 4 (fun _ => false)), (pl, .inr (0, [.ref plu, .ref plm, .ref plo])), (plu, fw_a kI 6 (fw_up au (nH + 1 - 1).toNat u)), (plm, fw_a kI 6 (fw_up am (nH + 1 - 1).toNat mi)), (plo, fw_a kI 6 (fw_up ao (nH + 1 - 1).toNat o))] H) A) (XC := fun A => fw_XC (dC, dI) [(fc, .inr (3, [.ref sh, .ref pl, .ref be, .int (bI (ud)), .ref cp, .ref kp, .ref se])), (sh, .inr (1, [.ref sg, .ref sd, .int (iI (nO)), .ref sl, .ref su, .int (iI (nH)), .ref ss, .int (iI (nS)), .int (iI (nW)), .int (iI (nF))])), (sl, fw_a kI 6 (fL)), (su, fw_a kI 6 (fU)), (ss, fw_l kL 3 (fS)), (kp, fw_z kZ 4 (kf)), (pl, .inr (0, [.ref plu, .ref plm, .ref plo])), (plu, fw_a kI 6 (au)), (plm, fw_a kI 6 (am)), (plo, fw_a kI 6 (ao))] (fun E => (E = "java/lang/IndexOutOfBoundsException" ∧ k_heat nO nH o le us u mi fS fL au am = 1) ∨ (E = "java/lang/IllegalStateException" ∧ k_heat nO nH o le us u mi fS fL au am = 2) ∨ (E = "java/lang/IllegalArgumentException" ∧ k_heat nO nH o le us u mi fS fL au am = 3) ∨ (E = "java/lang/UnsupportedOperationException" ∧ k_heat nO nH o le us u mi fS fL au am = 4)) A) (by decide) (Nat.le_of_ble_eq_true rfl) ?_
  intro p e s m below meth c A ls hx hb hr hts hown hlocks htb hml hsz hP hK hD hN hX hA hS hl
  have hP0 := hP
  have hl : lv_has ls 7 [(0, .ref fc), (1, .int (iI (o))), (2, .int (iI (le))), (3, .int (iI (us))), (4, .int (iI (u))), (5, .int (iI (mi)))] := hl
  obtain ⟨⟨i1, i2, i3, i4, i5, i6, i7, i8, i9, i10⟩, hi2, hi3⟩ := hsh
  refine lv_aload_n hx hb d_F_heat_0 rfl (lv_at hl 0 rfl) ?_
  refine lv_iload_n hx hb d_F_heat_1 rfl (lv_at hl 1 rfl) ?_
  refine fw_callR (va_runV (As := [.int (iI (o))]) (rest := []) ⟨hx, hb, hml, hown, hts⟩ (c_F_isOrder l dC dI fc pl be ud cp kp se sh sg sd sl su ss nO nH nS nW nF o ⟨by omega, by omega⟩ ⟨by omega, by omega⟩) (cwV 1 hts (gw_V kw_304 kw_306 ks_F_isOrder kw_1 kw_307) rfl rfl rfl (by decide +kernel) ⟨Nat.le_of_ble_eq_true rfl, Nat.le_of_ble_eq_true rfl⟩) (fw_preRV (ci := 3) (q0 := 0) hP hK hN [0, 1] [] rfl rfl rfl rfl) rfl rfl hl.1 rfl (lv_room (Nat.le_of_ble_eq_true rfl)) d_F_heat_2 ⟨Nat.le_of_ble_eq_true rfl, Nat.le_of_ble_eq_true rfl⟩).run ?_
  refine fw_bif_eq (tgt := 16) hx hb d_F_heat_5 (by decide) (fun c_1 => ?_) (fun c_1 => ?_)
  · exact fw_throw hx hb hlt hown hts hN hX (List.mem_of_getElem? (i := 2) rfl) fw_E3 hP0 (hl.1.trans hml.symm) d_F_heat_16 d_F_heat_19 d_F_heat_20 d_F_heat_22 d_F_heat_25 htb (Nat.le_of_ble_eq_true rfl) (Nat.le_of_ble_eq_true rfl) (Nat.le_of_ble_eq_true rfl) (Nat.le_of_ble_eq_true rfl) hlocks (Or.inl ⟨rfl, by simp [k_heat, c_1]⟩)
  · refine lv_iload hx hb d_F_heat_8 (lv_at hl 4 rfl) ?_
    refine fw_callR (va_runS (As := [.int (iI (u))]) (rest := []) ⟨hx, hb, hml, hown, hts⟩ (c_F_isUnit l dC dI u ⟨by omega, by omega⟩) (cwS 1 hts (gw_S kw_308 kw_309 kw_1 kw_310) rfl rfl rfl (by decide +kernel) ⟨Nat.le_of_ble_eq_true rfl, Nat.le_of_ble_eq_true rfl⟩) (fw_preRS hP hK hN [] [] rfl rfl) rfl rfl hl.1 rfl (lv_room (Nat.le_of_ble_eq_true rfl)) d_F_heat_10 ⟨Nat.le_of_ble_eq_true rfl, Nat.le_of_ble_eq_true rfl⟩).run ?_
    refine fw_bif_ne (tgt := 26) hx hb d_F_heat_13 (by decide) (fun c_2 => ?_) (fun c_2 => ?_)
    · obtain ⟨g1, g2⟩ := fc_in_t c_1
      obtain ⟨g3, g4⟩ := fc_in_t c_2
      refine lv_aload_n hx hb d_F_heat_26 rfl (lv_at hl 0 rfl) ?_
      refine va_get (D := (dC, dI)) (ci := 3) (v := .ref sh) (C := R_F) (T := T_F) (N := 7) hx hb hts in_F hown hK hP 0 rfl rfl 0 (by decide) (hts _ kw_153) (fun _ h9 => h9) rfl d_F_heat_27 ?_
      refine va_get (D := (dC, dI)) (ci := 1) (v := .int (iI (nH))) (C := R_S) (T := T_S) (N := 10) hx hb hts in_S hown hK hP 1 rfl rfl 5 (by decide) (hts _ kw_40) (fun _ h9 => h9) rfl d_F_heat_30 ?_
      refine lv_bipush (v := (iI (6))) hx hb d_F_heat_33 (by decide) ?_
      refine fw_icmp_lt (tgt := 48) hx hb d_F_heat_35 (by decide) ⟨by omega, by omega⟩ ⟨by omega, by omega⟩ (fun c_3 => ?_) (fun c_3 => ?_)
      · refine lv_iload_n hx hb d_F_heat_48 rfl (lv_at hl 2 rfl) ?_
        refine lv_iconst (v := (iI (1))) hx hb d_F_heat_49 (by decide) ?_
        refine lv_bipush (v := (iI (20))) hx hb d_F_heat_50 (by decide) ?_
        refine fw_callR (va_runS (As := [.int (iI (le)), .int (iI (1)), .int (iI (20))]) (rest := []) ⟨hx, hb, hml, hown, hts⟩ (c_F_isWithin l dC dI le 1 20 ⟨by omega, by omega⟩ ⟨by omega, by omega⟩ ⟨by omega, by omega⟩) (cwS 3 hts (gw_S kw_272 kw_273 kw_1 kw_274) rfl rfl rfl (by decide +kernel) ⟨Nat.le_of_ble_eq_true rfl, Nat.le_of_ble_eq_true rfl⟩) (fw_preRS hP hK hN [] [] rfl rfl) rfl rfl hl.1 rfl (lv_room (Nat.le_of_ble_eq_true rfl)) d_F_heat_52 ⟨Nat.le_of_ble_eq_true rfl, Nat.le_of_ble_eq_true rfl⟩).run ?_
        refine fw_bif_eq (tgt := 76) hx hb d_F_heat_55 (by decide) (fun c_4 => ?_) (fun c_4 => ?_)
        · exact fw_throw hx hb hlt hown hts hN hX (List.mem_of_getElem? (i := 4) rfl) fw_E2 hP0 (hl.1.trans hml.symm) d_F_heat_76 d_F_heat_79 d_F_heat_80 d_F_heat_82 d_F_heat_85 htb (Nat.le_of_ble_eq_true rfl) (Nat.le_of_ble_eq_true rfl) (Nat.le_of_ble_eq_true rfl) (Nat.le_of_ble_eq_true rfl) hlocks (Or.inr (Or.inr (Or.inl ⟨rfl, by simp [k_heat, c_1, c_2, c_3, c_4]⟩)))
        · refine lv_iload_n hx hb d_F_heat_58 rfl (lv_at hl 3 rfl) ?_
          refine lv_iconst (v := (iI (1))) hx hb d_F_heat_59 (by decide) ?_
          refine lv_bipush (v := (iI (7))) hx hb d_F_heat_60 (by decide) ?_
          refine fw_callR (va_runS (As := [.int (iI (us)), .int (iI (1)), .int (iI (7))]) (rest := []) ⟨hx, hb, hml, hown, hts⟩ (c_F_isWithin l dC dI us 1 7 ⟨by omega, by omega⟩ ⟨by omega, by omega⟩ ⟨by omega, by omega⟩) (cwS 3 hts (gw_S kw_272 kw_273 kw_1 kw_274) rfl rfl rfl (by decide +kernel) ⟨Nat.le_of_ble_eq_true rfl, Nat.le_of_ble_eq_true rfl⟩) (fw_preRS hP hK hN [] [] rfl rfl) rfl rfl hl.1 rfl (lv_room (Nat.le_of_ble_eq_true rfl)) d_F_heat_62 ⟨Nat.le_of_ble_eq_true rfl, Nat.le_of_ble_eq_true rfl⟩).run ?_
          refine fw_bif_eq (tgt := 76) hx hb d_F_heat_65 (by decide) (fun c_5 => ?_) (fun c_5 => ?_)
          · exact fw_throw hx hb hlt hown hts hN hX (List.mem_of_getElem? (i := 4) rfl) fw_E2 hP0 (hl.1.trans hml.symm) d_F_heat_76 d_F_heat_79 d_F_heat_80 d_F_heat_82 d_F_heat_85 htb (Nat.le_of_ble_eq_true rfl) (Nat.le_of_ble_eq_true rfl) (Nat.le_of_ble_eq_true rfl) (Nat.le_of_ble_eq_true rfl) hlocks (Or.inr (Or.inr (Or.inl ⟨rfl, by simp [k_heat, c_1, c_2, c_3, c_4, c_5]⟩)))
          · refine lv_iload hx hb d_F_heat_68 (lv_at hl 5 rfl) ?_
            refine fw_callR (va_runS (As := [.int (iI (mi))]) (rest := []) ⟨hx, hb, hml, hown, hts⟩ (c_F_isMinute l dC dI mi ⟨by omega, by omega⟩) (cwS 1 hts (gw_S kw_328 kw_329 kw_1 kw_330) rfl rfl rfl (by decide +kernel) ⟨Nat.le_of_ble_eq_true rfl, Nat.le_of_ble_eq_true rfl⟩) (fw_preRS hP hK hN [] [] rfl rfl) rfl rfl hl.1 rfl (lv_room (Nat.le_of_ble_eq_true rfl)) d_F_heat_70 ⟨Nat.le_of_ble_eq_true rfl, Nat.le_of_ble_eq_true rfl⟩).run ?_
            refine fw_bif_ne (tgt := 86) hx hb d_F_heat_73 (by decide) (fun c_6 => ?_) (fun c_6 => ?_)
            · obtain ⟨g5, g6⟩ := fc_in_t c_4
              obtain ⟨g7, g8⟩ := fc_in_t c_5
              obtain ⟨g9, g10⟩ := fc_in_t c_6
              have q3 : ∀ j : Nat, (j : Int) < nH → fw_b (au j) := fun j hj => by have := hpl j hj; omega
              refine lv_iload_n hx hb d_F_heat_86 rfl (lv_at hl 3 rfl) ?_
              refine lv_iload hx hb d_F_heat_87 (lv_at hl 4 rfl) ?_
              refine fw_callR (va_runS (As := [.int (iI (us)), .int (iI (u))]) (rest := []) ⟨hx, hb, hml, hown, hts⟩ (c_F_mayTake l dC dI us u (by first | assumption | omega) (by first | assumption | omega) (by first | assumption | omega) (by first | assumption | omega)) (cwS 2 hts (gw_S kw_332 kw_333 kw_1 kw_334) rfl rfl rfl (by decide +kernel) ⟨Nat.le_of_ble_eq_true rfl, Nat.le_of_ble_eq_true rfl⟩) (fw_preRS hP hK hN [] [] rfl rfl) rfl rfl hl.1 rfl (lv_room (Nat.le_of_ble_eq_true rfl)) d_F_heat_89 ⟨Nat.le_of_ble_eq_true rfl, Nat.le_of_ble_eq_true rfl⟩).run ?_
              refine fw_bif_eq (tgt := 121) hx hb d_F_heat_92 (by decide) (fun c_7 => ?_) (fun c_7 => ?_)
              · exact fw_throw hx hb hlt hown hts hN hX (List.mem_of_getElem? (i := 5) rfl) fw_E4 hP0 (hl.1.trans hml.symm) d_F_heat_121 d_F_heat_124 d_F_heat_125 d_F_heat_127 d_F_heat_130 htb (Nat.le_of_ble_eq_true rfl) (Nat.le_of_ble_eq_true rfl) (Nat.le_of_ble_eq_true rfl) (Nat.le_of_ble_eq_true rfl) hlocks (Or.inr (Or.inr (Or.inr ⟨rfl, by simp [k_heat, c_1, c_2, c_3, c_4, c_5, c_6, c_7]⟩)))
              · refine lv_aload_n hx hb d_F_heat_95 rfl (lv_at hl 0 rfl) ?_
                refine va_get (D := (dC, dI)) (ci := 3) (v := .ref sh) (C := R_F) (T := T_F) (N := 7) hx hb hts in_F hown hK hP 0 rfl rfl 0 (by decide) (hts _ kw_153) (fun _ h9 => h9) rfl d_F_heat_96 ?_
                refine lv_aload_n hx hb d_F_heat_99 rfl (lv_at hl 0 rfl) ?_
                refine va_get (D := (dC, dI)) (ci := 3) (v := .ref pl) (C := R_F) (T := T_F) (N := 7) hx hb hts in_F hown hK hP 0 rfl rfl 1 (by decide) (hts _ kw_154) (fun _ h9 => h9) rfl d_F_heat_100 ?_
                refine lv_aload_n hx hb d_F_heat_103 rfl (lv_at hl 0 rfl) ?_
                refine va_get (D := (dC, dI)) (ci := 3) (v := .ref sh) (C := R_F) (T := T_F) (N := 7) hx hb hts in_F hown hK hP 0 rfl rfl 0 (by decide) (hts _ kw_153) (fun _ h9 => h9) rfl d_F_heat_104 ?_
                refine va_get (D := (dC, dI)) (ci := 1) (v := .int (iI (nH))) (C := R_S) (T := T_S) (N := 10) hx hb hts in_S hown hK hP 1 rfl rfl 5 (by decide) (hts _ kw_40) (fun _ h9 => h9) rfl d_F_heat_107 ?_
                refine lv_iload hx hb d_F_heat_110 (lv_at hl 4 rfl) ?_
                refine lv_iload hx hb d_F_heat_112 (lv_at hl 5 rfl) ?_
                refine lv_iload_n hx hb d_F_heat_114 rfl (lv_at hl 2 rfl) ?_
                refine fw_callR (va_runV (As := [.ref pl, .int (iI (nH)), .int (iI (u)), .int (iI (mi)), .int (iI (le))]) (rest := []) ⟨hx, hb, hml, hown, hts⟩ (c_S_hasRoom l dC dI sh sg sd sl su ss nO nH nS nW nF pl plu plm plo au am kI kL fL fS nH u mi le (by first | assumption | omega) (by first | assumption | omega) (by first | assumption | omega) (by first | assumption | omega) ⟨by omega, by omega⟩ (by assumption) ⟨by omega, by omega⟩) (cwV 5 hts (gw_V kw_335 kw_336 kw_337 kw_2 kw_338) rfl rfl rfl (by decide +kernel) ⟨Nat.le_of_ble_eq_true rfl, Nat.le_of_ble_eq_true rfl⟩) (fw_preRV (ci := 1) (q0 := 1) hP hK hN [1, 2, 4, 6, 7, 8] [0, 1] rfl rfl rfl rfl) rfl rfl hl.1 rfl (lv_room (Nat.le_of_ble_eq_true rfl)) d_F_heat_115 ⟨Nat.le_of_ble_eq_true rfl, Nat.le_of_ble_eq_true rfl⟩).run ?_
                refine fw_bif_ne (tgt := 131) hx hb d_F_heat_118 (by decide) (fun c_8 => ?_) (fun c_8 => ?_)
                · refine lv_aload_n hx hb d_F_heat_131 rfl (lv_at hl 0 rfl) ?_
                  refine va_get (D := (dC, dI)) (ci := 3) (v := .ref sh) (C := R_F) (T := T_F) (N := 7) hx hb hts in_F hown hK hP 0 rfl rfl 0 (by decide) (hts _ kw_153) (fun _ h9 => h9) rfl d_F_heat_132 ?_
                  refine lv_iload_n hx hb d_F_heat_135 rfl (lv_at hl 2 rfl) ?_
                  refine lv_iload_n hx hb d_F_heat_136 rfl (lv_at hl 3 rfl) ?_
                  refine fw_calliP [1, 2, 3] (va_runV (As := [.int (iI (le)), .int (iI (us))]) (rest := []) ⟨hx, hb, hml, hown, hts⟩ (c_S_addHeat l dC dI _ sh sg sd sl su ss nO nH nS nW nF kI fL fU le us (by first | assumption | omega) (by first | assumption | omega)) (cwV 2 hts (gw_V kw_358 kw_359 kw_360 kw_2 kw_361) rfl rfl rfl (by decide +kernel) ⟨Nat.le_of_ble_eq_true rfl, Nat.le_of_ble_eq_true rfl⟩) (fw_preV (ci := 1) (q0 := 1) hP hK hD hN [1, 2, 3] [0] rfl rfl rfl rfl rfl) rfl rfl hl.1 rfl (lv_room (Nat.le_of_ble_eq_true rfl)) d_F_heat_137 ⟨Nat.le_of_ble_eq_true rfl, Nat.le_of_ble_eq_true rfl⟩) hP hD hS hA rfl rfl rfl (fun H locs hP hD hS => ?_)
                  have hP : va_P (dC, dI) cls_ [(fc, .inr (3, [.ref sh, .ref pl, .ref be, .int (bI (ud)), .ref cp, .ref kp, .ref se])), (sh, .inr (1, [.ref sg, .ref sd, .int (iI (nO)), .ref sl, .ref su, .int (iI (nH + 1)), .ref ss, .int (iI (nS)), .int (iI (nW)), .int (iI (nF))])), (sl, fw_a kI 6 (fw_up fL nH.toNat le)), (su, fw_a kI 6 (fw_up fU nH.toNat us)), (ss, fw_l kL 3 (fS)), (kp, fw_z kZ 4 (kf)), (pl, .inr (0, [.ref plu, .ref plm, .ref plo])), (plu, fw_a kI 6 (au)), (plm, fw_a kI 6 (am)), (plo, fw_a kI 6 (ao))] H := hP
                  have hD : va_D A [(fc, .inr (3, [.ref sh, .ref pl, .ref be, .int (bI (ud)), .ref cp, .ref kp, .ref se])), (sh, .inr (1, [.ref sg, .ref sd, .int (iI (nO)), .ref sl, .ref su, .int (iI (nH + 1)), .ref ss, .int (iI (nS)), .int (iI (nW)), .int (iI (nF))])), (sl, fw_a kI 6 (fw_up fL nH.toNat le)), (su, fw_a kI 6 (fw_up fU nH.toNat us)), (ss, fw_l kL 3 (fS)), (kp, fw_z kZ 4 (kf)), (pl, .inr (0, [.ref plu, .ref plm, .ref plo])), (plu, fw_a kI 6 (au)), (plm, fw_a kI 6 (am)), (plo, fw_a kI 6 (ao))] := hD
                  refine lv_istore (lv' := [(6, .int (iI (nH + 1 - 1))), (0, .ref fc), (1, .int (iI (o))), (2, .int (iI (le))), (3, .int (iI (us))), (4, .int (iI (u))), (5, .int (iI (mi)))]) hx hb d_F_heat_140 hl (by decide) rfl (fun ls hl => ?_)
                  refine lv_aload_n hx hb d_F_heat_142 rfl (lv_at hl 1 rfl) ?_
                  refine va_get (D := (dC, dI)) (ci := 3) (v := .ref pl) (C := R_F) (T := T_F) (N := 7) hx hb hts in_F hown hK hP 0 rfl rfl 1 (by decide) (hts _ kw_154) (fun _ h9 => h9) rfl d_F_heat_143 ?_
                  refine lv_iload hx hb d_F_heat_146 (lv_at hl 0 rfl) ?_
                  refine lv_iload hx hb d_F_heat_148 (lv_at hl 5 rfl) ?_
                  refine lv_iload hx hb d_F_heat_150 (lv_at hl 6 rfl) ?_
                  refine fw_callvP [6, 7, 8] (va_runV (As := [.int (iI (nH + 1 - 1)), .int (iI (u)), .int (iI (mi))]) (rest := []) ⟨hx, hb, hml, hown, hts⟩ (c_P_put l dC dI _ pl plu plm plo au am kI (nH + 1 - 1) u mi (by first | assumption | omega) (by first | assumption | omega)) (cwV 3 hts (gw_V kw_362 kw_363 kw_364 kw_3 kw_365) rfl rfl rfl (by decide +kernel) ⟨Nat.le_of_ble_eq_true rfl, Nat.le_of_ble_eq_true rfl⟩) (fw_preV (ci := 0) (q0 := 6) hP hK hD hN [6, 7, 8] [0] rfl rfl rfl rfl rfl) rfl rfl hl.1 rfl (lv_room (Nat.le_of_ble_eq_true rfl)) d_F_heat_152 ⟨Nat.le_of_ble_eq_true rfl, Nat.le_of_ble_eq_true rfl⟩) hP hD hS hA rfl rfl rfl (fun H locs hP hD hS => ?_)
                  have hP : va_P (dC, dI) cls_ [(fc, .inr (3, [.ref sh, .ref pl, .ref be, .int (bI (ud)), .ref cp, .ref kp, .ref se])), (sh, .inr (1, [.ref sg, .ref sd, .int (iI (nO)), .ref sl, .ref su, .int (iI (nH + 1)), .ref ss, .int (iI (nS)), .int (iI (nW)), .int (iI (nF))])), (sl, fw_a kI 6 (fw_up fL nH.toNat le)), (su, fw_a kI 6 (fw_up fU nH.toNat us)), (ss, fw_l kL 3 (fS)), (kp, fw_z kZ 4 (kf)), (pl, .inr (0, [.ref plu, .ref plm, .ref plo])), (plu, fw_a kI 6 (fw_up au (nH + 1 - 1).toNat u)), (plm, fw_a kI 6 (fw_up am (nH + 1 - 1).toNat mi)), (plo, fw_a kI 6 (ao))] H := hP
                  have hD : va_D A [(fc, .inr (3, [.ref sh, .ref pl, .ref be, .int (bI (ud)), .ref cp, .ref kp, .ref se])), (sh, .inr (1, [.ref sg, .ref sd, .int (iI (nO)), .ref sl, .ref su, .int (iI (nH + 1)), .ref ss, .int (iI (nS)), .int (iI (nW)), .int (iI (nF))])), (sl, fw_a kI 6 (fw_up fL nH.toNat le)), (su, fw_a kI 6 (fw_up fU nH.toNat us)), (ss, fw_l kL 3 (fS)), (kp, fw_z kZ 4 (kf)), (pl, .inr (0, [.ref plu, .ref plm, .ref plo])), (plu, fw_a kI 6 (fw_up au (nH + 1 - 1).toNat u)), (plm, fw_a kI 6 (fw_up am (nH + 1 - 1).toNat mi)), (plo, fw_a kI 6 (ao))] := hD
                  refine lv_aload_n hx hb d_F_heat_155 rfl (lv_at hl 1 rfl) ?_
                  refine va_get (D := (dC, dI)) (ci := 3) (v := .ref pl) (C := R_F) (T := T_F) (N := 7) hx hb hts in_F hown hK hP 0 rfl rfl 1 (by decide) (hts _ kw_154) (fun _ h9 => h9) rfl d_F_heat_156 ?_
                  refine va_get (D := (dC, dI)) (ci := 0) (v := .ref plo) (C := R_P) (T := T_P) (N := 3) hx hb hts in_P hown hK hP 6 rfl rfl 2 (by decide) (hts _ kw_88) (fun _ h9 => h9) rfl d_F_heat_159 ?_
                  refine lv_iload hx hb d_F_heat_162 (lv_at hl 0 rfl) ?_
                  refine lv_iload_n hx hb d_F_heat_164 rfl (lv_at hl 2 rfl) ?_
                  refine fw_iast hx hb hK hP hD hS 9 0 rfl rfl ((nH + 1 - 1).toNat) (by omega) (by omega) (by omega) d_F_heat_165 (fun H locs hP hD hS => ?_)
                  have hP : va_P (dC, dI) cls_ [(fc, .inr (3, [.ref sh, .ref pl, .ref be, .int (bI (ud)), .ref cp, .ref kp, .ref se])), (sh, .inr (1, [.ref sg, .ref sd, .int (iI (nO)), .ref sl, .ref su, .int (iI (nH + 1)), .ref ss, .int (iI (nS)), .int (iI (nW)), .int (iI (nF))])), (sl, fw_a kI 6 (fw_up fL nH.toNat le)), (su, fw_a kI 6 (fw_up fU nH.toNat us)), (ss, fw_l kL 3 (fS)), (kp, fw_z kZ 4 (kf)), (pl, .inr (0, [.ref plu, .ref plm, .ref plo])), (plu, fw_a kI 6 (fw_up au (nH + 1 - 1).toNat u)), (plm, fw_a kI 6 (fw_up am (nH + 1 - 1).toNat mi)), (plo, fw_a kI 6 (fw_up ao ((nH + 1 - 1).toNat) o))] H := hP
                  have hD : va_D A [(fc, .inr (3, [.ref sh, .ref pl, .ref be, .int (bI (ud)), .ref cp, .ref kp, .ref se])), (sh, .inr (1, [.ref sg, .ref sd, .int (iI (nO)), .ref sl, .ref su, .int (iI (nH + 1)), .ref ss, .int (iI (nS)), .int (iI (nW)), .int (iI (nF))])), (sl, fw_a kI 6 (fw_up fL nH.toNat le)), (su, fw_a kI 6 (fw_up fU nH.toNat us)), (ss, fw_l kL 3 (fS)), (kp, fw_z kZ 4 (kf)), (pl, .inr (0, [.ref plu, .ref plm, .ref plo])), (plu, fw_a kI 6 (fw_up au (nH + 1 - 1).toNat u)), (plm, fw_a kI 6 (fw_up am (nH + 1 - 1).toNat mi)), (plo, fw_a kI 6 (fw_up ao ((nH + 1 - 1).toNat) o))] := hD
                  refine lv_aload_n hx hb d_F_heat_166 rfl (lv_at hl 1 rfl) ?_
                  refine fw_callvP [0, 5] (va_runV (As := []) (rest := []) ⟨hx, hb, hml, hown, hts⟩ (c_F_forgetCopiesAndUndo l dC dI _ fc pl be ud cp kp se sh kZ kf ) (cwV 0 hts (gw_V kw_366 kw_368 ks_F_forgetCopiesAndUndo kw_1 kw_369) rfl rfl rfl (by decide +kernel) ⟨Nat.le_of_ble_eq_true rfl, Nat.le_of_ble_eq_true rfl⟩) (fw_preV (ci := 3) (q0 := 0) hP hK hD hN [0, 5] [2] rfl rfl rfl rfl rfl) rfl rfl hl.1 rfl (lv_room (Nat.le_of_ble_eq_true rfl)) d_F_heat_167 ⟨Nat.le_of_ble_eq_true rfl, Nat.le_of_ble_eq_true rfl⟩) hP hD hS hA rfl rfl rfl (fun H locs hP hD hS => ?_)
                  have hP : va_P (dC, dI) cls_ [(fc, .inr (3, [.ref sh, .ref pl, .ref be, .int (bI (false)), .ref cp, .ref kp, .ref se])), (sh, .inr (1, [.ref sg, .ref sd, .int (iI (nO)), .ref sl, .ref su, .int (iI (nH + 1)), .ref ss, .int (iI (nS)), .int (iI (nW)), .int (iI (nF))])), (sl, fw_a kI 6 (fw_up fL nH.toNat le)), (su, fw_a kI 6 (fw_up fU nH.toNat us)), (ss, fw_l kL 3 (fS)), (kp, fw_z kZ 4 (fun _ => false)), (pl, .inr (0, [.ref plu, .ref plm, .ref plo])), (plu, fw_a kI 6 (fw_up au (nH + 1 - 1).toNat u)), (plm, fw_a kI 6 (fw_up am (nH + 1 - 1).toNat mi)), (plo, fw_a kI 6 (fw_up ao ((nH + 1 - 1).toNat) o))] H := hP
                  have hD : va_D A [(fc, .inr (3, [.ref sh, .ref pl, .ref be, .int (bI (false)), .ref cp, .ref kp, .ref se])), (sh, .inr (1, [.ref sg, .ref sd, .int (iI (nO)), .ref sl, .ref su, .int (iI (nH + 1)), .ref ss, .int (iI (nS)), .int (iI (nW)), .int (iI (nF))])), (sl, fw_a kI 6 (fw_up fL nH.toNat le)), (su, fw_a kI 6 (fw_up fU nH.toNat us)), (ss, fw_l kL 3 (fS)), (kp, fw_z kZ 4 (fun _ => false)), (pl, .inr (0, [.ref plu, .ref plm, .ref plo])), (plu, fw_a kI 6 (fw_up au (nH + 1 - 1).toNat u)), (plm, fw_a kI 6 (fw_up am (nH + 1 - 1).toNat mi)), (plo, fw_a kI 6 (fw_up ao ((nH + 1 - 1).toNat) o))] := hD
                  refine lv_iload hx hb d_F_heat_170 (lv_at hl 0 rfl) ?_
                  refine W.widen (k := 1) (n := 6) (Nat.zero_le _) (Nat.zero_le _) ?_
                  refine vx_ret ?_
                  refine fw_iret hx hb hr hlocks hS ?_ ?_ d_F_heat_172
                  · exact ⟨by simp [k_heat, c_1, c_2, c_3, c_4, c_5, c_6, c_7, c_8], hP⟩
                  · rfl
                · exact fw_throw hx hb hlt hown hts hN hX (List.mem_of_getElem? (i := 5) rfl) fw_E4 hP0 (hl.1.trans hml.symm) d_F_heat_121 d_F_heat_124 d_F_heat_125 d_F_heat_127 d_F_heat_130 htb (Nat.le_of_ble_eq_true rfl) (Nat.le_of_ble_eq_true rfl) (Nat.le_of_ble_eq_true rfl) (Nat.le_of_ble_eq_true rfl) hlocks (Or.inr (Or.inr (Or.inr ⟨rfl, by simp [k_heat, c_1, c_2, c_3, c_4, c_5, c_6, c_7, c_8]⟩)))
            · exact fw_throw hx hb hlt hown hts hN hX (List.mem_of_getElem? (i := 4) rfl) fw_E2 hP0 (hl.1.trans hml.symm) d_F_heat_76 d_F_heat_79 d_F_heat_80 d_F_heat_82 d_F_heat_85 htb (Nat.le_of_ble_eq_true rfl) (Nat.le_of_ble_eq_true rfl) (Nat.le_of_ble_eq_true rfl) (Nat.le_of_ble_eq_true rfl) hlocks (Or.inr (Or.inr (Or.inl ⟨rfl, by simp [k_heat, c_1, c_2, c_3, c_4, c_5, c_6]⟩)))
      · exact fw_throw hx hb hlt hown hts hN hX (List.mem_of_getElem? (i := 3) rfl) fw_E1 hP0 (hl.1.trans hml.symm) d_F_heat_38 d_F_heat_41 d_F_heat_42 d_F_heat_44 d_F_heat_47 htb (Nat.le_of_ble_eq_true rfl) (Nat.le_of_ble_eq_true rfl) (Nat.le_of_ble_eq_true rfl) (Nat.le_of_ble_eq_true rfl) hlocks (Or.inr (Or.inl ⟨rfl, by simp [k_heat, c_1, c_2, c_3]⟩))
    · exact fw_throw hx hb hlt hown hts hN hX (List.mem_of_getElem? (i := 2) rfl) fw_E3 hP0 (hl.1.trans hml.symm) d_F_heat_16 d_F_heat_19 d_F_heat_20 d_F_heat_22 d_F_heat_25 htb (Nat.le_of_ble_eq_true rfl) (Nat.le_of_ble_eq_true rfl) (Nat.le_of_ble_eq_true rfl) (Nat.le_of_ble_eq_true rfl) hlocks (Or.inl ⟨rfl, by simp [k_heat, c_1, c_2]⟩)
end
