theorem fw_b0 : fw_b 0 := ⟨by decide, by decide⟩
section FWR
variable {p : Program} {l : Launch} {e : Env} {R : Room} {s : State} {m : MethodId} {args : Array Value} {below : List Frame} {meth : Method} {c : Code} {H : Heap} {locs : List Loc} {cells slots : Nat} {Q : State → Prop}
variable {cc : ByteArray} {pc : Nat} {ls : Array Slot} {rest : List Value} {D : va_G} {A : Nat → Prop} {a : Nat} {tys : List (ClassId × FieldType)} {ws : va_W} {H0 : Heap}
theorem fw_cast {x y : Value} (h : x = y) (k : W p l e R s m args below meth c H locs cells slots Q (F0 m pc ls (y :: rest))) : W p l e R s m args below meth c H locs cells slots Q (F0 m pc ls (x :: rest)) := by rw [h]; exact k
theorem fw_iadd (hx : p.tables.exec = Jvm.exec) (hb : c.code = cc) {x y : Int} (hd : decode cc pc = .ok (.iadd, 1)) (k : W p l e R s m args below meth c H locs cells slots Q (F0 m (pc + 1) ls (.int (iI (x + y)) :: rest))) : W p l e R s m args below meth c H locs cells slots Q (F0 m pc ls (.int (iI y) :: .int (iI x) :: rest)) :=
  lv_iadd hx hb hd (by rw [iI_add]; exact k)
theorem fw_isub (hx : p.tables.exec = Jvm.exec) (hb : c.code = cc) {x y : Int} (hd : decode cc pc = .ok (.isub, 1)) (k : W p l e R s m args below meth c H locs cells slots Q (F0 m (pc + 1) ls (.int (iI (x - y)) :: rest))) : W p l e R s m args below meth c H locs cells slots Q (F0 m pc ls (.int (iI y) :: .int (iI x) :: rest)) :=
  lv_isub hx hb hd (by rw [iI_sub]; exact k)
theorem fw_imul (hx : p.tables.exec = Jvm.exec) (hb : c.code = cc) {x y : Int} (hd : decode cc pc = .ok (.imul, 1)) (k : W p l e R s m args below meth c H locs cells slots Q (F0 m (pc + 1) ls (.int (iI (x * y)) :: rest))) : W p l e R s m args below meth c H locs cells slots Q (F0 m pc ls (.int (iI y) :: .int (iI x) :: rest)) :=
  lv_imul hx hb hd (by rw [iI_mul]; exact k)
-- compares
theorem fw_icmp_lt (hx : p.tables.exec = Jvm.exec) (hb : c.code = cc) {x y : Int} {off : Int} {tgt : Nat} (hd : decode cc pc = .ok (.if_icmp .lt off, 3)) (ht : (pc : Int) + off = (tgt : Int)) (h1 : fw_b x) (h2 : fw_b y)
    (kt : x < y → W p l e R s m args below meth c H locs cells slots Q (F0 m tgt ls rest)) (kf : ¬ x < y → W p l e R s m args below meth c H locs cells slots Q (F0 m (pc + 3) ls rest)) : W p l e R s m args below meth c H locs cells slots Q (F0 m pc ls (.int (iI y) :: .int (iI x) :: rest)) :=
  lv_icmp_lt hx hb hd ht (fun h => kt ((iI_lt h1 h2).mp h)) (fun h => kf (fun q => h ((iI_lt h1 h2).mpr q)))
theorem fw_icmp_le (hx : p.tables.exec = Jvm.exec) (hb : c.code = cc) {x y : Int} {off : Int} {tgt : Nat} (hd : decode cc pc = .ok (.if_icmp .le off, 3)) (ht : (pc : Int) + off = (tgt : Int)) (h1 : fw_b x) (h2 : fw_b y)
    (kt : x ≤ y → W p l e R s m args below meth c H locs cells slots Q (F0 m tgt ls rest)) (kf : ¬ x ≤ y → W p l e R s m args below meth c H locs cells slots Q (F0 m (pc + 3) ls rest)) : W p l e R s m args below meth c H locs cells slots Q (F0 m pc ls (.int (iI y) :: .int (iI x) :: rest)) :=
  lv_icmp_le hx hb hd ht (fun h => kt ((iI_le h1 h2).mp h)) (fun h => kf (fun q => h ((iI_le h1 h2).mpr q)))
theorem fw_icmp_ge (hx : p.tables.exec = Jvm.exec) (hb : c.code = cc) {x y : Int} {off : Int} {tgt : Nat} (hd : decode cc pc = .ok (.if_icmp .ge off, 3)) (ht : (pc : Int) + off = (tgt : Int)) (h1 : fw_b x) (h2 : fw_b y)
    (kt : y ≤ x → W p l e R s m args below meth c H locs cells slots Q (F0 m tgt ls rest)) (kf : ¬ y ≤ x → W p l e R s m args below meth c H locs cells slots Q (F0 m (pc + 3) ls rest)) : W p l e R s m args below meth c H locs cells slots Q (F0 m pc ls (.int (iI y) :: .int (iI x) :: rest)) :=
  lv_icmp_ge hx hb hd ht (fun h => kt ((iI_le h2 h1).mp h)) (fun h => kf (fun q => h ((iI_le h2 h1).mpr q)))
theorem fw_icmp_gt (hx : p.tables.exec = Jvm.exec) (hb : c.code = cc) {x y : Int} {off : Int} {tgt : Nat} (hd : decode cc pc = .ok (.if_icmp .gt off, 3)) (ht : (pc : Int) + off = (tgt : Int)) (h1 : fw_b x) (h2 : fw_b y)
    (kt : y < x → W p l e R s m args below meth c H locs cells slots Q (F0 m tgt ls rest)) (kf : ¬ y < x → W p l e R s m args below meth c H locs cells slots Q (F0 m (pc + 3) ls rest)) : W p l e R s m args below meth c H locs cells slots Q (F0 m pc ls (.int (iI y) :: .int (iI x) :: rest)) :=
  lv_icmp_gt hx hb hd ht (fun h => kt ((iI_lt h2 h1).mp h)) (fun h => kf (fun q => h ((iI_lt h2 h1).mpr q)))
theorem fw_icmp_eq (hx : p.tables.exec = Jvm.exec) (hb : c.code = cc) {x y : Int} {off : Int} {tgt : Nat} (hd : decode cc pc = .ok (.if_icmp .eq off, 3)) (ht : (pc : Int) + off = (tgt : Int)) (h1 : fw_b x) (h2 : fw_b y)
    (kt : x = y → W p l e R s m args below meth c H locs cells slots Q (F0 m tgt ls rest)) (kf : ¬ x = y → W p l e R s m args below meth c H locs cells slots Q (F0 m (pc + 3) ls rest)) : W p l e R s m args below meth c H locs cells slots Q (F0 m pc ls (.int (iI y) :: .int (iI x) :: rest)) :=
  lv_icmp_eq hx hb hd ht (fun h => kt ((iI_eq h1 h2).mp h)) (fun h => kf (fun q => h ((iI_eq h1 h2).mpr q)))
theorem fw_icmp_ne (hx : p.tables.exec = Jvm.exec) (hb : c.code = cc) {x y : Int} {off : Int} {tgt : Nat} (hd : decode cc pc = .ok (.if_icmp .ne off, 3)) (ht : (pc : Int) + off = (tgt : Int)) (h1 : fw_b x) (h2 : fw_b y)
    (kt : ¬ x = y → W p l e R s m args below meth c H locs cells slots Q (F0 m tgt ls rest)) (kf : x = y → W p l e R s m args below meth c H locs cells slots Q (F0 m (pc + 3) ls rest)) : W p l e R s m args below meth c H locs cells slots Q (F0 m pc ls (.int (iI y) :: .int (iI x) :: rest)) :=
  lv_icmp_ne hx hb hd ht (fun h => kt (fun q => h ((iI_eq h1 h2).mpr q))) (fun h => kf ((iI_eq h1 h2).mp h))
theorem fw_if_eq (hx : p.tables.exec = Jvm.exec) (hb : c.code = cc) {x : Int} {off : Int} {tgt : Nat} (hd : decode cc pc = .ok (.ifCond .eq off, 3)) (ht : (pc : Int) + off = (tgt : Int)) (h1 : fw_b x)
    (kt : x = 0 → W p l e R s m args below meth c H locs cells slots Q (F0 m tgt ls rest)) (kf : ¬ x = 0 → W p l e R s m args below meth c H locs cells slots Q (F0 m (pc + 3) ls rest)) : W p l e R s m args below meth c H locs cells slots Q (F0 m pc ls (.int (iI x) :: rest)) :=
  lv_if_eq hx hb hd ht (fun h => kt ((iI_eq h1 fw_b0).mp h)) (fun h => kf (fun q => h ((iI_eq h1 fw_b0).mpr q)))
theorem fw_if_ne (hx : p.tables.exec = Jvm.exec) (hb : c.code = cc) {x : Int} {off : Int} {tgt : Nat} (hd : decode cc pc = .ok (.ifCond .ne off, 3)) (ht : (pc : Int) + off = (tgt : Int)) (h1 : fw_b x)
    (kt : ¬ x = 0 → W p l e R s m args below meth c H locs cells slots Q (F0 m tgt ls rest)) (kf : x = 0 → W p l e R s m args below meth c H locs cells slots Q (F0 m (pc + 3) ls rest)) : W p l e R s m args below meth c H locs cells slots Q (F0 m pc ls (.int (iI x) :: rest)) :=
  lv_if_ne hx hb hd ht (fun h => kt (fun q => h ((iI_eq h1 fw_b0).mpr q))) (fun h => kf ((iI_eq h1 fw_b0).mp h))
theorem fw_if_lt (hx : p.tables.exec = Jvm.exec) (hb : c.code = cc) {x : Int} {off : Int} {tgt : Nat} (hd : decode cc pc = .ok (.ifCond .lt off, 3)) (ht : (pc : Int) + off = (tgt : Int)) (h1 : fw_b x)
    (kt : x < 0 → W p l e R s m args below meth c H locs cells slots Q (F0 m tgt ls rest)) (kf : ¬ x < 0 → W p l e R s m args below meth c H locs cells slots Q (F0 m (pc + 3) ls rest)) : W p l e R s m args below meth c H locs cells slots Q (F0 m pc ls (.int (iI x) :: rest)) :=
  lv_if_lt hx hb hd ht (fun h => kt ((iI_lt h1 fw_b0).mp h)) (fun h => kf (fun q => h ((iI_lt h1 fw_b0).mpr q)))
theorem fw_if_ge (hx : p.tables.exec = Jvm.exec) (hb : c.code = cc) {x : Int} {off : Int} {tgt : Nat} (hd : decode cc pc = .ok (.ifCond .ge off, 3)) (ht : (pc : Int) + off = (tgt : Int)) (h1 : fw_b x)
    (kt : 0 ≤ x → W p l e R s m args below meth c H locs cells slots Q (F0 m tgt ls rest)) (kf : ¬ 0 ≤ x → W p l e R s m args below meth c H locs cells slots Q (F0 m (pc + 3) ls rest)) : W p l e R s m args below meth c H locs cells slots Q (F0 m pc ls (.int (iI x) :: rest)) :=
  lv_if_ge hx hb hd ht (fun h => kt ((iI_le fw_b0 h1).mp h)) (fun h => kf (fun q => h ((iI_le fw_b0 h1).mpr q)))
theorem fw_if_le (hx : p.tables.exec = Jvm.exec) (hb : c.code = cc) {x : Int} {off : Int} {tgt : Nat} (hd : decode cc pc = .ok (.ifCond .le off, 3)) (ht : (pc : Int) + off = (tgt : Int)) (h1 : fw_b x)
    (kt : x ≤ 0 → W p l e R s m args below meth c H locs cells slots Q (F0 m tgt ls rest)) (kf : ¬ x ≤ 0 → W p l e R s m args below meth c H locs cells slots Q (F0 m (pc + 3) ls rest)) : W p l e R s m args below meth c H locs cells slots Q (F0 m pc ls (.int (iI x) :: rest)) :=
  lv_if_le hx hb hd ht (fun h => kt ((iI_le h1 fw_b0).mp h)) (fun h => kf (fun q => h ((iI_le h1 fw_b0).mpr q)))
theorem fw_bif_eq (hx : p.tables.exec = Jvm.exec) (hb : c.code = cc) {x : Bool} {off : Int} {tgt : Nat} (hd : decode cc pc = .ok (.ifCond .eq off, 3)) (ht : (pc : Int) + off = (tgt : Int))
    (kt : x = false → W p l e R s m args below meth c H locs cells slots Q (F0 m tgt ls rest)) (kf : x = true → W p l e R s m args below meth c H locs cells slots Q (F0 m (pc + 3) ls rest)) : W p l e R s m args below meth c H locs cells slots Q (F0 m pc ls (.int (bI x) :: rest)) :=
  lv_if_eq hx hb hd ht (fun h => kt (bI_0.mp h)) (fun h => kf (bI_n0.mp h))
theorem fw_bif_ne (hx : p.tables.exec = Jvm.exec) (hb : c.code = cc) {x : Bool} {off : Int} {tgt : Nat} (hd : decode cc pc = .ok (.ifCond .ne off, 3)) (ht : (pc : Int) + off = (tgt : Int))
    (kt : x = true → W p l e R s m args below meth c H locs cells slots Q (F0 m tgt ls rest)) (kf : x = false → W p l e R s m args below meth c H locs cells slots Q (F0 m (pc + 3) ls rest)) : W p l e R s m args below meth c H locs cells slots Q (F0 m pc ls (.int (bI x) :: rest)) :=
  lv_if_ne hx hb hd ht (fun h => kt (bI_n0.mp h)) (fun h => kf (bI_0.mp h))
-- arrays
theorem fw_iald (hx : p.tables.exec = Jvm.exec) (hb : c.code = cc) (hK : va_K D cls_ tys s) (hP : va_P D cls_ ws H) (q0 t0 : Nat) {cA : ClassId} {n : Nat} {f : Nat → Int} (ha : ws[q0]? = some (a, fw_a cA n f)) (ht : tys[t0]? = some (cA, .int)) {z : Int} (j : Nat) (hz : z = (j : Int)) (hj : j < n) (hn : n < 2147483648) (hd : decode cc pc = .ok (.iaload, 1))
    (kk : W p l e R s m args below meth c H locs cells slots Q (F0 m (pc + 1) ls (.int (iI (f j)) :: rest))) : W p l e R s m args below meth c H locs cells slots Q (F0 m pc ls (.int (iI z) :: .ref a :: rest)) := by
  refine va_iald hx hb hK hP q0 t0 (cA := cA) (n := n) (f := fun j => iI (f j)) ha ht (iI_in hz hj hn) hd ?_
  rw [iI_cl hz (by omega)]
  exact kk
theorem fw_zald (hx : p.tables.exec = Jvm.exec) (hb : c.code = cc) (hK : va_K D cls_ tys s) (hP : va_P D cls_ ws H) (q0 t0 : Nat) {cA : ClassId} {n : Nat} {f : Nat → Bool} (ha : ws[q0]? = some (a, fw_z cA n f)) (ht : tys[t0]? = some (cA, .boolean)) {z : Int} (j : Nat) (hz : z = (j : Int)) (hj : j < n) (hn : n < 2147483648) (hd : decode cc pc = .ok (.baload, 1))
    (kk : W p l e R s m args below meth c H locs cells slots Q (F0 m (pc + 1) ls (.int (bI (f j)) :: rest))) : W p l e R s m args below meth c H locs cells slots Q (F0 m pc ls (.int (iI z) :: .ref a :: rest)) := by
  refine va_zald hx hb hK hP q0 t0 (cA := cA) (n := n) (f := fun j => bI (f j)) ha ht (iI_in hz hj hn) hd ?_
  rw [iI_cl hz (by omega)]
  exact kk
theorem fw_lald (hx : p.tables.exec = Jvm.exec) (hb : c.code = cc) (hK : va_K D cls_ tys s) (hP : va_P D cls_ ws H) (q0 t0 : Nat) {cA : ClassId} {n : Nat} {f : Nat → Int64} (ha : ws[q0]? = some (a, fw_l cA n f)) (ht : tys[t0]? = some (cA, .long)) {z : Int} (j : Nat) (hz : z = (j : Int)) (hj : j < n) (hn : n < 2147483648) (hd : decode cc pc = .ok (.laload, 1))
    (kk : W p l e R s m args below meth c H locs cells slots Q (F0 m (pc + 1) ls (.long (f j) :: rest))) : W p l e R s m args below meth c H locs cells slots Q (F0 m pc ls (.int (iI z) :: .ref a :: rest)) := by
  refine va_lald hx hb hK hP q0 t0 (cA := cA) (n := n) (f := f) ha ht (iI_in hz hj hn) hd ?_
  rw [iI_cl hz (by omega)]
  exact kk
theorem fw_aldq (hx : p.tables.exec = Jvm.exec) (hb : c.code = cc) (hK : va_K D cls_ tys s) (hP : va_P D cls_ ws H) (q0 t0 : Nat) {cA : ClassId} {C : String} {n : Nat} {f : Nat → Option Nat} (ha : ws[q0]? = some (a, fw_r cA n f)) (ht : tys[t0]? = some (cA, .object C)) {z : Int} (j : Nat) (hz : z = (j : Int)) (hj : j < n) (hn : n < 2147483648) (hd : decode cc pc = .ok (.aaload, 1))
    (kk : W p l e R s m args below meth c H locs cells slots Q (F0 m (pc + 1) ls (va_rf (f j) :: rest))) : W p l e R s m args below meth c H locs cells slots Q (F0 m pc ls (.int (iI z) :: .ref a :: rest)) := by
  refine va_aldq hx hb hK hP q0 t0 (cA := cA) (n := n) (f := f) ha ht (iI_in hz hj hn) hd ?_
  rw [iI_cl hz (by omega)]
  exact kk
theorem fw_iast (hx : p.tables.exec = Jvm.exec) (hb : c.code = cc) (hK : va_K D cls_ tys s) (hP : va_P D cls_ ws H) (hD : va_D A ws) (hS : va_S A H0 H locs) (q0 t0 : Nat) {cA : ClassId} {n : Nat} {f : Nat → Int} (ha : ws[q0]? = some (a, fw_a cA n f)) (ht : tys[t0]? = some (cA, .int)) {z v : Int} (j : Nat) (hz : z = (j : Int)) (hj : j < n) (hn : n < 2147483648) (hd : decode cc pc = .ok (.iastore, 1))
    (kk : ∀ (H1 : Heap) (locs1 : List Loc), va_P D cls_ (ws.set q0 (a, fw_a cA n (fw_up f j v))) H1 → va_D A (ws.set q0 (a, fw_a cA n (fw_up f j v))) → va_S A H0 H1 locs1 → W p l e R s m args below meth c H1 locs1 cells slots Q (F0 m (pc + 1) ls rest)) : W p l e R s m args below meth c H locs cells slots Q (F0 m pc ls (.int (iI v) :: .int (iI z) :: .ref a :: rest)) := by
  refine va_iast hx hb hK hP hD hS q0 t0 (cA := cA) (n := n) (f := fun j => iI (f j)) ha ht (iI_in hz hj hn) hd ?_
  rw [iI_cl hz (by omega), fw_upd]
  exact kk
theorem fw_zast (hx : p.tables.exec = Jvm.exec) (hb : c.code = cc) (hK : va_K D cls_ tys s) (hP : va_P D cls_ ws H) (hD : va_D A ws) (hS : va_S A H0 H locs) (q0 t0 : Nat) {cA : ClassId} {n : Nat} {f : Nat → Bool} (ha : ws[q0]? = some (a, fw_z cA n f)) (ht : tys[t0]? = some (cA, .boolean)) {z : Int} {v : Bool} (j : Nat) (hz : z = (j : Int)) (hj : j < n) (hn : n < 2147483648) (hd : decode cc pc = .ok (.bastore, 1))
    (kk : ∀ (H1 : Heap) (locs1 : List Loc), va_P D cls_ (ws.set q0 (a, fw_z cA n (fw_up f j v))) H1 → va_D A (ws.set q0 (a, fw_z cA n (fw_up f j v))) → va_S A H0 H1 locs1 → W p l e R s m args below meth c H1 locs1 cells slots Q (F0 m (pc + 1) ls rest)) : W p l e R s m args below meth c H locs cells slots Q (F0 m pc ls (.int (bI v) :: .int (iI z) :: .ref a :: rest)) := by
  refine va_zast hx hb hK hP hD hS q0 t0 (cA := cA) (n := n) (f := fun j => bI (f j)) ha ht (iI_in hz hj hn) hd ?_
  have e1 : vp_nar .boolean (bI v) = bI v := by cases v <;> rfl
  rw [iI_cl hz (by omega), e1, fw_updB]
  exact kk
theorem fw_last (hx : p.tables.exec = Jvm.exec) (hb : c.code = cc) (hK : va_K D cls_ tys s) (hP : va_P D cls_ ws H) (hD : va_D A ws) (hS : va_S A H0 H locs) (q0 t0 : Nat) {cA : ClassId} {n : Nat} {f : Nat → Int64} (ha : ws[q0]? = some (a, fw_l cA n f)) (ht : tys[t0]? = some (cA, .long)) {z : Int} {v : Int64} (j : Nat) (hz : z = (j : Int)) (hj : j < n) (hn : n < 2147483648) (hd : decode cc pc = .ok (.lastore, 1))
    (kk : ∀ (H1 : Heap) (locs1 : List Loc), va_P D cls_ (ws.set q0 (a, fw_l cA n (fw_up f j v))) H1 → va_D A (ws.set q0 (a, fw_l cA n (fw_up f j v))) → va_S A H0 H1 locs1 → W p l e R s m args below meth c H1 locs1 cells slots Q (F0 m (pc + 1) ls rest)) : W p l e R s m args below meth c H locs cells slots Q (F0 m pc ls (.long v :: .int (iI z) :: .ref a :: rest)) := by
  refine va_last hx hb hK hP hD hS q0 t0 (cA := cA) (n := n) (f := f) ha ht (iI_in hz hj hn) hd ?_
  rw [iI_cl hz (by omega), fw_updL]
  exact kk
-- ends
theorem fw_vret {B : Heap → Prop} (hx : p.tables.exec = Jvm.exec) (hb : c.code = cc) (hr : meth.sig.returnType = none) (hlocks : meth.locks = false) (hS : va_S A s.heap H locs) (hB : B H) (hd : decode cc pc = .ok (.return_, 1)) : W p l e R s m args below meth c H locs cells slots (MQ below (fw_Qv B A) args s cells slots A) (F0 m pc ls []) :=
  W.vret hx hb hr (fun t ht hW => ⟨⟨rfl, by rw [ht]; exact hB⟩, hS.F ht⟩) hS.2.2 hd hlocks
theorem fw_iret {B : Heap → Prop} {r v : Int32} (hx : p.tables.exec = Jvm.exec) (hb : c.code = cc) (hr : meth.sig.returnType = some .int) (hlocks : meth.locks = false) (hS : va_S A s.heap H locs) (hB : B H) (hv : v = r) (hd : decode cc pc = .ok (.ireturn, 1)) : W p l e R s m args below meth c H locs cells slots (MQ below (fw_Qi r B A) args s cells slots A) (F0 m pc ls [.int v]) := by
  subst hv
  exact W.iret hx hb hr (fun t ht hW => ⟨⟨rfl, by rw [ht]; exact hB⟩, hS.F ht⟩) hS.2.2 hd hlocks
theorem fw_zret {B : Heap → Prop} {r v : Bool} (hx : p.tables.exec = Jvm.exec) (hb : c.code = cc) (hr : meth.sig.returnType = some .boolean) (hlocks : meth.locks = false) (hS : va_S A s.heap H locs) (hB : B H) (hv : v = r) (hd : decode cc pc = .ok (.ireturn, 1)) : W p l e R s m args below meth c H locs cells slots (MQ below (fw_Qi (bI r) B A) args s cells slots A) (F0 m pc ls [.int (bI v)]) := by
  subst hv
  exact W.zret hx hb hr (bI_nar v) (fun t ht hW => ⟨⟨rfl, by rw [ht]; exact hB⟩, hS.F ht⟩) hS.2.2 hd hlocks
theorem fw_Riret {r v : Int32} (hx : p.tables.exec = Jvm.exec) (hb : c.code = cc) (hr : meth.sig.returnType = some .int) (hlocks : meth.locks = false) (hv : v = r) (hd : decode cc pc = .ok (.ireturn, 1)) : W p l e R s m args below meth c s.heap [] cells slots (MQ below (fw_Rv (.int r)) args s cells slots (fun _ => False)) (F0 m pc ls [.int v]) := by
  subst hv
  exact W.iret hx hb hr (fun t ht hW => ⟨rfl, ht⟩) (fun _ h => nomatch h) hd hlocks
theorem fw_Rzret {r v : Bool} (hx : p.tables.exec = Jvm.exec) (hb : c.code = cc) (hr : meth.sig.returnType = some .boolean) (hlocks : meth.locks = false) (hv : v = r) (hd : decode cc pc = .ok (.ireturn, 1)) : W p l e R s m args below meth c s.heap [] cells slots (MQ below (fw_Rv (.int (bI r))) args s cells slots (fun _ => False)) (F0 m pc ls [.int (bI v)]) := by
  subst hv
  exact W.zret hx hb hr (bI_nar v) (fun t ht hW => ⟨rfl, ht⟩) (fun _ h => nomatch h) hd hlocks
theorem fw_Rlret {r v : Int64} (hx : p.tables.exec = Jvm.exec) (hb : c.code = cc) (hr : meth.sig.returnType = some .long) (hlocks : meth.locks = false) (hv : v = r) (hd : decode cc pc = .ok (.lreturn, 1)) : W p l e R s m args below meth c s.heap [] cells slots (MQ below (fw_Rv (.long r)) args s cells slots (fun _ => False)) (F0 m pc ls [.long v]) := by
  subst hv
  exact W.lret hx hb hr (fun t ht hW => ⟨rfl, ht⟩) (fun _ h => nomatch h) hd hlocks
-- calls
theorem fw_callR {v : Value} {st0 : List Value} {av : Array Value} (hr : CallRun p l e R s m args below meth c H locs cells slots 0 0 (F0 m pc ls st0) rest (fw_Rv v av) (fun _ => False))
    (kk : W p l e R s m args below meth c H locs cells slots Q (F0 m (pc + 3) ls (v :: rest))) : W p l e R s m args below meth c H locs cells slots Q (F0 m pc ls st0) := by
  intro T hT X
  obtain ⟨v', st₀, t, T', L, h0, X', hL, e1, ⟨hv, hh⟩, st⟩ := hr T hT X
  cases hv
  obtain ⟨t2, a1, b1⟩ := kk T' (by rw [e1, hh, h0]) (Stand.forget X' (fun q h => (hL q h).elim))
  exact ⟨t2, st t2 a1, b1⟩
theorem fw_callv {B : Heap → Prop} {st0 : List Value} {av : Array Value} {A1 : Nat → Prop} {mc ms : Nat} (hr : va_Run p l e R s m args below meth c H locs cells slots mc ms (F0 m pc ls st0) rest (fw_Qv B A1 av) A1) (hS : va_S A H0 H locs) (hA1 : ∀ q, A1 q → A q)
    (kk : ∀ (H1 : Heap) (locs1 : List Loc), B H1 → H.size ≤ H1.size → (∀ q : Nat, q < H.size → ¬ A1 q → H1[q]? = H[q]?) → va_S A H0 H1 locs1 → W p l e R s m args below meth c H1 locs1 (cells + mc) (slots + ms) Q (F0 m (pc + 3) ls rest)) : W p l e R s m args below meth c H locs cells slots Q (F0 m pc ls st0) := by
  intro T hT X
  obtain ⟨v, st₀, t, T', L, h0, X', hL, e1, e2, ⟨⟨hv, hb⟩, hF⟩, st⟩ := hr T hT X
  cases hv
  obtain ⟨k1, k2, k3⟩ := vx_keep h0 e1 hS (fun q _ h => hA1 q h) hA1 hL hF
  obtain ⟨t2, a1, b1⟩ := kk T'.heap (locs ++ L) (by rw [e1]; exact hb) k1 k2 k3 T' rfl X'
  exact ⟨t2, st t2 a1, b1⟩
theorem fw_calli {B : Heap → Prop} {r : Int32} {st0 : List Value} {av : Array Value} {A1 : Nat → Prop} {mc ms : Nat} (hr : va_Run p l e R s m args below meth c H locs cells slots mc ms (F0 m pc ls st0) rest (fw_Qi r B A1 av) A1) (hS : va_S A H0 H locs) (hA1 : ∀ q, A1 q → A q)
    (kk : ∀ (H1 : Heap) (locs1 : List Loc), B H1 → H.size ≤ H1.size → (∀ q : Nat, q < H.size → ¬ A1 q → H1[q]? = H[q]?) → va_S A H0 H1 locs1 → W p l e R s m args below meth c H1 locs1 (cells + mc) (slots + ms) Q (F0 m (pc + 3) ls (.int r :: rest))) : W p l e R s m args below meth c H locs cells slots Q (F0 m pc ls st0) := by
  intro T hT X
  obtain ⟨v, st₀, t, T', L, h0, X', hL, e1, e2, ⟨⟨hv, hb⟩, hF⟩, st⟩ := hr T hT X
  cases hv
  obtain ⟨k1, k2, k3⟩ := vx_keep h0 e1 hS (fun q _ h => hA1 q h) hA1 hL hF
  obtain ⟨t2, a1, b1⟩ := kk T'.heap (locs ++ L) (by rw [e1]; exact hb) k1 k2 k3 T' rfl X'
  exact ⟨t2, st t2 a1, b1⟩
/-- a callee that leaves its cells as w1 says -/
theorem fw_callvP {w1 wc : va_W} {st0 : List Value} {av : Array Value} {mc ms : Nat} (is : List Nat) (hr : va_Run p l e R s m args below meth c H locs cells slots mc ms (F0 m pc ls st0) rest (fw_Qv (va_P D cls_ w1) (va_A wc H.size) av) (va_A wc H.size)) (hP : va_P D cls_ ws H) (hD : va_D A ws) (hS : va_S A H0 H locs) (hA : ∀ q, H0.size ≤ q → A q)
    (hC : is.map (fun i => ws[i]?) = wc.map some) (hn : va_nd is = true) (ha : w1.map Prod.fst = wc.map Prod.fst)
    (kk : ∀ (H1 : Heap) (locs1 : List Loc), va_P D cls_ (fw_put ws is w1) H1 → va_D A (fw_put ws is w1) → va_S A H0 H1 locs1 → W p l e R s m args below meth c H1 locs1 (cells + mc) (slots + ms) Q (F0 m (pc + 3) ls rest)) : W p l e R s m args below meth c H locs cells slots Q (F0 m pc ls st0) :=
  fw_callv hr hS (va_free hD hS hA is hC) (fun H1 locs1 hB hz hk hS => by
    obtain ⟨h1, h2⟩ := fw_join hP hD is hC hn ha hk hB
    exact kk H1 locs1 h1 h2 hS)
theorem fw_calliP {w1 wc : va_W} {r : Int32} {st0 : List Value} {av : Array Value} {mc ms : Nat} (is : List Nat) (hr : va_Run p l e R s m args below meth c H locs cells slots mc ms (F0 m pc ls st0) rest (fw_Qi r (va_P D cls_ w1) (va_A wc H.size) av) (va_A wc H.size)) (hP : va_P D cls_ ws H) (hD : va_D A ws) (hS : va_S A H0 H locs) (hA : ∀ q, H0.size ≤ q → A q)
    (hC : is.map (fun i => ws[i]?) = wc.map some) (hn : va_nd is = true) (ha : w1.map Prod.fst = wc.map Prod.fst)
    (kk : ∀ (H1 : Heap) (locs1 : List Loc), va_P D cls_ (fw_put ws is w1) H1 → va_D A (fw_put ws is w1) → va_S A H0 H1 locs1 → W p l e R s m args below meth c H1 locs1 (cells + mc) (slots + ms) Q (F0 m (pc + 3) ls (.int r :: rest))) : W p l e R s m args below meth c H locs cells slots Q (F0 m pc ls st0) :=
  fw_calli hr hS (va_free hD hS hA is hC) (fun H1 locs1 hB hz hk hS => by
    obtain ⟨h1, h2⟩ := fw_join hP hD is hC hn ha hk hB
    exact kk H1 locs1 h1 h2 hS)
-- a callee's start out of the caller's world
theorem fw_preS {As : List Value} {wc : va_W} {tc : List (ClassId × FieldType)} (hP : va_P D cls_ ws H) (hK : va_K D cls_ tys s) (hD : va_D A ws) (hN : fw_N s) (is it : List Nat) (hn : va_nd is = true) (hC : is.map (fun i => ws[i]?) = wc.map some) (hT : it.filterMap (fun i => tys[i]?) = tc) : PreS s H (fw_Pc D As wc tc H.size) As :=
  ⟨fw_Pc_blind, fun U hU hW => ⟨rfl, by rw [hU], by rw [hU]; exact hP.sub is (by
    have : is.filterMap (fun i => ws[i]?) = (is.map (fun i => ws[i]?)).filterMap id := by rw [List.filterMap_map]; rfl
    rw [this, hC, List.filterMap_map]; simp), va_K.moved hW.alike (hK.sub it hT), (hD.sub is hn hC).weaken (fun _ _ _ _ => trivial), hN.warm hW⟩⟩
theorem fw_preV {As : List Value} {wc : va_W} {tc : List (ClassId × FieldType)} {b ci q0 : Nat} {q : vw_C} {fs : List Value} (hP : va_P D cls_ ws H) (hK : va_K D cls_ tys s) (hD : va_D A ws) (hN : fw_N s) (is it : List Nat) (hn : va_nd is = true) (hC : is.map (fun i => ws[i]?) = wc.map some) (hT : it.filterMap (fun i => tys[i]?) = tc) (hc : cls_[ci]? = some q) (he : ws[q0]? = some (b, .inr (ci, fs))) : PreV s H q.1 b (fw_Pc D (.ref b :: As) wc tc H.size) As :=
  ⟨fw_Pc_blind, va_recv hK hP hc he, (fw_preS (As := .ref b :: As) hP hK hD hN is it hn hC hT).2⟩
theorem fw_preRS {As : List Value} {wc : va_W} {tc : List (ClassId × FieldType)} (hP : va_P D cls_ ws H) (hK : va_K D cls_ tys s) (hN : fw_N s) (is it : List Nat) (hC : is.filterMap (fun i => ws[i]?) = wc) (hT : it.filterMap (fun i => tys[i]?) = tc) : PreS s H (fw_Pr D As wc tc) As :=
  ⟨fw_Pr_blind, fun U hU hW => ⟨rfl, by rw [hU]; exact hP.sub is hC, va_K.moved hW.alike (hK.sub it hT), hN.warm hW⟩⟩
theorem fw_preRV {As : List Value} {wc : va_W} {tc : List (ClassId × FieldType)} {b ci q0 : Nat} {q : vw_C} {fs : List Value} (hP : va_P D cls_ ws H) (hK : va_K D cls_ tys s) (hN : fw_N s) (is it : List Nat) (hC : is.filterMap (fun i => ws[i]?) = wc) (hT : it.filterMap (fun i => tys[i]?) = tc) (hc : cls_[ci]? = some q) (he : ws[q0]? = some (b, .inr (ci, fs))) : PreV s H q.1 b (fw_Pr D (.ref b :: As) wc tc) As :=
  ⟨fw_Pr_blind, va_recv hK hP hc he, (fw_preRS (As := .ref b :: As) hP hK hN is it hC hT).2⟩
end FWR
-- a contract out of a walk
theorem fw_ofW {l : Launch} {D : va_G} {y : MethodName} {cc : ByteArray} {maxL : Nat} {ret : Option FieldType} {rm : Room} {av : List Value} {W0 : va_W} {T0 : List (ClassId × FieldType)} {sz mc ms : Nat} {Qc : (Nat → Prop) → Array Value → State → Outcome → State → Prop} (hy : plainName y.cls = true) (hlen : (lg_sl av).length ≤ maxL)
    (body : ∀ (p : Program) (e : Env) (s : State) (m : MethodId) (below : List Frame) (meth : Method) (c : Code) (A : Nat → Prop) (ls : Array Slot), p.tables.exec = Jvm.exec → c.code = cc → meth.sig.returnType = ret → (∀ w ∈ gw, w.before av.toArray s = true) → s.vm.findClass y.cls = some m.cls → meth.locks = false → meth.name = y.name → c.maxLocals = maxL → s.heap.size = sz → va_P D cls_ W0 s.heap → va_K D cls_ T0 s → va_D A W0 → fw_N s → (∀ q, s.heap.size ≤ q → A q) → va_S A s.heap s.heap [] → lv_has ls maxL (lv_args 0 av) → W p l e rm s m av.toArray below meth c s.heap [] 0 0 (MQ below (Qc A) av.toArray s mc ms A) (F0 m 0 ls [])) : Met l y (Cond.code y cc maxL ret :: gw) rm (fw_Pc D av W0 T0 sz) (Qc (va_A W0 sz)) mc ms (va_A W0 sz) := by
  refine Met.ofW (cc := cc) (maxL := maxL) (ret := ret) hy rfl ?_
  intro p e s m args below meth c s₁ B hml hv
  obtain ⟨rfl, hsz, hP, hK, hD, hN⟩ := hv
  have hts := atoms_spec (ws := Cond.code y cc maxL ret :: gw) B.pre
  have hl := lv_entry av (n := maxL) hlen
  rw [lg_entry_eq]
  subst hsz
  exact body p e s m below meth c (va_A W0 s.heap.size) _ B.exec B.bytes B.returns (fun w h => hts w (List.mem_cons_of_mem _ h)) (findClass_of_methodNamed B.named) B.notSynchronized (name_of_methodNamed B.named B.method).1 hml rfl hP hK hD.self hN (fun q h => Or.inr h) va_S.rf hl
theorem fw_ofR {l : Launch} {D : va_G} {y : MethodName} {cc : ByteArray} {maxL : Nat} {ret : Option FieldType} {rm : Room} {av : List Value} {W0 : va_W} {T0 : List (ClassId × FieldType)} {v : Value} (hy : plainName y.cls = true) (hlen : (lg_sl av).length ≤ maxL)
    (body : ∀ (p : Program) (e : Env) (s : State) (m : MethodId) (below : List Frame) (meth : Method) (c : Code) (ls : Array Slot), p.tables.exec = Jvm.exec → c.code = cc → meth.sig.returnType = ret → (∀ w ∈ gw, w.before av.toArray s = true) → s.vm.findClass y.cls = some m.cls → meth.locks = false → c.maxLocals = maxL → va_P D cls_ W0 s.heap → va_K D cls_ T0 s → fw_N s → lv_has ls maxL (lv_args 0 av) → W p l e rm s m av.toArray below meth c s.heap [] 0 0 (MQ below (fw_Rv v) av.toArray s 0 0 (fun _ => False)) (F0 m 0 ls [])) : Met l y (Cond.code y cc maxL ret :: gw) rm (fw_Pr D av W0 T0) (fw_Rv v) 0 0 (fun _ => False) := by
  refine Met.ofW (cc := cc) (maxL := maxL) (ret := ret) hy rfl ?_
  intro p e s m args below meth c s₁ B hml hv
  obtain ⟨rfl, hP, hK, hN⟩ := hv
  have hts := atoms_spec (ws := Cond.code y cc maxL ret :: gw) B.pre
  have hl := lv_entry av (n := maxL) hlen
  rw [lg_entry_eq]
  exact body p e s m below meth c _ B.exec B.bytes B.returns (fun w h => hts w (List.mem_cons_of_mem _ h)) (findClass_of_methodNamed B.named) B.notSynchronized hml hP hK hN hl
-- the fields' words
theorem in_P : ∀ w ∈ u_ws R_P T_P 3, w ∈ gw := by decide +kernel
theorem in_S : ∀ w ∈ u_ws R_S T_S 10, w ∈ gw := by decide +kernel
theorem in_Q : ∀ w ∈ u_ws R_Q T_Q 13, w ∈ gw := by decide +kernel
theorem in_F : ∀ w ∈ u_ws R_F T_F 7, w ∈ gw := by decide +kernel
theorem in_M : ∀ w ∈ u_ws R_M T_M 23, w ∈ gw := by decide +kernel
