-- numbers: an int by its value, a truth value as an int
def iI (z : Int) : Int32 := Int32.ofInt z
def bI (b : Bool) : Int32 := if b then 1 else 0
abbrev fw_b (z : Int) : Prop := -2147483648 ≤ z ∧ z < 2147483648
theorem iI_toInt {z : Int} (h : fw_b z) : (iI z).toInt = z := by
  unfold iI
  exact Int32.toInt_ofInt_of_le h.1 h.2
theorem iI_of (x : Int32) : x = iI x.toInt := (Int32.ofInt_toInt x).symm
theorem iI_b (x : Int32) : fw_b x.toInt := ⟨Int32.minValue_le_toInt x, by have := Int32.toInt_lt x; omega⟩
theorem iI_add (a b : Int) : iI a + iI b = iI (a + b) := (Int32.ofInt_add a b).symm
theorem iI_sub (a b : Int) : iI a - iI b = iI (a - b) := (Int32.ofInt_sub a b).symm
theorem iI_mul (a b : Int) : iI a * iI b = iI (a * b) := (Int32.ofInt_mul a b).symm
theorem iI_lt {a b : Int} (ha : fw_b a) (hb : fw_b b) : iI a < iI b ↔ a < b := by
  rw [Int32.lt_iff_toInt_lt, iI_toInt ha, iI_toInt hb]
theorem iI_le {a b : Int} (ha : fw_b a) (hb : fw_b b) : iI a ≤ iI b ↔ a ≤ b := by
  rw [Int32.le_iff_toInt_le, iI_toInt ha, iI_toInt hb]
theorem iI_eq {a b : Int} (ha : fw_b a) (hb : fw_b b) : iI a = iI b ↔ a = b := by
  rw [← Int32.toInt_inj, iI_toInt ha, iI_toInt hb]
theorem iI_0 : iI 0 = 0 := rfl
theorem iI_nat (n : Nat) : iI (n : Int) = nI n := Int32.ofInt_eq_ofNat
theorem bI_0 {b : Bool} : bI b = 0 ↔ b = false := by cases b <;> decide
theorem bI_n0 {b : Bool} : ¬ bI b = 0 ↔ b = true := by cases b <;> decide
theorem bI_nar (b : Bool) : narrow .boolean (.int (bI b)) = .int (bI b) := by cases b <;> rfl
theorem bI_fit (b : Bool) : fits .boolean (.int (bI b)) = true := by cases b <;> rfl
theorem bI_iI (b : Bool) : bI b = iI (if b then 1 else 0) := by cases b <;> rfl
/-- an index -/
theorem iI_in {z : Int} {j n : Nat} (hz : z = (j : Int)) (hj : j < n) (hn : n < 2147483648) : vp_in (iI z) n := by
  subst hz
  rw [iI_nat]
  exact vp_in_nI hj hn
theorem iI_cl {z : Int} {j : Nat} (hz : z = (j : Int)) (hj : j < 2147483648) : (iI z).toNatClampNeg = j := by
  subst hz
  rw [iI_nat]
  exact nI_clamp hj
-- cells: arrays of ints, truth values, longs, references
def fw_a (cA : ClassId) (n : Nat) (f : Nat → Int) : va_E := .inl (cA, n, .inl (fun j => iI (f j)))
def fw_z (cA : ClassId) (n : Nat) (f : Nat → Bool) : va_E := .inl (cA, n, .inl (fun j => bI (f j)))
def fw_l (cA : ClassId) (n : Nat) (f : Nat → Int64) : va_E := .inl (cA, n, .inr (.inl f))
def fw_r (cA : ClassId) (n : Nat) (f : Nat → Option Nat) : va_E := .inl (cA, n, .inr (.inr (.inr (.inr f))))
def fw_up {α : Type} (f : Nat → α) (k : Nat) (v : α) : Nat → α := fun j => if j = k then v else f j
theorem fw_upd (f : Nat → Int) (k : Nat) (v : Int) : upd (fun j => iI (f j)) k (iI v) = fun j => iI (fw_up f k v j) := by
  funext j; unfold upd fw_up; split <;> rfl
theorem fw_updB (f : Nat → Bool) (k : Nat) (v : Bool) : upd (fun j => bI (f j)) k (bI v) = fun j => bI (fw_up f k v j) := by
  funext j; unfold upd fw_up; split <;> rfl
theorem fw_updL (f : Nat → Int64) (k : Nat) (v : Int64) : vp_updL f k v = fw_up f k v := rfl
-- the words of private methods of a nest mate
def gn : List Cond := [Cond.methodLinkNest R_S 35 y_F_minutesAsBits R_F, Cond.methodLinkNest R_S 53 y_F_mayTake R_F, Cond.methodLinkNest R_Q 120 y_F_minutesAsBits R_F, Cond.methodLinkNest R_Q 138 y_F_mayTake R_F,
  Cond.declares (Bundle.initS "java/lang/RuntimeException"), Cond.declares (Bundle.initS "java/lang/Exception"), Cond.declares (Bundle.initS "java/lang/Throwable"),
  Cond.castable "java/lang/IllegalStateException" "java/lang/IllegalStateException", Cond.castable "java/lang/IllegalArgumentException" "java/lang/IllegalArgumentException", Cond.castable "java/lang/IndexOutOfBoundsException" "java/lang/IndexOutOfBoundsException", Cond.castable "java/lang/UnsupportedOperationException" "java/lang/UnsupportedOperationException"]
def fw_N (U : State) : Prop := ∀ w ∈ gn, va_Nw w U
theorem fw_N.warm {s U : State} (hW : s.WarmedH U.vm) (h : fw_N s) : fw_N U := by
  intro w hw
  have hz := h w hw
  simp only [gn, List.mem_cons, List.not_mem_nil, or_false] at hw
  rcases hw with rfl | rfl | rfl | rfl | rfl | rfl | rfl | rfl | rfl | rfl | rfl <;> first | exact va_Nw.warmM hW hz | exact va_Nw.warmD hW hz | exact va_Nw.warmC hW hz
theorem fw_N.calling {U : State} (h : fw_N U) (g : JFrame) (mk : MethodId) (a : Array Value) : fw_N (U.calling g mk a) := by
  intro w hw
  have hz := h w hw
  simp only [gn, List.mem_cons, List.not_mem_nil, or_false] at hw
  rcases hw with rfl | rfl | rfl | rfl | rfl | rfl | rfl | rfl | rfl | rfl | rfl <;> exact va_Nw.same rfl rfl hz
-- contracts' starts
def fw_Pc (D : va_G) (av : List Value) (ws : va_W) (tys : List (ClassId × FieldType)) (sz : Nat) : Array Value → State → Prop := va_Pc av (fun U => U.heap.size = sz ∧ va_P D cls_ ws U.heap ∧ va_K D cls_ tys U ∧ va_D (fun _ => True) ws ∧ fw_N U)
def fw_Pr (D : va_G) (av : List Value) (ws : va_W) (tys : List (ClassId × FieldType)) : Array Value → State → Prop := va_Pc av (fun U => va_P D cls_ ws U.heap ∧ va_K D cls_ tys U ∧ fw_N U)
theorem fw_Pc_blind {D : va_G} {av : List Value} {ws : va_W} {tys : List (ClassId × FieldType)} {sz : Nat} : FrameBlind (fw_Pc D av ws tys sz) := by
  intro a U g mk h
  obtain ⟨h0, h1, h2, h3, h4, h5⟩ := h
  exact ⟨h0, h1, h2, va_K.moved (u := U) (U := U.calling g mk a) (Vm.Alike.refl U.vm) h3, h4, h5.calling g mk a⟩
theorem fw_Pr_blind {D : va_G} {av : List Value} {ws : va_W} {tys : List (ClassId × FieldType)} : FrameBlind (fw_Pr D av ws tys) := by
  intro a U g mk h
  obtain ⟨h0, h2, h3, h5⟩ := h
  exact ⟨h0, h2, va_K.moved (u := U) (U := U.calling g mk a) (Vm.Alike.refl U.vm) h3, h5.calling g mk a⟩
-- contracts' ends
def fw_Qv (B : Heap → Prop) (A : Nat → Prop) : Array Value → State → Outcome → State → Prop := fun _ st o t => (o = .returned none ∧ B t.heap) ∧ va_F A st t
def fw_Qi (r : Int32) (B : Heap → Prop) (A : Nat → Prop) : Array Value → State → Outcome → State → Prop := fun _ st o t => (o = .returned (some (.int r)) ∧ B t.heap) ∧ va_F A st t
def fw_Rv (v : Value) : Array Value → State → Outcome → State → Prop := fun _ st o t => o = .returned (some v) ∧ t.heap = st.heap
-- a callee's cells put back
def fw_put : va_W → List Nat → va_W → va_W
  | ws, i :: is, c :: cs => fw_put (ws.set i c) is cs
  | ws, _, _ => ws
theorem fw_put_D {A : Nat → Prop} : ∀ (is : List Nat) (wc w1 ws : va_W), is.map (fun i => ws[i]?) = wc.map some → va_nd is = true → w1.map Prod.fst = wc.map Prod.fst → va_D A ws → va_D A (fw_put ws is w1)
  | [], _, _, ws, _, _, _, h => by unfold fw_put; exact h
  | i :: is, [], _, ws, h0, _, _, _ => by simp at h0
  | i :: is, c :: wc, [], ws, _, _, h2, _ => by simp at h2
  | i :: is, (a, e0) :: wc, (b, e) :: w1, ws, h0, hn, h2, h => by
    simp only [List.map_cons, List.cons.injEq] at h0 h2
    simp only [va_nd, Bool.and_eq_true, decide_eq_true_eq] at hn
    obtain ⟨h0a, h0b⟩ := h0
    obtain ⟨rfl, h2b⟩ := h2
    unfold fw_put
    refine fw_put_D is wc w1 _ ?_ hn.2 h2b (h.set (e := e) h0a)
    rw [← h0b]
    refine List.map_congr_left fun k hk => ?_
    have : i ≠ k := fun q => hn.1 (q ▸ hk)
    rw [List.getElem?_set_ne this]
theorem fw_put_get : ∀ (is : List Nat) (wc w1 ws : va_W), is.map (fun i => ws[i]?) = wc.map some → va_nd is = true → w1.map Prod.fst = wc.map Prod.fst → ∀ (k : Nat) (q : Nat × va_E), (fw_put ws is w1)[k]? = some q → (k ∉ is ∧ ws[k]? = some q) ∨ ∃ j : Nat, w1[j]? = some q
  | [], _, _, ws, _, _, _, k, q, hq => by unfold fw_put at hq; exact Or.inl ⟨by simp, hq⟩
  | i :: is, [], _, ws, h0, _, _, _, _, _ => by simp at h0
  | i :: is, c :: wc, [], ws, _, _, h2, _, _, _ => by simp at h2
  | i :: is, (a, e0) :: wc, (b, e) :: w1, ws, h0, hn, h2, k, q, hq => by
    simp only [List.map_cons, List.cons.injEq] at h0 h2
    simp only [va_nd, Bool.and_eq_true, decide_eq_true_eq] at hn
    obtain ⟨h0a, h0b⟩ := h0
    obtain ⟨rfl, h2b⟩ := h2
    unfold fw_put at hq
    have hl : i < ws.length := (List.getElem?_eq_some_iff.mp h0a).1
    rcases fw_put_get is wc w1 _ (by
      rw [← h0b]
      refine List.map_congr_left fun k hk => ?_
      have : i ≠ k := fun q => hn.1 (q ▸ hk)
      rw [List.getElem?_set_ne this]) hn.2 h2b k q hq with ⟨h1, h3⟩ | ⟨j, hj⟩
    · by_cases hk : i = k
      · subst hk
        rw [List.getElem?_set_self hl] at h3
        exact Or.inr ⟨0, h3⟩
      · rw [List.getElem?_set_ne hk] at h3
        exact Or.inl ⟨by simp only [List.mem_cons, not_or]; exact ⟨fun q => hk q.symm, h1⟩, h3⟩
    · exact Or.inr ⟨j + 1, hj⟩
theorem fw_join {A : Nat → Prop} {D : va_G} {cl : List vw_C} {ws wc w1 : va_W} {H H1 : Heap} (hP : va_P D cl ws H) (hD : va_D A ws) (is : List Nat) (hC : is.map (fun i => ws[i]?) = wc.map some) (hn : va_nd is = true) (ha : w1.map Prod.fst = wc.map Prod.fst)
    (hk : ∀ q : Nat, q < H.size → ¬ va_A wc H.size q → H1[q]? = H[q]?) (hP1 : va_P D cl w1 H1) : va_P D cl (fw_put ws is w1) H1 ∧ va_D A (fw_put ws is w1) := by
  refine ⟨fun k q hq => ?_, fw_put_D is wc w1 ws hC hn ha hD⟩
  rcases fw_put_get is wc w1 ws hC hn ha k q hq with ⟨h1, h2⟩ | ⟨j, hj⟩
  · have hl := (hP k q h2).lt
    refine (hP k q h2).kept (hk q.1 hl ?_)
    rintro (⟨j, e, h⟩ | h)
    · have h3 : (is.map (fun i => ws[i]?))[j]? = some (some (q.1, e)) := by rw [hC, List.getElem?_map, h]; rfl
      rw [List.getElem?_map] at h3
      cases hi : is[j]? with
      | none => rw [hi] at h3; cases h3
      | some i =>
        rw [hi] at h3
        have h4 := hD.1 k i q (q.1, e) h2 (Option.some.inj h3) rfl
        subst h4
        exact h1 (List.mem_of_getElem? hi)
    · omega
  · exact hP1 j q hj
