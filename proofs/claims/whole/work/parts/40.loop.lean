theorem lw_and15 (z : Int) : 0 ≤ (iI z &&& iI 15).toInt ∧ (iI z &&& iI 15).toInt ≤ 15 := by
  have h1 : (iI z &&& iI 15).toBitVec.toNat ≤ 15 := by
    rw [Int32.toBitVec_and, BitVec.toNat_and]
    exact Nat.le_trans Nat.and_le_right (by decide)
  have h2 : (iI z &&& iI 15).toInt = ((iI z &&& iI 15).toBitVec.toNat : Int) := by
    show (iI z &&& iI 15).toBitVec.toInt = _
    exact BitVec.toInt_eq_toNat_of_lt (by omega)
  omega
set_option maxHeartbeats 4000000 in
set_option maxRecDepth 100000 in
theorem lw_loop {p : Program} {l : Launch} {e : Env} {s : State} {m : MethodId} {below : List Frame} {meth : Method} {c : Code} {b L : Nat} {xs : Nat → Int32} {A : Nat → Prop} {dC : Nat → ClassId} {dI : Nat → Nat → Nat} {kI kL kZ kR : ClassId} {fc mm ou : Nat} (C1 : lw_B p l s m c A b L xs dC dI kI kL kZ kR) (hL : L ≤ 3072) (hr : meth.sig.returnType = ret) (hlocks : meth.locks = false) (hAs : ∀ q, A q → s.heap.size ≤ q) :
    ∀ (n k i : Nat) (H : Heap) (locs : List Loc) (ls : Array Slot), L - i < n → i = 6 * k → i ≤ L → lw_I (dC, dI) A kI kL kZ kR fc mm ou H → va_S A s.heap H locs → lv_has ls 7 [(0, .ref b), (1, .ref fc), (2, .ref mm), (3, .ref ou), (4, .int (iI (i : Int)))] → W p l e room_1 s m #[Value.ref b] below meth c H locs (54 + k) (472 + 6 * k) (lw_Z below #[Value.ref b] s) (F0 m 23 ls []) := by
  intro n
  induction n with
  | zero => intro k i H locs ls hn; exact absurd hn (Nat.not_lt_zero _)
  | succ n ih =>
    intro k i H locs ls hn hik hiL hI hS hl
    have C2 := C1
    obtain ⟨hx, hb, hml, hown, hts, hXs, hbl, hlt, hK, hN, hX, hC, hA, hbA⟩ := C2
    refine lv_iload hx hb d_L_law_23 (lv_at hl 4 rfl) ?_
    refine lv_aload_n hx hb d_L_law_25 rfl (lv_at hl 0 rfl) ?_
    refine va_slen hx hb hXs hbl hbA hS d_L_law_26 ?_
    refine fw_cast (show (Value.int (Int32.ofNat L)) = .int (iI (L : Int)) from congrArg Value.int (iI_nat L).symm) ?_
    refine lv_bipush (v := iI 6) hx hb d_L_law_27 (by decide) ?_
    refine fw_isub hx hb d_L_law_29 ?_
    refine fw_icmp_gt (tgt := 958) hx hb d_L_law_30 (by decide) ⟨by omega, by omega⟩ ⟨by omega, by omega⟩ (fun c1 => ?_) (fun c1 => ?_)
    · refine lv_iconst (v := 1) hx hb d_L_law_958 (by decide) ?_
      refine va_forget (fun q hq => hAs _ (hS.2.2 q hq)) ?_
      refine W.widen (k := 663606) (n := 7105287) (by omega) (by omega) ?_
      exact lw_ret hx hb hr hlocks d_L_law_959
    · refine lv_aload_n hx hb d_L_law_33 rfl (lv_at hl 0 rfl) ?_
      refine lv_iload hx hb d_L_law_34 (lv_at hl 4 rfl) ?_
      refine va_sld hx hb hXs hbl hbA hS (iI_in (j := i) rfl (by omega) (by omega)) d_L_law_36 ?_
      refine fw_cast (sx_of (j := i) rfl (by omega)) ?_
      refine lv_bipush (v := iI 15) hx hb d_L_law_37 (by decide) ?_
      refine lv_iand hx hb d_L_law_39 ?_
      have hq := lw_and15 (sx xs i)
      generalize (iI (sx xs i) &&& iI 15) = y at hq ⊢
      have tail : ∀ (H : Heap) (locs : List Loc) (ls : Array Slot), lw_I (dC, dI) A kI kL kZ kR fc mm ou H → va_S A s.heap H locs → lv_has ls 7 [(0, .ref b), (1, .ref fc), (2, .ref mm), (3, .ref ou), (4, .int (iI (i : Int)))] → W p l e room_1 s m #[Value.ref b] below meth c H locs (54 + (k + 1)) (472 + 6 * (k + 1)) (lw_Z below #[Value.ref b] s) (F0 m 952 ls []) := by
        intro H locs ls hI hS hl
        refine lv_iinc (v := iI ((i : Int) + 6)) (lv' := [(4, .int (iI ((i : Int) + 6))), (0, .ref b), (1, .ref fc), (2, .ref mm), (3, .ref ou)]) hx hb d_L_law_952 hl (k := 4) rfl (by rw [show Int32.ofInt 6 = iI 6 from rfl, iI_add]) (by decide) rfl (fun ls hl => ?_)
        refine lv_goto (tgt := 23) hx hb d_L_law_955 (by decide) ?_
        exact ih (k + 1) (i + 6) H locs ls (by omega) (by omega) (by omega) hI hS (lv_sub hl [1, 2, 3, 4, 0] rfl)
      rcases (show y.toInt = 0 ∨ y.toInt = 1 ∨ y.toInt = 2 ∨ y.toInt = 3 ∨ y.toInt = 4 ∨ y.toInt = 5 ∨ y.toInt = 6 ∨ y.toInt = 7 ∨ y.toInt = 8 ∨ y.toInt = 9 ∨ y.toInt = 10 ∨ y.toInt = 11 ∨ y.toInt = 12 ∨ y.toInt = 13 ∨ y.toInt = 14 ∨ y.toInt = 15 by omega) with h | h | h | h | h | h | h | h | h | h | h | h | h | h | h | h
      · refine lv_tableIn (off := 80) (tgt := 120) hx hb d_L_law_40 (by omega) (by omega) (by rw [h]; decide) (by decide) ?_
        exact lw_order C1 (by omega) hL hik hI hS hl tail
      · refine lv_tableIn (off := 148) (tgt := 188) hx hb d_L_law_40 (by omega) (by omega) (by rw [h]; decide) (by decide) ?_
        exact lw_heat C1 (by omega) hL hik hI hS hl tail
      · refine lv_tableIn (off := 252) (tgt := 292) hx hb d_L_law_40 (by omega) (by omega) (by rw [h]; decide) (by decide) ?_
        exact lw_stop C1 (by omega) hL hik hI hS hl tail
      · refine lv_tableIn (off := 332) (tgt := 372) hx hb d_L_law_40 (by omega) (by omega) (by rw [h]; decide) (by decide) ?_
        exact lw_go C1 (by omega) hL hik hI hS hl tail
      · refine lv_tableIn (off := 343) (tgt := 383) hx hb d_L_law_40 (by omega) (by omega) (by rw [h]; decide) (by decide) ?_
        exact lw_clock C1 (by omega) hL hik hI hS hl tail
      · refine lv_tableIn (off := 391) (tgt := 431) hx hb d_L_law_40 (by omega) (by omega) (by rw [h]; decide) (by decide) ?_
        exact lw_place C1 (by omega) hL hik hI hS hl tail
      · refine lv_tableIn (off := 451) (tgt := 491) hx hb d_L_law_40 (by omega) (by omega) (by rw [h]; decide) (by decide) ?_
        exact lw_divert C1 (by omega) hL hik hI hS hl tail
      · refine lv_tableIn (off := 499) (tgt := 539) hx hb d_L_law_40 (by omega) (by omega) (by rw [h]; decide) (by decide) ?_
        exact lw_run C1 (by omega) hL hik hI hS hl tail
      · refine lv_tableIn (off := 555) (tgt := 595) hx hb d_L_law_40 (by omega) (by omega) (by rw [h]; decide) (by decide) ?_
        exact lw_told C1 (by omega) hL hik hI hS hl tail
      · refine lv_tableIn (off := 611) (tgt := 651) hx hb d_L_law_40 (by omega) (by omega) (by rw [h]; decide) (by decide) ?_
        exact lw_at C1 (by omega) hL hik hI hS hl tail
      · refine lv_tableIn (off := 679) (tgt := 719) hx hb d_L_law_40 (by omega) (by omega) (by rw [h]; decide) (by decide) ?_
        exact lw_cost C1 (by omega) hL hik hI hS hl tail
      · refine lv_tableIn (off := 692) (tgt := 732) hx hb d_L_law_40 (by omega) (by omega) (by rw [h]; decide) (by decide) ?_
        exact lw_on C1 (by omega) hL hik hI hS hl tail
      · refine lv_tableIn (off := 760) (tgt := 800) hx hb d_L_law_40 (by omega) (by omega) (by rw [h]; decide) (by decide) ?_
        exact lw_keep C1 (by omega) hL hik hI hS hl tail
      · refine lv_tableIn (off := 796) (tgt := 836) hx hb d_L_law_40 (by omega) (by omega) (by rw [h]; decide) (by decide) ?_
        exact lw_compare C1 (by omega) hL hik hI hS hl tail
      · refine lv_tableIn (off := 852) (tgt := 892) hx hb d_L_law_40 (by omega) (by omega) (by rw [h]; decide) (by decide) ?_
        exact lw_use C1 (by omega) hL hik hI hS hl tail
      · refine lv_tableIn (off := 888) (tgt := 928) hx hb d_L_law_40 (by omega) (by omega) (by rw [h]; decide) (by decide) ?_
        exact lw_undo C1 (by omega) hL hik hI hS hl tail
