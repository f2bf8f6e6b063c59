def fc_loose (am : Nat → Int) (t : Int) : Nat → Int
  | 0 => 0
  | i + 1 => fc_loose am t i + (if decide (am i < t) = true then 0 else 2 ^ i)
theorem fc_loose_lt (am : Nat → Int) (t : Int) : ∀ i, 0 ≤ fc_loose am t i ∧ fc_loose am t i < 2 ^ i
  | 0 => by simp [fc_loose]
  | i + 1 => by
    have ih := fc_loose_lt am t i
    have hp : (0 : Int) < 2 ^ i := Int.pow_pos (by decide)
    simp only [fc_loose, Int.pow_succ]
    split <;> omega
theorem fc_or_ok0 : ∀ k, k < 6 → ∀ n, n < 2 ^ k → iI (n : Nat) ||| iI ((2 : Int) ^ k) = iI ((n : Nat) + 2 ^ k) := by decide
theorem fc_or_ok {z : Int} {k : Nat} (hk : k < 6) (h1 : 0 ≤ z) (h2 : z < 2 ^ k) : iI z ||| iI (2 ^ k) = iI (z + 2 ^ k) := by
  obtain ⟨n, rfl⟩ := Int.eq_ofNat_of_zero_le h1
  exact fc_or_ok0 k hk n (by have : ((2 ^ k : Nat) : Int) = 2 ^ k := by norm_cast
                             omega)
theorem bc_ok0 : ∀ n, n < 64 → (((((((((iI (n : Nat)) - ((((iI (n : Nat))).toUInt32 >>> (((iI 1)).toUInt32 &&& Int32.toUInt32 31)).toInt32 &&& (iI 1431655765))) &&& (iI 858993459)) + (((((iI (n : Nat)) - ((((iI (n : Nat))).toUInt32 >>> (((iI 1)).toUInt32 &&& Int32.toUInt32 31)).toInt32 &&& (iI 1431655765)))).toUInt32 >>> (((iI 2)).toUInt32 &&& Int32.toUInt32 31)).toInt32 &&& (iI 858993459))) + ((((((iI (n : Nat)) - ((((iI (n : Nat))).toUInt32 >>> (((iI 1)).toUInt32 &&& Int32.toUInt32 31)).toInt32 &&& (iI 1431655765))) &&& (iI 858993459)) + (((((iI (n : Nat)) - ((((iI (n : Nat))).toUInt32 >>> (((iI 1)).toUInt32 &&& Int32.toUInt32 31)).toInt32 &&& (iI 1431655765)))).toUInt32 >>> (((iI 2)).toUInt32 &&& Int32.toUInt32 31)).toInt32 &&& (iI 858993459)))).toUInt32 >>> (((iI 4)).toUInt32 &&& Int32.toUInt32 31)).toInt32) &&& (iI 252645135)) + ((((((((iI (n : Nat)) - ((((iI (n : Nat))).toUInt32 >>> (((iI 1)).toUInt32 &&& Int32.toUInt32 31)).toInt32 &&& (iI 1431655765))) &&& (iI 858993459)) + (((((iI (n : Nat)) - ((((iI (n : Nat))).toUInt32 >>> (((iI 1)).toUInt32 &&& Int32.toUInt32 31)).toInt32 &&& (iI 1431655765)))).toUInt32 >>> (((iI 2)).toUInt32 &&& Int32.toUInt32 31)).toInt32 &&& (iI 858993459))) + ((((((iI (n : Nat)) - ((((iI (n : Nat))).toUInt32 >>> (((iI 1)).toUInt32 &&& Int32.toUInt32 31)).toInt32 &&& (iI 1431655765))) &&& (iI 858993459)) + (((((iI (n : Nat)) - ((((iI (n : Nat))).toUInt32 >>> (((iI 1)).toUInt32 &&& Int32.toUInt32 31)).toInt32 &&& (iI 1431655765)))).toUInt32 >>> (((iI 2)).toUInt32 &&& Int32.toUInt32 31)).toInt32 &&& (iI 858993459)))).toUInt32 >>> (((iI 4)).toUInt32 &&& Int32.toUInt32 31)).toInt32) &&& (iI 252645135))).toUInt32 >>> (((iI 8)).toUInt32 &&& Int32.toUInt32 31)).toInt32) + (((((((((iI (n : Nat)) - ((((iI (n : Nat))).toUInt32 >>> (((iI 1)).toUInt32 &&& Int32.toUInt32 31)).toInt32 &&& (iI 1431655765))) &&& (iI 858993459)) + (((((iI (n : Nat)) - ((((iI (n : Nat))).toUInt32 >>> (((iI 1)).toUInt32 &&& Int32.toUInt32 31)).toInt32 &&& (iI 1431655765)))).toUInt32 >>> (((iI 2)).toUInt32 &&& Int32.toUInt32 31)).toInt32 &&& (iI 858993459))) + ((((((iI (n : Nat)) - ((((iI (n : Nat))).toUInt32 >>> (((iI 1)).toUInt32 &&& Int32.toUInt32 31)).toInt32 &&& (iI 1431655765))) &&& (iI 858993459)) + (((((iI (n : Nat)) - ((((iI (n : Nat))).toUInt32 >>> (((iI 1)).toUInt32 &&& Int32.toUInt32 31)).toInt32 &&& (iI 1431655765)))).toUInt32 >>> (((iI 2)).toUInt32 &&& Int32.toUInt32 31)).toInt32 &&& (iI 858993459)))).toUInt32 >>> (((iI 4)).toUInt32 &&& Int32.toUInt32 31)).toInt32) &&& (iI 252645135)) + ((((((((iI (n : Nat)) - ((((iI (n : Nat))).toUInt32 >>> (((iI 1)).toUInt32 &&& Int32.toUInt32 31)).toInt32 &&& (iI 1431655765))) &&& (iI 858993459)) + (((((iI (n : Nat)) - ((((iI (n : Nat))).toUInt32 >>> (((iI 1)).toUInt32 &&& Int32.toUInt32 31)).toInt32 &&& (iI 1431655765)))).toUInt32 >>> (((iI 2)).toUInt32 &&& Int32.toUInt32 31)).toInt32 &&& (iI 858993459))) + ((((((iI (n : Nat)) - ((((iI (n : Nat))).toUInt32 >>> (((iI 1)).toUInt32 &&& Int32.toUInt32 31)).toInt32 &&& (iI 1431655765))) &&& (iI 858993459)) + (((((iI (n : Nat)) - ((((iI (n : Nat))).toUInt32 >>> (((iI 1)).toUInt32 &&& Int32.toUInt32 31)).toInt32 &&& (iI 1431655765)))).toUInt32 >>> (((iI 2)).toUInt32 &&& Int32.toUInt32 31)).toInt32 &&& (iI 858993459)))).toUInt32 >>> (((iI 4)).toUInt32 &&& Int32.toUInt32 31)).toInt32) &&& (iI 252645135))).toUInt32 >>> (((iI 8)).toUInt32 &&& Int32.toUInt32 31)).toInt32)).toUInt32 >>> (((iI 16)).toUInt32 &&& Int32.toUInt32 31)).toInt32) &&& (iI 63)) = iI (sp_pop (n : Nat)) := by decide +kernel
theorem bc_ok {x : Int} (h1 : 0 ≤ x) (h2 : x < 64) : (((((((((iI x) - ((((iI x)).toUInt32 >>> (((iI 1)).toUInt32 &&& Int32.toUInt32 31)).toInt32 &&& (iI 1431655765))) &&& (iI 858993459)) + (((((iI x) - ((((iI x)).toUInt32 >>> (((iI 1)).toUInt32 &&& Int32.toUInt32 31)).toInt32 &&& (iI 1431655765)))).toUInt32 >>> (((iI 2)).toUInt32 &&& Int32.toUInt32 31)).toInt32 &&& (iI 858993459))) + ((((((iI x) - ((((iI x)).toUInt32 >>> (((iI 1)).toUInt32 &&& Int32.toUInt32 31)).toInt32 &&& (iI 1431655765))) &&& (iI 858993459)) + (((((iI x) - ((((iI x)).toUInt32 >>> (((iI 1)).toUInt32 &&& Int32.toUInt32 31)).toInt32 &&& (iI 1431655765)))).toUInt32 >>> (((iI 2)).toUInt32 &&& Int32.toUInt32 31)).toInt32 &&& (iI 858993459)))).toUInt32 >>> (((iI 4)).toUInt32 &&& Int32.toUInt32 31)).toInt32) &&& (iI 252645135)) + ((((((((iI x) - ((((iI x)).toUInt32 >>> (((iI 1)).toUInt32 &&& Int32.toUInt32 31)).toInt32 &&& (iI 1431655765))) &&& (iI 858993459)) + (((((iI x) - ((((iI x)).toUInt32 >>> (((iI 1)).toUInt32 &&& Int32.toUInt32 31)).toInt32 &&& (iI 1431655765)))).toUInt32 >>> (((iI 2)).toUInt32 &&& Int32.toUInt32 31)).toInt32 &&& (iI 858993459))) + ((((((iI x) - ((((iI x)).toUInt32 >>> (((iI 1)).toUInt32 &&& Int32.toUInt32 31)).toInt32 &&& (iI 1431655765))) &&& (iI 858993459)) + (((((iI x) - ((((iI x)).toUInt32 >>> (((iI 1)).toUInt32 &&& Int32.toUInt32 31)).toInt32 &&& (iI 1431655765)))).toUInt32 >>> (((iI 2)).toUInt32 &&& Int32.toUInt32 31)).toInt32 &&& (iI 858993459)))).toUInt32 >>> (((iI 4)).toUInt32 &&& Int32.toUInt32 31)).toInt32) &&& (iI 252645135))).toUInt32 >>> (((iI 8)).toUInt32 &&& Int32.toUInt32 31)).toInt32) + (((((((((iI x) - ((((iI x)).toUInt32 >>> (((iI 1)).toUInt32 &&& Int32.toUInt32 31)).toInt32 &&& (iI 1431655765))) &&& (iI 858993459)) + (((((iI x) - ((((iI x)).toUInt32 >>> (((iI 1)).toUInt32 &&& Int32.toUInt32 31)).toInt32 &&& (iI 1431655765)))).toUInt32 >>> (((iI 2)).toUInt32 &&& Int32.toUInt32 31)).toInt32 &&& (iI 858993459))) + ((((((iI x) - ((((iI x)).toUInt32 >>> (((iI 1)).toUInt32 &&& Int32.toUInt32 31)).toInt32 &&& (iI 1431655765))) &&& (iI 858993459)) + (((((iI x) - ((((iI x)).toUInt32 >>> (((iI 1)).toUInt32 &&& Int32.toUInt32 31)).toInt32 &&& (iI 1431655765)))).toUInt32 >>> (((iI 2)).toUInt32 &&& Int32.toUInt32 31)).toInt32 &&& (iI 858993459)))).toUInt32 >>> (((iI 4)).toUInt32 &&& Int32.toUInt32 31)).toInt32) &&& (iI 252645135)) + ((((((((iI x) - ((((iI x)).toUInt32 >>> (((iI 1)).toUInt32 &&& Int32.toUInt32 31)).toInt32 &&& (iI 1431655765))) &&& (iI 858993459)) + (((((iI x) - ((((iI x)).toUInt32 >>> (((iI 1)).toUInt32 &&& Int32.toUInt32 31)).toInt32 &&& (iI 1431655765)))).toUInt32 >>> (((iI 2)).toUInt32 &&& Int32.toUInt32 31)).toInt32 &&& (iI 858993459))) + ((((((iI x) - ((((iI x)).toUInt32 >>> (((iI 1)).toUInt32 &&& Int32.toUInt32 31)).toInt32 &&& (iI 1431655765))) &&& (iI 858993459)) + (((((iI x) - ((((iI x)).toUInt32 >>> (((iI 1)).toUInt32 &&& Int32.toUInt32 31)).toInt32 &&& (iI 1431655765)))).toUInt32 >>> (((iI 2)).toUInt32 &&& Int32.toUInt32 31)).toInt32 &&& (iI 858993459)))).toUInt32 >>> (((iI 4)).toUInt32 &&& Int32.toUInt32 31)).toInt32) &&& (iI 252645135))).toUInt32 >>> (((iI 8)).toUInt32 &&& Int32.toUInt32 31)).toInt32)).toUInt32 >>> (((iI 16)).toUInt32 &&& Int32.toUInt32 31)).toInt32) &&& (iI 63)) = iI (sp_pop x) := by
  obtain ⟨n, rfl⟩ := Int.eq_ofNat_of_zero_le h1
  exact bc_ok0 n (by omega)
set_option maxHeartbeats 4000000 in
set_option maxRecDepth 100000 in
theorem c_Q_hasFound (l : Launch) (dC : Nat → ClassId) (dI : Nat → Nat → Nat) (sh : Nat) (tr : Nat) (bs : Nat) (tk : Nat) (bc : Int) (st : Int) (al : Int) (wr : Bool) (sp : Bool) (nd : Int) (rd : Int) (li : Int) (pl : Nat) (se : Nat) (hb : fw_b bc) : Met l y_Q_hasFound (Cond.code y_Q_hasFound b_Q_hasFound 1 (some .boolean) :: gw) ({ frames := 0, locals := 0, cells := 0, slots := 0 }) (fw_Pr (dC, dI) [.ref se] [(se, .inr (2, [.ref sh, .ref pl, .ref tr, .ref bs, .int (iI (bc)), .ref tk, .int (iI (st)), .int (iI (al)), .int (bI (wr)), .int (bI (sp)), .int (iI (nd)), .int (iI (rd)), .int (iI (li))]))] []) (fw_Rv (.int (bI (decide (bc < 1000000))))) 0 0 (fun _ => False) := by
  refine fw_ofR (by decide) (Nat.le_of_ble_eq_true rfl) ?_
  intro p e s m below meth c ls hx hb hr hts hown hlocks hml hP hK hN hl
  have hl : lv_has ls 1 [(0, .ref se)] := hl
  refine lv_aload_n hx hb d_Q_hasFound_0 rfl (lv_at hl 0 rfl) ?_
  refine va_get (D := (dC, dI)) (ci := 2) (v := .int (iI (bc))) (C := R_Q) (T := T_Q) (N := 13) hx hb hts in_Q hown hK hP 0 rfl rfl 4 (by decide) (hts _ kw_110) (fun _ h9 => h9) rfl d_Q_hasFound_1 ?_
  refine lv_ldc (v := iI 1000000) hx hb hown (hts _ kw_443) d_Q_hasFound_4 ?_
  refine fw_icmp_ge (tgt := 13) hx hb d_Q_hasFound_6 (by decide) ⟨by omega, by omega⟩ ⟨by omega, by omega⟩ (fun c_1 => ?_) (fun c_1 => ?_)
  · refine lv_iconst (v := (bI (false))) hx hb d_Q_hasFound_13 (by decide) ?_
    refine fw_Rzret hx hb hr hlocks ?_ d_Q_hasFound_14
    · simp [c_1] <;> omega
  · refine lv_iconst (v := (bI (true))) hx hb d_Q_hasFound_9 (by decide) ?_
    refine lv_goto (tgt := 14) hx hb d_Q_hasFound_10 (by decide) ?_
    refine fw_Rzret hx hb hr hlocks ?_ d_Q_hasFound_14
    · simp [c_1] <;> omega

set_option maxHeartbeats 4000000 in
set_option maxRecDepth 100000 in
theorem c_Q_isInSet (l : Launch) (dC : Nat → ClassId) (dI : Nat → Nat → Nat) (sh : Nat) (tr : Nat) (bs : Nat) (tk : Nat) (bc : Int) (st : Int) (al : Int) (wr : Bool) (sp : Bool) (nd : Int) (rd : Int) (li : Int) (pl : Nat) (se : Nat) (h : Int) (g1 : 0 ≤ st) (g2 : st < 2147483648) (g3 : 0 ≤ h) (g4 : h < 32) : Met l y_Q_isInSet (Cond.code y_Q_isInSet b_Q_isInSet 2 (some .boolean) :: gw) ({ frames := 0, locals := 0, cells := 0, slots := 0 }) (fw_Pr (dC, dI) [.ref se, .int (iI (h))] [(se, .inr (2, [.ref sh, .ref pl, .ref tr, .ref bs, .int (iI (bc)), .ref tk, .int (iI (st)), .int (iI (al)), .int (bI (wr)), .int (bI (sp)), .int (iI (nd)), .int (iI (rd)), .int (iI (li))]))] []) (fw_Rv (.int (bI (fc_bit st h.toNat)))) 0 0 (fun _ => False) := by
  refine fw_ofR (by decide) (Nat.le_of_ble_eq_true rfl) ?_
  intro p e s m below meth c ls hx hb hr hts hown hlocks hml hP hK hN hl
  have hl : lv_has ls 2 [(0, .ref se), (1, .int (iI (h)))] := hl
  refine lv_aload_n hx hb d_Q_isInSet_0 rfl (lv_at hl 0 rfl) ?_
  refine va_get (D := (dC, dI)) (ci := 2) (v := .int (iI (st))) (C := R_Q) (T := T_Q) (N := 13) hx hb hts in_Q hown hK hP 0 rfl rfl 6 (by decide) (hts _ kw_112) (fun _ h9 => h9) rfl d_Q_isInSet_1 ?_
  refine lv_iload_n hx hb d_Q_isInSet_4 rfl (lv_at hl 1 rfl) ?_
  refine lv_ishr hx hb d_Q_isInSet_5 ?_
  refine fw_cast (show (.int ((iI (st)) >>> ((iI (h)) &&& 31)) : Value) = .int (iI (st / 2 ^ h.toNat)) from congrArg Value.int (iI_shr g1 g2 (by omega) (by omega))) ?_
  refine lv_iconst (v := (iI (1))) hx hb d_Q_isInSet_6 (by decide) ?_
  refine lv_iand hx hb d_Q_isInSet_7 ?_
  refine fw_cast (show (.int ((iI (st / 2 ^ h.toNat)) &&& (iI (1))) : Value) = .int (iI (st / 2 ^ h.toNat % 2)) from congrArg Value.int (iI_and1 (fw_divb (k := h.toNat) g1 g2).1 (fw_divb (k := h.toNat) g1 g2).2)) ?_
  refine lv_iconst (v := (iI (1))) hx hb d_Q_isInSet_8 (by decide) ?_
  have hdv := fw_divb (k := h.toNat) g1 g2
  refine fw_icmp_ne (tgt := 16) hx hb d_Q_isInSet_9 (by decide) ⟨by omega, by omega⟩ ⟨by omega, by omega⟩ (fun c_1 => ?_) (fun c_1 => ?_)
  · refine lv_iconst (v := (bI (false))) hx hb d_Q_isInSet_16 (by decide) ?_
    refine fw_Rzret hx hb hr hlocks ?_ d_Q_isInSet_17
    · simp only [fc_bit]; simp [*]
  · refine lv_iconst (v := (bI (true))) hx hb d_Q_isInSet_12 (by decide) ?_
    refine lv_goto (tgt := 17) hx hb d_Q_isInSet_13 (by decide) ?_
    refine fw_Rzret hx hb hr hlocks ?_ d_Q_isInSet_17
    · simp only [fc_bit]; simp [*]

set_option maxHeartbeats 4000000 in
set_option maxRecDepth 100000 in
theorem c_Q_looseHeats (l : Launch) (dC : Nat → ClassId) (dI : Nat → Nat → Nat) (sh : Nat) (sg : Nat) (sd : Nat) (sl : Nat) (su : Nat) (ss : Nat) (nO : Int) (nH : Int) (nS : Int) (nW : Int) (nF : Int) (tr : Nat) (bs : Nat) (tk : Nat) (bc : Int) (st : Int) (al : Int) (wr : Bool) (sp : Bool) (nd : Int) (rd : Int) (li : Int) (plu : Nat) (plm : Nat) (plo : Nat) (au : Nat → Int) (am : Nat → Int) (pl : Nat) (se : Nat) (kI : ClassId) (i3 : 0 ≤ nH) (i4 : nH ≤ 6) (i7 : 0 ≤ nW) (i8 : nW ≤ 60) (i9 : 0 ≤ nF) (i10 : nF ≤ 60) (hm : ∀ j : Nat, (j : Int) < nH → fw_b (am j)) : Met l y_Q_looseHeats (Cond.code y_Q_looseHeats b_Q_looseHeats 3 (some .int) :: gw) ({ frames := 1, locals := 22, cells := 0, slots := 0 }) (fw_Pr (dC, dI) [.ref se] [(se, .inr (2, [.ref sh, .ref pl, .ref tr, .ref bs, .int (iI (bc)), .ref tk, .int (iI (st)), .int (iI (al)), .int (bI (wr)), .int (bI (sp)), .int (iI (nd)), .int (iI (rd)), .int (iI (li))])), (sh, .inr (1, [.ref sg, .ref sd, .int (iI (nO)), .ref sl, .ref su, .int (iI (nH)), .ref ss, .int (iI (nS)), .int (iI (nW)), .int (iI (nF))])), (pl, .inr (0, [.ref plu, .ref plm, .ref plo])), (plu, fw_a kI 6 (au)), (plm, fw_a kI 6 (am))] [(kI, .int)]) (fw_Rv (.int (iI (fc_loose am (nW + nF) nH.toNat)))) 0 0 (fun _ => False) := by
  refine fw_ofR (by decide) (Nat.le_of_ble_eq_true rfl) ?_
  intro p e s m below meth c ls hx hb hr hts hown hlocks hml hP hK hN hl
  have hl : lv_has ls 3 [(0, .ref se)] := hl
  refine lv_iconst (v := (iI (0))) hx hb d_Q_looseHeats_0 (by decide) ?_
  refine lv_istore_n (lv' := [(1, .int (iI (0))), (0, .ref se)]) hx hb d_Q_looseHeats_1 rfl hl (by decide) rfl (fun ls hl => ?_)
  refine lv_iconst (v := (iI (0))) hx hb d_Q_looseHeats_2 (by decide) ?_
  refine lv_istore_n (lv' := [(2, .int (iI (0))), (1, .int (iI (0))), (0, .ref se)]) hx hb d_Q_looseHeats_3 rfl hl (by decide) rfl (fun ls hl => ?_)
  have hlp_4 : ∀ (n : Nat) (i : Nat) (z1 : Int) (z2 : Int) (ls : Array Slot), (nH.toNat - i) < n → (z2 = (i : Int)) → ((i : Int) ≤ nH) → (z1 = fc_loose am (nW + nF) i) → lv_has ls 3 [(1, .int (iI (z1))), (2, .int (iI (z2))), (0, .ref se)] → W p l e ({ frames := 1, locals := 22, cells := 0, slots := 0 }) s m ([.ref se] : List Value).toArray below meth c s.heap [] 0 0 (MQ below (fw_Rv (.int (iI (fc_loose am (nW + nF) nH.toNat)))) ([.ref se] : List Value).toArray s 0 0 (fun _ => False)) (F0 m 4 ls []) := by
    intro n_4
    induction n_4 with
    | zero => intro i z1 z2 ls hms; exact absurd hms (Nat.not_lt_zero _)
    | succ n_4 ih_4 =>
      intro i z1 z2 ls hms_4 hz hi hs hl
      refine lv_iload_n hx hb d_Q_looseHeats_4 rfl (lv_at hl 1 rfl) ?_
      refine lv_aload_n hx hb d_Q_looseHeats_5 rfl (lv_at hl 2 rfl) ?_
      refine va_get (D := (dC, dI)) (ci := 2) (v := .ref sh) (C := R_Q) (T := T_Q) (N := 13) hx hb hts in_Q hown hK hP 0 rfl rfl 0 (by decide) (hts _ kw_105) (fun _ h9 => h9) rfl d_Q_looseHeats_6 ?_
      refine va_get (D := (dC, dI)) (ci := 1) (v := .int (iI (nH))) (C := R_S) (T := T_S) (N := 10) hx hb hts in_S hown hK hP 1 rfl rfl 5 (by decide) (hts _ kw_40) (fun _ h9 => h9) rfl d_Q_looseHeats_9 ?_
      refine fw_icmp_ge (tgt := 42) hx hb d_Q_looseHeats_12 (by decide) ⟨by omega, by omega⟩ ⟨by omega, by omega⟩ (fun c_1 => ?_) (fun c_1 => ?_)
      · refine lv_iload_n hx hb d_Q_looseHeats_42 rfl (lv_at hl 0 rfl) ?_
        refine fw_Riret hx hb hr hlocks ?_ d_Q_looseHeats_43
        · rw [hs, show i = nH.toNat by omega]
      · have q3 : z2.toNat = i := by omega
        have q4 := hm i (by omega)
        have q5 := fc_loose_lt am (nW + nF) i
        refine lv_aload_n hx hb d_Q_looseHeats_15 rfl (lv_at hl 2 rfl) ?_
        refine va_get (D := (dC, dI)) (ci := 2) (v := .ref sh) (C := R_Q) (T := T_Q) (N := 13) hx hb hts in_Q hown hK hP 0 rfl rfl 0 (by decide) (hts _ kw_105) (fun _ h9 => h9) rfl d_Q_looseHeats_16 ?_
        refine lv_aload_n hx hb d_Q_looseHeats_19 rfl (lv_at hl 2 rfl) ?_
        refine va_get (D := (dC, dI)) (ci := 2) (v := .ref pl) (C := R_Q) (T := T_Q) (N := 13) hx hb hts in_Q hown hK hP 0 rfl rfl 1 (by decide) (hts _ kw_106) (fun _ h9 => h9) rfl d_Q_looseHeats_20 ?_
        refine lv_iload_n hx hb d_Q_looseHeats_23 rfl (lv_at hl 1 rfl) ?_
        refine fw_callR (va_runV (As := [.ref pl, .int (iI (z2))]) (rest := []) ⟨hx, hb, hml, hown, hts⟩ (c_S_isFrozen l dC dI  sh sg sd sl su ss nO nH nS nW nF pl plu plm plo am kI z2 (by omega) (by omega) (by rw [q3]; omega) (by omega)) (cwV 2 hts (gw_V kw_449 kw_401 kw_402 kw_2 kw_403) rfl rfl rfl (by decide +kernel) ⟨Nat.le_of_ble_eq_true rfl, Nat.le_of_ble_eq_true rfl⟩) (fw_preRV (ci := 1) (q0 := 1) hP hK hN [1, 2, 4] [0] rfl rfl rfl rfl) rfl rfl hl.1 rfl (lv_room (Nat.le_of_ble_eq_true rfl)) d_Q_looseHeats_24 ⟨Nat.le_of_ble_eq_true rfl, Nat.le_of_ble_eq_true rfl⟩).run ?_
        refine fw_bif_ne (tgt := 36) hx hb d_Q_looseHeats_27 (by decide) (fun c_2 => ?_) (fun c_2 => ?_)
        · refine lv_iinc (v := iI (z2 + 1)) (lv' := [(2, .int (iI (z2 + 1))), (1, .int (iI (z1))), (0, .ref se)]) hx hb d_Q_looseHeats_36 hl (k := 1) rfl (by rw [show Int32.ofInt 1 = iI 1 from rfl, iI_add]) (by decide) rfl (fun ls hl => ?_)
          refine lv_goto (tgt := 4) hx hb d_Q_looseHeats_39 (by decide) ?_
          exact ih_4 (i + 1) z1 (z2 + 1) ls (by omega) (by omega) (by omega) (by rw [hs]; show _ = fc_loose am (nW + nF) i + _; subst hz; have q9 : decide (am i < nW + nF) = _ := c_2; rw [q9]; simp) (lv_sub hl [1, 0, 2] rfl)
        · refine lv_iload_n hx hb d_Q_looseHeats_30 rfl (lv_at hl 0 rfl) ?_
          refine lv_iconst (v := (iI (1))) hx hb d_Q_looseHeats_31 (by decide) ?_
          refine lv_iload_n hx hb d_Q_looseHeats_32 rfl (lv_at hl 1 rfl) ?_
          refine lv_ishl hx hb d_Q_looseHeats_33 ?_
          refine fw_cast (show (.int ((iI (1)) <<< ((iI (z2)) &&& 31)) : Value) = .int (iI (2 ^ i)) from congrArg Value.int (iI_shl1 (by omega) (by omega))) ?_
          refine lv_ior hx hb d_Q_looseHeats_34 ?_
          refine fw_cast (show (.int ((iI (z1)) ||| (iI (2 ^ i))) : Value) = .int (iI (z1 + 2 ^ i)) from congrArg Value.int (fc_or_ok (by omega) (by omega) (by omega))) ?_
          refine lv_istore_n (lv' := [(1, .int (iI (z1 + 2 ^ i))), (2, .int (iI (z2))), (0, .ref se)]) hx hb d_Q_looseHeats_35 rfl hl (by decide) rfl (fun ls hl => ?_)
          refine lv_iinc (v := iI (z2 + 1)) (lv' := [(2, .int (iI (z2 + 1))), (1, .int (iI (z1 + 2 ^ i))), (0, .ref se)]) hx hb d_Q_looseHeats_36 hl (k := 1) rfl (by rw [show Int32.ofInt 1 = iI 1 from rfl, iI_add]) (by decide) rfl (fun ls hl => ?_)
          refine lv_goto (tgt := 4) hx hb d_Q_looseHeats_39 (by decide) ?_
          exact ih_4 (i + 1) (z1 + 2 ^ i) (z2 + 1) ls (by omega) (by omega) (by omega) (by rw [hs]; show _ = fc_loose am (nW + nF) i + _; subst hz; have q9 : decide (am i < nW + nF) = _ := c_2; rw [q9]; simp) (lv_sub hl [1, 0, 2] rfl)
  exact hlp_4 ((nH.toNat - 0) + 1) 0 0 0 ls (Nat.lt_succ_self _) rfl (by omega) rfl (lv_sub hl [1, 0, 2] rfl)

set_option maxHeartbeats 4000000 in
set_option maxRecDepth 100000 in
theorem c_Q_costOfOthers (l : Launch) (dC : Nat → ClassId) (dI : Nat → Nat → Nat) (sh : Nat) (sg : Nat) (sd : Nat) (sl : Nat) (su : Nat) (ss : Nat) (nO : Int) (nH : Int) (nS : Int) (nW : Int) (nF : Int) (tr : Nat) (bs : Nat) (tk : Nat) (bc : Int) (st : Int) (al : Int) (wr : Bool) (sp : Bool) (nd : Int) (rd : Int) (li : Int) (plu : Nat) (plm : Nat) (plo : Nat) (au : Nat → Int) (am : Nat → Int) (ao : Nat → Int) (pl : Nat) (se : Nat) (kI : ClassId) (fL : Nat → Int) (fU : Nat → Int) (fG : Nat → Int) (fD : Nat → Int) (hsh : iv_sh nO nH nS nW nF fL fU fG fD) (hpl : iv_pl nO nH fL fU au am ao) (g1 : 0 ≤ st) (g2 : st < 64) : Met l y_Q_costOfOthers (Cond.code y_Q_costOfOthers b_Q_costOfOthers 3 (some .int) :: gw) ({ frames := 1, locals := 24, cells := 0, slots := 0 }) (fw_Pr (dC, dI) [.ref se] [(se, .inr (2, [.ref sh, .ref pl, .ref tr, .ref bs, .int (iI (bc)), .ref tk, .int (iI (st)), .int (iI (al)), .int (bI (wr)), .int (bI (sp)), .int (iI (nd)), .int (iI (rd)), .int (iI (li))])), (sh, .inr (1, [.ref sg, .ref sd, .int (iI (nO)), .ref sl, .ref su, .int (iI (nH)), .ref ss, .int (iI (nS)), .int (iI (nW)), .int (iI (nF))])), (sl, fw_a kI 6 (fL)), (sd, fw_a kI 8 (fD)), (pl, .inr (0, [.ref plu, .ref plm, .ref plo])), (plu, fw_a kI 6 (au)), (plm, fw_a kI 6 (am)), (plo, fw_a kI 6 (ao))] [(kI, .int)]) (fw_Rv (.int (iI (fc_sum (fun h => if fc_bit st h = true then 0 else fc_late fL fD am ao h) nH.toNat)))) 0 0 (fun _ => False) := by
  refine fw_ofR (by decide) (Nat.le_of_ble_eq_true rfl) ?_
  intro p e s m below meth c ls hx hb hr hts hown hlocks hml hP hK hN hl
  have hl : lv_has ls 3 [(0, .ref se)] := hl
  obtain ⟨⟨i1, i2, i3, i4, i5, i6, i7, i8, i9, i10⟩, hi2, hi3⟩ := hsh
  refine lv_iconst (v := (iI (0))) hx hb d_Q_costOfOthers_0 (by decide) ?_
  refine lv_istore_n (lv' := [(1, .int (iI (0))), (0, .ref se)]) hx hb d_Q_costOfOthers_1 rfl hl (by decide) rfl (fun ls hl => ?_)
  refine lv_iconst (v := (iI (0))) hx hb d_Q_costOfOthers_2 (by decide) ?_
  refine lv_istore_n (lv' := [(2, .int (iI (0))), (1, .int (iI (0))), (0, .ref se)]) hx hb d_Q_costOfOthers_3 rfl hl (by decide) rfl (fun ls hl => ?_)
  have hlp_4 : ∀ (n : Nat) (i : Nat) (z1 : Int) (z2 : Int) (ls : Array Slot), (nH.toNat - i) < n → (z2 = (i : Int)) → ((i : Int) ≤ nH) → (z1 = fc_sum (fun h => if fc_bit st h = true then 0 else fc_late fL fD am ao h) i) → lv_has ls 3 [(1, .int (iI (z1))), (2, .int (iI (z2))), (0, .ref se)] → W p l e ({ frames := 1, locals := 24, cells := 0, slots := 0 }) s m ([.ref se] : List Value).toArray below meth c s.heap [] 0 0 (MQ below (fw_Rv (.int (iI (fc_sum (fun h => if fc_bit st h = true then 0 else fc_late fL fD am ao h) nH.toNat)))) ([.ref se] : List Value).toArray s 0 0 (fun _ => False)) (F0 m 4 ls []) := by
    intro n_4
    induction n_4 with
    | zero => intro i z1 z2 ls hms; exact absurd hms (Nat.not_lt_zero _)
    | succ n_4 ih_4 =>
      intro i z1 z2 ls hms_4 hz hi hs hl
      refine lv_iload_n hx hb d_Q_costOfOthers_4 rfl (lv_at hl 1 rfl) ?_
      refine lv_aload_n hx hb d_Q_costOfOthers_5 rfl (lv_at hl 2 rfl) ?_
      refine va_get (D := (dC, dI)) (ci := 2) (v := .ref sh) (C := R_Q) (T := T_Q) (N := 13) hx hb hts in_Q hown hK hP 0 rfl rfl 0 (by decide) (hts _ kw_105) (fun _ h9 => h9) rfl d_Q_costOfOthers_6 ?_
      refine va_get (D := (dC, dI)) (ci := 1) (v := .int (iI (nH))) (C := R_S) (T := T_S) (N := 10) hx hb hts in_S hown hK hP 1 rfl rfl 5 (by decide) (hts _ kw_40) (fun _ h9 => h9) rfl d_Q_costOfOthers_9 ?_
      refine fw_icmp_ge (tgt := 58) hx hb d_Q_costOfOthers_12 (by decide) ⟨by omega, by omega⟩ ⟨by omega, by omega⟩ (fun c_1 => ?_) (fun c_1 => ?_)
      · refine lv_iload_n hx hb d_Q_costOfOthers_58 rfl (lv_at hl 0 rfl) ?_
        refine fw_Riret hx hb hr hlocks ?_ d_Q_costOfOthers_59
        · rw [hs, show i = nH.toNat by omega]
      · obtain ⟨p1, p2, p3, p4, p5, p6, p7⟩ := hpl i (by omega)
        have q1 := hi2 i (by omega)
        have q2 := hi3 (ao i).toNat (by omega)
        have q3 : z2.toNat = i := by omega
        refine lv_aload_n hx hb d_Q_costOfOthers_15 rfl (lv_at hl 2 rfl) ?_
        refine lv_iload_n hx hb d_Q_costOfOthers_16 rfl (lv_at hl 1 rfl) ?_
        refine fw_callR (va_runV (As := [.int (iI (z2))]) (rest := []) ⟨hx, hb, hml, hown, hts⟩ (c_Q_isInSet l dC dI  sh tr bs tk bc st al wr sp nd rd li pl se z2 (by first | assumption | omega) (by first | assumption | omega) (by first | assumption | omega) (by first | assumption | omega)) (cwV 1 hts (gw_V kw_468 kw_470 ks_Q_isInSet kw_4 kw_471) rfl rfl rfl (by decide +kernel) ⟨Nat.le_of_ble_eq_true rfl, Nat.le_of_ble_eq_true rfl⟩) (fw_preRV (ci := 2) (q0 := 0) hP hK hN [0] [] rfl rfl rfl rfl) rfl rfl hl.1 rfl (lv_room (Nat.le_of_ble_eq_true rfl)) d_Q_costOfOthers_17 ⟨Nat.le_of_ble_eq_true rfl, Nat.le_of_ble_eq_true rfl⟩).run ?_
        refine fw_bif_ne (tgt := 52) hx hb d_Q_costOfOthers_20 (by decide) (fun c_2 => ?_) (fun c_2 => ?_)
        · refine lv_iinc (v := iI (z2 + 1)) (lv' := [(2, .int (iI (z2 + 1))), (1, .int (iI (z1))), (0, .ref se)]) hx hb d_Q_costOfOthers_52 hl (k := 1) rfl (by rw [show Int32.ofInt 1 = iI 1 from rfl, iI_add]) (by decide) rfl (fun ls hl => ?_)
          refine lv_goto (tgt := 4) hx hb d_Q_costOfOthers_55 (by decide) ?_
          exact ih_4 (i + 1) z1 (z2 + 1) ls (by omega) (by omega) (by omega) (by rw [hs]; show _ = fc_sum _ i + (if fc_bit st i = true then 0 else fc_late fL fD am ao i); subst hz; have q9 : fc_bit st i = _ := c_2; rw [q9]; first | rfl | (rw [if_pos rfl]; omega)) (lv_sub hl [1, 0, 2] rfl)
        · refine lv_iload_n hx hb d_Q_costOfOthers_23 rfl (lv_at hl 0 rfl) ?_
          refine lv_aload_n hx hb d_Q_costOfOthers_24 rfl (lv_at hl 2 rfl) ?_
          refine va_get (D := (dC, dI)) (ci := 2) (v := .ref sh) (C := R_Q) (T := T_Q) (N := 13) hx hb hts in_Q hown hK hP 0 rfl rfl 0 (by decide) (hts _ kw_105) (fun _ h9 => h9) rfl d_Q_costOfOthers_25 ?_
          refine lv_iload_n hx hb d_Q_costOfOthers_28 rfl (lv_at hl 1 rfl) ?_
          refine lv_aload_n hx hb d_Q_costOfOthers_29 rfl (lv_at hl 2 rfl) ?_
          refine va_get (D := (dC, dI)) (ci := 2) (v := .ref pl) (C := R_Q) (T := T_Q) (N := 13) hx hb hts in_Q hown hK hP 0 rfl rfl 1 (by decide) (hts _ kw_106) (fun _ h9 => h9) rfl d_Q_costOfOthers_30 ?_
          refine va_get (D := (dC, dI)) (ci := 0) (v := .ref plo) (C := R_P) (T := T_P) (N := 3) hx hb hts in_P hown hK hP 4 rfl rfl 2 (by decide) (hts _ kw_88) (fun _ h9 => h9) rfl d_Q_costOfOthers_33 ?_
          refine lv_iload_n hx hb d_Q_costOfOthers_36 rfl (lv_at hl 1 rfl) ?_
          refine fw_iald hx hb hK hP 7 0 rfl rfl (i) (by omega) (by omega) (by omega) d_Q_costOfOthers_37 ?_
          refine lv_aload_n hx hb d_Q_costOfOthers_38 rfl (lv_at hl 2 rfl) ?_
          refine va_get (D := (dC, dI)) (ci := 2) (v := .ref pl) (C := R_Q) (T := T_Q) (N := 13) hx hb hts in_Q hown hK hP 0 rfl rfl 1 (by decide) (hts _ kw_106) (fun _ h9 => h9) rfl d_Q_costOfOthers_39 ?_
          refine va_get (D := (dC, dI)) (ci := 0) (v := .ref plm) (C := R_P) (T := T_P) (N := 3) hx hb hts in_P hown hK hP 4 rfl rfl 1 (by decide) (hts _ kw_84) (fun _ h9 => h9) rfl d_Q_costOfOthers_42 ?_
          refine lv_iload_n hx hb d_Q_costOfOthers_45 rfl (lv_at hl 1 rfl) ?_
          refine fw_iald hx hb hK hP 6 0 rfl rfl (i) (by omega) (by omega) (by omega) d_Q_costOfOthers_46 ?_
          refine fw_callR (va_runV (As := [.int (iI (z2)), .int (iI (ao i)), .int (iI (am i))]) (rest := [.int (iI (z1))]) ⟨hx, hb, hml, hown, hts⟩ (c_S_lateness l dC dI  sh sg sd sl su ss nO nH nS nW nF kI fL fD z2 (ao i) (am i) (by omega) (by omega) (by omega) (by omega) (by rw [q3]; omega)) (cwV 3 hts (gw_V kw_478 kw_187 kw_188 kw_2 kw_189) rfl rfl rfl (by decide +kernel) ⟨Nat.le_of_ble_eq_true rfl, Nat.le_of_ble_eq_true rfl⟩) (fw_preRV (ci := 1) (q0 := 1) hP hK hN [1, 2, 3] [0] rfl rfl rfl rfl) rfl rfl hl.1 rfl (lv_room (Nat.le_of_ble_eq_true rfl)) d_Q_costOfOthers_47 ⟨Nat.le_of_ble_eq_true rfl, Nat.le_of_ble_eq_true rfl⟩).run ?_
          refine fw_iadd hx hb d_Q_costOfOthers_50 ?_
          refine lv_istore_n (lv' := [(1, .int (iI (z1 + (max 0 ((am i) + fL z2.toNat - fD (ao i).toNat))))), (2, .int (iI (z2))), (0, .ref se)]) hx hb d_Q_costOfOthers_51 rfl hl (by decide) rfl (fun ls hl => ?_)
          refine lv_iinc (v := iI (z2 + 1)) (lv' := [(2, .int (iI (z2 + 1))), (1, .int (iI (z1 + (max 0 ((am i) + fL z2.toNat - fD (ao i).toNat))))), (0, .ref se)]) hx hb d_Q_costOfOthers_52 hl (k := 1) rfl (by rw [show Int32.ofInt 1 = iI 1 from rfl, iI_add]) (by decide) rfl (fun ls hl => ?_)
          refine lv_goto (tgt := 4) hx hb d_Q_costOfOthers_55 (by decide) ?_
          exact ih_4 (i + 1) (z1 + (max 0 ((am i) + fL z2.toNat - fD (ao i).toNat))) (z2 + 1) ls (by omega) (by omega) (by omega) (by rw [hs]; show _ = fc_sum _ i + (if fc_bit st i = true then 0 else fc_late fL fD am ao i); subst hz; have q9 : fc_bit st i = _ := c_2; rw [q9]; first | rfl | (rw [if_pos rfl]; omega)) (lv_sub hl [1, 0, 2] rfl)
  exact hlp_4 ((nH.toNat - 0) + 1) 0 0 0 ls (Nat.lt_succ_self _) rfl (by omega) rfl (lv_sub hl [1, 0, 2] rfl)

set_option maxHeartbeats 4000000 in
set_option maxRecDepth 100000 in
theorem c_I_bitCount (l : Launch) (dC : Nat → ClassId) (dI : Nat → Nat → Nat) (x : Int) (g1 : 0 ≤ x) (g2 : x < 64) : Met l y_I_bitCount (Cond.code y_I_bitCount b_I_bitCount 1 (some .int) :: gw) ({ frames := 0, locals := 0, cells := 0, slots := 0 }) (fw_Pr (dC, dI) [.int (iI (x))] [] []) (fw_Rv (.int (iI (sp_pop x)))) 0 0 (fun _ => False) := by
  refine fw_ofR (by decide) (Nat.le_of_ble_eq_true rfl) ?_
  intro p e s m below meth c ls hx hb hr hts hown hlocks hml hP hK hN hl
  have hl : lv_has ls 1 [(0, .int (iI (x)))] := hl
  refine lv_iload_n hx hb d_I_bitCount_0 rfl (lv_at hl 0 rfl) ?_
  refine lv_iload_n hx hb d_I_bitCount_1 rfl (lv_at hl 0 rfl) ?_
  refine lv_iconst (v := (iI (1))) hx hb d_I_bitCount_2 (by decide) ?_
  refine lv_iushr hx hb d_I_bitCount_3 rfl ?_
  refine lv_ldcw (v := iI 1431655765) hx hb hown (hts _ kw_453) d_I_bitCount_4 ?_
  refine lv_iand hx hb d_I_bitCount_7 ?_
  refine lv_isub hx hb d_I_bitCount_8 ?_
  refine lv_istore_n (lv' := [(0, .int ((iI (x)) - (((((iI (x))).toUInt32 >>> (((iI (1))).toUInt32 &&& Int32.toUInt32 31)).toInt32) &&& (iI (1431655765)))))]) hx hb d_I_bitCount_9 rfl hl (by decide) rfl (fun ls hl => ?_)
  refine lv_iload_n hx hb d_I_bitCount_10 rfl (lv_at hl 0 rfl) ?_
  refine lv_ldcw (v := iI 858993459) hx hb hown (hts _ kw_454) d_I_bitCount_11 ?_
  refine lv_iand hx hb d_I_bitCount_14 ?_
  refine lv_iload_n hx hb d_I_bitCount_15 rfl (lv_at hl 0 rfl) ?_
  refine lv_iconst (v := (iI (2))) hx hb d_I_bitCount_16 (by decide) ?_
  refine lv_iushr hx hb d_I_bitCount_17 rfl ?_
  refine lv_ldcw (v := iI 858993459) hx hb hown (hts _ kw_454) d_I_bitCount_18 ?_
  refine lv_iand hx hb d_I_bitCount_21 ?_
  refine lv_iadd hx hb d_I_bitCount_22 ?_
  refine lv_istore_n (lv' := [(0, .int ((((iI (x)) - (((((iI (x))).toUInt32 >>> (((iI (1))).toUInt32 &&& Int32.toUInt32 31)).toInt32) &&& (iI (1431655765)))) &&& (iI (858993459))) + ((((((iI (x)) - (((((iI (x))).toUInt32 >>> (((iI (1))).toUInt32 &&& Int32.toUInt32 31)).toInt32) &&& (iI (1431655765))))).toUInt32 >>> (((iI (2))).toUInt32 &&& Int32.toUInt32 31)).toInt32) &&& (iI (858993459)))))]) hx hb d_I_bitCount_23 rfl hl (by decide) rfl (fun ls hl => ?_)
  refine lv_iload_n hx hb d_I_bitCount_24 rfl (lv_at hl 0 rfl) ?_
  refine lv_iload_n hx hb d_I_bitCount_25 rfl (lv_at hl 0 rfl) ?_
  refine lv_iconst (v := (iI (4))) hx hb d_I_bitCount_26 (by decide) ?_
  refine lv_iushr hx hb d_I_bitCount_27 rfl ?_
  refine lv_iadd hx hb d_I_bitCount_28 ?_
  refine lv_ldcw (v := iI 252645135) hx hb hown (hts _ kw_455) d_I_bitCount_29 ?_
  refine lv_iand hx hb d_I_bitCount_32 ?_
  refine lv_istore_n (lv' := [(0, .int ((((((iI (x)) - (((((iI (x))).toUInt32 >>> (((iI (1))).toUInt32 &&& Int32.toUInt32 31)).toInt32) &&& (iI (1431655765)))) &&& (iI (858993459))) + ((((((iI (x)) - (((((iI (x))).toUInt32 >>> (((iI (1))).toUInt32 &&& Int32.toUInt32 31)).toInt32) &&& (iI (1431655765))))).toUInt32 >>> (((iI (2))).toUInt32 &&& Int32.toUInt32 31)).toInt32) &&& (iI (858993459)))) + (((((((iI (x)) - (((((iI (x))).toUInt32 >>> (((iI (1))).toUInt32 &&& Int32.toUInt32 31)).toInt32) &&& (iI (1431655765)))) &&& (iI (858993459))) + ((((((iI (x)) - (((((iI (x))).toUInt32 >>> (((iI (1))).toUInt32 &&& Int32.toUInt32 31)).toInt32) &&& (iI (1431655765))))).toUInt32 >>> (((iI (2))).toUInt32 &&& Int32.toUInt32 31)).toInt32) &&& (iI (858993459))))).toUInt32 >>> (((iI (4))).toUInt32 &&& Int32.toUInt32 31)).toInt32)) &&& (iI (252645135))))]) hx hb d_I_bitCount_33 rfl hl (by decide) rfl (fun ls hl => ?_)
  refine lv_iload_n hx hb d_I_bitCount_34 rfl (lv_at hl 0 rfl) ?_
  refine lv_iload_n hx hb d_I_bitCount_35 rfl (lv_at hl 0 rfl) ?_
  refine lv_bipush (v := (iI (8))) hx hb d_I_bitCount_36 (by decide) ?_
  refine lv_iushr hx hb d_I_bitCount_38 rfl ?_
  refine lv_iadd hx hb d_I_bitCount_39 ?_
  refine lv_istore_n (lv' := [(0, .int (((((((iI (x)) - (((((iI (x))).toUInt32 >>> (((iI (1))).toUInt32 &&& Int32.toUInt32 31)).toInt32) &&& (iI (1431655765)))) &&& (iI (858993459))) + ((((((iI (x)) - (((((iI (x))).toUInt32 >>> (((iI (1))).toUInt32 &&& Int32.toUInt32 31)).toInt32) &&& (iI (1431655765))))).toUInt32 >>> (((iI (2))).toUInt32 &&& Int32.toUInt32 31)).toInt32) &&& (iI (858993459)))) + (((((((iI (x)) - (((((iI (x))).toUInt32 >>> (((iI (1))).toUInt32 &&& Int32.toUInt32 31)).toInt32) &&& (iI (1431655765)))) &&& (iI (858993459))) + ((((((iI (x)) - (((((iI (x))).toUInt32 >>> (((iI (1))).toUInt32 &&& Int32.toUInt32 31)).toInt32) &&& (iI (1431655765))))).toUInt32 >>> (((iI (2))).toUInt32 &&& Int32.toUInt32 31)).toInt32) &&& (iI (858993459))))).toUInt32 >>> (((iI (4))).toUInt32 &&& Int32.toUInt32 31)).toInt32)) &&& (iI (252645135))) + (((((((((iI (x)) - (((((iI (x))).toUInt32 >>> (((iI (1))).toUInt32 &&& Int32.toUInt32 31)).toInt32) &&& (iI (1431655765)))) &&& (iI (858993459))) + ((((((iI (x)) - (((((iI (x))).toUInt32 >>> (((iI (1))).toUInt32 &&& Int32.toUInt32 31)).toInt32) &&& (iI (1431655765))))).toUInt32 >>> (((iI (2))).toUInt32 &&& Int32.toUInt32 31)).toInt32) &&& (iI (858993459)))) + (((((((iI (x)) - (((((iI (x))).toUInt32 >>> (((iI (1))).toUInt32 &&& Int32.toUInt32 31)).toInt32) &&& (iI (1431655765)))) &&& (iI (858993459))) + ((((((iI (x)) - (((((iI (x))).toUInt32 >>> (((iI (1))).toUInt32 &&& Int32.toUInt32 31)).toInt32) &&& (iI (1431655765))))).toUInt32 >>> (((iI (2))).toUInt32 &&& Int32.toUInt32 31)).toInt32) &&& (iI (858993459))))).toUInt32 >>> (((iI (4))).toUInt32 &&& Int32.toUInt32 31)).toInt32)) &&& (iI (252645135)))).toUInt32 >>> (((iI (8))).toUInt32 &&& Int32.toUInt32 31)).toInt32)))]) hx hb d_I_bitCount_40 rfl hl (by decide) rfl (fun ls hl => ?_)
  refine lv_iload_n hx hb d_I_bitCount_41 rfl (lv_at hl 0 rfl) ?_
  refine lv_iload_n hx hb d_I_bitCount_42 rfl (lv_at hl 0 rfl) ?_
  refine lv_bipush (v := (iI (16))) hx hb d_I_bitCount_43 (by decide) ?_
  refine lv_iushr hx hb d_I_bitCount_45 rfl ?_
  refine lv_iadd hx hb d_I_bitCount_46 ?_
  refine lv_istore_n (lv' := [(0, .int ((((((((iI (x)) - (((((iI (x))).toUInt32 >>> (((iI (1))).toUInt32 &&& Int32.toUInt32 31)).toInt32) &&& (iI (1431655765)))) &&& (iI (858993459))) + ((((((iI (x)) - (((((iI (x))).toUInt32 >>> (((iI (1))).toUInt32 &&& Int32.toUInt32 31)).toInt32) &&& (iI (1431655765))))).toUInt32 >>> (((iI (2))).toUInt32 &&& Int32.toUInt32 31)).toInt32) &&& (iI (858993459)))) + (((((((iI (x)) - (((((iI (x))).toUInt32 >>> (((iI (1))).toUInt32 &&& Int32.toUInt32 31)).toInt32) &&& (iI (1431655765)))) &&& (iI (858993459))) + ((((((iI (x)) - (((((iI (x))).toUInt32 >>> (((iI (1))).toUInt32 &&& Int32.toUInt32 31)).toInt32) &&& (iI (1431655765))))).toUInt32 >>> (((iI (2))).toUInt32 &&& Int32.toUInt32 31)).toInt32) &&& (iI (858993459))))).toUInt32 >>> (((iI (4))).toUInt32 &&& Int32.toUInt32 31)).toInt32)) &&& (iI (252645135))) + (((((((((iI (x)) - (((((iI (x))).toUInt32 >>> (((iI (1))).toUInt32 &&& Int32.toUInt32 31)).toInt32) &&& (iI (1431655765)))) &&& (iI (858993459))) + ((((((iI (x)) - (((((iI (x))).toUInt32 >>> (((iI (1))).toUInt32 &&& Int32.toUInt32 31)).toInt32) &&& (iI (1431655765))))).toUInt32 >>> (((iI (2))).toUInt32 &&& Int32.toUInt32 31)).toInt32) &&& (iI (858993459)))) + (((((((iI (x)) - (((((iI (x))).toUInt32 >>> (((iI (1))).toUInt32 &&& Int32.toUInt32 31)).toInt32) &&& (iI (1431655765)))) &&& (iI (858993459))) + ((((((iI (x)) - (((((iI (x))).toUInt32 >>> (((iI (1))).toUInt32 &&& Int32.toUInt32 31)).toInt32) &&& (iI (1431655765))))).toUInt32 >>> (((iI (2))).toUInt32 &&& Int32.toUInt32 31)).toInt32) &&& (iI (858993459))))).toUInt32 >>> (((iI (4))).toUInt32 &&& Int32.toUInt32 31)).toInt32)) &&& (iI (252645135)))).toUInt32 >>> (((iI (8))).toUInt32 &&& Int32.toUInt32 31)).toInt32)) + ((((((((((iI (x)) - (((((iI (x))).toUInt32 >>> (((iI (1))).toUInt32 &&& Int32.toUInt32 31)).toInt32) &&& (iI (1431655765)))) &&& (iI (858993459))) + ((((((iI (x)) - (((((iI (x))).toUInt32 >>> (((iI (1))).toUInt32 &&& Int32.toUInt32 31)).toInt32) &&& (iI (1431655765))))).toUInt32 >>> (((iI (2))).toUInt32 &&& Int32.toUInt32 31)).toInt32) &&& (iI (858993459)))) + (((((((iI (x)) - (((((iI (x))).toUInt32 >>> (((iI (1))).toUInt32 &&& Int32.toUInt32 31)).toInt32) &&& (iI (1431655765)))) &&& (iI (858993459))) + ((((((iI (x)) - (((((iI (x))).toUInt32 >>> (((iI (1))).toUInt32 &&& Int32.toUInt32 31)).toInt32) &&& (iI (1431655765))))).toUInt32 >>> (((iI (2))).toUInt32 &&& Int32.toUInt32 31)).toInt32) &&& (iI (858993459))))).toUInt32 >>> (((iI (4))).toUInt32 &&& Int32.toUInt32 31)).toInt32)) &&& (iI (252645135))) + (((((((((iI (x)) - (((((iI (x))).toUInt32 >>> (((iI (1))).toUInt32 &&& Int32.toUInt32 31)).toInt32) &&& (iI (1431655765)))) &&& (iI (858993459))) + ((((((iI (x)) - (((((iI (x))).toUInt32 >>> (((iI (1))).toUInt32 &&& Int32.toUInt32 31)).toInt32) &&& (iI (1431655765))))).toUInt32 >>> (((iI (2))).toUInt32 &&& Int32.toUInt32 31)).toInt32) &&& (iI (858993459)))) + (((((((iI (x)) - (((((iI (x))).toUInt32 >>> (((iI (1))).toUInt32 &&& Int32.toUInt32 31)).toInt32) &&& (iI (1431655765)))) &&& (iI (858993459))) + ((((((iI (x)) - (((((iI (x))).toUInt32 >>> (((iI (1))).toUInt32 &&& Int32.toUInt32 31)).toInt32) &&& (iI (1431655765))))).toUInt32 >>> (((iI (2))).toUInt32 &&& Int32.toUInt32 31)).toInt32) &&& (iI (858993459))))).toUInt32 >>> (((iI (4))).toUInt32 &&& Int32.toUInt32 31)).toInt32)) &&& (iI (252645135)))).toUInt32 >>> (((iI (8))).toUInt32 &&& Int32.toUInt32 31)).toInt32))).toUInt32 >>> (((iI (16))).toUInt32 &&& Int32.toUInt32 31)).toInt32)))]) hx hb d_I_bitCount_47 rfl hl (by decide) rfl (fun ls hl => ?_)
  refine lv_iload_n hx hb d_I_bitCount_48 rfl (lv_at hl 0 rfl) ?_
  refine lv_bipush (v := (iI (63))) hx hb d_I_bitCount_49 (by decide) ?_
  refine lv_iand hx hb d_I_bitCount_51 ?_
  refine fw_Riret hx hb hr hlocks ?_ d_I_bitCount_52
  · exact bc_ok g1 g2
