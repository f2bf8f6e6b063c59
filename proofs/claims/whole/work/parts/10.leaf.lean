set_option maxHeartbeats 4000000 in
set_option maxRecDepth 100000 in
/-- number between least and most -/
theorem c_F_isWithin (l : Launch) (dC : Nat → ClassId) (dI : Nat → Nat → Nat) (x : Int) (y : Int) (z : Int) (hx0 : fw_b x) (hy0 : fw_b y) (hz0 : fw_b z) : Met l y_F_isWithin (Cond.code y_F_isWithin b_F_isWithin 3 (some .boolean) :: gw) ({ frames := 0, locals := 0, cells := 0, slots := 0 }) (fw_Pr (dC, dI) [.int (iI (x)), .int (iI (y)), .int (iI (z))] [] []) (fw_Rv (.int (bI (fc_in x y z)))) 0 0 (fun _ => False) := by
  refine fw_ofR (by decide) (Nat.le_of_ble_eq_true rfl) ?_
  intro p e s m below meth c ls hx hb hr hts hown hlocks hml hP hK hN hl
  have hl : lv_has ls 3 [(0, .int (iI (x))), (1, .int (iI (y))), (2, .int (iI (z)))] := hl
  refine lv_iload_n hx hb d_F_isWithin_0 rfl (lv_at hl 0 rfl) ?_
  refine lv_iload_n hx hb d_F_isWithin_1 rfl (lv_at hl 1 rfl) ?_
  refine fw_icmp_lt (tgt := 14) hx hb d_F_isWithin_2 (by decide) ⟨by omega, by omega⟩ ⟨by omega, by omega⟩ (fun c_1 => ?_) (fun c_1 => ?_)
  · refine lv_iconst (v := (bI (false))) hx hb d_F_isWithin_14 (by decide) ?_
    refine fw_Rzret hx hb hr hlocks ?_ d_F_isWithin_15
    · simp only [fc_in]; simp; omega
  · refine lv_iload_n hx hb d_F_isWithin_5 rfl (lv_at hl 0 rfl) ?_
    refine lv_iload_n hx hb d_F_isWithin_6 rfl (lv_at hl 2 rfl) ?_
    refine fw_icmp_gt (tgt := 14) hx hb d_F_isWithin_7 (by decide) ⟨by omega, by omega⟩ ⟨by omega, by omega⟩ (fun c_2 => ?_) (fun c_2 => ?_)
    · refine lv_iconst (v := (bI (false))) hx hb d_F_isWithin_14 (by decide) ?_
      refine fw_Rzret hx hb hr hlocks ?_ d_F_isWithin_15
      · simp only [fc_in]; simp; omega
    · refine lv_iconst (v := (bI (true))) hx hb d_F_isWithin_10 (by decide) ?_
      refine lv_goto (tgt := 15) hx hb d_F_isWithin_11 (by decide) ?_
      refine fw_Rzret hx hb hr hlocks ?_ d_F_isWithin_15
      · simp only [fc_in]; simp; omega

set_option maxHeartbeats 4000000 in
set_option maxRecDepth 100000 in
theorem c_F_isUnit (l : Launch) (dC : Nat → ClassId) (dI : Nat → Nat → Nat) (x : Int) (hx0 : fw_b x) : Met l y_F_isUnit (Cond.code y_F_isUnit b_F_isUnit 1 (some .boolean) :: gw) ({ frames := 1, locals := 22, cells := 0, slots := 0 }) (fw_Pr (dC, dI) [.int (iI (x))] [] []) (fw_Rv (.int (bI (fc_in x 0 2)))) 0 0 (fun _ => False) := by
  refine fw_ofR (by decide) (Nat.le_of_ble_eq_true rfl) ?_
  intro p e s m below meth c ls hx hb hr hts hown hlocks hml hP hK hN hl
  have hl : lv_has ls 1 [(0, .int (iI (x)))] := hl
  refine lv_iload_n hx hb d_F_isUnit_0 rfl (lv_at hl 0 rfl) ?_
  refine lv_iconst (v := (iI (0))) hx hb d_F_isUnit_1 (by decide) ?_
  refine lv_iconst (v := (iI (2))) hx hb d_F_isUnit_2 (by decide) ?_
  refine fw_callR (va_runS (As := [.int (iI (x)), .int (iI (0)), .int (iI (2))]) (rest := []) ⟨hx, hb, hml, hown, hts⟩ (c_F_isWithin l dC dI  x 0 2 ⟨by omega, by omega⟩ ⟨by omega, by omega⟩ ⟨by omega, by omega⟩) (cwS 3 hts (gw_S kw_268 kw_269 kw_1 kw_270) rfl rfl rfl (by decide +kernel) ⟨Nat.le_of_ble_eq_true rfl, Nat.le_of_ble_eq_true rfl⟩) (fw_preRS hP hK hN [] [] rfl rfl) rfl rfl hl.1 rfl (lv_room (Nat.le_of_ble_eq_true rfl)) d_F_isUnit_3 ⟨Nat.le_of_ble_eq_true rfl, Nat.le_of_ble_eq_true rfl⟩).run ?_
  refine fw_Rzret hx hb hr hlocks ?_ d_F_isUnit_6
  · rfl

set_option maxHeartbeats 4000000 in
set_option maxRecDepth 100000 in
theorem c_F_isMinute (l : Launch) (dC : Nat → ClassId) (dI : Nat → Nat → Nat) (x : Int) (hx0 : fw_b x) : Met l y_F_isMinute (Cond.code y_F_isMinute b_F_isMinute 1 (some .boolean) :: gw) ({ frames := 1, locals := 22, cells := 0, slots := 0 }) (fw_Pr (dC, dI) [.int (iI (x))] [] []) (fw_Rv (.int (bI (fc_in x 0 59)))) 0 0 (fun _ => False) := by
  refine fw_ofR (by decide) (Nat.le_of_ble_eq_true rfl) ?_
  intro p e s m below meth c ls hx hb hr hts hown hlocks hml hP hK hN hl
  have hl : lv_has ls 1 [(0, .int (iI (x)))] := hl
  refine lv_iload_n hx hb d_F_isMinute_0 rfl (lv_at hl 0 rfl) ?_
  refine lv_iconst (v := (iI (0))) hx hb d_F_isMinute_1 (by decide) ?_
  refine lv_bipush (v := (iI (59))) hx hb d_F_isMinute_2 (by decide) ?_
  refine fw_callR (va_runS (As := [.int (iI (x)), .int (iI (0)), .int (iI (59))]) (rest := []) ⟨hx, hb, hml, hown, hts⟩ (c_F_isWithin l dC dI  x 0 59 ⟨by omega, by omega⟩ ⟨by omega, by omega⟩ ⟨by omega, by omega⟩) (cwS 3 hts (gw_S kw_268 kw_269 kw_1 kw_270) rfl rfl rfl (by decide +kernel) ⟨Nat.le_of_ble_eq_true rfl, Nat.le_of_ble_eq_true rfl⟩) (fw_preRS hP hK hN [] [] rfl rfl) rfl rfl hl.1 rfl (lv_room (Nat.le_of_ble_eq_true rfl)) d_F_isMinute_4 ⟨Nat.le_of_ble_eq_true rfl, Nat.le_of_ble_eq_true rfl⟩).run ?_
  refine fw_Rzret hx hb hr hlocks ?_ d_F_isMinute_7
  · rfl

set_option maxHeartbeats 4000000 in
set_option maxRecDepth 100000 in
theorem c_F_isCopy (l : Launch) (dC : Nat → ClassId) (dI : Nat → Nat → Nat) (x : Int) (hx0 : fw_b x) : Met l y_F_isCopy (Cond.code y_F_isCopy b_F_isCopy 1 (some .boolean) :: gw) ({ frames := 1, locals := 22, cells := 0, slots := 0 }) (fw_Pr (dC, dI) [.int (iI (x))] [] []) (fw_Rv (.int (bI (fc_in x 0 3)))) 0 0 (fun _ => False) := by
  refine fw_ofR (by decide) (Nat.le_of_ble_eq_true rfl) ?_
  intro p e s m below meth c ls hx hb hr hts hown hlocks hml hP hK hN hl
  have hl : lv_has ls 1 [(0, .int (iI (x)))] := hl
  refine lv_iload_n hx hb d_F_isCopy_0 rfl (lv_at hl 0 rfl) ?_
  refine lv_iconst (v := (iI (0))) hx hb d_F_isCopy_1 (by decide) ?_
  refine lv_iconst (v := (iI (3))) hx hb d_F_isCopy_2 (by decide) ?_
  refine fw_callR (va_runS (As := [.int (iI (x)), .int (iI (0)), .int (iI (3))]) (rest := []) ⟨hx, hb, hml, hown, hts⟩ (c_F_isWithin l dC dI  x 0 3 ⟨by omega, by omega⟩ ⟨by omega, by omega⟩ ⟨by omega, by omega⟩) (cwS 3 hts (gw_S kw_268 kw_269 kw_1 kw_270) rfl rfl rfl (by decide +kernel) ⟨Nat.le_of_ble_eq_true rfl, Nat.le_of_ble_eq_true rfl⟩) (fw_preRS hP hK hN [] [] rfl rfl) rfl rfl hl.1 rfl (lv_room (Nat.le_of_ble_eq_true rfl)) d_F_isCopy_3 ⟨Nat.le_of_ble_eq_true rfl, Nat.le_of_ble_eq_true rfl⟩).run ?_
  refine fw_Rzret hx hb hr hlocks ?_ d_F_isCopy_6
  · rfl

set_option maxHeartbeats 4000000 in
set_option maxRecDepth 100000 in
theorem c_F_mayTake (l : Launch) (dC : Nat → ClassId) (dI : Nat → Nat → Nat) (us : Int) (un : Int) (h1 : 0 ≤ us) (h2 : us < 2147483648) (h3 : 0 ≤ un) (h4 : un < 32) : Met l y_F_mayTake (Cond.code y_F_mayTake b_F_mayTake 2 (some .boolean) :: gw) ({ frames := 0, locals := 0, cells := 0, slots := 0 }) (fw_Pr (dC, dI) [.int (iI (us)), .int (iI (un))] [] []) (fw_Rv (.int (bI (fc_bit us un.toNat)))) 0 0 (fun _ => False) := by
  refine fw_ofR (by decide) (Nat.le_of_ble_eq_true rfl) ?_
  intro p e s m below meth c ls hx hb hr hts hown hlocks hml hP hK hN hl
  have hl : lv_has ls 2 [(0, .int (iI (us))), (1, .int (iI (un)))] := hl
  refine lv_iload_n hx hb d_F_mayTake_0 rfl (lv_at hl 0 rfl) ?_
  refine lv_iload_n hx hb d_F_mayTake_1 rfl (lv_at hl 1 rfl) ?_
  refine lv_ishr hx hb d_F_mayTake_2 ?_
  refine fw_cast (show (.int ((iI (us)) >>> ((iI (un)) &&& 31)) : Value) = .int (iI (us / 2 ^ un.toNat)) from congrArg Value.int (iI_shr h1 h2 (by omega) (by omega))) ?_
  refine lv_iconst (v := (iI (1))) hx hb d_F_mayTake_3 (by decide) ?_
  refine lv_iand hx hb d_F_mayTake_4 ?_
  refine fw_cast (show (.int ((iI (us / 2 ^ un.toNat)) &&& (iI (1))) : Value) = .int (iI (us / 2 ^ un.toNat % 2)) from congrArg Value.int (iI_and1 (fw_divb (k := un.toNat) h1 h2).1 (fw_divb (k := un.toNat) h1 h2).2)) ?_
  have hdv := fw_divb (k := un.toNat) h1 h2
  refine lv_iconst (v := (iI (1))) hx hb d_F_mayTake_5 (by decide) ?_
  refine fw_icmp_ne (tgt := 13) hx hb d_F_mayTake_6 (by decide) ⟨by omega, by omega⟩ ⟨by omega, by omega⟩ (fun c_1 => ?_) (fun c_1 => ?_)
  · refine lv_iconst (v := (bI (false))) hx hb d_F_mayTake_13 (by decide) ?_
    refine fw_Rzret hx hb hr hlocks ?_ d_F_mayTake_14
    · simp only [fc_bit]; simp [*]
  · refine lv_iconst (v := (bI (true))) hx hb d_F_mayTake_9 (by decide) ?_
    refine lv_goto (tgt := 14) hx hb d_F_mayTake_10 (by decide) ?_
    refine fw_Rzret hx hb hr hlocks ?_ d_F_mayTake_14
    · simp only [fc_bit]; simp [*]

set_option maxHeartbeats 4000000 in
set_option maxRecDepth 100000 in
theorem c_F_minutesAsBits (l : Launch) (dC : Nat → ClassId) (dI : Nat → Nat → Nat) (f : Int) (n : Int)  : Met l y_F_minutesAsBits (Cond.code y_F_minutesAsBits b_F_minutesAsBits 2 (some .long) :: gw) ({ frames := 0, locals := 0, cells := 0, slots := 0 }) (fw_Pr (dC, dI) [.int (iI (f)), .int (iI (n))] [] []) (fw_Rv (.long (fc_bits f n))) 0 0 (fun _ => False) := by
  refine fw_ofR (by decide) (Nat.le_of_ble_eq_true rfl) ?_
  intro p e s m below meth c ls hx hb hr hts hown hlocks hml hP hK hN hl
  have hl : lv_has ls 2 [(0, .int (iI (f))), (1, .int (iI (n)))] := hl
  refine lv_lconst (v := 1) hx hb d_F_minutesAsBits_0 (by decide) ?_
  refine lv_iload_n hx hb d_F_minutesAsBits_1 rfl (lv_at hl 1 rfl) ?_
  refine lv_lshl hx hb d_F_minutesAsBits_2 rfl ?_
  refine lv_lconst (v := 1) hx hb d_F_minutesAsBits_3 (by decide) ?_
  refine lv_lsub hx hb d_F_minutesAsBits_4 ?_
  refine lv_iload_n hx hb d_F_minutesAsBits_5 rfl (lv_at hl 0 rfl) ?_
  refine lv_lshl hx hb d_F_minutesAsBits_6 rfl ?_
  refine fw_Rlret hx hb hr hlocks ?_ d_F_minutesAsBits_7
  · rfl

set_option maxHeartbeats 4000000 in
set_option maxRecDepth 100000 in
/-- Plan.put -/
theorem c_P_put (l : Launch) (dC : Nat → ClassId) (dI : Nat → Nat → Nat) (sz : Nat) (q : Nat) (qu : Nat) (qm : Nat) (qo : Nat) (au : Nat → Int) (am : Nat → Int) (kI : ClassId) (h : Int) (u : Int) (mi : Int) (h1 : 0 ≤ h) (h2 : h < 6) : Met l y_P_put (Cond.code y_P_put b_P_put 4 none :: gw) ({ frames := 0, locals := 0, cells := 0, slots := 0 }) (fw_Pc (dC, dI) [.ref q, .int (iI (h)), .int (iI (u)), .int (iI (mi))] [(q, .inr (0, [.ref qu, .ref qm, .ref qo])), (qu, fw_a kI 6 (au)), (qm, fw_a kI 6 (am))] [(kI, .int)] sz) (fw_Qv (va_P (dC, dI) cls_ [(q, .inr (0, [.ref qu, .ref qm, .ref qo])), (qu, fw_a kI 6 (fw_up au h.toNat u)), (qm, fw_a kI 6 (fw_up am h.toNat mi))]) (va_A [(q, .inr (0, [.ref qu, .ref qm, .ref qo])), (qu, fw_a kI 6 (au)), (qm, fw_a kI 6 (am))] sz)) 0 0 (va_A [(q, .inr (0, [.ref qu, .ref qm, .ref qo])), (qu, fw_a kI 6 (au)), (qm, fw_a kI 6 (am))] sz) := by
  refine fw_ofW (Qc := fun A => fw_Qv (va_P (dC, dI) cls_ [(q, .inr (0, [.ref qu, .ref qm, .ref qo])), (qu, fw_a kI 6 (fw_up au h.toNat u)), (qm, fw_a kI 6 (fw_up am h.toNat mi))]) A) (by decide) (Nat.le_of_ble_eq_true rfl) ?_
  intro p e s m below meth c A ls hx hb hr hts hown hlocks hnm hml hsz hP hK hD hN hA hS hl
  have hl : lv_has ls 4 [(0, .ref q), (1, .int (iI (h))), (2, .int (iI (u))), (3, .int (iI (mi)))] := hl
  refine lv_aload_n hx hb d_P_put_0 rfl (lv_at hl 0 rfl) ?_
  refine va_get (D := (dC, dI)) (ci := 0) (v := .ref qu) (C := R_P) (T := T_P) (N := 3) hx hb hts in_P hown hK hP 0 rfl rfl 0 (by decide) (hts _ kw_78) (fun _ h9 => h9) rfl d_P_put_1 ?_
  refine lv_iload_n hx hb d_P_put_4 rfl (lv_at hl 1 rfl) ?_
  refine lv_iload_n hx hb d_P_put_5 rfl (lv_at hl 2 rfl) ?_
  refine fw_iast hx hb hK hP hD hS 1 0 rfl rfl ((h).toNat) (by omega) (by omega) (by omega) d_P_put_6 (fun H locs hP hD hS => ?_)
  have hP : va_P (dC, dI) cls_ [(q, .inr (0, [.ref qu, .ref qm, .ref qo])), (qu, fw_a kI 6 (fw_up au ((h).toNat) u)), (qm, fw_a kI 6 (am))] H := hP
  have hD : va_D A [(q, .inr (0, [.ref qu, .ref qm, .ref qo])), (qu, fw_a kI 6 (fw_up au ((h).toNat) u)), (qm, fw_a kI 6 (am))] := hD
  refine lv_aload_n hx hb d_P_put_7 rfl (lv_at hl 0 rfl) ?_
  refine va_get (D := (dC, dI)) (ci := 0) (v := .ref qm) (C := R_P) (T := T_P) (N := 3) hx hb hts in_P hown hK hP 0 rfl rfl 1 (by decide) (hts _ kw_82) (fun _ h9 => h9) rfl d_P_put_8 ?_
  refine lv_iload_n hx hb d_P_put_11 rfl (lv_at hl 1 rfl) ?_
  refine lv_iload_n hx hb d_P_put_12 rfl (lv_at hl 3 rfl) ?_
  refine fw_iast hx hb hK hP hD hS 2 0 rfl rfl ((h).toNat) (by omega) (by omega) (by omega) d_P_put_13 (fun H locs hP hD hS => ?_)
  have hP : va_P (dC, dI) cls_ [(q, .inr (0, [.ref qu, .ref qm, .ref qo])), (qu, fw_a kI 6 (fw_up au ((h).toNat) u)), (qm, fw_a kI 6 (fw_up am ((h).toNat) mi))] H := hP
  have hD : va_D A [(q, .inr (0, [.ref qu, .ref qm, .ref qo])), (qu, fw_a kI 6 (fw_up au ((h).toNat) u)), (qm, fw_a kI 6 (fw_up am ((h).toNat) mi))] := hD
  refine fw_vret hx hb hr hlocks hS ?_ d_P_put_14
  · exact hP

set_option maxHeartbeats 4000000 in
set_option maxRecDepth 100000 in
theorem c_P_isAt (l : Launch) (dC : Nat → ClassId) (dI : Nat → Nat → Nat) (q : Nat) (qu : Nat) (qm : Nat) (qo : Nat) (au : Nat → Int) (am : Nat → Int) (kI : ClassId) (h : Int) (u : Int) (mi : Int) (h1 : 0 ≤ h) (h2 : h < 6) (h3 : fw_b (au h.toNat)) (h4 : fw_b (am h.toNat)) (hb_u : fw_b u) (hb_mi : fw_b mi) : Met l y_P_isAt (Cond.code y_P_isAt b_P_isAt 4 (some .boolean) :: gw) ({ frames := 0, locals := 0, cells := 0, slots := 0 }) (fw_Pr (dC, dI) [.ref q, .int (iI (h)), .int (iI (u)), .int (iI (mi))] [(q, .inr (0, [.ref qu, .ref qm, .ref qo])), (qu, fw_a kI 6 (au)), (qm, fw_a kI 6 (am))] [(kI, .int)]) (fw_Rv (.int (bI (decide (au h.toNat = u) && decide (am h.toNat = mi))))) 0 0 (fun _ => False) := by
  refine fw_ofR (by decide) (Nat.le_of_ble_eq_true rfl) ?_
  intro p e s m below meth c ls hx hb hr hts hown hlocks hml hP hK hN hl
  have hl : lv_has ls 4 [(0, .ref q), (1, .int (iI (h))), (2, .int (iI (u))), (3, .int (iI (mi)))] := hl
  refine lv_aload_n hx hb d_P_isAt_0 rfl (lv_at hl 0 rfl) ?_
  refine va_get (D := (dC, dI)) (ci := 0) (v := .ref qu) (C := R_P) (T := T_P) (N := 3) hx hb hts in_P hown hK hP 0 rfl rfl 0 (by decide) (hts _ kw_78) (fun _ h9 => h9) rfl d_P_isAt_1 ?_
  refine lv_iload_n hx hb d_P_isAt_4 rfl (lv_at hl 1 rfl) ?_
  refine fw_iald hx hb hK hP 1 0 rfl rfl ((h).toNat) (by omega) (by omega) (by omega) d_P_isAt_5 ?_
  refine lv_iload_n hx hb d_P_isAt_6 rfl (lv_at hl 2 rfl) ?_
  refine fw_icmp_ne (tgt := 24) hx hb d_P_isAt_7 (by decide) ⟨by omega, by omega⟩ ⟨by omega, by omega⟩ (fun c_1 => ?_) (fun c_1 => ?_)
  · refine lv_iconst (v := (bI (false))) hx hb d_P_isAt_24 (by decide) ?_
    refine fw_Rzret hx hb hr hlocks ?_ d_P_isAt_25
    · simp [*]
  · refine lv_aload_n hx hb d_P_isAt_10 rfl (lv_at hl 0 rfl) ?_
    refine va_get (D := (dC, dI)) (ci := 0) (v := .ref qm) (C := R_P) (T := T_P) (N := 3) hx hb hts in_P hown hK hP 0 rfl rfl 1 (by decide) (hts _ kw_82) (fun _ h9 => h9) rfl d_P_isAt_11 ?_
    refine lv_iload_n hx hb d_P_isAt_14 rfl (lv_at hl 1 rfl) ?_
    refine fw_iald hx hb hK hP 2 0 rfl rfl ((h).toNat) (by omega) (by omega) (by omega) d_P_isAt_15 ?_
    refine lv_iload_n hx hb d_P_isAt_16 rfl (lv_at hl 3 rfl) ?_
    refine fw_icmp_ne (tgt := 24) hx hb d_P_isAt_17 (by decide) ⟨by omega, by omega⟩ ⟨by omega, by omega⟩ (fun c_2 => ?_) (fun c_2 => ?_)
    · refine lv_iconst (v := (bI (false))) hx hb d_P_isAt_24 (by decide) ?_
      refine fw_Rzret hx hb hr hlocks ?_ d_P_isAt_25
      · simp [*]
    · refine lv_iconst (v := (bI (true))) hx hb d_P_isAt_20 (by decide) ?_
      refine lv_goto (tgt := 25) hx hb d_P_isAt_21 (by decide) ?_
      refine fw_Rzret hx hb hr hlocks ?_ d_P_isAt_25
      · simp [*]

set_option maxHeartbeats 4000000 in
set_option maxRecDepth 100000 in
/-- Plan.takeFrom: the other plan, row by row -/
theorem c_P_takeFrom (l : Launch) (dC : Nat → ClassId) (dI : Nat → Nat → Nat) (sz : Nat) (q : Nat) (qu : Nat) (qm : Nat) (qo : Nat) (au : Nat → Int) (am : Nat → Int) (ao : Nat → Int) (r : Nat) (ru : Nat) (rm : Nat) (ro : Nat) (ou : Nat → Int) (om : Nat → Int) (oo : Nat → Int) (kI : ClassId)  : Met l y_P_takeFrom (Cond.code y_P_takeFrom b_P_takeFrom 3 none :: gw) ({ frames := 0, locals := 0, cells := 0, slots := 0 }) (fw_Pc (dC, dI) [.ref q, .ref r] [(q, .inr (0, [.ref qu, .ref qm, .ref qo])), (qu, fw_a kI 6 (au)), (qm, fw_a kI 6 (am)), (qo, fw_a kI 6 (ao)), (r, .inr (0, [.ref ru, .ref rm, .ref ro])), (ru, fw_a kI 6 (ou)), (rm, fw_a kI 6 (om)), (ro, fw_a kI 6 (oo))] [(kI, .int)] sz) (fw_Qv (va_P (dC, dI) cls_ [(q, .inr (0, [.ref qu, .ref qm, .ref qo])), (qu, fw_a kI 6 (ou)), (qm, fw_a kI 6 (om)), (qo, fw_a kI 6 (oo)), (r, .inr (0, [.ref ru, .ref rm, .ref ro])), (ru, fw_a kI 6 (ou)), (rm, fw_a kI 6 (om)), (ro, fw_a kI 6 (oo))]) (va_A [(q, .inr (0, [.ref qu, .ref qm, .ref qo])), (qu, fw_a kI 6 (au)), (qm, fw_a kI 6 (am)), (qo, fw_a kI 6 (ao)), (r, .inr (0, [.ref ru, .ref rm, .ref ro])), (ru, fw_a kI 6 (ou)), (rm, fw_a kI 6 (om)), (ro, fw_a kI 6 (oo))] sz)) 0 0 (va_A [(q, .inr (0, [.ref qu, .ref qm, .ref qo])), (qu, fw_a kI 6 (au)), (qm, fw_a kI 6 (am)), (qo, fw_a kI 6 (ao)), (r, .inr (0, [.ref ru, .ref rm, .ref ro])), (ru, fw_a kI 6 (ou)), (rm, fw_a kI 6 (om)), (ro, fw_a kI 6 (oo))] sz) := by
  refine fw_ofW (Qc := fun A => fw_Qv (va_P (dC, dI) cls_ [(q, .inr (0, [.ref qu, .ref qm, .ref qo])), (qu, fw_a kI 6 (ou)), (qm, fw_a kI 6 (om)), (qo, fw_a kI 6 (oo)), (r, .inr (0, [.ref ru, .ref rm, .ref ro])), (ru, fw_a kI 6 (ou)), (rm, fw_a kI 6 (om)), (ro, fw_a kI 6 (oo))]) A) (by decide) (Nat.le_of_ble_eq_true rfl) ?_
  intro p e s m below meth c A ls hx hb hr hts hown hlocks hnm hml hsz hP hK hD hN hA hS hl
  have hl : lv_has ls 3 [(0, .ref q), (1, .ref r)] := hl
  refine lv_iconst (v := (iI (0))) hx hb d_P_takeFrom_0 (by decide) ?_
  refine lv_istore_n (lv' := [(2, .int (iI (0))), (0, .ref q), (1, .ref r)]) hx hb d_P_takeFrom_1 rfl hl (by decide) rfl (fun ls hl => ?_)
  have hlp_2 : ∀ (n : Nat) (i : Nat) (z2 : Int) (xu : Nat → Int) (xm : Nat → Int) (xo : Nat → Int) (H : Heap) (locs : List Loc) (ls : Array Slot), (6 - i) < n → (z2 = (i : Int)) → (i ≤ 6) → (∀ j, j < i → xu j = ou j) → (∀ j, j < i → xm j = om j) → (∀ j, j < i → xo j = oo j) → va_P (dC, dI) cls_ [(q, .inr (0, [.ref qu, .ref qm, .ref qo])), (qu, fw_a kI 6 (xu)), (qm, fw_a kI 6 (xm)), (qo, fw_a kI 6 (xo)), (r, .inr (0, [.ref ru, .ref rm, .ref ro])), (ru, fw_a kI 6 (ou)), (rm, fw_a kI 6 (om)), (ro, fw_a kI 6 (oo))] H → va_D A [(q, .inr (0, [.ref qu, .ref qm, .ref qo])), (qu, fw_a kI 6 (xu)), (qm, fw_a kI 6 (xm)), (qo, fw_a kI 6 (xo)), (r, .inr (0, [.ref ru, .ref rm, .ref ro])), (ru, fw_a kI 6 (ou)), (rm, fw_a kI 6 (om)), (ro, fw_a kI 6 (oo))] → va_S A s.heap H locs → lv_has ls 3 [(2, .int (iI (z2))), (0, .ref q), (1, .ref r)] → W p l e ({ frames := 0, locals := 0, cells := 0, slots := 0 }) s m ([.ref q, .ref r] : List Value).toArray below meth c H locs 0 0 (MQ below (fw_Qv (va_P (dC, dI) cls_ [(q, .inr (0, [.ref qu, .ref qm, .ref qo])), (qu, fw_a kI 6 (ou)), (qm, fw_a kI 6 (om)), (qo, fw_a kI 6 (oo)), (r, .inr (0, [.ref ru, .ref rm, .ref ro])), (ru, fw_a kI 6 (ou)), (rm, fw_a kI 6 (om)), (ro, fw_a kI 6 (oo))]) A) ([.ref q, .ref r] : List Value).toArray s 0 0 A) (F0 m 2 ls []) := by
    intro n_2
    induction n_2 with
    | zero => intro i z2 xu xm xo H locs ls hms; exact absurd hms (Nat.not_lt_zero _)
    | succ n_2 ih_2 =>
      intro i z2 xu xm xo H locs ls hms_2 hz hi hu hm ho hP hD hS hl
      refine lv_iload_n hx hb d_P_takeFrom_2 rfl (lv_at hl 0 rfl) ?_
      refine lv_bipush (v := (iI (6))) hx hb d_P_takeFrom_3 (by decide) ?_
      refine fw_icmp_ge (tgt := 50) hx hb d_P_takeFrom_5 (by decide) ⟨by omega, by omega⟩ ⟨by omega, by omega⟩ (fun c_1 => ?_) (fun c_1 => ?_)
      · refine fw_vret hx hb hr hlocks hS ?_ d_P_takeFrom_50
        · exact va_P.fn (va_P.fn (va_P.fn hP 1 rfl (fun j h => hu j (by omega))) 2 rfl (fun j h => hm j (by omega))) 3 rfl (fun j h => ho j (by omega))
      · refine lv_aload_n hx hb d_P_takeFrom_8 rfl (lv_at hl 1 rfl) ?_
        refine va_get (D := (dC, dI)) (ci := 0) (v := .ref qu) (C := R_P) (T := T_P) (N := 3) hx hb hts in_P hown hK hP 0 rfl rfl 0 (by decide) (hts _ kw_78) (fun _ h9 => h9) rfl d_P_takeFrom_9 ?_
        refine lv_iload_n hx hb d_P_takeFrom_12 rfl (lv_at hl 0 rfl) ?_
        refine lv_aload_n hx hb d_P_takeFrom_13 rfl (lv_at hl 2 rfl) ?_
        refine va_get (D := (dC, dI)) (ci := 0) (v := .ref ru) (C := R_P) (T := T_P) (N := 3) hx hb hts in_P hown hK hP 4 rfl rfl 0 (by decide) (hts _ kw_78) (fun _ h9 => h9) rfl d_P_takeFrom_14 ?_
        refine lv_iload_n hx hb d_P_takeFrom_17 rfl (lv_at hl 0 rfl) ?_
        refine fw_iald hx hb hK hP 5 0 rfl rfl (i) (by omega) (by omega) (by omega) d_P_takeFrom_18 ?_
        refine fw_iast hx hb hK hP hD hS 1 0 rfl rfl (i) (by omega) (by omega) (by omega) d_P_takeFrom_19 (fun H locs hP hD hS => ?_)
        have hP : va_P (dC, dI) cls_ [(q, .inr (0, [.ref qu, .ref qm, .ref qo])), (qu, fw_a kI 6 (fw_up xu i (ou i))), (qm, fw_a kI 6 (xm)), (qo, fw_a kI 6 (xo)), (r, .inr (0, [.ref ru, .ref rm, .ref ro])), (ru, fw_a kI 6 (ou)), (rm, fw_a kI 6 (om)), (ro, fw_a kI 6 (oo))] H := hP
        have hD : va_D A [(q, .inr (0, [.ref qu, .ref qm, .ref qo])), (qu, fw_a kI 6 (fw_up xu i (ou i))), (qm, fw_a kI 6 (xm)), (qo, fw_a kI 6 (xo)), (r, .inr (0, [.ref ru, .ref rm, .ref ro])), (ru, fw_a kI 6 (ou)), (rm, fw_a kI 6 (om)), (ro, fw_a kI 6 (oo))] := hD
        refine lv_aload_n hx hb d_P_takeFrom_20 rfl (lv_at hl 1 rfl) ?_
        refine va_get (D := (dC, dI)) (ci := 0) (v := .ref qm) (C := R_P) (T := T_P) (N := 3) hx hb hts in_P hown hK hP 0 rfl rfl 1 (by decide) (hts _ kw_82) (fun _ h9 => h9) rfl d_P_takeFrom_21 ?_
        refine lv_iload_n hx hb d_P_takeFrom_24 rfl (lv_at hl 0 rfl) ?_
        refine lv_aload_n hx hb d_P_takeFrom_25 rfl (lv_at hl 2 rfl) ?_
        refine va_get (D := (dC, dI)) (ci := 0) (v := .ref rm) (C := R_P) (T := T_P) (N := 3) hx hb hts in_P hown hK hP 4 rfl rfl 1 (by decide) (hts _ kw_82) (fun _ h9 => h9) rfl d_P_takeFrom_26 ?_
        refine lv_iload_n hx hb d_P_takeFrom_29 rfl (lv_at hl 0 rfl) ?_
        refine fw_iald hx hb hK hP 6 0 rfl rfl (i) (by omega) (by omega) (by omega) d_P_takeFrom_30 ?_
        refine fw_iast hx hb hK hP hD hS 2 0 rfl rfl (i) (by omega) (by omega) (by omega) d_P_takeFrom_31 (fun H locs hP hD hS => ?_)
        have hP : va_P (dC, dI) cls_ [(q, .inr (0, [.ref qu, .ref qm, .ref qo])), (qu, fw_a kI 6 (fw_up xu i (ou i))), (qm, fw_a kI 6 (fw_up xm i (om i))), (qo, fw_a kI 6 (xo)), (r, .inr (0, [.ref ru, .ref rm, .ref ro])), (ru, fw_a kI 6 (ou)), (rm, fw_a kI 6 (om)), (ro, fw_a kI 6 (oo))] H := hP
        have hD : va_D A [(q, .inr (0, [.ref qu, .ref qm, .ref qo])), (qu, fw_a kI 6 (fw_up xu i (ou i))), (qm, fw_a kI 6 (fw_up xm i (om i))), (qo, fw_a kI 6 (xo)), (r, .inr (0, [.ref ru, .ref rm, .ref ro])), (ru, fw_a kI 6 (ou)), (rm, fw_a kI 6 (om)), (ro, fw_a kI 6 (oo))] := hD
        refine lv_aload_n hx hb d_P_takeFrom_32 rfl (lv_at hl 1 rfl) ?_
        refine va_get (D := (dC, dI)) (ci := 0) (v := .ref qo) (C := R_P) (T := T_P) (N := 3) hx hb hts in_P hown hK hP 0 rfl rfl 2 (by decide) (hts _ kw_86) (fun _ h9 => h9) rfl d_P_takeFrom_33 ?_
        refine lv_iload_n hx hb d_P_takeFrom_36 rfl (lv_at hl 0 rfl) ?_
        refine lv_aload_n hx hb d_P_takeFrom_37 rfl (lv_at hl 2 rfl) ?_
        refine va_get (D := (dC, dI)) (ci := 0) (v := .ref ro) (C := R_P) (T := T_P) (N := 3) hx hb hts in_P hown hK hP 4 rfl rfl 2 (by decide) (hts _ kw_86) (fun _ h9 => h9) rfl d_P_takeFrom_38 ?_
        refine lv_iload_n hx hb d_P_takeFrom_41 rfl (lv_at hl 0 rfl) ?_
        refine fw_iald hx hb hK hP 7 0 rfl rfl (i) (by omega) (by omega) (by omega) d_P_takeFrom_42 ?_
        refine fw_iast hx hb hK hP hD hS 3 0 rfl rfl (i) (by omega) (by omega) (by omega) d_P_takeFrom_43 (fun H locs hP hD hS => ?_)
        have hP : va_P (dC, dI) cls_ [(q, .inr (0, [.ref qu, .ref qm, .ref qo])), (qu, fw_a kI 6 (fw_up xu i (ou i))), (qm, fw_a kI 6 (fw_up xm i (om i))), (qo, fw_a kI 6 (fw_up xo i (oo i))), (r, .inr (0, [.ref ru, .ref rm, .ref ro])), (ru, fw_a kI 6 (ou)), (rm, fw_a kI 6 (om)), (ro, fw_a kI 6 (oo))] H := hP
        have hD : va_D A [(q, .inr (0, [.ref qu, .ref qm, .ref qo])), (qu, fw_a kI 6 (fw_up xu i (ou i))), (qm, fw_a kI 6 (fw_up xm i (om i))), (qo, fw_a kI 6 (fw_up xo i (oo i))), (r, .inr (0, [.ref ru, .ref rm, .ref ro])), (ru, fw_a kI 6 (ou)), (rm, fw_a kI 6 (om)), (ro, fw_a kI 6 (oo))] := hD
        refine lv_iinc (v := iI (z2 + 1)) (lv' := [(2, .int (iI (z2 + 1))), (0, .ref q), (1, .ref r)]) hx hb d_P_takeFrom_44 hl (k := 0) rfl (by rw [show Int32.ofInt 1 = iI 1 from rfl, iI_add]) (by decide) rfl (fun ls hl => ?_)
        refine lv_goto (tgt := 2) hx hb d_P_takeFrom_47 (by decide) ?_
        exact ih_2 (i + 1) (z2 + 1) (fw_up xu i (ou i)) (fw_up xm i (om i)) (fw_up xo i (oo i)) _ _ ls (by omega) (by omega) (by omega) (fw_cpy hu) (fw_cpy hm) (fw_cpy ho) hP hD hS (lv_sub hl [0, 1, 2] rfl)
  exact hlp_2 ((6 - 0) + 1) 0 0 au am ao _ _ ls (Nat.lt_succ_self _) rfl (by omega) (fun _ h => absurd h (Nat.not_lt_zero _)) (fun _ h => absurd h (Nat.not_lt_zero _)) (fun _ h => absurd h (Nat.not_lt_zero _)) hP hD hS (lv_sub hl [0, 1, 2] rfl)

set_option maxHeartbeats 4000000 in
set_option maxRecDepth 100000 in
theorem c_P_isSameIn (l : Launch) (dC : Nat → ClassId) (dI : Nat → Nat → Nat) (q : Nat) (qu : Nat) (qm : Nat) (qo : Nat) (au : Nat → Int) (am : Nat → Int) (ao : Nat → Int) (r : Nat) (ru : Nat) (rm : Nat) (ro : Nat) (ou : Nat → Int) (om : Nat → Int) (oo : Nat → Int) (kI : ClassId) (h : Int) (h1 : 0 ≤ h) (h2 : h < 6) (hb_au : fw_b (au h.toNat)) (hb_am : fw_b (am h.toNat)) (hb_ao : fw_b (ao h.toNat)) (hb_ou : fw_b (ou h.toNat)) (hb_om : fw_b (om h.toNat)) (hb_oo : fw_b (oo h.toNat)) : Met l y_P_isSameIn (Cond.code y_P_isSameIn b_P_isSameIn 3 (some .boolean) :: gw) ({ frames := 1, locals := 23, cells := 0, slots := 0 }) (fw_Pr (dC, dI) [.ref q, .ref r, .int (iI (h))] [(q, .inr (0, [.ref qu, .ref qm, .ref qo])), (qu, fw_a kI 6 (au)), (qm, fw_a kI 6 (am)), (qo, fw_a kI 6 (ao)), (r, .inr (0, [.ref ru, .ref rm, .ref ro])), (ru, fw_a kI 6 (ou)), (rm, fw_a kI 6 (om)), (ro, fw_a kI 6 (oo))] [(kI, .int)]) (fw_Rv (.int (bI (decide (au h.toNat = ou h.toNat) && decide (am h.toNat = om h.toNat) && decide (ao h.toNat = oo h.toNat))))) 0 0 (fun _ => False) := by
  refine fw_ofR (by decide) (Nat.le_of_ble_eq_true rfl) ?_
  intro p e s m below meth c ls hx hb hr hts hown hlocks hml hP hK hN hl
  have hl : lv_has ls 3 [(0, .ref q), (1, .ref r), (2, .int (iI (h)))] := hl
  refine lv_aload_n hx hb d_P_isSameIn_0 rfl (lv_at hl 0 rfl) ?_
  refine lv_iload_n hx hb d_P_isSameIn_1 rfl (lv_at hl 2 rfl) ?_
  refine lv_aload_n hx hb d_P_isSameIn_2 rfl (lv_at hl 1 rfl) ?_
  refine va_get (D := (dC, dI)) (ci := 0) (v := .ref ru) (C := R_P) (T := T_P) (N := 3) hx hb hts in_P hown hK hP 4 rfl rfl 0 (by decide) (hts _ kw_78) (fun _ h9 => h9) rfl d_P_isSameIn_3 ?_
  refine lv_iload_n hx hb d_P_isSameIn_6 rfl (lv_at hl 2 rfl) ?_
  refine fw_iald hx hb hK hP 5 0 rfl rfl ((h).toNat) (by omega) (by omega) (by omega) d_P_isSameIn_7 ?_
  refine lv_aload_n hx hb d_P_isSameIn_8 rfl (lv_at hl 1 rfl) ?_
  refine va_get (D := (dC, dI)) (ci := 0) (v := .ref rm) (C := R_P) (T := T_P) (N := 3) hx hb hts in_P hown hK hP 4 rfl rfl 1 (by decide) (hts _ kw_82) (fun _ h9 => h9) rfl d_P_isSameIn_9 ?_
  refine lv_iload_n hx hb d_P_isSameIn_12 rfl (lv_at hl 2 rfl) ?_
  refine fw_iald hx hb hK hP 6 0 rfl rfl ((h).toNat) (by omega) (by omega) (by omega) d_P_isSameIn_13 ?_
  refine fw_callR (va_runV (As := [.int (iI (h)), .int (iI (ou ((h).toNat))), .int (iI (om ((h).toNat)))]) (rest := []) ⟨hx, hb, hml, hown, hts⟩ (c_P_isAt l dC dI  q qu qm qo au am kI h (ou ((h).toNat)) (om ((h).toNat)) (by first | assumption | omega) (by first | assumption | omega) (by first | assumption | omega) (by first | assumption | omega) (by first | assumption | omega) (by first | assumption | omega)) (cwV 3 hts (gw_V kw_549 kw_489 kw_490 kw_3 kw_491) rfl rfl rfl (by decide +kernel) ⟨Nat.le_of_ble_eq_true rfl, Nat.le_of_ble_eq_true rfl⟩) (fw_preRV (ci := 0) (q0 := 0) hP hK hN [0, 1, 2] [0] rfl rfl rfl rfl) rfl rfl hl.1 rfl (lv_room (Nat.le_of_ble_eq_true rfl)) d_P_isSameIn_14 ⟨Nat.le_of_ble_eq_true rfl, Nat.le_of_ble_eq_true rfl⟩).run ?_
  refine fw_bif_eq (tgt := 39) hx hb d_P_isSameIn_17 (by decide) (fun c_1 => ?_) (fun c_1 => ?_)
  · refine lv_iconst (v := (bI (false))) hx hb d_P_isSameIn_39 (by decide) ?_
    refine fw_Rzret hx hb hr hlocks ?_ d_P_isSameIn_40
    · simp [*]
  · refine lv_aload_n hx hb d_P_isSameIn_20 rfl (lv_at hl 0 rfl) ?_
    refine va_get (D := (dC, dI)) (ci := 0) (v := .ref qo) (C := R_P) (T := T_P) (N := 3) hx hb hts in_P hown hK hP 0 rfl rfl 2 (by decide) (hts _ kw_86) (fun _ h9 => h9) rfl d_P_isSameIn_21 ?_
    refine lv_iload_n hx hb d_P_isSameIn_24 rfl (lv_at hl 2 rfl) ?_
    refine fw_iald hx hb hK hP 3 0 rfl rfl ((h).toNat) (by omega) (by omega) (by omega) d_P_isSameIn_25 ?_
    refine lv_aload_n hx hb d_P_isSameIn_26 rfl (lv_at hl 1 rfl) ?_
    refine va_get (D := (dC, dI)) (ci := 0) (v := .ref ro) (C := R_P) (T := T_P) (N := 3) hx hb hts in_P hown hK hP 4 rfl rfl 2 (by decide) (hts _ kw_86) (fun _ h9 => h9) rfl d_P_isSameIn_27 ?_
    refine lv_iload_n hx hb d_P_isSameIn_30 rfl (lv_at hl 2 rfl) ?_
    refine fw_iald hx hb hK hP 7 0 rfl rfl ((h).toNat) (by omega) (by omega) (by omega) d_P_isSameIn_31 ?_
    refine fw_icmp_ne (tgt := 39) hx hb d_P_isSameIn_32 (by decide) ⟨by omega, by omega⟩ ⟨by omega, by omega⟩ (fun c_2 => ?_) (fun c_2 => ?_)
    · refine lv_iconst (v := (bI (false))) hx hb d_P_isSameIn_39 (by decide) ?_
      refine fw_Rzret hx hb hr hlocks ?_ d_P_isSameIn_40
      · simp [*]
    · refine lv_iconst (v := (bI (true))) hx hb d_P_isSameIn_35 (by decide) ?_
      refine lv_goto (tgt := 40) hx hb d_P_isSameIn_36 (by decide) ?_
      refine fw_Rzret hx hb hr hlocks ?_ d_P_isSameIn_40
      · simp [*]

set_option maxHeartbeats 4000000 in
set_option maxRecDepth 100000 in
theorem c_S_addOrder (l : Launch) (dC : Nat → ClassId) (dI : Nat → Nat → Nat) (sz : Nat) (sh : Nat) (sg : Nat) (sd : Nat) (sl : Nat) (su : Nat) (ss : Nat) (nO : Int) (nH : Int) (nS : Int) (nW : Int) (nF : Int) (kI : ClassId) (fG : Nat → Int) (fD : Nat → Int) (g : Int) (du : Int) (h1 : 0 ≤ nO) (h2 : nO < 8) : Met l y_S_addOrder (Cond.code y_S_addOrder b_S_addOrder 3 (some .int) :: gw) ({ frames := 0, locals := 0, cells := 0, slots := 0 }) (fw_Pc (dC, dI) [.ref sh, .int (iI (g)), .int (iI (du))] [(sh, .inr (1, [.ref sg, .ref sd, .int (iI (nO)), .ref sl, .ref su, .int (iI (nH)), .ref ss, .int (iI (nS)), .int (iI (nW)), .int (iI (nF))])), (sg, fw_a kI 8 (fG)), (sd, fw_a kI 8 (fD))] [(kI, .int)] sz) (fw_Qi (iI (nO + 1 - 1)) (va_P (dC, dI) cls_ [(sh, .inr (1, [.ref sg, .ref sd, .int (iI (nO + 1)), .ref sl, .ref su, .int (iI (nH)), .ref ss, .int (iI (nS)), .int (iI (nW)), .int (iI (nF))])), (sg, fw_a kI 8 (fw_up fG nO.toNat g)), (sd, fw_a kI 8 (fw_up fD nO.toNat du))]) (va_A [(sh, .inr (1, [.ref sg, .ref sd, .int (iI (nO)), .ref sl, .ref su, .int (iI (nH)), .ref ss, .int (iI (nS)), .int (iI (nW)), .int (iI (nF))])), (sg, fw_a kI 8 (fG)), (sd, fw_a kI 8 (fD))] sz)) 0 0 (va_A [(sh, .inr (1, [.ref sg, .ref sd, .int (iI (nO)), .ref sl, .ref su, .int (iI (nH)), .ref ss, .int (iI (nS)), .int (iI (nW)), .int (iI (nF))])), (sg, fw_a kI 8 (fG)), (sd, fw_a kI 8 (fD))] sz) := by
  refine fw_ofW (Qc := fun A => fw_Qi (iI (nO + 1 - 1)) (va_P (dC, dI) cls_ [(sh, .inr (1, [.ref sg, .ref sd, .int (iI (nO + 1)), .ref sl, .ref su, .int (iI (nH)), .ref ss, .int (iI (nS)), .int (iI (nW)), .int (iI (nF))])), (sg, fw_a kI 8 (fw_up fG nO.toNat g)), (sd, fw_a kI 8 (fw_up fD nO.toNat du))]) A) (by decide) (Nat.le_of_ble_eq_true rfl) ?_
  intro p e s m below meth c A ls hx hb hr hts hown hlocks hnm hml hsz hP hK hD hN hA hS hl
  have hl : lv_has ls 3 [(0, .ref sh), (1, .int (iI (g))), (2, .int (iI (du)))] := hl
  refine lv_aload_n hx hb d_S_addOrder_0 rfl (lv_at hl 0 rfl) ?_
  refine va_get (D := (dC, dI)) (ci := 1) (v := .ref sg) (C := R_S) (T := T_S) (N := 10) hx hb hts in_S hown hK hP 0 rfl rfl 0 (by decide) (hts _ kw_28) (fun _ h9 => h9) rfl d_S_addOrder_1 ?_
  refine lv_aload_n hx hb d_S_addOrder_4 rfl (lv_at hl 0 rfl) ?_
  refine va_get (D := (dC, dI)) (ci := 1) (v := .int (iI (nO))) (C := R_S) (T := T_S) (N := 10) hx hb hts in_S hown hK hP 0 rfl rfl 2 (by decide) (hts _ kw_32) (fun _ h9 => h9) rfl d_S_addOrder_5 ?_
  refine lv_iload_n hx hb d_S_addOrder_8 rfl (lv_at hl 1 rfl) ?_
  refine fw_iast hx hb hK hP hD hS 1 0 rfl rfl ((nO).toNat) (by omega) (by omega) (by omega) d_S_addOrder_9 (fun H locs hP hD hS => ?_)
  have hP : va_P (dC, dI) cls_ [(sh, .inr (1, [.ref sg, .ref sd, .int (iI (nO)), .ref sl, .ref su, .int (iI (nH)), .ref ss, .int (iI (nS)), .int (iI (nW)), .int (iI (nF))])), (sg, fw_a kI 8 (fw_up fG ((nO).toNat) g)), (sd, fw_a kI 8 (fD))] H := hP
  have hD : va_D A [(sh, .inr (1, [.ref sg, .ref sd, .int (iI (nO)), .ref sl, .ref su, .int (iI (nH)), .ref ss, .int (iI (nS)), .int (iI (nW)), .int (iI (nF))])), (sg, fw_a kI 8 (fw_up fG ((nO).toNat) g)), (sd, fw_a kI 8 (fD))] := hD
  refine lv_aload_n hx hb d_S_addOrder_10 rfl (lv_at hl 0 rfl) ?_
  refine va_get (D := (dC, dI)) (ci := 1) (v := .ref sd) (C := R_S) (T := T_S) (N := 10) hx hb hts in_S hown hK hP 0 rfl rfl 1 (by decide) (hts _ kw_30) (fun _ h9 => h9) rfl d_S_addOrder_11 ?_
  refine lv_aload_n hx hb d_S_addOrder_14 rfl (lv_at hl 0 rfl) ?_
  refine va_get (D := (dC, dI)) (ci := 1) (v := .int (iI (nO))) (C := R_S) (T := T_S) (N := 10) hx hb hts in_S hown hK hP 0 rfl rfl 2 (by decide) (hts _ kw_32) (fun _ h9 => h9) rfl d_S_addOrder_15 ?_
  refine lv_iload_n hx hb d_S_addOrder_18 rfl (lv_at hl 2 rfl) ?_
  refine fw_iast hx hb hK hP hD hS 2 0 rfl rfl ((nO).toNat) (by omega) (by omega) (by omega) d_S_addOrder_19 (fun H locs hP hD hS => ?_)
  have hP : va_P (dC, dI) cls_ [(sh, .inr (1, [.ref sg, .ref sd, .int (iI (nO)), .ref sl, .ref su, .int (iI (nH)), .ref ss, .int (iI (nS)), .int (iI (nW)), .int (iI (nF))])), (sg, fw_a kI 8 (fw_up fG ((nO).toNat) g)), (sd, fw_a kI 8 (fw_up fD ((nO).toNat) du))] H := hP
  have hD : va_D A [(sh, .inr (1, [.ref sg, .ref sd, .int (iI (nO)), .ref sl, .ref su, .int (iI (nH)), .ref ss, .int (iI (nS)), .int (iI (nW)), .int (iI (nF))])), (sg, fw_a kI 8 (fw_up fG ((nO).toNat) g)), (sd, fw_a kI 8 (fw_up fD ((nO).toNat) du))] := hD
  refine lv_aload_n hx hb d_S_addOrder_20 rfl (lv_at hl 0 rfl) ?_
  refine lv_dup hx hb d_S_addOrder_21 rfl ?_
  refine va_get (D := (dC, dI)) (ci := 1) (v := .int (iI (nO))) (C := R_S) (T := T_S) (N := 10) hx hb hts in_S hown hK hP 0 rfl rfl 2 (by decide) (hts _ kw_32) (fun _ h9 => h9) rfl d_S_addOrder_22 ?_
  refine lv_iconst (v := (iI (1))) hx hb d_S_addOrder_25 (by decide) ?_
  refine fw_iadd hx hb d_S_addOrder_26 ?_
  refine va_put (D := (dC, dI)) (ci := 1) (v := .int (iI (nO + 1))) (ty := .int) (C := R_S) (T := T_S) (N := 10) hx hb hts in_S t_S t_S_ok n_S hown hK hP hD hS 0 rfl rfl 2 (by decide) (hts _ kw_32) (fun _ h9 => h9) rfl (by decide +kernel) rfl rfl (Nat.le_of_ble_eq_true rfl) d_S_addOrder_27 (fun H locs hP hD hS => ?_)
  have hP : va_P (dC, dI) cls_ [(sh, .inr (1, [.ref sg, .ref sd, .int (iI (nO + 1)), .ref sl, .ref su, .int (iI (nH)), .ref ss, .int (iI (nS)), .int (iI (nW)), .int (iI (nF))])), (sg, fw_a kI 8 (fw_up fG ((nO).toNat) g)), (sd, fw_a kI 8 (fw_up fD ((nO).toNat) du))] H := hP
  have hD : va_D A [(sh, .inr (1, [.ref sg, .ref sd, .int (iI (nO + 1)), .ref sl, .ref su, .int (iI (nH)), .ref ss, .int (iI (nS)), .int (iI (nW)), .int (iI (nF))])), (sg, fw_a kI 8 (fw_up fG ((nO).toNat) g)), (sd, fw_a kI 8 (fw_up fD ((nO).toNat) du))] := hD
  refine lv_aload_n hx hb d_S_addOrder_30 rfl (lv_at hl 0 rfl) ?_
  refine va_get (D := (dC, dI)) (ci := 1) (v := .int (iI (nO + 1))) (C := R_S) (T := T_S) (N := 10) hx hb hts in_S hown hK hP 0 rfl rfl 2 (by decide) (hts _ kw_32) (fun _ h9 => h9) rfl d_S_addOrder_31 ?_
  refine lv_iconst (v := (iI (1))) hx hb d_S_addOrder_34 (by decide) ?_
  refine fw_isub hx hb d_S_addOrder_35 ?_
  refine fw_iret hx hb hr hlocks hS ?_ ?_ d_S_addOrder_36
  · exact hP
  · rfl

set_option maxHeartbeats 4000000 in
set_option maxRecDepth 100000 in
theorem c_S_addHeat (l : Launch) (dC : Nat → ClassId) (dI : Nat → Nat → Nat) (sz : Nat) (sh : Nat) (sg : Nat) (sd : Nat) (sl : Nat) (su : Nat) (ss : Nat) (nO : Int) (nH : Int) (nS : Int) (nW : Int) (nF : Int) (kI : ClassId) (fL : Nat → Int) (fU : Nat → Int) (le : Int) (us : Int) (h1 : 0 ≤ nH) (h2 : nH < 6) : Met l y_S_addHeat (Cond.code y_S_addHeat b_S_addHeat 3 (some .int) :: gw) ({ frames := 0, locals := 0, cells := 0, slots := 0 }) (fw_Pc (dC, dI) [.ref sh, .int (iI (le)), .int (iI (us))] [(sh, .inr (1, [.ref sg, .ref sd, .int (iI (nO)), .ref sl, .ref su, .int (iI (nH)), .ref ss, .int (iI (nS)), .int (iI (nW)), .int (iI (nF))])), (sl, fw_a kI 6 (fL)), (su, fw_a kI 6 (fU))] [(kI, .int)] sz) (fw_Qi (iI (nH + 1 - 1)) (va_P (dC, dI) cls_ [(sh, .inr (1, [.ref sg, .ref sd, .int (iI (nO)), .ref sl, .ref su, .int (iI (nH + 1)), .ref ss, .int (iI (nS)), .int (iI (nW)), .int (iI (nF))])), (sl, fw_a kI 6 (fw_up fL nH.toNat le)), (su, fw_a kI 6 (fw_up fU nH.toNat us))]) (va_A [(sh, .inr (1, [.ref sg, .ref sd, .int (iI (nO)), .ref sl, .ref su, .int (iI (nH)), .ref ss, .int (iI (nS)), .int (iI (nW)), .int (iI (nF))])), (sl, fw_a kI 6 (fL)), (su, fw_a kI 6 (fU))] sz)) 0 0 (va_A [(sh, .inr (1, [.ref sg, .ref sd, .int (iI (nO)), .ref sl, .ref su, .int (iI (nH)), .ref ss, .int (iI (nS)), .int (iI (nW)), .int (iI (nF))])), (sl, fw_a kI 6 (fL)), (su, fw_a kI 6 (fU))] sz) := by
  refine fw_ofW (Qc := fun A => fw_Qi (iI (nH + 1 - 1)) (va_P (dC, dI) cls_ [(sh, .inr (1, [.ref sg, .ref sd, .int (iI (nO)), .ref sl, .ref su, .int (iI (nH + 1)), .ref ss, .int (iI (nS)), .int (iI (nW)), .int (iI (nF))])), (sl, fw_a kI 6 (fw_up fL nH.toNat le)), (su, fw_a kI 6 (fw_up fU nH.toNat us))]) A) (by decide) (Nat.le_of_ble_eq_true rfl) ?_
  intro p e s m below meth c A ls hx hb hr hts hown hlocks hnm hml hsz hP hK hD hN hA hS hl
  have hl : lv_has ls 3 [(0, .ref sh), (1, .int (iI (le))), (2, .int (iI (us)))] := hl
  refine lv_aload_n hx hb d_S_addHeat_0 rfl (lv_at hl 0 rfl) ?_
  refine va_get (D := (dC, dI)) (ci := 1) (v := .ref sl) (C := R_S) (T := T_S) (N := 10) hx hb hts in_S hown hK hP 0 rfl rfl 3 (by decide) (hts _ kw_33) (fun _ h9 => h9) rfl d_S_addHeat_1 ?_
  refine lv_aload_n hx hb d_S_addHeat_4 rfl (lv_at hl 0 rfl) ?_
  refine va_get (D := (dC, dI)) (ci := 1) (v := .int (iI (nH))) (C := R_S) (T := T_S) (N := 10) hx hb hts in_S hown hK hP 0 rfl rfl 5 (by decide) (hts _ kw_38) (fun _ h9 => h9) rfl d_S_addHeat_5 ?_
  refine lv_iload_n hx hb d_S_addHeat_8 rfl (lv_at hl 1 rfl) ?_
  refine fw_iast hx hb hK hP hD hS 1 0 rfl rfl ((nH).toNat) (by omega) (by omega) (by omega) d_S_addHeat_9 (fun H locs hP hD hS => ?_)
  have hP : va_P (dC, dI) cls_ [(sh, .inr (1, [.ref sg, .ref sd, .int (iI (nO)), .ref sl, .ref su, .int (iI (nH)), .ref ss, .int (iI (nS)), .int (iI (nW)), .int (iI (nF))])), (sl, fw_a kI 6 (fw_up fL ((nH).toNat) le)), (su, fw_a kI 6 (fU))] H := hP
  have hD : va_D A [(sh, .inr (1, [.ref sg, .ref sd, .int (iI (nO)), .ref sl, .ref su, .int (iI (nH)), .ref ss, .int (iI (nS)), .int (iI (nW)), .int (iI (nF))])), (sl, fw_a kI 6 (fw_up fL ((nH).toNat) le)), (su, fw_a kI 6 (fU))] := hD
  refine lv_aload_n hx hb d_S_addHeat_10 rfl (lv_at hl 0 rfl) ?_
  refine va_get (D := (dC, dI)) (ci := 1) (v := .ref su) (C := R_S) (T := T_S) (N := 10) hx hb hts in_S hown hK hP 0 rfl rfl 4 (by decide) (hts _ kw_36) (fun _ h9 => h9) rfl d_S_addHeat_11 ?_
  refine lv_aload_n hx hb d_S_addHeat_14 rfl (lv_at hl 0 rfl) ?_
  refine va_get (D := (dC, dI)) (ci := 1) (v := .int (iI (nH))) (C := R_S) (T := T_S) (N := 10) hx hb hts in_S hown hK hP 0 rfl rfl 5 (by decide) (hts _ kw_38) (fun _ h9 => h9) rfl d_S_addHeat_15 ?_
  refine lv_iload_n hx hb d_S_addHeat_18 rfl (lv_at hl 2 rfl) ?_
  refine fw_iast hx hb hK hP hD hS 2 0 rfl rfl ((nH).toNat) (by omega) (by omega) (by omega) d_S_addHeat_19 (fun H locs hP hD hS => ?_)
  have hP : va_P (dC, dI) cls_ [(sh, .inr (1, [.ref sg, .ref sd, .int (iI (nO)), .ref sl, .ref su, .int (iI (nH)), .ref ss, .int (iI (nS)), .int (iI (nW)), .int (iI (nF))])), (sl, fw_a kI 6 (fw_up fL ((nH).toNat) le)), (su, fw_a kI 6 (fw_up fU ((nH).toNat) us))] H := hP
  have hD : va_D A [(sh, .inr (1, [.ref sg, .ref sd, .int (iI (nO)), .ref sl, .ref su, .int (iI (nH)), .ref ss, .int (iI (nS)), .int (iI (nW)), .int (iI (nF))])), (sl, fw_a kI 6 (fw_up fL ((nH).toNat) le)), (su, fw_a kI 6 (fw_up fU ((nH).toNat) us))] := hD
  refine lv_aload_n hx hb d_S_addHeat_20 rfl (lv_at hl 0 rfl) ?_
  refine lv_dup hx hb d_S_addHeat_21 rfl ?_
  refine va_get (D := (dC, dI)) (ci := 1) (v := .int (iI (nH))) (C := R_S) (T := T_S) (N := 10) hx hb hts in_S hown hK hP 0 rfl rfl 5 (by decide) (hts _ kw_38) (fun _ h9 => h9) rfl d_S_addHeat_22 ?_
  refine lv_iconst (v := (iI (1))) hx hb d_S_addHeat_25 (by decide) ?_
  refine fw_iadd hx hb d_S_addHeat_26 ?_
  refine va_put (D := (dC, dI)) (ci := 1) (v := .int (iI (nH + 1))) (ty := .int) (C := R_S) (T := T_S) (N := 10) hx hb hts in_S t_S t_S_ok n_S hown hK hP hD hS 0 rfl rfl 5 (by decide) (hts _ kw_38) (fun _ h9 => h9) rfl (by decide +kernel) rfl rfl (Nat.le_of_ble_eq_true rfl) d_S_addHeat_27 (fun H locs hP hD hS => ?_)
  have hP : va_P (dC, dI) cls_ [(sh, .inr (1, [.ref sg, .ref sd, .int (iI (nO)), .ref sl, .ref su, .int (iI (nH + 1)), .ref ss, .int (iI (nS)), .int (iI (nW)), .int (iI (nF))])), (sl, fw_a kI 6 (fw_up fL ((nH).toNat) le)), (su, fw_a kI 6 (fw_up fU ((nH).toNat) us))] H := hP
  have hD : va_D A [(sh, .inr (1, [.ref sg, .ref sd, .int (iI (nO)), .ref sl, .ref su, .int (iI (nH + 1)), .ref ss, .int (iI (nS)), .int (iI (nW)), .int (iI (nF))])), (sl, fw_a kI 6 (fw_up fL ((nH).toNat) le)), (su, fw_a kI 6 (fw_up fU ((nH).toNat) us))] := hD
  refine lv_aload_n hx hb d_S_addHeat_30 rfl (lv_at hl 0 rfl) ?_
  refine va_get (D := (dC, dI)) (ci := 1) (v := .int (iI (nH + 1))) (C := R_S) (T := T_S) (N := 10) hx hb hts in_S hown hK hP 0 rfl rfl 5 (by decide) (hts _ kw_38) (fun _ h9 => h9) rfl d_S_addHeat_31 ?_
  refine lv_iconst (v := (iI (1))) hx hb d_S_addHeat_34 (by decide) ?_
  refine fw_isub hx hb d_S_addHeat_35 ?_
  refine fw_iret hx hb hr hlocks hS ?_ ?_ d_S_addHeat_36
  · exact hP
  · rfl

set_option maxHeartbeats 4000000 in
set_option maxRecDepth 100000 in
theorem c_S_addStop (l : Launch) (dC : Nat → ClassId) (dI : Nat → Nat → Nat) (sz : Nat) (sh : Nat) (sg : Nat) (sd : Nat) (sl : Nat) (su : Nat) (ss : Nat) (nO : Int) (nH : Int) (nS : Int) (nW : Int) (nF : Int) (kL : ClassId) (fS : Nat → Int64) (u : Int) (a : Int) (b : Int) (h1 : 0 ≤ u) (h2 : u < 3) : Met l y_S_addStop (Cond.code y_S_addStop b_S_addStop 4 (some .int) :: gw) ({ frames := 1, locals := 21, cells := 0, slots := 0 }) (fw_Pc (dC, dI) [.ref sh, .int (iI (u)), .int (iI (a)), .int (iI (b))] [(sh, .inr (1, [.ref sg, .ref sd, .int (iI (nO)), .ref sl, .ref su, .int (iI (nH)), .ref ss, .int (iI (nS)), .int (iI (nW)), .int (iI (nF))])), (ss, fw_l kL 3 (fS))] [(kL, .long)] sz) (fw_Qi (iI (nS + 1)) (va_P (dC, dI) cls_ [(sh, .inr (1, [.ref sg, .ref sd, .int (iI (nO)), .ref sl, .ref su, .int (iI (nH)), .ref ss, .int (iI (nS + 1)), .int (iI (nW)), .int (iI (nF))])), (ss, fw_l kL 3 (fw_up fS u.toNat (fS u.toNat ||| fc_bits a (b - a))))]) (va_A [(sh, .inr (1, [.ref sg, .ref sd, .int (iI (nO)), .ref sl, .ref su, .int (iI (nH)), .ref ss, .int (iI (nS)), .int (iI (nW)), .int (iI (nF))])), (ss, fw_l kL 3 (fS))] sz)) 0 0 (va_A [(sh, .inr (1, [.ref sg, .ref sd, .int (iI (nO)), .ref sl, .ref su, .int (iI (nH)), .ref ss, .int (iI (nS)), .int (iI (nW)), .int (iI (nF))])), (ss, fw_l kL 3 (fS))] sz) := by
  refine fw_ofW (Qc := fun A => fw_Qi (iI (nS + 1)) (va_P (dC, dI) cls_ [(sh, .inr (1, [.ref sg, .ref sd, .int (iI (nO)), .ref sl, .ref su, .int (iI (nH)), .ref ss, .int (iI (nS + 1)), .int (iI (nW)), .int (iI (nF))])), (ss, fw_l kL 3 (fw_up fS u.toNat (fS u.toNat ||| fc_bits a (b - a))))]) A) (by decide) (Nat.le_of_ble_eq_true rfl) ?_
  intro p e s m below meth c A ls hx hb hr hts hown hlocks hnm hml hsz hP hK hD hN hA hS hl
  have hl : lv_has ls 4 [(0, .ref sh), (1, .int (iI (u))), (2, .int (iI (a))), (3, .int (iI (b)))] := hl
  refine lv_aload_n hx hb d_S_addStop_0 rfl (lv_at hl 0 rfl) ?_
  refine va_get (D := (dC, dI)) (ci := 1) (v := .ref ss) (C := R_S) (T := T_S) (N := 10) hx hb hts in_S hown hK hP 0 rfl rfl 6 (by decide) (hts _ kw_41) (fun _ h9 => h9) rfl d_S_addStop_1 ?_
  refine lv_iload_n hx hb d_S_addStop_4 rfl (lv_at hl 1 rfl) ?_
  refine lv_dup2_11 hx hb d_S_addStop_5 rfl rfl ?_
  refine fw_lald hx hb hK hP 1 0 rfl rfl ((u).toNat) (by omega) (by omega) (by omega) d_S_addStop_6 ?_
  refine lv_iload_n hx hb d_S_addStop_7 rfl (lv_at hl 2 rfl) ?_
  refine lv_iload_n hx hb d_S_addStop_8 rfl (lv_at hl 3 rfl) ?_
  refine lv_iload_n hx hb d_S_addStop_9 rfl (lv_at hl 2 rfl) ?_
  refine fw_isub hx hb d_S_addStop_10 ?_
  refine fw_callR (va_runSN (As := [.int (iI (a)), .int (iI (b - a))]) (rest := [.long (fS ((u).toNat)), .int (iI (u)), .ref ss]) ⟨hx, hb, hml, hown, hts⟩ (c_F_minutesAsBits l dC dI  a (b - a) ) ⟨va_cnB (host := R_F) 2 hts (gw_I kw_337) rfl rfl rfl (hN _ (List.mem_of_getElem? (i := 0) rfl)) (hts _ kw_1) (by decide +kernel) ⟨Nat.le_of_ble_eq_true rfl, Nat.le_of_ble_eq_true rfl⟩, hts _ kw_336, trivial⟩ (fw_preRS hP hK hN [] [] rfl rfl) rfl rfl hl.1 rfl (lv_room (Nat.le_of_ble_eq_true rfl)) d_S_addStop_11 ⟨Nat.le_of_ble_eq_true rfl, Nat.le_of_ble_eq_true rfl⟩).run ?_
  refine lv_lor hx hb d_S_addStop_14 ?_
  refine fw_last hx hb hK hP hD hS 1 0 rfl rfl ((u).toNat) (by omega) (by omega) (by omega) d_S_addStop_15 (fun H locs hP hD hS => ?_)
  have hP : va_P (dC, dI) cls_ [(sh, .inr (1, [.ref sg, .ref sd, .int (iI (nO)), .ref sl, .ref su, .int (iI (nH)), .ref ss, .int (iI (nS)), .int (iI (nW)), .int (iI (nF))])), (ss, fw_l kL 3 (fw_up fS ((u).toNat) ((fS ((u).toNat)) ||| (fc_bits a (b - a)))))] H := hP
  have hD : va_D A [(sh, .inr (1, [.ref sg, .ref sd, .int (iI (nO)), .ref sl, .ref su, .int (iI (nH)), .ref ss, .int (iI (nS)), .int (iI (nW)), .int (iI (nF))])), (ss, fw_l kL 3 (fw_up fS ((u).toNat) ((fS ((u).toNat)) ||| (fc_bits a (b - a)))))] := hD
  refine lv_aload_n hx hb d_S_addStop_16 rfl (lv_at hl 0 rfl) ?_
  refine lv_dup hx hb d_S_addStop_17 rfl ?_
  refine va_get (D := (dC, dI)) (ci := 1) (v := .int (iI (nS))) (C := R_S) (T := T_S) (N := 10) hx hb hts in_S hown hK hP 0 rfl rfl 7 (by decide) (hts _ kw_43) (fun _ h9 => h9) rfl d_S_addStop_18 ?_
  refine lv_iconst (v := (iI (1))) hx hb d_S_addStop_21 (by decide) ?_
  refine fw_iadd hx hb d_S_addStop_22 ?_
  refine va_put (D := (dC, dI)) (ci := 1) (v := .int (iI (nS + 1))) (ty := .int) (C := R_S) (T := T_S) (N := 10) hx hb hts in_S t_S t_S_ok n_S hown hK hP hD hS 0 rfl rfl 7 (by decide) (hts _ kw_43) (fun _ h9 => h9) rfl (by decide +kernel) rfl rfl (Nat.le_of_ble_eq_true rfl) d_S_addStop_23 (fun H locs hP hD hS => ?_)
  have hP : va_P (dC, dI) cls_ [(sh, .inr (1, [.ref sg, .ref sd, .int (iI (nO)), .ref sl, .ref su, .int (iI (nH)), .ref ss, .int (iI (nS + 1)), .int (iI (nW)), .int (iI (nF))])), (ss, fw_l kL 3 (fw_up fS ((u).toNat) ((fS ((u).toNat)) ||| (fc_bits a (b - a)))))] H := hP
  have hD : va_D A [(sh, .inr (1, [.ref sg, .ref sd, .int (iI (nO)), .ref sl, .ref su, .int (iI (nH)), .ref ss, .int (iI (nS + 1)), .int (iI (nW)), .int (iI (nF))])), (ss, fw_l kL 3 (fw_up fS ((u).toNat) ((fS ((u).toNat)) ||| (fc_bits a (b - a)))))] := hD
  refine lv_aload_n hx hb d_S_addStop_26 rfl (lv_at hl 0 rfl) ?_
  refine va_get (D := (dC, dI)) (ci := 1) (v := .int (iI (nS + 1))) (C := R_S) (T := T_S) (N := 10) hx hb hts in_S hown hK hP 0 rfl rfl 7 (by decide) (hts _ kw_43) (fun _ h9 => h9) rfl d_S_addStop_27 ?_
  refine fw_iret hx hb hr hlocks hS ?_ ?_ d_S_addStop_30
  · exact hP
  · rfl

set_option maxHeartbeats 4000000 in
set_option maxRecDepth 100000 in
theorem c_S_isFrozen (l : Launch) (dC : Nat → ClassId) (dI : Nat → Nat → Nat) (sh : Nat) (sg : Nat) (sd : Nat) (sl : Nat) (su : Nat) (ss : Nat) (nO : Int) (nH : Int) (nS : Int) (nW : Int) (nF : Int) (q : Nat) (qu : Nat) (qm : Nat) (qo : Nat) (am : Nat → Int) (kI : ClassId) (h : Int) (h1 : 0 ≤ h) (h2 : h < 6) (h3 : fw_b (am h.toNat)) (h4 : fw_b (nW + nF)) : Met l y_S_isFrozen (Cond.code y_S_isFrozen b_S_isFrozen 3 (some .boolean) :: gw) ({ frames := 0, locals := 0, cells := 0, slots := 0 }) (fw_Pr (dC, dI) [.ref sh, .ref q, .int (iI (h))] [(sh, .inr (1, [.ref sg, .ref sd, .int (iI (nO)), .ref sl, .ref su, .int (iI (nH)), .ref ss, .int (iI (nS)), .int (iI (nW)), .int (iI (nF))])), (q, .inr (0, [.ref qu, .ref qm, .ref qo])), (qm, fw_a kI 6 (am))] [(kI, .int)]) (fw_Rv (.int (bI (decide (am h.toNat < nW + nF))))) 0 0 (fun _ => False) := by
  refine fw_ofR (by decide) (Nat.le_of_ble_eq_true rfl) ?_
  intro p e s m below meth c ls hx hb hr hts hown hlocks hml hP hK hN hl
  have hl : lv_has ls 3 [(0, .ref sh), (1, .ref q), (2, .int (iI (h)))] := hl
  refine lv_aload_n hx hb d_S_isFrozen_0 rfl (lv_at hl 1 rfl) ?_
  refine va_get (D := (dC, dI)) (ci := 0) (v := .ref qm) (C := R_P) (T := T_P) (N := 3) hx hb hts in_P hown hK hP 1 rfl rfl 1 (by decide) (hts _ kw_83) (fun _ h9 => h9) rfl d_S_isFrozen_1 ?_
  refine lv_iload_n hx hb d_S_isFrozen_4 rfl (lv_at hl 2 rfl) ?_
  refine fw_iald hx hb hK hP 2 0 rfl rfl ((h).toNat) (by omega) (by omega) (by omega) d_S_isFrozen_5 ?_
  refine lv_aload_n hx hb d_S_isFrozen_6 rfl (lv_at hl 0 rfl) ?_
  refine va_get (D := (dC, dI)) (ci := 1) (v := .int (iI (nW))) (C := R_S) (T := T_S) (N := 10) hx hb hts in_S hown hK hP 0 rfl rfl 8 (by decide) (hts _ kw_45) (fun _ h9 => h9) rfl d_S_isFrozen_7 ?_
  refine lv_aload_n hx hb d_S_isFrozen_10 rfl (lv_at hl 0 rfl) ?_
  refine va_get (D := (dC, dI)) (ci := 1) (v := .int (iI (nF))) (C := R_S) (T := T_S) (N := 10) hx hb hts in_S hown hK hP 0 rfl rfl 9 (by decide) (hts _ kw_47) (fun _ h9 => h9) rfl d_S_isFrozen_11 ?_
  refine fw_iadd hx hb d_S_isFrozen_14 ?_
  refine fw_icmp_ge (tgt := 22) hx hb d_S_isFrozen_15 (by decide) ⟨by omega, by omega⟩ ⟨by omega, by omega⟩ (fun c_1 => ?_) (fun c_1 => ?_)
  · refine lv_iconst (v := (bI (false))) hx hb d_S_isFrozen_22 (by decide) ?_
    refine fw_Rzret hx hb hr hlocks ?_ d_S_isFrozen_23
    · simp [*]; try omega
  · refine lv_iconst (v := (bI (true))) hx hb d_S_isFrozen_18 (by decide) ?_
    refine lv_goto (tgt := 23) hx hb d_S_isFrozen_19 (by decide) ?_
    refine fw_Rzret hx hb hr hlocks ?_ d_S_isFrozen_23
    · simp [*]; try omega

set_option maxHeartbeats 4000000 in
set_option maxRecDepth 100000 in
theorem c_S_lateness (l : Launch) (dC : Nat → ClassId) (dI : Nat → Nat → Nat) (sh : Nat) (sg : Nat) (sd : Nat) (sl : Nat) (su : Nat) (ss : Nat) (nO : Int) (nH : Int) (nS : Int) (nW : Int) (nF : Int) (kI : ClassId) (fL : Nat → Int) (fD : Nat → Int) (h : Int) (o : Int) (mi : Int) (h1 : 0 ≤ h) (h2 : h < 6) (h3 : 0 ≤ o) (h4 : o < 8) (h5 : fw_b (mi + fL h.toNat - fD o.toNat)) : Met l y_S_lateness (Cond.code y_S_lateness b_S_lateness 5 (some .int) :: gw) ({ frames := 0, locals := 0, cells := 0, slots := 0 }) (fw_Pr (dC, dI) [.ref sh, .int (iI (h)), .int (iI (o)), .int (iI (mi))] [(sh, .inr (1, [.ref sg, .ref sd, .int (iI (nO)), .ref sl, .ref su, .int (iI (nH)), .ref ss, .int (iI (nS)), .int (iI (nW)), .int (iI (nF))])), (sl, fw_a kI 6 (fL)), (sd, fw_a kI 8 (fD))] [(kI, .int)]) (fw_Rv (.int (iI (max 0 (mi + fL h.toNat - fD o.toNat))))) 0 0 (fun _ => False) := by
  refine fw_ofR (by decide) (Nat.le_of_ble_eq_true rfl) ?_
  intro p e s m below meth c ls hx hb hr hts hown hlocks hml hP hK hN hl
  have hl : lv_has ls 5 [(0, .ref sh), (1, .int (iI (h))), (2, .int (iI (o))), (3, .int (iI (mi)))] := hl
  refine lv_iload_n hx hb d_S_lateness_0 rfl (lv_at hl 3 rfl) ?_
  refine lv_aload_n hx hb d_S_lateness_1 rfl (lv_at hl 0 rfl) ?_
  refine va_get (D := (dC, dI)) (ci := 1) (v := .ref sl) (C := R_S) (T := T_S) (N := 10) hx hb hts in_S hown hK hP 0 rfl rfl 3 (by decide) (hts _ kw_33) (fun _ h9 => h9) rfl d_S_lateness_2 ?_
  refine lv_iload_n hx hb d_S_lateness_5 rfl (lv_at hl 1 rfl) ?_
  refine fw_iald hx hb hK hP 1 0 rfl rfl ((h).toNat) (by omega) (by omega) (by omega) d_S_lateness_6 ?_
  refine fw_iadd hx hb d_S_lateness_7 ?_
  refine lv_aload_n hx hb d_S_lateness_8 rfl (lv_at hl 0 rfl) ?_
  refine va_get (D := (dC, dI)) (ci := 1) (v := .ref sd) (C := R_S) (T := T_S) (N := 10) hx hb hts in_S hown hK hP 0 rfl rfl 1 (by decide) (hts _ kw_30) (fun _ h9 => h9) rfl d_S_lateness_9 ?_
  refine lv_iload_n hx hb d_S_lateness_12 rfl (lv_at hl 2 rfl) ?_
  refine fw_iald hx hb hK hP 2 0 rfl rfl ((o).toNat) (by omega) (by omega) (by omega) d_S_lateness_13 ?_
  refine fw_isub hx hb d_S_lateness_14 ?_
  refine lv_istore (lv' := [(4, .int (iI ((mi + (fL ((h).toNat))) - (fD ((o).toNat))))), (0, .ref sh), (1, .int (iI (h))), (2, .int (iI (o))), (3, .int (iI (mi)))]) hx hb d_S_lateness_15 hl (by decide) rfl (fun ls hl => ?_)
  refine lv_iload hx hb d_S_lateness_17 (lv_at hl 0 rfl) ?_
  refine fw_if_le (tgt := 27) hx hb d_S_lateness_19 (by decide) ⟨by omega, by omega⟩ (fun c_1 => ?_) (fun c_1 => ?_)
  · refine lv_iconst (v := (iI (0))) hx hb d_S_lateness_27 (by decide) ?_
    refine fw_Riret hx hb hr hlocks ?_ d_S_lateness_28
    · first | exact congrArg iI (show (0 : Int) = max 0 (mi + fL h.toNat - fD o.toNat) by omega) | exact congrArg iI (show mi + fL h.toNat - fD o.toNat = max 0 (mi + fL h.toNat - fD o.toNat) by omega)
  · refine lv_iload hx hb d_S_lateness_22 (lv_at hl 0 rfl) ?_
    refine lv_goto (tgt := 28) hx hb d_S_lateness_24 (by decide) ?_
    refine fw_Riret hx hb hr hlocks ?_ d_S_lateness_28
    · first | exact congrArg iI (show (0 : Int) = max 0 (mi + fL h.toNat - fD o.toNat) by omega) | exact congrArg iI (show mi + fL h.toNat - fD o.toNat = max 0 (mi + fL h.toNat - fD o.toNat) by omega)

set_option maxHeartbeats 4000000 in
set_option maxRecDepth 100000 in
theorem c_S_forgetStops (l : Launch) (dC : Nat → ClassId) (dI : Nat → Nat → Nat) (sz : Nat) (sh : Nat) (sg : Nat) (sd : Nat) (sl : Nat) (su : Nat) (ss : Nat) (nO : Int) (nH : Int) (nS : Int) (nW : Int) (nF : Int) (kL : ClassId) (fS : Nat → Int64)  : Met l y_S_forgetStops (Cond.code y_S_forgetStops b_S_forgetStops 2 none :: gw) ({ frames := 0, locals := 0, cells := 0, slots := 0 }) (fw_Pc (dC, dI) [.ref sh] [(sh, .inr (1, [.ref sg, .ref sd, .int (iI (nO)), .ref sl, .ref su, .int (iI (nH)), .ref ss, .int (iI (nS)), .int (iI (nW)), .int (iI (nF))])), (ss, fw_l kL 3 (fS))] [(kL, .long)] sz) (fw_Qv (va_P (dC, dI) cls_ [(sh, .inr (1, [.ref sg, .ref sd, .int (iI (nO)), .ref sl, .ref su, .int (iI (nH)), .ref ss, .int (iI (0)), .int (iI (nW)), .int (iI (nF))])), (ss, fw_l kL 3 (fun _ => 0))]) (va_A [(sh, .inr (1, [.ref sg, .ref sd, .int (iI (nO)), .ref sl, .ref su, .int (iI (nH)), .ref ss, .int (iI (nS)), .int (iI (nW)), .int (iI (nF))])), (ss, fw_l kL 3 (fS))] sz)) 0 0 (va_A [(sh, .inr (1, [.ref sg, .ref sd, .int (iI (nO)), .ref sl, .ref su, .int (iI (nH)), .ref ss, .int (iI (nS)), .int (iI (nW)), .int (iI (nF))])), (ss, fw_l kL 3 (fS))] sz) := by
  refine fw_ofW (Qc := fun A => fw_Qv (va_P (dC, dI) cls_ [(sh, .inr (1, [.ref sg, .ref sd, .int (iI (nO)), .ref sl, .ref su, .int (iI (nH)), .ref ss, .int (iI (0)), .int (iI (nW)), .int (iI (nF))])), (ss, fw_l kL 3 (fun _ => 0))]) A) (by decide) (Nat.le_of_ble_eq_true rfl) ?_
  intro p e s m below meth c A ls hx hb hr hts hown hlocks hnm hml hsz hP hK hD hN hA hS hl
  have hl : lv_has ls 2 [(0, .ref sh)] := hl
  refine lv_iconst (v := (iI (0))) hx hb d_S_forgetStops_0 (by decide) ?_
  refine lv_istore_n (lv' := [(1, .int (iI (0))), (0, .ref sh)]) hx hb d_S_forgetStops_1 rfl hl (by decide) rfl (fun ls hl => ?_)
  have hlp_2 : ∀ (n : Nat) (i : Nat) (z1 : Int) (xs : Nat → Int64) (H : Heap) (locs : List Loc) (ls : Array Slot), (3 - i) < n → (z1 = (i : Int)) → (i ≤ 3) → (∀ j, j < i → xs j = 0) → va_P (dC, dI) cls_ [(sh, .inr (1, [.ref sg, .ref sd, .int (iI (nO)), .ref sl, .ref su, .int (iI (nH)), .ref ss, .int (iI (nS)), .int (iI (nW)), .int (iI (nF))])), (ss, fw_l kL 3 (xs))] H → va_D A [(sh, .inr (1, [.ref sg, .ref sd, .int (iI (nO)), .ref sl, .ref su, .int (iI (nH)), .ref ss, .int (iI (nS)), .int (iI (nW)), .int (iI (nF))])), (ss, fw_l kL 3 (xs))] → va_S A s.heap H locs → lv_has ls 2 [(1, .int (iI (z1))), (0, .ref sh)] → W p l e ({ frames := 0, locals := 0, cells := 0, slots := 0 }) s m ([.ref sh] : List Value).toArray below meth c H locs 0 0 (MQ below (fw_Qv (va_P (dC, dI) cls_ [(sh, .inr (1, [.ref sg, .ref sd, .int (iI (nO)), .ref sl, .ref su, .int (iI (nH)), .ref ss, .int (iI (0)), .int (iI (nW)), .int (iI (nF))])), (ss, fw_l kL 3 (fun _ => 0))]) A) ([.ref sh] : List Value).toArray s 0 0 A) (F0 m 2 ls []) := by
    intro n_2
    induction n_2 with
    | zero => intro i z1 xs H locs ls hms; exact absurd hms (Nat.not_lt_zero _)
    | succ n_2 ih_2 =>
      intro i z1 xs H locs ls hms_2 hz hi hu hP hD hS hl
      refine lv_iload_n hx hb d_S_forgetStops_2 rfl (lv_at hl 0 rfl) ?_
      refine lv_iconst (v := (iI (3))) hx hb d_S_forgetStops_3 (by decide) ?_
      refine fw_icmp_ge (tgt := 20) hx hb d_S_forgetStops_4 (by decide) ⟨by omega, by omega⟩ ⟨by omega, by omega⟩ (fun c_1 => ?_) (fun c_1 => ?_)
      · refine lv_aload_n hx hb d_S_forgetStops_20 rfl (lv_at hl 1 rfl) ?_
        refine lv_iconst (v := (iI (0))) hx hb d_S_forgetStops_21 (by decide) ?_
        refine va_put (D := (dC, dI)) (ci := 1) (v := .int (iI (0))) (ty := .int) (C := R_S) (T := T_S) (N := 10) hx hb hts in_S t_S t_S_ok n_S hown hK hP hD hS 0 rfl rfl 7 (by decide) (hts _ kw_43) (fun _ h9 => h9) rfl (by decide +kernel) rfl rfl (Nat.le_of_ble_eq_true rfl) d_S_forgetStops_22 (fun H locs hP hD hS => ?_)
        have hP : va_P (dC, dI) cls_ [(sh, .inr (1, [.ref sg, .ref sd, .int (iI (nO)), .ref sl, .ref su, .int (iI (nH)), .ref ss, .int (iI (0)), .int (iI (nW)), .int (iI (nF))])), (ss, fw_l kL 3 (xs))] H := hP
        have hD : va_D A [(sh, .inr (1, [.ref sg, .ref sd, .int (iI (nO)), .ref sl, .ref su, .int (iI (nH)), .ref ss, .int (iI (0)), .int (iI (nW)), .int (iI (nF))])), (ss, fw_l kL 3 (xs))] := hD
        refine fw_vret hx hb hr hlocks hS ?_ d_S_forgetStops_25
        · exact va_P.fnL hP 1 rfl (fun j h => hu j (by omega))
      · refine lv_aload_n hx hb d_S_forgetStops_7 rfl (lv_at hl 1 rfl) ?_
        refine va_get (D := (dC, dI)) (ci := 1) (v := .ref ss) (C := R_S) (T := T_S) (N := 10) hx hb hts in_S hown hK hP 0 rfl rfl 6 (by decide) (hts _ kw_41) (fun _ h9 => h9) rfl d_S_forgetStops_8 ?_
        refine lv_iload_n hx hb d_S_forgetStops_11 rfl (lv_at hl 0 rfl) ?_
        refine lv_lconst (v := 0) hx hb d_S_forgetStops_12 (by decide) ?_
        refine fw_last hx hb hK hP hD hS 1 0 rfl rfl (i) (by omega) (by omega) (by omega) d_S_forgetStops_13 (fun H locs hP hD hS => ?_)
        have hP : va_P (dC, dI) cls_ [(sh, .inr (1, [.ref sg, .ref sd, .int (iI (nO)), .ref sl, .ref su, .int (iI (nH)), .ref ss, .int (iI (nS)), .int (iI (nW)), .int (iI (nF))])), (ss, fw_l kL 3 (fw_up xs i 0))] H := hP
        have hD : va_D A [(sh, .inr (1, [.ref sg, .ref sd, .int (iI (nO)), .ref sl, .ref su, .int (iI (nH)), .ref ss, .int (iI (nS)), .int (iI (nW)), .int (iI (nF))])), (ss, fw_l kL 3 (fw_up xs i 0))] := hD
        refine lv_iinc (v := iI (z1 + 1)) (lv' := [(1, .int (iI (z1 + 1))), (0, .ref sh)]) hx hb d_S_forgetStops_14 hl (k := 0) rfl (by rw [show Int32.ofInt 1 = iI 1 from rfl, iI_add]) (by decide) rfl (fun ls hl => ?_)
        refine lv_goto (tgt := 2) hx hb d_S_forgetStops_17 (by decide) ?_
        exact ih_2 (i + 1) (z1 + 1) (fw_up xs i 0) _ _ ls (by omega) (by omega) (by omega) (fw_cpyL (g := fun _ => 0) hu) hP hD hS (lv_sub hl [0, 1] rfl)
  exact hlp_2 ((3 - 0) + 1) 0 0 fS _ _ ls (Nat.lt_succ_self _) rfl (by omega) (fun _ h => absurd h (Nat.not_lt_zero _)) hP hD hS (lv_sub hl [0, 1] rfl)

set_option maxHeartbeats 4000000 in
set_option maxRecDepth 100000 in
theorem c_S_hasRoom (l : Launch) (dC : Nat → ClassId) (dI : Nat → Nat → Nat) (sh : Nat) (sg : Nat) (sd : Nat) (sl : Nat) (su : Nat) (ss : Nat) (nO : Int) (nH : Int) (nS : Int) (nW : Int) (nF : Int) (q : Nat) (qu : Nat) (qm : Nat) (qo : Nat) (au : Nat → Int) (am : Nat → Int) (kI : ClassId) (kL : ClassId) (fL : Nat → Int) (fS : Nat → Int64) (bu : Int) (u : Int) (mi : Int) (wa : Int) (h1 : 0 ≤ u) (h2 : u < 3) (h3 : 0 ≤ nH) (h4 : nH ≤ 6) (h5 : fw_b (mi + wa)) (h6 : ∀ j : Nat, (j : Int) < nH → fw_b (au j)) (hb_bu : fw_b bu) : Met l y_S_hasRoom (Cond.code y_S_hasRoom b_S_hasRoom 9 (some .boolean) :: gw) ({ frames := 1, locals := 21, cells := 0, slots := 0 }) (fw_Pr (dC, dI) [.ref sh, .ref q, .int (iI (bu)), .int (iI (u)), .int (iI (mi)), .int (iI (wa))] [(sh, .inr (1, [.ref sg, .ref sd, .int (iI (nO)), .ref sl, .ref su, .int (iI (nH)), .ref ss, .int (iI (nS)), .int (iI (nW)), .int (iI (nF))])), (sl, fw_a kI 6 (fL)), (ss, fw_l kL 3 (fS)), (q, .inr (0, [.ref qu, .ref qm, .ref qo])), (qu, fw_a kI 6 (au)), (qm, fw_a kI 6 (am))] [(kI, .int), (kL, .long)]) (fw_Rv (.int (bI (fc_room (fS u.toNat) bu u au am fL nH.toNat mi wa)))) 0 0 (fun _ => False) := by
  refine fw_ofR (by decide) (Nat.le_of_ble_eq_true rfl) ?_
  intro p e s m below meth c ls hx hb hr hts hown hlocks hml hP hK hN hl
  have hl : lv_has ls 9 [(0, .ref sh), (1, .ref q), (2, .int (iI (bu))), (3, .int (iI (u))), (4, .int (iI (mi))), (5, .int (iI (wa)))] := hl
  refine lv_iload hx hb d_S_hasRoom_0 (lv_at hl 4 rfl) ?_
  refine lv_iload hx hb d_S_hasRoom_2 (lv_at hl 5 rfl) ?_
  refine fw_iadd hx hb d_S_hasRoom_4 ?_
  refine lv_bipush (v := (iI (60))) hx hb d_S_hasRoom_5 (by decide) ?_
  refine fw_icmp_le (tgt := 12) hx hb d_S_hasRoom_7 (by decide) ⟨by omega, by omega⟩ ⟨by omega, by omega⟩ (fun c_1 => ?_) (fun c_1 => ?_)
  · refine lv_aload_n hx hb d_S_hasRoom_12 rfl (lv_at hl 0 rfl) ?_
    refine va_get (D := (dC, dI)) (ci := 1) (v := .ref ss) (C := R_S) (T := T_S) (N := 10) hx hb hts in_S hown hK hP 0 rfl rfl 6 (by decide) (hts _ kw_41) (fun _ h9 => h9) rfl d_S_hasRoom_13 ?_
    refine lv_iload_n hx hb d_S_hasRoom_16 rfl (lv_at hl 3 rfl) ?_
    refine fw_lald hx hb hK hP 2 1 rfl rfl ((u).toNat) (by omega) (by omega) (by omega) d_S_hasRoom_17 ?_
    refine lv_lstore (lv' := [(6, .long (fS ((u).toNat))), (0, .ref sh), (1, .ref q), (2, .int (iI (bu))), (3, .int (iI (u))), (4, .int (iI (mi))), (5, .int (iI (wa)))]) hx hb d_S_hasRoom_18 hl (by decide) rfl (fun ls hl => ?_)
    refine lv_iconst (v := (iI (0))) hx hb d_S_hasRoom_20 (by decide) ?_
    refine lv_istore (lv' := [(8, .int (iI (0))), (6, .long (fS ((u).toNat))), (0, .ref sh), (1, .ref q), (2, .int (iI (bu))), (3, .int (iI (u))), (4, .int (iI (mi))), (5, .int (iI (wa)))]) hx hb d_S_hasRoom_21 hl (by decide) rfl (fun ls hl => ?_)
    have hlp_23 : ∀ (n : Nat) (i : Nat) (z8 : Int) (t6 : Int64) (ls : Array Slot), (nH.toNat - i) < n → (z8 = (i : Int)) → ((i : Int) ≤ nH) → (t6 = fc_tk (fS u.toNat) bu u au am fL i) → lv_has ls 9 [(6, .long (t6)), (8, .int (iI (z8))), (0, .ref sh), (1, .ref q), (2, .int (iI (bu))), (3, .int (iI (u))), (4, .int (iI (mi))), (5, .int (iI (wa)))] → W p l e ({ frames := 1, locals := 21, cells := 0, slots := 0 }) s m ([.ref sh, .ref q, .int (iI (bu)), .int (iI (u)), .int (iI (mi)), .int (iI (wa))] : List Value).toArray below meth c s.heap [] 0 0 (MQ below (fw_Rv (.int (bI (fc_room (fS u.toNat) bu u au am fL nH.toNat mi wa)))) ([.ref sh, .ref q, .int (iI (bu)), .int (iI (u)), .int (iI (mi)), .int (iI (wa))] : List Value).toArray s 0 0 (fun _ => False)) (F0 m 23 ls []) := by
      intro n_23
      induction n_23 with
      | zero => intro i z8 t6 ls hms; exact absurd hms (Nat.not_lt_zero _)
      | succ n_23 ih_23 =>
        intro i z8 t6 ls hms_23 hz hi ht hl
        refine lv_iload hx hb d_S_hasRoom_23 (lv_at hl 1 rfl) ?_
        refine lv_aload_n hx hb d_S_hasRoom_25 rfl (lv_at hl 2 rfl) ?_
        refine va_get (D := (dC, dI)) (ci := 1) (v := .int (iI (nH))) (C := R_S) (T := T_S) (N := 10) hx hb hts in_S hown hK hP 0 rfl rfl 5 (by decide) (hts _ kw_38) (fun _ h9 => h9) rfl d_S_hasRoom_26 ?_
        refine fw_icmp_ge (tgt := 77) hx hb d_S_hasRoom_29 (by decide) ⟨by omega, by omega⟩ ⟨by omega, by omega⟩ (fun c_2 => ?_) (fun c_2 => ?_)
        · refine lv_lload hx hb d_S_hasRoom_77 (lv_at hl 0 rfl) ?_
          refine lv_iload hx hb d_S_hasRoom_79 (lv_at hl 6 rfl) ?_
          refine lv_iload hx hb d_S_hasRoom_81 (lv_at hl 7 rfl) ?_
          refine fw_callR (va_runSN (As := [.int (iI (mi)), .int (iI (wa))]) (rest := [.long (t6)]) ⟨hx, hb, hml, hown, hts⟩ (c_F_minutesAsBits l dC dI  mi wa ) ⟨va_cnB (host := R_F) 2 hts (gw_I kw_337) rfl rfl rfl (hN _ (List.mem_of_getElem? (i := 0) rfl)) (hts _ kw_1) (by decide +kernel) ⟨Nat.le_of_ble_eq_true rfl, Nat.le_of_ble_eq_true rfl⟩, hts _ kw_336, trivial⟩ (fw_preRS hP hK hN [] [] rfl rfl) rfl rfl hl.1 rfl (lv_room (Nat.le_of_ble_eq_true rfl)) d_S_hasRoom_83 ⟨Nat.le_of_ble_eq_true rfl, Nat.le_of_ble_eq_true rfl⟩).run ?_
          refine lv_land hx hb d_S_hasRoom_86 ?_
          refine lv_lconst (v := 0) hx hb d_S_hasRoom_87 (by decide) ?_
          refine W.lcmp hx hb d_S_hasRoom_88 ?_
          refine lv_if_ne (tgt := 96) hx hb d_S_hasRoom_89 (by decide) (fun c_3 => ?_) (fun c_3 => ?_)
          · refine lv_iconst (v := (bI (false))) hx hb d_S_hasRoom_96 (by decide) ?_
            refine fw_Rzret hx hb hr hlocks ?_ d_S_hasRoom_97
            · have e1 : nH.toNat = i := by omega
              simp only [fc_room]; rw [decide_eq_true (show mi + wa ≤ 60 by omega), e1, ← ht]
              first | rw [decide_eq_true (fw_lcmp0.mp c_3)]; rfl | rw [decide_eq_false (fun q => c_3 (fw_lcmp0.mpr q))]; rfl
          · refine lv_iconst (v := (bI (true))) hx hb d_S_hasRoom_92 (by decide) ?_
            refine lv_goto (tgt := 97) hx hb d_S_hasRoom_93 (by decide) ?_
            refine fw_Rzret hx hb hr hlocks ?_ d_S_hasRoom_97
            · have e1 : nH.toNat = i := by omega
              simp only [fc_room]; rw [decide_eq_true (show mi + wa ≤ 60 by omega), e1, ← ht]
              first | rw [decide_eq_true (fw_lcmp0.mp c_3)]; rfl | rw [decide_eq_false (fun q => c_3 (fw_lcmp0.mpr q))]; rfl
        · refine lv_iload hx hb d_S_hasRoom_32 (lv_at hl 1 rfl) ?_
          refine lv_iload_n hx hb d_S_hasRoom_34 rfl (lv_at hl 4 rfl) ?_
          refine fw_icmp_eq (tgt := 71) hx hb d_S_hasRoom_35 (by decide) ⟨by omega, by omega⟩ ⟨by omega, by omega⟩ (fun c_4 => ?_) (fun c_4 => ?_)
          · refine lv_iinc (v := iI (z8 + 1)) (lv' := [(8, .int (iI (z8 + 1))), (6, .long (t6)), (0, .ref sh), (1, .ref q), (2, .int (iI (bu))), (3, .int (iI (u))), (4, .int (iI (mi))), (5, .int (iI (wa)))]) hx hb d_S_hasRoom_71 hl (k := 1) rfl (by rw [show Int32.ofInt 1 = iI 1 from rfl, iI_add]) (by decide) rfl (fun ls hl => ?_)
            refine lv_goto (tgt := 23) hx hb d_S_hasRoom_74 (by decide) ?_
            exact ih_23 (i + 1) (z8 + 1) t6 ls (by omega) (by omega) (by omega) (by subst ht; first | exact (if_pos ⟨by omega, by omega⟩).symm | exact (if_neg (by omega)).symm) (lv_sub hl [1, 0, 2, 3, 4, 5, 6, 7] rfl)
          · refine lv_aload_n hx hb d_S_hasRoom_38 rfl (lv_at hl 3 rfl) ?_
            refine va_get (D := (dC, dI)) (ci := 0) (v := .ref qu) (C := R_P) (T := T_P) (N := 3) hx hb hts in_P hown hK hP 3 rfl rfl 0 (by decide) (hts _ kw_80) (fun _ h9 => h9) rfl d_S_hasRoom_39 ?_
            refine lv_iload hx hb d_S_hasRoom_42 (lv_at hl 1 rfl) ?_
            have hbu := h6 i (by omega)
            refine fw_iald hx hb hK hP 4 0 rfl rfl (i) (by omega) (by omega) (by omega) d_S_hasRoom_44 ?_
            refine lv_iload_n hx hb d_S_hasRoom_45 rfl (lv_at hl 5 rfl) ?_
            refine fw_icmp_ne (tgt := 71) hx hb d_S_hasRoom_46 (by decide) ⟨by omega, by omega⟩ ⟨by omega, by omega⟩ (fun c_5 => ?_) (fun c_5 => ?_)
            · refine lv_iinc (v := iI (z8 + 1)) (lv' := [(8, .int (iI (z8 + 1))), (6, .long (t6)), (0, .ref sh), (1, .ref q), (2, .int (iI (bu))), (3, .int (iI (u))), (4, .int (iI (mi))), (5, .int (iI (wa)))]) hx hb d_S_hasRoom_71 hl (k := 1) rfl (by rw [show Int32.ofInt 1 = iI 1 from rfl, iI_add]) (by decide) rfl (fun ls hl => ?_)
              refine lv_goto (tgt := 23) hx hb d_S_hasRoom_74 (by decide) ?_
              exact ih_23 (i + 1) (z8 + 1) t6 ls (by omega) (by omega) (by omega) (by subst ht; first | exact (if_pos ⟨by omega, by omega⟩).symm | exact (if_neg (by omega)).symm) (lv_sub hl [1, 0, 2, 3, 4, 5, 6, 7] rfl)
            · refine lv_lload hx hb d_S_hasRoom_49 (lv_at hl 0 rfl) ?_
              refine lv_aload_n hx hb d_S_hasRoom_51 rfl (lv_at hl 3 rfl) ?_
              refine va_get (D := (dC, dI)) (ci := 0) (v := .ref qm) (C := R_P) (T := T_P) (N := 3) hx hb hts in_P hown hK hP 3 rfl rfl 1 (by decide) (hts _ kw_83) (fun _ h9 => h9) rfl d_S_hasRoom_52 ?_
              refine lv_iload hx hb d_S_hasRoom_55 (lv_at hl 1 rfl) ?_
              refine fw_iald hx hb hK hP 5 0 rfl rfl (i) (by omega) (by omega) (by omega) d_S_hasRoom_57 ?_
              refine lv_aload_n hx hb d_S_hasRoom_58 rfl (lv_at hl 2 rfl) ?_
              refine va_get (D := (dC, dI)) (ci := 1) (v := .ref sl) (C := R_S) (T := T_S) (N := 10) hx hb hts in_S hown hK hP 0 rfl rfl 3 (by decide) (hts _ kw_33) (fun _ h9 => h9) rfl d_S_hasRoom_59 ?_
              refine lv_iload hx hb d_S_hasRoom_62 (lv_at hl 1 rfl) ?_
              refine fw_iald hx hb hK hP 1 0 rfl rfl (i) (by omega) (by omega) (by omega) d_S_hasRoom_64 ?_
              refine fw_callR (va_runSN (As := [.int (iI (am i)), .int (iI (fL i))]) (rest := [.long (t6)]) ⟨hx, hb, hml, hown, hts⟩ (c_F_minutesAsBits l dC dI  (am i) (fL i) ) ⟨va_cnB (host := R_F) 2 hts (gw_I kw_337) rfl rfl rfl (hN _ (List.mem_of_getElem? (i := 0) rfl)) (hts _ kw_1) (by decide +kernel) ⟨Nat.le_of_ble_eq_true rfl, Nat.le_of_ble_eq_true rfl⟩, hts _ kw_336, trivial⟩ (fw_preRS hP hK hN [] [] rfl rfl) rfl rfl hl.1 rfl (lv_room (Nat.le_of_ble_eq_true rfl)) d_S_hasRoom_65 ⟨Nat.le_of_ble_eq_true rfl, Nat.le_of_ble_eq_true rfl⟩).run ?_
              refine lv_lor hx hb d_S_hasRoom_68 ?_
              refine lv_lstore (lv' := [(6, .long (t6 ||| (fc_bits (am i) (fL i)))), (8, .int (iI (z8))), (0, .ref sh), (1, .ref q), (2, .int (iI (bu))), (3, .int (iI (u))), (4, .int (iI (mi))), (5, .int (iI (wa)))]) hx hb d_S_hasRoom_69 hl (by decide) rfl (fun ls hl => ?_)
              refine lv_iinc (v := iI (z8 + 1)) (lv' := [(8, .int (iI (z8 + 1))), (6, .long (t6 ||| (fc_bits (am i) (fL i)))), (0, .ref sh), (1, .ref q), (2, .int (iI (bu))), (3, .int (iI (u))), (4, .int (iI (mi))), (5, .int (iI (wa)))]) hx hb d_S_hasRoom_71 hl (k := 1) rfl (by rw [show Int32.ofInt 1 = iI 1 from rfl, iI_add]) (by decide) rfl (fun ls hl => ?_)
              refine lv_goto (tgt := 23) hx hb d_S_hasRoom_74 (by decide) ?_
              exact ih_23 (i + 1) (z8 + 1) (t6 ||| (fc_bits (am i) (fL i))) ls (by omega) (by omega) (by omega) (by subst ht; first | exact (if_pos ⟨by omega, by omega⟩).symm | exact (if_neg (by omega)).symm) (lv_sub hl [1, 0, 2, 3, 4, 5, 6, 7] rfl)
    exact hlp_23 ((nH.toNat - 0) + 1) 0 0 (fS ((u).toNat)) ls (Nat.lt_succ_self _) (by first | rfl | assumption | omega) (by first | rfl | assumption | omega) (by first | rfl | assumption | omega) (lv_sub hl [1, 0, 2, 3, 4, 5, 6, 7] rfl)
  · refine lv_iconst (v := (bI (false))) hx hb d_S_hasRoom_10 (by decide) ?_
    refine fw_Rzret hx hb hr hlocks ?_ d_S_hasRoom_11
    · simp only [fc_room]; rw [decide_eq_false (by omega)]; rfl

set_option maxHeartbeats 4000000 in
set_option maxRecDepth 100000 in
theorem c_S_fits (l : Launch) (dC : Nat → ClassId) (dI : Nat → Nat → Nat) (sh : Nat) (sg : Nat) (sd : Nat) (sl : Nat) (su : Nat) (ss : Nat) (nO : Int) (nH : Int) (nS : Int) (nW : Int) (nF : Int) (q : Nat) (qu : Nat) (qm : Nat) (qo : Nat) (au : Nat → Int) (am : Nat → Int) (kI : ClassId) (kL : ClassId) (fL : Nat → Int) (fU : Nat → Int) (fS : Nat → Int64) (h : Int) (u : Int) (mi : Int) (g1 : 0 ≤ h) (g2 : h < 6) (h1 : 0 ≤ u) (h2 : u < 3) (h3 : 0 ≤ nH) (h4 : nH ≤ 6) (h5 : fw_b (mi + fL h.toNat)) (h6 : ∀ j : Nat, (j : Int) < nH → fw_b (au j)) (h7 : 0 ≤ fU h.toNat) (h8 : fU h.toNat < 2147483648) : Met l y_S_fits (Cond.code y_S_fits b_S_fits 5 (some .boolean) :: gw) ({ frames := 2, locals := 49, cells := 0, slots := 0 }) (fw_Pr (dC, dI) [.ref sh, .ref q, .int (iI (h)), .int (iI (u)), .int (iI (mi))] [(sh, .inr (1, [.ref sg, .ref sd, .int (iI (nO)), .ref sl, .ref su, .int (iI (nH)), .ref ss, .int (iI (nS)), .int (iI (nW)), .int (iI (nF))])), (sl, fw_a kI 6 (fL)), (su, fw_a kI 6 (fU)), (ss, fw_l kL 3 (fS)), (q, .inr (0, [.ref qu, .ref qm, .ref qo])), (qu, fw_a kI 6 (au)), (qm, fw_a kI 6 (am))] [(kI, .int), (kL, .long)]) (fw_Rv (.int (bI (fc_fits fS fU fL au am nH h u mi)))) 0 0 (fun _ => False) := by
  refine fw_ofR (by decide) (Nat.le_of_ble_eq_true rfl) ?_
  intro p e s m below meth c ls hx hb hr hts hown hlocks hml hP hK hN hl
  have hl : lv_has ls 5 [(0, .ref sh), (1, .ref q), (2, .int (iI (h))), (3, .int (iI (u))), (4, .int (iI (mi)))] := hl
  refine lv_aload_n hx hb d_S_fits_0 rfl (lv_at hl 0 rfl) ?_
  refine va_get (D := (dC, dI)) (ci := 1) (v := .ref su) (C := R_S) (T := T_S) (N := 10) hx hb hts in_S hown hK hP 0 rfl rfl 4 (by decide) (hts _ kw_36) (fun _ h9 => h9) rfl d_S_fits_1 ?_
  refine lv_iload_n hx hb d_S_fits_4 rfl (lv_at hl 2 rfl) ?_
  refine fw_iald hx hb hK hP 2 0 rfl rfl ((h).toNat) (by omega) (by omega) (by omega) d_S_fits_5 ?_
  refine lv_iload_n hx hb d_S_fits_6 rfl (lv_at hl 3 rfl) ?_
  refine fw_callR (va_runSN (As := [.int (iI (fU ((h).toNat))), .int (iI (u))]) (rest := []) ⟨hx, hb, hml, hown, hts⟩ (c_F_mayTake l dC dI  (fU ((h).toNat)) u (by first | assumption | omega) (by first | assumption | omega) (by first | assumption | omega) (by first | assumption | omega)) ⟨va_cnB (host := R_F) 2 hts (gw_I kw_330) rfl rfl rfl (hN _ (List.mem_of_getElem? (i := 1) rfl)) (hts _ kw_1) (by decide +kernel) ⟨Nat.le_of_ble_eq_true rfl, Nat.le_of_ble_eq_true rfl⟩, hts _ kw_329, trivial⟩ (fw_preRS hP hK hN [] [] rfl rfl) rfl rfl hl.1 rfl (lv_room (Nat.le_of_ble_eq_true rfl)) d_S_fits_7 ⟨Nat.le_of_ble_eq_true rfl, Nat.le_of_ble_eq_true rfl⟩).run ?_
  refine fw_bif_eq (tgt := 35) hx hb d_S_fits_10 (by decide) (fun c_1 => ?_) (fun c_1 => ?_)
  · refine lv_iconst (v := (bI (false))) hx hb d_S_fits_35 (by decide) ?_
    refine fw_Rzret hx hb hr hlocks ?_ d_S_fits_36
    · unfold fc_fits; first | (rw [c_1, c_1]; rfl) | (rw [c_1]; simp)
  · refine lv_aload_n hx hb d_S_fits_13 rfl (lv_at hl 0 rfl) ?_
    refine lv_aload_n hx hb d_S_fits_14 rfl (lv_at hl 1 rfl) ?_
    refine lv_iload_n hx hb d_S_fits_15 rfl (lv_at hl 2 rfl) ?_
    refine lv_iload_n hx hb d_S_fits_16 rfl (lv_at hl 3 rfl) ?_
    refine lv_iload hx hb d_S_fits_17 (lv_at hl 4 rfl) ?_
    refine lv_aload_n hx hb d_S_fits_19 rfl (lv_at hl 0 rfl) ?_
    refine va_get (D := (dC, dI)) (ci := 1) (v := .ref sl) (C := R_S) (T := T_S) (N := 10) hx hb hts in_S hown hK hP 0 rfl rfl 3 (by decide) (hts _ kw_33) (fun _ h9 => h9) rfl d_S_fits_20 ?_
    refine lv_iload_n hx hb d_S_fits_23 rfl (lv_at hl 2 rfl) ?_
    refine fw_iald hx hb hK hP 1 0 rfl rfl ((h).toNat) (by omega) (by omega) (by omega) d_S_fits_24 ?_
    refine fw_callR (va_runV (As := [.ref q, .int (iI (h)), .int (iI (u)), .int (iI (mi)), .int (iI (fL ((h).toNat)))]) (rest := []) ⟨hx, hb, hml, hown, hts⟩ (c_S_hasRoom l dC dI  sh sg sd sl su ss nO nH nS nW nF q qu qm qo au am kI kL fL fS h u mi (fL ((h).toNat)) (by first | assumption | omega) (by first | assumption | omega) (by first | assumption | omega) (by first | assumption | omega) ⟨by omega, by omega⟩ (by assumption) ⟨by omega, by omega⟩) (cwV 5 hts (gw_V kw_411 kw_332 kw_333 kw_2 kw_334) rfl rfl rfl (by decide +kernel) ⟨Nat.le_of_ble_eq_true rfl, Nat.le_of_ble_eq_true rfl⟩) (fw_preRV (ci := 1) (q0 := 0) hP hK hN [0, 1, 3, 4, 5, 6] [0, 1] rfl rfl rfl rfl) rfl rfl hl.1 rfl (lv_room (Nat.le_of_ble_eq_true rfl)) d_S_fits_25 ⟨Nat.le_of_ble_eq_true rfl, Nat.le_of_ble_eq_true rfl⟩).run ?_
    refine fw_bif_eq (tgt := 35) hx hb d_S_fits_28 (by decide) (fun c_2 => ?_) (fun c_2 => ?_)
    · refine lv_iconst (v := (bI (false))) hx hb d_S_fits_35 (by decide) ?_
      refine fw_Rzret hx hb hr hlocks ?_ d_S_fits_36
      · unfold fc_fits; first | (rw [c_1, c_2]; rfl) | (rw [c_2]; simp)
    · refine lv_iconst (v := (bI (true))) hx hb d_S_fits_31 (by decide) ?_
      refine lv_goto (tgt := 36) hx hb d_S_fits_32 (by decide) ?_
      refine fw_Rzret hx hb hr hlocks ?_ d_S_fits_36
      · unfold fc_fits; first | (rw [c_1, c_2]; rfl) | (rw [c_2]; simp)
