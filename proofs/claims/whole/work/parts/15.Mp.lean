def fm_or (cs : Int) (k : Nat) : Int := if fc_bit cs k = true then cs else cs + 2 ^ k
theorem fm_or_ok0 : ∀ n, n < 16 → ∀ k, k < 4 → iI (n : Nat) ||| iI ((2 : Int) ^ k) = iI (fm_or (n : Nat) k) := by decide
theorem fm_or_ok {cs : Int} {k : Nat} (h1 : 0 ≤ cs) (h2 : cs < 16) (hk : k < 4) : iI cs ||| iI (2 ^ k) = iI (fm_or cs k) := by
  obtain ⟨n, rfl⟩ := Int.eq_ofNat_of_zero_le h1
  exact fm_or_ok0 n (by omega) k hk
def km_divert (mH mO h o : Int) (gG gP : Nat → Int) : Int := k_divert mH mO h o gG (fun j => gP (3 * j + 2))
def km_place (mH mW mF h u mi : Int) (gP gU gL xU xF xT : Nat → Int) (nS : Nat) : Int := if fc_in h 0 (mH - 1) = false then 1 else if fc_in u 0 2 = true then (if decide (gP (3 * h.toNat + 1) < mW + mF) = false then (if fc_in mi 0 59 = true then (if fm_fits gP gU gL xU xF xT mH.toNat nS h u mi = true then 0 else 4) else 3) else 2) else 1
set_option maxHeartbeats 4000000 in
set_option maxRecDepth 100000 in
theorem c_M_order (l : Launch) (dC : Nat → ClassId) (dI : Nat → Nat → Nat) (sz : Nat) (mm : Nat) (th : Int) (mO : Int) (mg : Nat) (md : Nat) (mH : Int) (ml : Nat) (mu : Nat) (mp : Nat) (ud : Bool) (cs : Int) (mS : Int) (xu : Nat) (xf : Nat) (xt : Nat) (mW : Int) (mF : Int) (rn : Bool) (sp : Bool) (nd : Int) (rd : Int) (li : Int) (pz : Nat) (lt : Int) (gG : Nat → Int) (gD : Nat → Int) (kI : ClassId) (g : Int) (du : Int) (h1 : 0 ≤ mO) (h2 : mO ≤ 8) (hb_g : fw_b g) (hb_du : fw_b du) : Met l y_M_order (Cond.code y_M_order b_M_order 3 (some .int) :: gw) ({ frames := 1, locals := 24, cells := 0, slots := 0 }) (fw_Pc (dC, dI) [.ref mm, .int (iI (g)), .int (iI (du))] [(mm, .inr (4, [.int (iI (th)), .int (iI (mO)), .ref mg, .ref md, .int (iI (mH)), .ref ml, .ref mu, .ref mp, .int (bI (ud)), .int (iI (cs)), .int (iI (mS)), .ref xu, .ref xf, .ref xt, .int (iI (mW)), .int (iI (mF)), .int (bI (rn)), .int (bI (sp)), .int (iI (nd)), .int (iI (rd)), .int (iI (li)), .ref pz, .int (iI (lt))])), (mg, fw_a kI 8 (gG)), (md, fw_a kI 8 (gD))] [(kI, .int)] sz) (fw_Qi (iI (if k_order mO g du = 0 then mO + 1 - 1 else 0)) (fun H => (¬ k_order mO g du = 0 ∧ va_P (dC, dI) cls_ [(mm, .inr (4, [.int (iI (k_order mO g du)), .int (iI (mO)), .ref mg, .ref md, .int (iI (mH)), .ref ml, .ref mu, .ref mp, .int (bI (ud)), .int (iI (cs)), .int (iI (mS)), .ref xu, .ref xf, .ref xt, .int (iI (mW)), .int (iI (mF)), .int (bI (rn)), .int (bI (sp)), .int (iI (nd)), .int (iI (rd)), .int (iI (li)), .ref pz, .int (iI (lt))])), (mg, fw_a kI 8 (gG)), (md, fw_a kI 8 (gD))] H) ∨ (k_order mO g du = 0 ∧ va_P (dC, dI) cls_ [(mm, .inr (4, [.int (iI (0)), .int (iI (mO + 1)), .ref mg, .ref md, .int (iI (mH)), .ref ml, .ref mu, .ref mp, .int (bI (ud)), .int (iI (cs)), .int (iI (mS)), .ref xu, .ref xf, .ref xt, .int (iI (mW)), .int (iI (mF)), .int (bI (rn)), .int (bI (sp)), .int (iI (nd)), .int (iI (rd)), .int (iI (li)), .ref pz, .int (iI (lt))])), (mg, fw_a kI 8 (fw_up gG mO.toNat g)), (md, fw_a kI 8 (fw_up gD mO.toNat du))] H)) (va_A [(mm, .inr (4, [.int (iI (th)), .int (iI (mO)), .ref mg, .ref md, .int (iI (mH)), .ref ml, .ref mu, .ref mp, .int (bI (ud)), .int (iI (cs)), .int (iI (mS)), .ref xu, .ref xf, .ref xt, .int (iI (mW)), .int (iI (mF)), .int (bI (rn)), .int (bI (sp)), .int (iI (nd)), .int (iI (rd)), .int (iI (li)), .ref pz, .int (iI (lt))])), (mg, fw_a kI 8 (gG)), (md, fw_a kI 8 (gD))] sz)) 0 0 (va_A [(mm, .inr (4, [.int (iI (th)), .int (iI (mO)), .ref mg, .ref md, .int (iI (mH)), .ref ml, .ref mu, .ref mp, .int (bI (ud)), .int (iI (cs)), .int (iI (mS)), .ref xu, .ref xf, .ref xt, .int (iI (mW)), .int (iI (mF)), .int (bI (rn)), .int (bI (sp)), .int (iI (nd)), .int (iI (rd)), .int (iI (li)), .ref pz, .int (iI (lt))])), (mg, fw_a kI 8 (gG)), (md, fw_a kI 8 (gD))] sz) := by
  refine fw_ofW (Qc := fun A => fw_Qi (iI (if k_order mO g du = 0 then mO + 1 - 1 else 0)) (fun H => (¬ k_order mO g du = 0 ∧ va_P (dC, dI) cls_ [(mm, .inr (4, [.int (iI (k_order mO g du)), .int (iI (mO)), .ref mg, .ref md, .int (iI (mH)), .ref ml, .ref mu, .ref mp, .int (bI (ud)), .int (iI (cs)), .int (iI (mS)), .ref xu, .ref xf, .ref xt, .int (iI (mW)), .int (iI (mF)), .int (bI (rn)), .int (bI (sp)), .int (iI (nd)), .int (iI (rd)), .int (iI (li)), .ref pz, .int (iI (lt))])), (mg, fw_a kI 8 (gG)), (md, fw_a kI 8 (gD))] H) ∨ (k_order mO g du = 0 ∧ va_P (dC, dI) cls_ [(mm, .inr (4, [.int (iI (0)), .int (iI (mO + 1)), .ref mg, .ref md, .int (iI (mH)), .ref ml, .ref mu, .ref mp, .int (bI (ud)), .int (iI (cs)), .int (iI (mS)), .ref xu, .ref xf, .ref xt, .int (iI (mW)), .int (iI (mF)), .int (bI (rn)), .int (bI (sp)), .int (iI (nd)), .int (iI (rd)), .int (iI (li)), .ref pz, .int (iI (lt))])), (mg, fw_a kI 8 (fw_up gG mO.toNat g)), (md, fw_a kI 8 (fw_up gD mO.toNat du))] H)) A) (by decide) (Nat.le_of_ble_eq_true rfl) ?_
  intro p e s m below meth c A ls hx hb hr hts hown hlocks hnm hml hsz hP hK hD hN hA hS hl
  have hl : lv_has ls 3 [(0, .ref mm), (1, .int (iI (g))), (2, .int (iI (du)))] := hl
  refine lv_aload_n hx hb d_M_order_0 rfl (lv_at hl 0 rfl) ?_
  refine lv_aload_n hx hb d_M_order_1 rfl (lv_at hl 0 rfl) ?_
  refine va_get (D := (dC, dI)) (ci := 4) (v := .int (iI (mO))) (C := R_M) (T := T_M) (N := 23) hx hb hts in_M hown hK hP 0 rfl rfl 1 (by decide) (hts _ kw_572) (fun _ h9 => h9) rfl d_M_order_2 ?_
  refine lv_bipush (v := (iI (8))) hx hb d_M_order_5 (by decide) ?_
  refine fw_icmp_ne (tgt := 14) hx hb d_M_order_7 (by decide) ⟨by omega, by omega⟩ ⟨by omega, by omega⟩ (fun c_1 => ?_) (fun c_1 => ?_)
  · refine lv_iconst (v := (bI (false))) hx hb d_M_order_14 (by decide) ?_
    refine lv_iload_n hx hb d_M_order_15 rfl (lv_at hl 1 rfl) ?_
    refine lv_iconst (v := (iI (0))) hx hb d_M_order_16 (by decide) ?_
    refine lv_bipush (v := (iI (9))) hx hb d_M_order_17 (by decide) ?_
    refine fw_callR (va_runS (As := [.int (iI (g)), .int (iI (0)), .int (iI (9))]) (rest := [.int (bI (false)), .ref mm]) ⟨hx, hb, hml, hown, hts⟩ (c_M_in l dC dI  g 0 9 ⟨by omega, by omega⟩ ⟨by omega, by omega⟩ ⟨by omega, by omega⟩) (cwS 3 hts (gw_S kw_649 kw_650 kw_5 kw_651) rfl rfl rfl (by decide +kernel) ⟨Nat.le_of_ble_eq_true rfl, Nat.le_of_ble_eq_true rfl⟩) (fw_preRS hP hK hN [] [] rfl rfl) rfl rfl hl.1 rfl (lv_room (Nat.le_of_ble_eq_true rfl)) d_M_order_19 ⟨Nat.le_of_ble_eq_true rfl, Nat.le_of_ble_eq_true rfl⟩).run ?_
    refine fw_bif_eq (tgt := 36) hx hb d_M_order_22 (by decide) (fun c_2 => ?_) (fun c_2 => ?_)
    · refine lv_iconst (v := (bI (true))) hx hb d_M_order_36 (by decide) ?_
      refine lv_goto (tgt := 41) hx hb d_M_order_37 (by decide) ?_
      refine lv_iconst (v := (bI (false))) hx hb d_M_order_41 (by decide) ?_
      refine lv_iconst (v := (bI (false))) hx hb d_M_order_42 (by decide) ?_
      refine fw_calliP [0] (va_runV (As := [.int (bI (false)), .int (bI (true)), .int (bI (false)), .int (bI (false))]) (rest := []) ⟨hx, hb, hml, hown, hts⟩ (c_M_throwing l dC dI  _ mm th mO mg md mH ml mu mp ud cs mS xu xf xt mW mF rn sp nd rd li pz lt false true false false ) (cwV 4 hts (gw_V kw_652 kw_654 ks_M_throwing kw_5 kw_655) rfl rfl rfl (by decide +kernel) ⟨Nat.le_of_ble_eq_true rfl, Nat.le_of_ble_eq_true rfl⟩) (fw_preV (ci := 4) (q0 := 0) hP hK hD hN [0] [] rfl rfl rfl rfl rfl) rfl rfl hl.1 rfl (lv_room (Nat.le_of_ble_eq_true rfl)) d_M_order_43 ⟨Nat.le_of_ble_eq_true rfl, Nat.le_of_ble_eq_true rfl⟩) hP hD hS hA rfl rfl rfl (fun H locs hP hD hS => ?_)
      have hP : va_P (dC, dI) cls_ [(mm, .inr (4, [.int (iI (fc_thr false true false false)), .int (iI (mO)), .ref mg, .ref md, .int (iI (mH)), .ref ml, .ref mu, .ref mp, .int (bI (ud)), .int (iI (cs)), .int (iI (mS)), .ref xu, .ref xf, .ref xt, .int (iI (mW)), .int (iI (mF)), .int (bI (rn)), .int (bI (sp)), .int (iI (nd)), .int (iI (rd)), .int (iI (li)), .ref pz, .int (iI (lt))])), (mg, fw_a kI 8 (gG)), (md, fw_a kI 8 (gD))] H := hP
      have hD : va_D A [(mm, .inr (4, [.int (iI (fc_thr false true false false)), .int (iI (mO)), .ref mg, .ref md, .int (iI (mH)), .ref ml, .ref mu, .ref mp, .int (bI (ud)), .int (iI (cs)), .int (iI (mS)), .ref xu, .ref xf, .ref xt, .int (iI (mW)), .int (iI (mF)), .int (bI (rn)), .int (bI (sp)), .int (iI (nd)), .int (iI (rd)), .int (iI (li)), .ref pz, .int (iI (lt))])), (mg, fw_a kI 8 (gG)), (md, fw_a kI 8 (gD))] := hD
      refine fw_cast (show (.int (bI (decide (0 < fc_thr false true false false))) : Value) = .int (bI (true)) from congrArg (fun b => Value.int (bI b)) (by decide)) ?_
      refine fw_bif_eq (tgt := 51) hx hb d_M_order_46 (by decide) (fun c_3 => ?_) (fun c_3 => ?_)
      · exact absurd c_3 (by decide)
      · refine lv_iconst (v := (iI (0))) hx hb d_M_order_49 (by decide) ?_
        have e9 : k_order mO g du = (fc_thr false true false false) := by simp [k_order, fc_thr, c_1, c_2] <;> omega
        have e8 : ¬ k_order mO g du = 0 := by rw [e9]; decide
        refine fw_iret hx hb hr hlocks hS ?_ ?_ d_M_order_50
        · exact Or.inl ⟨e8, by rw [e9]; exact hP⟩
        · rw [if_neg e8]
    · refine lv_iload_n hx hb d_M_order_25 rfl (lv_at hl 2 rfl) ?_
      refine lv_iconst (v := (iI (0))) hx hb d_M_order_26 (by decide) ?_
      refine lv_sipush (v := (iI (200))) hx hb d_M_order_27 (by decide) ?_
      refine fw_callR (va_runS (As := [.int (iI (du)), .int (iI (0)), .int (iI (200))]) (rest := [.int (bI (false)), .ref mm]) ⟨hx, hb, hml, hown, hts⟩ (c_M_in l dC dI  du 0 200 ⟨by omega, by omega⟩ ⟨by omega, by omega⟩ ⟨by omega, by omega⟩) (cwS 3 hts (gw_S kw_649 kw_650 kw_5 kw_651) rfl rfl rfl (by decide +kernel) ⟨Nat.le_of_ble_eq_true rfl, Nat.le_of_ble_eq_true rfl⟩) (fw_preRS hP hK hN [] [] rfl rfl) rfl rfl hl.1 rfl (lv_room (Nat.le_of_ble_eq_true rfl)) d_M_order_30 ⟨Nat.le_of_ble_eq_true rfl, Nat.le_of_ble_eq_true rfl⟩).run ?_
      refine fw_bif_ne (tgt := 40) hx hb d_M_order_33 (by decide) (fun c_4 => ?_) (fun c_4 => ?_)
      · refine lv_iconst (v := (bI (false))) hx hb d_M_order_40 (by decide) ?_
        refine lv_iconst (v := (bI (false))) hx hb d_M_order_41 (by decide) ?_
        refine lv_iconst (v := (bI (false))) hx hb d_M_order_42 (by decide) ?_
        refine fw_calliP [0] (va_runV (As := [.int (bI (false)), .int (bI (false)), .int (bI (false)), .int (bI (false))]) (rest := []) ⟨hx, hb, hml, hown, hts⟩ (c_M_throwing l dC dI  _ mm th mO mg md mH ml mu mp ud cs mS xu xf xt mW mF rn sp nd rd li pz lt false false false false ) (cwV 4 hts (gw_V kw_652 kw_654 ks_M_throwing kw_5 kw_655) rfl rfl rfl (by decide +kernel) ⟨Nat.le_of_ble_eq_true rfl, Nat.le_of_ble_eq_true rfl⟩) (fw_preV (ci := 4) (q0 := 0) hP hK hD hN [0] [] rfl rfl rfl rfl rfl) rfl rfl hl.1 rfl (lv_room (Nat.le_of_ble_eq_true rfl)) d_M_order_43 ⟨Nat.le_of_ble_eq_true rfl, Nat.le_of_ble_eq_true rfl⟩) hP hD hS hA rfl rfl rfl (fun H locs hP hD hS => ?_)
        have hP : va_P (dC, dI) cls_ [(mm, .inr (4, [.int (iI (fc_thr false false false false)), .int (iI (mO)), .ref mg, .ref md, .int (iI (mH)), .ref ml, .ref mu, .ref mp, .int (bI (ud)), .int (iI (cs)), .int (iI (mS)), .ref xu, .ref xf, .ref xt, .int (iI (mW)), .int (iI (mF)), .int (bI (rn)), .int (bI (sp)), .int (iI (nd)), .int (iI (rd)), .int (iI (li)), .ref pz, .int (iI (lt))])), (mg, fw_a kI 8 (gG)), (md, fw_a kI 8 (gD))] H := hP
        have hD : va_D A [(mm, .inr (4, [.int (iI (fc_thr false false false false)), .int (iI (mO)), .ref mg, .ref md, .int (iI (mH)), .ref ml, .ref mu, .ref mp, .int (bI (ud)), .int (iI (cs)), .int (iI (mS)), .ref xu, .ref xf, .ref xt, .int (iI (mW)), .int (iI (mF)), .int (bI (rn)), .int (bI (sp)), .int (iI (nd)), .int (iI (rd)), .int (iI (li)), .ref pz, .int (iI (lt))])), (mg, fw_a kI 8 (gG)), (md, fw_a kI 8 (gD))] := hD
        refine fw_cast (show (.int (bI (decide (0 < fc_thr false false false false))) : Value) = .int (bI (false)) from congrArg (fun b => Value.int (bI b)) (by decide)) ?_
        refine fw_bif_eq (tgt := 51) hx hb d_M_order_46 (by decide) (fun c_5 => ?_) (fun c_5 => ?_)
        · refine lv_aload_n hx hb d_M_order_51 rfl (lv_at hl 0 rfl) ?_
          refine va_get (D := (dC, dI)) (ci := 4) (v := .ref mg) (C := R_M) (T := T_M) (N := 23) hx hb hts in_M hown hK hP 0 rfl rfl 2 (by decide) (hts _ kw_573) (fun _ h9 => h9) rfl d_M_order_52 ?_
          refine lv_aload_n hx hb d_M_order_55 rfl (lv_at hl 0 rfl) ?_
          refine va_get (D := (dC, dI)) (ci := 4) (v := .int (iI (mO))) (C := R_M) (T := T_M) (N := 23) hx hb hts in_M hown hK hP 0 rfl rfl 1 (by decide) (hts _ kw_572) (fun _ h9 => h9) rfl d_M_order_56 ?_
          refine lv_iload_n hx hb d_M_order_59 rfl (lv_at hl 1 rfl) ?_
          refine fw_iast hx hb hK hP hD hS 1 0 rfl rfl ((mO).toNat) (by omega) (by omega) (by omega) d_M_order_60 (fun H locs hP hD hS => ?_)
          have hP : va_P (dC, dI) cls_ [(mm, .inr (4, [.int (iI (fc_thr false false false false)), .int (iI (mO)), .ref mg, .ref md, .int (iI (mH)), .ref ml, .ref mu, .ref mp, .int (bI (ud)), .int (iI (cs)), .int (iI (mS)), .ref xu, .ref xf, .ref xt, .int (iI (mW)), .int (iI (mF)), .int (bI (rn)), .int (bI (sp)), .int (iI (nd)), .int (iI (rd)), .int (iI (li)), .ref pz, .int (iI (lt))])), (mg, fw_a kI 8 (fw_up gG ((mO).toNat) g)), (md, fw_a kI 8 (gD))] H := hP
          have hD : va_D A [(mm, .inr (4, [.int (iI (fc_thr false false false false)), .int (iI (mO)), .ref mg, .ref md, .int (iI (mH)), .ref ml, .ref mu, .ref mp, .int (bI (ud)), .int (iI (cs)), .int (iI (mS)), .ref xu, .ref xf, .ref xt, .int (iI (mW)), .int (iI (mF)), .int (bI (rn)), .int (bI (sp)), .int (iI (nd)), .int (iI (rd)), .int (iI (li)), .ref pz, .int (iI (lt))])), (mg, fw_a kI 8 (fw_up gG ((mO).toNat) g)), (md, fw_a kI 8 (gD))] := hD
          refine lv_aload_n hx hb d_M_order_61 rfl (lv_at hl 0 rfl) ?_
          refine va_get (D := (dC, dI)) (ci := 4) (v := .ref md) (C := R_M) (T := T_M) (N := 23) hx hb hts in_M hown hK hP 0 rfl rfl 3 (by decide) (hts _ kw_574) (fun _ h9 => h9) rfl d_M_order_62 ?_
          refine lv_aload_n hx hb d_M_order_65 rfl (lv_at hl 0 rfl) ?_
          refine va_get (D := (dC, dI)) (ci := 4) (v := .int (iI (mO))) (C := R_M) (T := T_M) (N := 23) hx hb hts in_M hown hK hP 0 rfl rfl 1 (by decide) (hts _ kw_572) (fun _ h9 => h9) rfl d_M_order_66 ?_
          refine lv_iload_n hx hb d_M_order_69 rfl (lv_at hl 2 rfl) ?_
          refine fw_iast hx hb hK hP hD hS 2 0 rfl rfl ((mO).toNat) (by omega) (by omega) (by omega) d_M_order_70 (fun H locs hP hD hS => ?_)
          have hP : va_P (dC, dI) cls_ [(mm, .inr (4, [.int (iI (fc_thr false false false false)), .int (iI (mO)), .ref mg, .ref md, .int (iI (mH)), .ref ml, .ref mu, .ref mp, .int (bI (ud)), .int (iI (cs)), .int (iI (mS)), .ref xu, .ref xf, .ref xt, .int (iI (mW)), .int (iI (mF)), .int (bI (rn)), .int (bI (sp)), .int (iI (nd)), .int (iI (rd)), .int (iI (li)), .ref pz, .int (iI (lt))])), (mg, fw_a kI 8 (fw_up gG ((mO).toNat) g)), (md, fw_a kI 8 (fw_up gD ((mO).toNat) du))] H := hP
          have hD : va_D A [(mm, .inr (4, [.int (iI (fc_thr false false false false)), .int (iI (mO)), .ref mg, .ref md, .int (iI (mH)), .ref ml, .ref mu, .ref mp, .int (bI (ud)), .int (iI (cs)), .int (iI (mS)), .ref xu, .ref xf, .ref xt, .int (iI (mW)), .int (iI (mF)), .int (bI (rn)), .int (bI (sp)), .int (iI (nd)), .int (iI (rd)), .int (iI (li)), .ref pz, .int (iI (lt))])), (mg, fw_a kI 8 (fw_up gG ((mO).toNat) g)), (md, fw_a kI 8 (fw_up gD ((mO).toNat) du))] := hD
          refine lv_aload_n hx hb d_M_order_71 rfl (lv_at hl 0 rfl) ?_
          refine lv_dup hx hb d_M_order_72 rfl ?_
          refine va_get (D := (dC, dI)) (ci := 4) (v := .int (iI (mO))) (C := R_M) (T := T_M) (N := 23) hx hb hts in_M hown hK hP 0 rfl rfl 1 (by decide) (hts _ kw_572) (fun _ h9 => h9) rfl d_M_order_73 ?_
          refine lv_iconst (v := (iI (1))) hx hb d_M_order_76 (by decide) ?_
          refine fw_iadd hx hb d_M_order_77 ?_
          refine va_put (D := (dC, dI)) (ci := 4) (v := .int (iI (mO + 1))) (ty := .int) (C := R_M) (T := T_M) (N := 23) hx hb hts in_M t_M t_M_ok n_M hown hK hP hD hS 0 rfl rfl 1 (by decide) (hts _ kw_572) (fun _ h9 => h9) rfl (by decide +kernel) rfl rfl (Nat.le_of_ble_eq_true rfl) d_M_order_78 (fun H locs hP hD hS => ?_)
          have hP : va_P (dC, dI) cls_ [(mm, .inr (4, [.int (iI (fc_thr false false false false)), .int (iI (mO + 1)), .ref mg, .ref md, .int (iI (mH)), .ref ml, .ref mu, .ref mp, .int (bI (ud)), .int (iI (cs)), .int (iI (mS)), .ref xu, .ref xf, .ref xt, .int (iI (mW)), .int (iI (mF)), .int (bI (rn)), .int (bI (sp)), .int (iI (nd)), .int (iI (rd)), .int (iI (li)), .ref pz, .int (iI (lt))])), (mg, fw_a kI 8 (fw_up gG ((mO).toNat) g)), (md, fw_a kI 8 (fw_up gD ((mO).toNat) du))] H := hP
          have hD : va_D A [(mm, .inr (4, [.int (iI (fc_thr false false false false)), .int (iI (mO + 1)), .ref mg, .ref md, .int (iI (mH)), .ref ml, .ref mu, .ref mp, .int (bI (ud)), .int (iI (cs)), .int (iI (mS)), .ref xu, .ref xf, .ref xt, .int (iI (mW)), .int (iI (mF)), .int (bI (rn)), .int (bI (sp)), .int (iI (nd)), .int (iI (rd)), .int (iI (li)), .ref pz, .int (iI (lt))])), (mg, fw_a kI 8 (fw_up gG ((mO).toNat) g)), (md, fw_a kI 8 (fw_up gD ((mO).toNat) du))] := hD
          refine lv_aload_n hx hb d_M_order_81 rfl (lv_at hl 0 rfl) ?_
          refine va_get (D := (dC, dI)) (ci := 4) (v := .int (iI (mO + 1))) (C := R_M) (T := T_M) (N := 23) hx hb hts in_M hown hK hP 0 rfl rfl 1 (by decide) (hts _ kw_572) (fun _ h9 => h9) rfl d_M_order_82 ?_
          refine lv_iconst (v := (iI (1))) hx hb d_M_order_85 (by decide) ?_
          refine fw_isub hx hb d_M_order_86 ?_
          have e9 : k_order mO g du = 0 := by simp [k_order, c_1, c_2, c_4] <;> omega
          refine fw_iret hx hb hr hlocks hS ?_ ?_ d_M_order_87
          · exact Or.inr ⟨e9, hP⟩
          · rw [if_pos e9]
        · exact absurd c_5 (by decide)
      · refine lv_iconst (v := (bI (true))) hx hb d_M_order_36 (by decide) ?_
        refine lv_goto (tgt := 41) hx hb d_M_order_37 (by decide) ?_
        refine lv_iconst (v := (bI (false))) hx hb d_M_order_41 (by decide) ?_
        refine lv_iconst (v := (bI (false))) hx hb d_M_order_42 (by decide) ?_
        refine fw_calliP [0] (va_runV (As := [.int (bI (false)), .int (bI (true)), .int (bI (false)), .int (bI (false))]) (rest := []) ⟨hx, hb, hml, hown, hts⟩ (c_M_throwing l dC dI  _ mm th mO mg md mH ml mu mp ud cs mS xu xf xt mW mF rn sp nd rd li pz lt false true false false ) (cwV 4 hts (gw_V kw_652 kw_654 ks_M_throwing kw_5 kw_655) rfl rfl rfl (by decide +kernel) ⟨Nat.le_of_ble_eq_true rfl, Nat.le_of_ble_eq_true rfl⟩) (fw_preV (ci := 4) (q0 := 0) hP hK hD hN [0] [] rfl rfl rfl rfl rfl) rfl rfl hl.1 rfl (lv_room (Nat.le_of_ble_eq_true rfl)) d_M_order_43 ⟨Nat.le_of_ble_eq_true rfl, Nat.le_of_ble_eq_true rfl⟩) hP hD hS hA rfl rfl rfl (fun H locs hP hD hS => ?_)
        have hP : va_P (dC, dI) cls_ [(mm, .inr (4, [.int (iI (fc_thr false true false false)), .int (iI (mO)), .ref mg, .ref md, .int (iI (mH)), .ref ml, .ref mu, .ref mp, .int (bI (ud)), .int (iI (cs)), .int (iI (mS)), .ref xu, .ref xf, .ref xt, .int (iI (mW)), .int (iI (mF)), .int (bI (rn)), .int (bI (sp)), .int (iI (nd)), .int (iI (rd)), .int (iI (li)), .ref pz, .int (iI (lt))])), (mg, fw_a kI 8 (gG)), (md, fw_a kI 8 (gD))] H := hP
        have hD : va_D A [(mm, .inr (4, [.int (iI (fc_thr false true false false)), .int (iI (mO)), .ref mg, .ref md, .int (iI (mH)), .ref ml, .ref mu, .ref mp, .int (bI (ud)), .int (iI (cs)), .int (iI (mS)), .ref xu, .ref xf, .ref xt, .int (iI (mW)), .int (iI (mF)), .int (bI (rn)), .int (bI (sp)), .int (iI (nd)), .int (iI (rd)), .int (iI (li)), .ref pz, .int (iI (lt))])), (mg, fw_a kI 8 (gG)), (md, fw_a kI 8 (gD))] := hD
        refine fw_cast (show (.int (bI (decide (0 < fc_thr false true false false))) : Value) = .int (bI (true)) from congrArg (fun b => Value.int (bI b)) (by decide)) ?_
        refine fw_bif_eq (tgt := 51) hx hb d_M_order_46 (by decide) (fun c_6 => ?_) (fun c_6 => ?_)
        · exact absurd c_6 (by decide)
        · refine lv_iconst (v := (iI (0))) hx hb d_M_order_49 (by decide) ?_
          have e9 : k_order mO g du = (fc_thr false true false false) := by simp [k_order, fc_thr, c_1, c_2, c_4] <;> omega
          have e8 : ¬ k_order mO g du = 0 := by rw [e9]; decide
          refine fw_iret hx hb hr hlocks hS ?_ ?_ d_M_order_50
          · exact Or.inl ⟨e8, by rw [e9]; exact hP⟩
          · rw [if_neg e8]
  · refine lv_iconst (v := (bI (true))) hx hb d_M_order_10 (by decide) ?_
    refine lv_goto (tgt := 15) hx hb d_M_order_11 (by decide) ?_
    refine lv_iload_n hx hb d_M_order_15 rfl (lv_at hl 1 rfl) ?_
    refine lv_iconst (v := (iI (0))) hx hb d_M_order_16 (by decide) ?_
    refine lv_bipush (v := (iI (9))) hx hb d_M_order_17 (by decide) ?_
    refine fw_callR (va_runS (As := [.int (iI (g)), .int (iI (0)), .int (iI (9))]) (rest := [.int (bI (true)), .ref mm]) ⟨hx, hb, hml, hown, hts⟩ (c_M_in l dC dI  g 0 9 ⟨by omega, by omega⟩ ⟨by omega, by omega⟩ ⟨by omega, by omega⟩) (cwS 3 hts (gw_S kw_649 kw_650 kw_5 kw_651) rfl rfl rfl (by decide +kernel) ⟨Nat.le_of_ble_eq_true rfl, Nat.le_of_ble_eq_true rfl⟩) (fw_preRS hP hK hN [] [] rfl rfl) rfl rfl hl.1 rfl (lv_room (Nat.le_of_ble_eq_true rfl)) d_M_order_19 ⟨Nat.le_of_ble_eq_true rfl, Nat.le_of_ble_eq_true rfl⟩).run ?_
    refine fw_bif_eq (tgt := 36) hx hb d_M_order_22 (by decide) (fun c_7 => ?_) (fun c_7 => ?_)
    · refine lv_iconst (v := (bI (true))) hx hb d_M_order_36 (by decide) ?_
      refine lv_goto (tgt := 41) hx hb d_M_order_37 (by decide) ?_
      refine lv_iconst (v := (bI (false))) hx hb d_M_order_41 (by decide) ?_
      refine lv_iconst (v := (bI (false))) hx hb d_M_order_42 (by decide) ?_
      refine fw_calliP [0] (va_runV (As := [.int (bI (true)), .int (bI (true)), .int (bI (false)), .int (bI (false))]) (rest := []) ⟨hx, hb, hml, hown, hts⟩ (c_M_throwing l dC dI  _ mm th mO mg md mH ml mu mp ud cs mS xu xf xt mW mF rn sp nd rd li pz lt true true false false ) (cwV 4 hts (gw_V kw_652 kw_654 ks_M_throwing kw_5 kw_655) rfl rfl rfl (by decide +kernel) ⟨Nat.le_of_ble_eq_true rfl, Nat.le_of_ble_eq_true rfl⟩) (fw_preV (ci := 4) (q0 := 0) hP hK hD hN [0] [] rfl rfl rfl rfl rfl) rfl rfl hl.1 rfl (lv_room (Nat.le_of_ble_eq_true rfl)) d_M_order_43 ⟨Nat.le_of_ble_eq_true rfl, Nat.le_of_ble_eq_true rfl⟩) hP hD hS hA rfl rfl rfl (fun H locs hP hD hS => ?_)
      have hP : va_P (dC, dI) cls_ [(mm, .inr (4, [.int (iI (fc_thr true true false false)), .int (iI (mO)), .ref mg, .ref md, .int (iI (mH)), .ref ml, .ref mu, .ref mp, .int (bI (ud)), .int (iI (cs)), .int (iI (mS)), .ref xu, .ref xf, .ref xt, .int (iI (mW)), .int (iI (mF)), .int (bI (rn)), .int (bI (sp)), .int (iI (nd)), .int (iI (rd)), .int (iI (li)), .ref pz, .int (iI (lt))])), (mg, fw_a kI 8 (gG)), (md, fw_a kI 8 (gD))] H := hP
      have hD : va_D A [(mm, .inr (4, [.int (iI (fc_thr true true false false)), .int (iI (mO)), .ref mg, .ref md, .int (iI (mH)), .ref ml, .ref mu, .ref mp, .int (bI (ud)), .int (iI (cs)), .int (iI (mS)), .ref xu, .ref xf, .ref xt, .int (iI (mW)), .int (iI (mF)), .int (bI (rn)), .int (bI (sp)), .int (iI (nd)), .int (iI (rd)), .int (iI (li)), .ref pz, .int (iI (lt))])), (mg, fw_a kI 8 (gG)), (md, fw_a kI 8 (gD))] := hD
      refine fw_cast (show (.int (bI (decide (0 < fc_thr true true false false))) : Value) = .int (bI (true)) from congrArg (fun b => Value.int (bI b)) (by decide)) ?_
      refine fw_bif_eq (tgt := 51) hx hb d_M_order_46 (by decide) (fun c_8 => ?_) (fun c_8 => ?_)
      · exact absurd c_8 (by decide)
      · refine lv_iconst (v := (iI (0))) hx hb d_M_order_49 (by decide) ?_
        have e9 : k_order mO g du = (fc_thr true true false false) := by simp [k_order, fc_thr, c_1, c_7] <;> omega
        have e8 : ¬ k_order mO g du = 0 := by rw [e9]; decide
        refine fw_iret hx hb hr hlocks hS ?_ ?_ d_M_order_50
        · exact Or.inl ⟨e8, by rw [e9]; exact hP⟩
        · rw [if_neg e8]
    · refine lv_iload_n hx hb d_M_order_25 rfl (lv_at hl 2 rfl) ?_
      refine lv_iconst (v := (iI (0))) hx hb d_M_order_26 (by decide) ?_
      refine lv_sipush (v := (iI (200))) hx hb d_M_order_27 (by decide) ?_
      refine fw_callR (va_runS (As := [.int (iI (du)), .int (iI (0)), .int (iI (200))]) (rest := [.int (bI (true)), .ref mm]) ⟨hx, hb, hml, hown, hts⟩ (c_M_in l dC dI  du 0 200 ⟨by omega, by omega⟩ ⟨by omega, by omega⟩ ⟨by omega, by omega⟩) (cwS 3 hts (gw_S kw_649 kw_650 kw_5 kw_651) rfl rfl rfl (by decide +kernel) ⟨Nat.le_of_ble_eq_true rfl, Nat.le_of_ble_eq_true rfl⟩) (fw_preRS hP hK hN [] [] rfl rfl) rfl rfl hl.1 rfl (lv_room (Nat.le_of_ble_eq_true rfl)) d_M_order_30 ⟨Nat.le_of_ble_eq_true rfl, Nat.le_of_ble_eq_true rfl⟩).run ?_
      refine fw_bif_ne (tgt := 40) hx hb d_M_order_33 (by decide) (fun c_9 => ?_) (fun c_9 => ?_)
      · refine lv_iconst (v := (bI (false))) hx hb d_M_order_40 (by decide) ?_
        refine lv_iconst (v := (bI (false))) hx hb d_M_order_41 (by decide) ?_
        refine lv_iconst (v := (bI (false))) hx hb d_M_order_42 (by decide) ?_
        refine fw_calliP [0] (va_runV (As := [.int (bI (true)), .int (bI (false)), .int (bI (false)), .int (bI (false))]) (rest := []) ⟨hx, hb, hml, hown, hts⟩ (c_M_throwing l dC dI  _ mm th mO mg md mH ml mu mp ud cs mS xu xf xt mW mF rn sp nd rd li pz lt true false false false ) (cwV 4 hts (gw_V kw_652 kw_654 ks_M_throwing kw_5 kw_655) rfl rfl rfl (by decide +kernel) ⟨Nat.le_of_ble_eq_true rfl, Nat.le_of_ble_eq_true rfl⟩) (fw_preV (ci := 4) (q0 := 0) hP hK hD hN [0] [] rfl rfl rfl rfl rfl) rfl rfl hl.1 rfl (lv_room (Nat.le_of_ble_eq_true rfl)) d_M_order_43 ⟨Nat.le_of_ble_eq_true rfl, Nat.le_of_ble_eq_true rfl⟩) hP hD hS hA rfl rfl rfl (fun H locs hP hD hS => ?_)
        have hP : va_P (dC, dI) cls_ [(mm, .inr (4, [.int (iI (fc_thr true false false false)), .int (iI (mO)), .ref mg, .ref md, .int (iI (mH)), .ref ml, .ref mu, .ref mp, .int (bI (ud)), .int (iI (cs)), .int (iI (mS)), .ref xu, .ref xf, .ref xt, .int (iI (mW)), .int (iI (mF)), .int (bI (rn)), .int (bI (sp)), .int (iI (nd)), .int (iI (rd)), .int (iI (li)), .ref pz, .int (iI (lt))])), (mg, fw_a kI 8 (gG)), (md, fw_a kI 8 (gD))] H := hP
        have hD : va_D A [(mm, .inr (4, [.int (iI (fc_thr true false false false)), .int (iI (mO)), .ref mg, .ref md, .int (iI (mH)), .ref ml, .ref mu, .ref mp, .int (bI (ud)), .int (iI (cs)), .int (iI (mS)), .ref xu, .ref xf, .ref xt, .int (iI (mW)), .int (iI (mF)), .int (bI (rn)), .int (bI (sp)), .int (iI (nd)), .int (iI (rd)), .int (iI (li)), .ref pz, .int (iI (lt))])), (mg, fw_a kI 8 (gG)), (md, fw_a kI 8 (gD))] := hD
        refine fw_cast (show (.int (bI (decide (0 < fc_thr true false false false))) : Value) = .int (bI (true)) from congrArg (fun b => Value.int (bI b)) (by decide)) ?_
        refine fw_bif_eq (tgt := 51) hx hb d_M_order_46 (by decide) (fun c_10 => ?_) (fun c_10 => ?_)
        · exact absurd c_10 (by decide)
        · refine lv_iconst (v := (iI (0))) hx hb d_M_order_49 (by decide) ?_
          have e9 : k_order mO g du = (fc_thr true false false false) := by simp [k_order, fc_thr, c_1, c_7, c_9] <;> omega
          have e8 : ¬ k_order mO g du = 0 := by rw [e9]; decide
          refine fw_iret hx hb hr hlocks hS ?_ ?_ d_M_order_50
          · exact Or.inl ⟨e8, by rw [e9]; exact hP⟩
          · rw [if_neg e8]
      · refine lv_iconst (v := (bI (true))) hx hb d_M_order_36 (by decide) ?_
        refine lv_goto (tgt := 41) hx hb d_M_order_37 (by decide) ?_
        refine lv_iconst (v := (bI (false))) hx hb d_M_order_41 (by decide) ?_
        refine lv_iconst (v := (bI (false))) hx hb d_M_order_42 (by decide) ?_
        refine fw_calliP [0] (va_runV (As := [.int (bI (true)), .int (bI (true)), .int (bI (false)), .int (bI (false))]) (rest := []) ⟨hx, hb, hml, hown, hts⟩ (c_M_throwing l dC dI  _ mm th mO mg md mH ml mu mp ud cs mS xu xf xt mW mF rn sp nd rd li pz lt true true false false ) (cwV 4 hts (gw_V kw_652 kw_654 ks_M_throwing kw_5 kw_655) rfl rfl rfl (by decide +kernel) ⟨Nat.le_of_ble_eq_true rfl, Nat.le_of_ble_eq_true rfl⟩) (fw_preV (ci := 4) (q0 := 0) hP hK hD hN [0] [] rfl rfl rfl rfl rfl) rfl rfl hl.1 rfl (lv_room (Nat.le_of_ble_eq_true rfl)) d_M_order_43 ⟨Nat.le_of_ble_eq_true rfl, Nat.le_of_ble_eq_true rfl⟩) hP hD hS hA rfl rfl rfl (fun H locs hP hD hS => ?_)
        have hP : va_P (dC, dI) cls_ [(mm, .inr (4, [.int (iI (fc_thr true true false false)), .int (iI (mO)), .ref mg, .ref md, .int (iI (mH)), .ref ml, .ref mu, .ref mp, .int (bI (ud)), .int (iI (cs)), .int (iI (mS)), .ref xu, .ref xf, .ref xt, .int (iI (mW)), .int (iI (mF)), .int (bI (rn)), .int (bI (sp)), .int (iI (nd)), .int (iI (rd)), .int (iI (li)), .ref pz, .int (iI (lt))])), (mg, fw_a kI 8 (gG)), (md, fw_a kI 8 (gD))] H := hP
        have hD : va_D A [(mm, .inr (4, [.int (iI (fc_thr true true false false)), .int (iI (mO)), .ref mg, .ref md, .int (iI (mH)), .ref ml, .ref mu, .ref mp, .int (bI (ud)), .int (iI (cs)), .int (iI (mS)), .ref xu, .ref xf, .ref xt, .int (iI (mW)), .int (iI (mF)), .int (bI (rn)), .int (bI (sp)), .int (iI (nd)), .int (iI (rd)), .int (iI (li)), .ref pz, .int (iI (lt))])), (mg, fw_a kI 8 (gG)), (md, fw_a kI 8 (gD))] := hD
        refine fw_cast (show (.int (bI (decide (0 < fc_thr true true false false))) : Value) = .int (bI (true)) from congrArg (fun b => Value.int (bI b)) (by decide)) ?_
        refine fw_bif_eq (tgt := 51) hx hb d_M_order_46 (by decide) (fun c_11 => ?_) (fun c_11 => ?_)
        · exact absurd c_11 (by decide)
        · refine lv_iconst (v := (iI (0))) hx hb d_M_order_49 (by decide) ?_
          have e9 : k_order mO g du = (fc_thr true true false false) := by simp [k_order, fc_thr, c_1, c_7, c_9] <;> omega
          have e8 : ¬ k_order mO g du = 0 := by rw [e9]; decide
          refine fw_iret hx hb hr hlocks hS ?_ ?_ d_M_order_50
          · exact Or.inl ⟨e8, by rw [e9]; exact hP⟩
          · rw [if_neg e8]

set_option maxHeartbeats 4000000 in
set_option maxRecDepth 100000 in
theorem c_M_stop (l : Launch) (dC : Nat → ClassId) (dI : Nat → Nat → Nat) (sz : Nat) (mm : Nat) (th : Int) (mO : Int) (mg : Nat) (md : Nat) (mH : Int) (ml : Nat) (mu : Nat) (mp : Nat) (ud : Bool) (cs : Int) (mS : Int) (xu : Nat) (xf : Nat) (xt : Nat) (mW : Int) (mF : Int) (rn : Bool) (sp : Bool) (nd : Int) (rd : Int) (li : Int) (pz : Nat) (lt : Int) (xU : Nat → Int) (xF : Nat → Int) (xT : Nat → Int) (kI : ClassId) (u : Int) (a : Int) (b : Int) (h1 : 0 ≤ mS) (h2 : mS ≤ 10) (hb_u : fw_b u) (hb_a : fw_b a) (hb_b : fw_b b) : Met l y_M_stop (Cond.code y_M_stop b_M_stop 5 (some .int) :: gw) ({ frames := 1, locals := 24, cells := 0, slots := 0 }) (fw_Pc (dC, dI) [.ref mm, .int (iI (u)), .int (iI (a)), .int (iI (b))] [(mm, .inr (4, [.int (iI (th)), .int (iI (mO)), .ref mg, .ref md, .int (iI (mH)), .ref ml, .ref mu, .ref mp, .int (bI (ud)), .int (iI (cs)), .int (iI (mS)), .ref xu, .ref xf, .ref xt, .int (iI (mW)), .int (iI (mF)), .int (bI (rn)), .int (bI (sp)), .int (iI (nd)), .int (iI (rd)), .int (iI (li)), .ref pz, .int (iI (lt))])), (xu, fw_a kI 10 (xU)), (xf, fw_a kI 10 (xF)), (xt, fw_a kI 10 (xT))] [(kI, .int)] sz) (fw_Qi (iI (if k_stop mS u a b = 0 then mS + 1 else 0)) (fun H => (¬ k_stop mS u a b = 0 ∧ va_P (dC, dI) cls_ [(mm, .inr (4, [.int (iI (k_stop mS u a b)), .int (iI (mO)), .ref mg, .ref md, .int (iI (mH)), .ref ml, .ref mu, .ref mp, .int (bI (ud)), .int (iI (cs)), .int (iI (mS)), .ref xu, .ref xf, .ref xt, .int (iI (mW)), .int (iI (mF)), .int (bI (rn)), .int (bI (sp)), .int (iI (nd)), .int (iI (rd)), .int (iI (li)), .ref pz, .int (iI (lt))])), (xu, fw_a kI 10 (xU)), (xf, fw_a kI 10 (xF)), (xt, fw_a kI 10 (xT))] H) ∨ (k_stop mS u a b = 0 ∧ va_P (dC, dI) cls_ [(mm, .inr (4, [.int (iI (0)), .int (iI (mO)), .ref mg, .ref md, .int (iI (mH)), .ref ml, .ref mu, .ref mp, .int (bI (ud)), .int (iI (cs)), .int (iI (mS + 1)), .ref xu, .ref xf, .ref xt, .int (iI (mW)), .int (iI (mF)), .int (bI (rn)), .int (bI (sp)), .int (iI (nd)), .int (iI (rd)), .int (iI (li)), .ref pz, .int (iI (lt))])), (xu, fw_a kI 10 (fw_up xU mS.toNat u)), (xf, fw_a kI 10 (fw_up xF mS.toNat a)), (xt, fw_a kI 10 (fw_up xT mS.toNat b))] H)) (va_A [(mm, .inr (4, [.int (iI (th)), .int (iI (mO)), .ref mg, .ref md, .int (iI (mH)), .ref ml, .ref mu, .ref mp, .int (bI (ud)), .int (iI (cs)), .int (iI (mS)), .ref xu, .ref xf, .ref xt, .int (iI (mW)), .int (iI (mF)), .int (bI (rn)), .int (bI (sp)), .int (iI (nd)), .int (iI (rd)), .int (iI (li)), .ref pz, .int (iI (lt))])), (xu, fw_a kI 10 (xU)), (xf, fw_a kI 10 (xF)), (xt, fw_a kI 10 (xT))] sz)) 0 0 (va_A [(mm, .inr (4, [.int (iI (th)), .int (iI (mO)), .ref mg, .ref md, .int (iI (mH)), .ref ml, .ref mu, .ref mp, .int (bI (ud)), .int (iI (cs)), .int (iI (mS)), .ref xu, .ref xf, .ref xt, .int (iI (mW)), .int (iI (mF)), .int (bI (rn)), .int (bI (sp)), .int (iI (nd)), .int (iI (rd)), .int (iI (li)), .ref pz, .int (iI (lt))])), (xu, fw_a kI 10 (xU)), (xf, fw_a kI 10 (xF)), (xt, fw_a kI 10 (xT))] sz) := by
  refine fw_ofW (Qc := fun A => fw_Qi (iI (if k_stop mS u a b = 0 then mS + 1 else 0)) (fun H => (¬ k_stop mS u a b = 0 ∧ va_P (dC, dI) cls_ [(mm, .inr (4, [.int (iI (k_stop mS u a b)), .int (iI (mO)), .ref mg, .ref md, .int (iI (mH)), .ref ml, .ref mu, .ref mp, .int (bI (ud)), .int (iI (cs)), .int (iI (mS)), .ref xu, .ref xf, .ref xt, .int (iI (mW)), .int (iI (mF)), .int (bI (rn)), .int (bI (sp)), .int (iI (nd)), .int (iI (rd)), .int (iI (li)), .ref pz, .int (iI (lt))])), (xu, fw_a kI 10 (xU)), (xf, fw_a kI 10 (xF)), (xt, fw_a kI 10 (xT))] H) ∨ (k_stop mS u a b = 0 ∧ va_P (dC, dI) cls_ [(mm, .inr (4, [.int (iI (0)), .int (iI (mO)), .ref mg, .ref md, .int (iI (mH)), .ref ml, .ref mu, .ref mp, .int (bI (ud)), .int (iI (cs)), .int (iI (mS + 1)), .ref xu, .ref xf, .ref xt, .int (iI (mW)), .int (iI (mF)), .int (bI (rn)), .int (bI (sp)), .int (iI (nd)), .int (iI (rd)), .int (iI (li)), .ref pz, .int (iI (lt))])), (xu, fw_a kI 10 (fw_up xU mS.toNat u)), (xf, fw_a kI 10 (fw_up xF mS.toNat a)), (xt, fw_a kI 10 (fw_up xT mS.toNat b))] H)) A) (by decide) (Nat.le_of_ble_eq_true rfl) ?_
  intro p e s m below meth c A ls hx hb hr hts hown hlocks hnm hml hsz hP hK hD hN hA hS hl
  have hl : lv_has ls 5 [(0, .ref mm), (1, .int (iI (u))), (2, .int (iI (a))), (3, .int (iI (b)))] := hl
  refine lv_iload_n hx hb d_M_stop_0 rfl (lv_at hl 2 rfl) ?_
  refine lv_iconst (v := (iI (0))) hx hb d_M_stop_1 (by decide) ?_
  refine lv_bipush (v := (iI (60))) hx hb d_M_stop_2 (by decide) ?_
  refine fw_callR (va_runS (As := [.int (iI (a)), .int (iI (0)), .int (iI (60))]) (rest := []) ⟨hx, hb, hml, hown, hts⟩ (c_M_in l dC dI  a 0 60 ⟨by omega, by omega⟩ ⟨by omega, by omega⟩ ⟨by omega, by omega⟩) (cwS 3 hts (gw_S kw_649 kw_650 kw_5 kw_651) rfl rfl rfl (by decide +kernel) ⟨Nat.le_of_ble_eq_true rfl, Nat.le_of_ble_eq_true rfl⟩) (fw_preRS hP hK hN [] [] rfl rfl) rfl rfl hl.1 rfl (lv_room (Nat.le_of_ble_eq_true rfl)) d_M_stop_4 ⟨Nat.le_of_ble_eq_true rfl, Nat.le_of_ble_eq_true rfl⟩).run ?_
  refine fw_bif_eq (tgt := 25) hx hb d_M_stop_7 (by decide) (fun c_1 => ?_) (fun c_1 => ?_)
  · refine lv_iconst (v := (bI (true))) hx hb d_M_stop_25 (by decide) ?_
    refine lv_goto (tgt := 30) hx hb d_M_stop_26 (by decide) ?_
    refine lv_istore (lv' := [(4, .int (bI (true))), (0, .ref mm), (1, .int (iI (u))), (2, .int (iI (a))), (3, .int (iI (b)))]) hx hb d_M_stop_30 hl (by decide) rfl (fun ls hl => ?_)
    refine lv_aload_n hx hb d_M_stop_32 rfl (lv_at hl 1 rfl) ?_
    refine lv_iload_n hx hb d_M_stop_33 rfl (lv_at hl 2 rfl) ?_
    refine lv_iconst (v := (iI (0))) hx hb d_M_stop_34 (by decide) ?_
    refine lv_iconst (v := (iI (2))) hx hb d_M_stop_35 (by decide) ?_
    refine fw_callR (va_runS (As := [.int (iI (u)), .int (iI (0)), .int (iI (2))]) (rest := [.ref mm]) ⟨hx, hb, hml, hown, hts⟩ (c_M_in l dC dI  u 0 2 ⟨by omega, by omega⟩ ⟨by omega, by omega⟩ ⟨by omega, by omega⟩) (cwS 3 hts (gw_S kw_649 kw_650 kw_5 kw_651) rfl rfl rfl (by decide +kernel) ⟨Nat.le_of_ble_eq_true rfl, Nat.le_of_ble_eq_true rfl⟩) (fw_preRS hP hK hN [] [] rfl rfl) rfl rfl hl.1 rfl (lv_room (Nat.le_of_ble_eq_true rfl)) d_M_stop_36 ⟨Nat.le_of_ble_eq_true rfl, Nat.le_of_ble_eq_true rfl⟩).run ?_
    refine fw_bif_ne (tgt := 46) hx hb d_M_stop_39 (by decide) (fun c_2 => ?_) (fun c_2 => ?_)
    · refine lv_iconst (v := (bI (false))) hx hb d_M_stop_46 (by decide) ?_
      refine lv_aload_n hx hb d_M_stop_47 rfl (lv_at hl 1 rfl) ?_
      refine va_get (D := (dC, dI)) (ci := 4) (v := .int (iI (mS))) (C := R_M) (T := T_M) (N := 23) hx hb hts in_M hown hK hP 0 rfl rfl 10 (by decide) (hts _ kw_581) (fun _ h9 => h9) rfl d_M_stop_48 ?_
      refine lv_bipush (v := (iI (10))) hx hb d_M_stop_51 (by decide) ?_
      refine fw_icmp_ne (tgt := 60) hx hb d_M_stop_53 (by decide) ⟨by omega, by omega⟩ ⟨by omega, by omega⟩ (fun c_3 => ?_) (fun c_3 => ?_)
      · refine lv_iconst (v := (bI (false))) hx hb d_M_stop_60 (by decide) ?_
        refine lv_iload hx hb d_M_stop_61 (lv_at hl 0 rfl) ?_
        refine lv_iconst (v := (bI (false))) hx hb d_M_stop_63 (by decide) ?_
        refine fw_calliP [0] (va_runV (As := [.int (bI (false)), .int (bI (false)), .int (bI (true)), .int (bI (false))]) (rest := []) ⟨hx, hb, hml, hown, hts⟩ (c_M_throwing l dC dI  _ mm th mO mg md mH ml mu mp ud cs mS xu xf xt mW mF rn sp nd rd li pz lt false false true false ) (cwV 4 hts (gw_V kw_652 kw_654 ks_M_throwing kw_5 kw_655) rfl rfl rfl (by decide +kernel) ⟨Nat.le_of_ble_eq_true rfl, Nat.le_of_ble_eq_true rfl⟩) (fw_preV (ci := 4) (q0 := 0) hP hK hD hN [0] [] rfl rfl rfl rfl rfl) rfl rfl hl.1 rfl (lv_room (Nat.le_of_ble_eq_true rfl)) d_M_stop_64 ⟨Nat.le_of_ble_eq_true rfl, Nat.le_of_ble_eq_true rfl⟩) hP hD hS hA rfl rfl rfl (fun H locs hP hD hS => ?_)
        have hP : va_P (dC, dI) cls_ [(mm, .inr (4, [.int (iI (fc_thr false false true false)), .int (iI (mO)), .ref mg, .ref md, .int (iI (mH)), .ref ml, .ref mu, .ref mp, .int (bI (ud)), .int (iI (cs)), .int (iI (mS)), .ref xu, .ref xf, .ref xt, .int (iI (mW)), .int (iI (mF)), .int (bI (rn)), .int (bI (sp)), .int (iI (nd)), .int (iI (rd)), .int (iI (li)), .ref pz, .int (iI (lt))])), (xu, fw_a kI 10 (xU)), (xf, fw_a kI 10 (xF)), (xt, fw_a kI 10 (xT))] H := hP
        have hD : va_D A [(mm, .inr (4, [.int (iI (fc_thr false false true false)), .int (iI (mO)), .ref mg, .ref md, .int (iI (mH)), .ref ml, .ref mu, .ref mp, .int (bI (ud)), .int (iI (cs)), .int (iI (mS)), .ref xu, .ref xf, .ref xt, .int (iI (mW)), .int (iI (mF)), .int (bI (rn)), .int (bI (sp)), .int (iI (nd)), .int (iI (rd)), .int (iI (li)), .ref pz, .int (iI (lt))])), (xu, fw_a kI 10 (xU)), (xf, fw_a kI 10 (xF)), (xt, fw_a kI 10 (xT))] := hD
        refine fw_cast (show (.int (bI (decide (0 < fc_thr false false true false))) : Value) = .int (bI (true)) from congrArg (fun b => Value.int (bI b)) (by decide)) ?_
        refine fw_bif_eq (tgt := 72) hx hb d_M_stop_67 (by decide) (fun c_4 => ?_) (fun c_4 => ?_)
        · exact absurd c_4 (by decide)
        · refine lv_iconst (v := (iI (0))) hx hb d_M_stop_70 (by decide) ?_
          have e9 : k_stop mS u a b = (fc_thr false false true false) := by simp [k_stop, fc_thr, c_1, c_2, c_3] <;> omega
          have e8 : ¬ k_stop mS u a b = 0 := by rw [e9]; decide
          refine fw_iret hx hb hr hlocks hS ?_ ?_ d_M_stop_71
          · exact Or.inl ⟨e8, by rw [e9]; exact hP⟩
          · rw [if_neg e8]
      · refine lv_iconst (v := (bI (true))) hx hb d_M_stop_56 (by decide) ?_
        refine lv_goto (tgt := 61) hx hb d_M_stop_57 (by decide) ?_
        refine lv_iload hx hb d_M_stop_61 (lv_at hl 0 rfl) ?_
        refine lv_iconst (v := (bI (false))) hx hb d_M_stop_63 (by decide) ?_
        refine fw_calliP [0] (va_runV (As := [.int (bI (false)), .int (bI (true)), .int (bI (true)), .int (bI (false))]) (rest := []) ⟨hx, hb, hml, hown, hts⟩ (c_M_throwing l dC dI  _ mm th mO mg md mH ml mu mp ud cs mS xu xf xt mW mF rn sp nd rd li pz lt false true true false ) (cwV 4 hts (gw_V kw_652 kw_654 ks_M_throwing kw_5 kw_655) rfl rfl rfl (by decide +kernel) ⟨Nat.le_of_ble_eq_true rfl, Nat.le_of_ble_eq_true rfl⟩) (fw_preV (ci := 4) (q0 := 0) hP hK hD hN [0] [] rfl rfl rfl rfl rfl) rfl rfl hl.1 rfl (lv_room (Nat.le_of_ble_eq_true rfl)) d_M_stop_64 ⟨Nat.le_of_ble_eq_true rfl, Nat.le_of_ble_eq_true rfl⟩) hP hD hS hA rfl rfl rfl (fun H locs hP hD hS => ?_)
        have hP : va_P (dC, dI) cls_ [(mm, .inr (4, [.int (iI (fc_thr false true true false)), .int (iI (mO)), .ref mg, .ref md, .int (iI (mH)), .ref ml, .ref mu, .ref mp, .int (bI (ud)), .int (iI (cs)), .int (iI (mS)), .ref xu, .ref xf, .ref xt, .int (iI (mW)), .int (iI (mF)), .int (bI (rn)), .int (bI (sp)), .int (iI (nd)), .int (iI (rd)), .int (iI (li)), .ref pz, .int (iI (lt))])), (xu, fw_a kI 10 (xU)), (xf, fw_a kI 10 (xF)), (xt, fw_a kI 10 (xT))] H := hP
        have hD : va_D A [(mm, .inr (4, [.int (iI (fc_thr false true true false)), .int (iI (mO)), .ref mg, .ref md, .int (iI (mH)), .ref ml, .ref mu, .ref mp, .int (bI (ud)), .int (iI (cs)), .int (iI (mS)), .ref xu, .ref xf, .ref xt, .int (iI (mW)), .int (iI (mF)), .int (bI (rn)), .int (bI (sp)), .int (iI (nd)), .int (iI (rd)), .int (iI (li)), .ref pz, .int (iI (lt))])), (xu, fw_a kI 10 (xU)), (xf, fw_a kI 10 (xF)), (xt, fw_a kI 10 (xT))] := hD
        refine fw_cast (show (.int (bI (decide (0 < fc_thr false true true false))) : Value) = .int (bI (true)) from congrArg (fun b => Value.int (bI b)) (by decide)) ?_
        refine fw_bif_eq (tgt := 72) hx hb d_M_stop_67 (by decide) (fun c_5 => ?_) (fun c_5 => ?_)
        · exact absurd c_5 (by decide)
        · refine lv_iconst (v := (iI (0))) hx hb d_M_stop_70 (by decide) ?_
          have e9 : k_stop mS u a b = (fc_thr false true true false) := by simp [k_stop, fc_thr, c_1, c_2, c_3] <;> omega
          have e8 : ¬ k_stop mS u a b = 0 := by rw [e9]; decide
          refine fw_iret hx hb hr hlocks hS ?_ ?_ d_M_stop_71
          · exact Or.inl ⟨e8, by rw [e9]; exact hP⟩
          · rw [if_neg e8]
    · refine lv_iconst (v := (bI (true))) hx hb d_M_stop_42 (by decide) ?_
      refine lv_goto (tgt := 47) hx hb d_M_stop_43 (by decide) ?_
      refine lv_aload_n hx hb d_M_stop_47 rfl (lv_at hl 1 rfl) ?_
      refine va_get (D := (dC, dI)) (ci := 4) (v := .int (iI (mS))) (C := R_M) (T := T_M) (N := 23) hx hb hts in_M hown hK hP 0 rfl rfl 10 (by decide) (hts _ kw_581) (fun _ h9 => h9) rfl d_M_stop_48 ?_
      refine lv_bipush (v := (iI (10))) hx hb d_M_stop_51 (by decide) ?_
      refine fw_icmp_ne (tgt := 60) hx hb d_M_stop_53 (by decide) ⟨by omega, by omega⟩ ⟨by omega, by omega⟩ (fun c_6 => ?_) (fun c_6 => ?_)
      · refine lv_iconst (v := (bI (false))) hx hb d_M_stop_60 (by decide) ?_
        refine lv_iload hx hb d_M_stop_61 (lv_at hl 0 rfl) ?_
        refine lv_iconst (v := (bI (false))) hx hb d_M_stop_63 (by decide) ?_
        refine fw_calliP [0] (va_runV (As := [.int (bI (true)), .int (bI (false)), .int (bI (true)), .int (bI (false))]) (rest := []) ⟨hx, hb, hml, hown, hts⟩ (c_M_throwing l dC dI  _ mm th mO mg md mH ml mu mp ud cs mS xu xf xt mW mF rn sp nd rd li pz lt true false true false ) (cwV 4 hts (gw_V kw_652 kw_654 ks_M_throwing kw_5 kw_655) rfl rfl rfl (by decide +kernel) ⟨Nat.le_of_ble_eq_true rfl, Nat.le_of_ble_eq_true rfl⟩) (fw_preV (ci := 4) (q0 := 0) hP hK hD hN [0] [] rfl rfl rfl rfl rfl) rfl rfl hl.1 rfl (lv_room (Nat.le_of_ble_eq_true rfl)) d_M_stop_64 ⟨Nat.le_of_ble_eq_true rfl, Nat.le_of_ble_eq_true rfl⟩) hP hD hS hA rfl rfl rfl (fun H locs hP hD hS => ?_)
        have hP : va_P (dC, dI) cls_ [(mm, .inr (4, [.int (iI (fc_thr true false true false)), .int (iI (mO)), .ref mg, .ref md, .int (iI (mH)), .ref ml, .ref mu, .ref mp, .int (bI (ud)), .int (iI (cs)), .int (iI (mS)), .ref xu, .ref xf, .ref xt, .int (iI (mW)), .int (iI (mF)), .int (bI (rn)), .int (bI (sp)), .int (iI (nd)), .int (iI (rd)), .int (iI (li)), .ref pz, .int (iI (lt))])), (xu, fw_a kI 10 (xU)), (xf, fw_a kI 10 (xF)), (xt, fw_a kI 10 (xT))] H := hP
        have hD : va_D A [(mm, .inr (4, [.int (iI (fc_thr true false true false)), .int (iI (mO)), .ref mg, .ref md, .int (iI (mH)), .ref ml, .ref mu, .ref mp, .int (bI (ud)), .int (iI (cs)), .int (iI (mS)), .ref xu, .ref xf, .ref xt, .int (iI (mW)), .int (iI (mF)), .int (bI (rn)), .int (bI (sp)), .int (iI (nd)), .int (iI (rd)), .int (iI (li)), .ref pz, .int (iI (lt))])), (xu, fw_a kI 10 (xU)), (xf, fw_a kI 10 (xF)), (xt, fw_a kI 10 (xT))] := hD
        refine fw_cast (show (.int (bI (decide (0 < fc_thr true false true false))) : Value) = .int (bI (true)) from congrArg (fun b => Value.int (bI b)) (by decide)) ?_
        refine fw_bif_eq (tgt := 72) hx hb d_M_stop_67 (by decide) (fun c_7 => ?_) (fun c_7 => ?_)
        · exact absurd c_7 (by decide)
        · refine lv_iconst (v := (iI (0))) hx hb d_M_stop_70 (by decide) ?_
          have e9 : k_stop mS u a b = (fc_thr true false true false) := by simp [k_stop, fc_thr, c_1, c_2, c_6] <;> omega
          have e8 : ¬ k_stop mS u a b = 0 := by rw [e9]; decide
          refine fw_iret hx hb hr hlocks hS ?_ ?_ d_M_stop_71
          · exact Or.inl ⟨e8, by rw [e9]; exact hP⟩
          · rw [if_neg e8]
      · refine lv_iconst (v := (bI (true))) hx hb d_M_stop_56 (by decide) ?_
        refine lv_goto (tgt := 61) hx hb d_M_stop_57 (by decide) ?_
        refine lv_iload hx hb d_M_stop_61 (lv_at hl 0 rfl) ?_
        refine lv_iconst (v := (bI (false))) hx hb d_M_stop_63 (by decide) ?_
        refine fw_calliP [0] (va_runV (As := [.int (bI (true)), .int (bI (true)), .int (bI (true)), .int (bI (false))]) (rest := []) ⟨hx, hb, hml, hown, hts⟩ (c_M_throwing l dC dI  _ mm th mO mg md mH ml mu mp ud cs mS xu xf xt mW mF rn sp nd rd li pz lt true true true false ) (cwV 4 hts (gw_V kw_652 kw_654 ks_M_throwing kw_5 kw_655) rfl rfl rfl (by decide +kernel) ⟨Nat.le_of_ble_eq_true rfl, Nat.le_of_ble_eq_true rfl⟩) (fw_preV (ci := 4) (q0 := 0) hP hK hD hN [0] [] rfl rfl rfl rfl rfl) rfl rfl hl.1 rfl (lv_room (Nat.le_of_ble_eq_true rfl)) d_M_stop_64 ⟨Nat.le_of_ble_eq_true rfl, Nat.le_of_ble_eq_true rfl⟩) hP hD hS hA rfl rfl rfl (fun H locs hP hD hS => ?_)
        have hP : va_P (dC, dI) cls_ [(mm, .inr (4, [.int (iI (fc_thr true true true false)), .int (iI (mO)), .ref mg, .ref md, .int (iI (mH)), .ref ml, .ref mu, .ref mp, .int (bI (ud)), .int (iI (cs)), .int (iI (mS)), .ref xu, .ref xf, .ref xt, .int (iI (mW)), .int (iI (mF)), .int (bI (rn)), .int (bI (sp)), .int (iI (nd)), .int (iI (rd)), .int (iI (li)), .ref pz, .int (iI (lt))])), (xu, fw_a kI 10 (xU)), (xf, fw_a kI 10 (xF)), (xt, fw_a kI 10 (xT))] H := hP
        have hD : va_D A [(mm, .inr (4, [.int (iI (fc_thr true true true false)), .int (iI (mO)), .ref mg, .ref md, .int (iI (mH)), .ref ml, .ref mu, .ref mp, .int (bI (ud)), .int (iI (cs)), .int (iI (mS)), .ref xu, .ref xf, .ref xt, .int (iI (mW)), .int (iI (mF)), .int (bI (rn)), .int (bI (sp)), .int (iI (nd)), .int (iI (rd)), .int (iI (li)), .ref pz, .int (iI (lt))])), (xu, fw_a kI 10 (xU)), (xf, fw_a kI 10 (xF)), (xt, fw_a kI 10 (xT))] := hD
        refine fw_cast (show (.int (bI (decide (0 < fc_thr true true true false))) : Value) = .int (bI (true)) from congrArg (fun b => Value.int (bI b)) (by decide)) ?_
        refine fw_bif_eq (tgt := 72) hx hb d_M_stop_67 (by decide) (fun c_8 => ?_) (fun c_8 => ?_)
        · exact absurd c_8 (by decide)
        · refine lv_iconst (v := (iI (0))) hx hb d_M_stop_70 (by decide) ?_
          have e9 : k_stop mS u a b = (fc_thr true true true false) := by simp [k_stop, fc_thr, c_1, c_2, c_6] <;> omega
          have e8 : ¬ k_stop mS u a b = 0 := by rw [e9]; decide
          refine fw_iret hx hb hr hlocks hS ?_ ?_ d_M_stop_71
          · exact Or.inl ⟨e8, by rw [e9]; exact hP⟩
          · rw [if_neg e8]
  · refine lv_iload_n hx hb d_M_stop_10 rfl (lv_at hl 3 rfl) ?_
    refine lv_iconst (v := (iI (0))) hx hb d_M_stop_11 (by decide) ?_
    refine lv_bipush (v := (iI (60))) hx hb d_M_stop_12 (by decide) ?_
    refine fw_callR (va_runS (As := [.int (iI (b)), .int (iI (0)), .int (iI (60))]) (rest := []) ⟨hx, hb, hml, hown, hts⟩ (c_M_in l dC dI  b 0 60 ⟨by omega, by omega⟩ ⟨by omega, by omega⟩ ⟨by omega, by omega⟩) (cwS 3 hts (gw_S kw_649 kw_650 kw_5 kw_651) rfl rfl rfl (by decide +kernel) ⟨Nat.le_of_ble_eq_true rfl, Nat.le_of_ble_eq_true rfl⟩) (fw_preRS hP hK hN [] [] rfl rfl) rfl rfl hl.1 rfl (lv_room (Nat.le_of_ble_eq_true rfl)) d_M_stop_14 ⟨Nat.le_of_ble_eq_true rfl, Nat.le_of_ble_eq_true rfl⟩).run ?_
    refine fw_bif_eq (tgt := 25) hx hb d_M_stop_17 (by decide) (fun c_9 => ?_) (fun c_9 => ?_)
    · refine lv_iconst (v := (bI (true))) hx hb d_M_stop_25 (by decide) ?_
      refine lv_goto (tgt := 30) hx hb d_M_stop_26 (by decide) ?_
      refine lv_istore (lv' := [(4, .int (bI (true))), (0, .ref mm), (1, .int (iI (u))), (2, .int (iI (a))), (3, .int (iI (b)))]) hx hb d_M_stop_30 hl (by decide) rfl (fun ls hl => ?_)
      refine lv_aload_n hx hb d_M_stop_32 rfl (lv_at hl 1 rfl) ?_
      refine lv_iload_n hx hb d_M_stop_33 rfl (lv_at hl 2 rfl) ?_
      refine lv_iconst (v := (iI (0))) hx hb d_M_stop_34 (by decide) ?_
      refine lv_iconst (v := (iI (2))) hx hb d_M_stop_35 (by decide) ?_
      refine fw_callR (va_runS (As := [.int (iI (u)), .int (iI (0)), .int (iI (2))]) (rest := [.ref mm]) ⟨hx, hb, hml, hown, hts⟩ (c_M_in l dC dI  u 0 2 ⟨by omega, by omega⟩ ⟨by omega, by omega⟩ ⟨by omega, by omega⟩) (cwS 3 hts (gw_S kw_649 kw_650 kw_5 kw_651) rfl rfl rfl (by decide +kernel) ⟨Nat.le_of_ble_eq_true rfl, Nat.le_of_ble_eq_true rfl⟩) (fw_preRS hP hK hN [] [] rfl rfl) rfl rfl hl.1 rfl (lv_room (Nat.le_of_ble_eq_true rfl)) d_M_stop_36 ⟨Nat.le_of_ble_eq_true rfl, Nat.le_of_ble_eq_true rfl⟩).run ?_
      refine fw_bif_ne (tgt := 46) hx hb d_M_stop_39 (by decide) (fun c_10 => ?_) (fun c_10 => ?_)
      · refine lv_iconst (v := (bI (false))) hx hb d_M_stop_46 (by decide) ?_
        refine lv_aload_n hx hb d_M_stop_47 rfl (lv_at hl 1 rfl) ?_
        refine va_get (D := (dC, dI)) (ci := 4) (v := .int (iI (mS))) (C := R_M) (T := T_M) (N := 23) hx hb hts in_M hown hK hP 0 rfl rfl 10 (by decide) (hts _ kw_581) (fun _ h9 => h9) rfl d_M_stop_48 ?_
        refine lv_bipush (v := (iI (10))) hx hb d_M_stop_51 (by decide) ?_
        refine fw_icmp_ne (tgt := 60) hx hb d_M_stop_53 (by decide) ⟨by omega, by omega⟩ ⟨by omega, by omega⟩ (fun c_11 => ?_) (fun c_11 => ?_)
        · refine lv_iconst (v := (bI (false))) hx hb d_M_stop_60 (by decide) ?_
          refine lv_iload hx hb d_M_stop_61 (lv_at hl 0 rfl) ?_
          refine lv_iconst (v := (bI (false))) hx hb d_M_stop_63 (by decide) ?_
          refine fw_calliP [0] (va_runV (As := [.int (bI (false)), .int (bI (false)), .int (bI (true)), .int (bI (false))]) (rest := []) ⟨hx, hb, hml, hown, hts⟩ (c_M_throwing l dC dI  _ mm th mO mg md mH ml mu mp ud cs mS xu xf xt mW mF rn sp nd rd li pz lt false false true false ) (cwV 4 hts (gw_V kw_652 kw_654 ks_M_throwing kw_5 kw_655) rfl rfl rfl (by decide +kernel) ⟨Nat.le_of_ble_eq_true rfl, Nat.le_of_ble_eq_true rfl⟩) (fw_preV (ci := 4) (q0 := 0) hP hK hD hN [0] [] rfl rfl rfl rfl rfl) rfl rfl hl.1 rfl (lv_room (Nat.le_of_ble_eq_true rfl)) d_M_stop_64 ⟨Nat.le_of_ble_eq_true rfl, Nat.le_of_ble_eq_true rfl⟩) hP hD hS hA rfl rfl rfl (fun H locs hP hD hS => ?_)
          have hP : va_P (dC, dI) cls_ [(mm, .inr (4, [.int (iI (fc_thr false false true false)), .int (iI (mO)), .ref mg, .ref md, .int (iI (mH)), .ref ml, .ref mu, .ref mp, .int (bI (ud)), .int (iI (cs)), .int (iI (mS)), .ref xu, .ref xf, .ref xt, .int (iI (mW)), .int (iI (mF)), .int (bI (rn)), .int (bI (sp)), .int (iI (nd)), .int (iI (rd)), .int (iI (li)), .ref pz, .int (iI (lt))])), (xu, fw_a kI 10 (xU)), (xf, fw_a kI 10 (xF)), (xt, fw_a kI 10 (xT))] H := hP
          have hD : va_D A [(mm, .inr (4, [.int (iI (fc_thr false false true false)), .int (iI (mO)), .ref mg, .ref md, .int (iI (mH)), .ref ml, .ref mu, .ref mp, .int (bI (ud)), .int (iI (cs)), .int (iI (mS)), .ref xu, .ref xf, .ref xt, .int (iI (mW)), .int (iI (mF)), .int (bI (rn)), .int (bI (sp)), .int (iI (nd)), .int (iI (rd)), .int (iI (li)), .ref pz, .int (iI (lt))])), (xu, fw_a kI 10 (xU)), (xf, fw_a kI 10 (xF)), (xt, fw_a kI 10 (xT))] := hD
          refine fw_cast (show (.int (bI (decide (0 < fc_thr false false true false))) : Value) = .int (bI (true)) from congrArg (fun b => Value.int (bI b)) (by decide)) ?_
          refine fw_bif_eq (tgt := 72) hx hb d_M_stop_67 (by decide) (fun c_12 => ?_) (fun c_12 => ?_)
          · exact absurd c_12 (by decide)
          · refine lv_iconst (v := (iI (0))) hx hb d_M_stop_70 (by decide) ?_
            have e9 : k_stop mS u a b = (fc_thr false false true false) := by simp [k_stop, fc_thr, c_1, c_9, c_10, c_11] <;> omega
            have e8 : ¬ k_stop mS u a b = 0 := by rw [e9]; decide
            refine fw_iret hx hb hr hlocks hS ?_ ?_ d_M_stop_71
            · exact Or.inl ⟨e8, by rw [e9]; exact hP⟩
            · rw [if_neg e8]
        · refine lv_iconst (v := (bI (true))) hx hb d_M_stop_56 (by decide) ?_
          refine lv_goto (tgt := 61) hx hb d_M_stop_57 (by decide) ?_
          refine lv_iload hx hb d_M_stop_61 (lv_at hl 0 rfl) ?_
          refine lv_iconst (v := (bI (false))) hx hb d_M_stop_63 (by decide) ?_
          refine fw_calliP [0] (va_runV (As := [.int (bI (false)), .int (bI (true)), .int (bI (true)), .int (bI (false))]) (rest := []) ⟨hx, hb, hml, hown, hts⟩ (c_M_throwing l dC dI  _ mm th mO mg md mH ml mu mp ud cs mS xu xf xt mW mF rn sp nd rd li pz lt false true true false ) (cwV 4 hts (gw_V kw_652 kw_654 ks_M_throwing kw_5 kw_655) rfl rfl rfl (by decide +kernel) ⟨Nat.le_of_ble_eq_true rfl, Nat.le_of_ble_eq_true rfl⟩) (fw_preV (ci := 4) (q0 := 0) hP hK hD hN [0] [] rfl rfl rfl rfl rfl) rfl rfl hl.1 rfl (lv_room (Nat.le_of_ble_eq_true rfl)) d_M_stop_64 ⟨Nat.le_of_ble_eq_true rfl, Nat.le_of_ble_eq_true rfl⟩) hP hD hS hA rfl rfl rfl (fun H locs hP hD hS => ?_)
          have hP : va_P (dC, dI) cls_ [(mm, .inr (4, [.int (iI (fc_thr false true true false)), .int (iI (mO)), .ref mg, .ref md, .int (iI (mH)), .ref ml, .ref mu, .ref mp, .int (bI (ud)), .int (iI (cs)), .int (iI (mS)), .ref xu, .ref xf, .ref xt, .int (iI (mW)), .int (iI (mF)), .int (bI (rn)), .int (bI (sp)), .int (iI (nd)), .int (iI (rd)), .int (iI (li)), .ref pz, .int (iI (lt))])), (xu, fw_a kI 10 (xU)), (xf, fw_a kI 10 (xF)), (xt, fw_a kI 10 (xT))] H := hP
          have hD : va_D A [(mm, .inr (4, [.int (iI (fc_thr false true true false)), .int (iI (mO)), .ref mg, .ref md, .int (iI (mH)), .ref ml, .ref mu, .ref mp, .int (bI (ud)), .int (iI (cs)), .int (iI (mS)), .ref xu, .ref xf, .ref xt, .int (iI (mW)), .int (iI (mF)), .int (bI (rn)), .int (bI (sp)), .int (iI (nd)), .int (iI (rd)), .int (iI (li)), .ref pz, .int (iI (lt))])), (xu, fw_a kI 10 (xU)), (xf, fw_a kI 10 (xF)), (xt, fw_a kI 10 (xT))] := hD
          refine fw_cast (show (.int (bI (decide (0 < fc_thr false true true false))) : Value) = .int (bI (true)) from congrArg (fun b => Value.int (bI b)) (by decide)) ?_
          refine fw_bif_eq (tgt := 72) hx hb d_M_stop_67 (by decide) (fun c_13 => ?_) (fun c_13 => ?_)
          · exact absurd c_13 (by decide)
          · refine lv_iconst (v := (iI (0))) hx hb d_M_stop_70 (by decide) ?_
            have e9 : k_stop mS u a b = (fc_thr false true true false) := by simp [k_stop, fc_thr, c_1, c_9, c_10, c_11] <;> omega
            have e8 : ¬ k_stop mS u a b = 0 := by rw [e9]; decide
            refine fw_iret hx hb hr hlocks hS ?_ ?_ d_M_stop_71
            · exact Or.inl ⟨e8, by rw [e9]; exact hP⟩
            · rw [if_neg e8]
      · refine lv_iconst (v := (bI (true))) hx hb d_M_stop_42 (by decide) ?_
        refine lv_goto (tgt := 47) hx hb d_M_stop_43 (by decide) ?_
        refine lv_aload_n hx hb d_M_stop_47 rfl (lv_at hl 1 rfl) ?_
        refine va_get (D := (dC, dI)) (ci := 4) (v := .int (iI (mS))) (C := R_M) (T := T_M) (N := 23) hx hb hts in_M hown hK hP 0 rfl rfl 10 (by decide) (hts _ kw_581) (fun _ h9 => h9) rfl d_M_stop_48 ?_
        refine lv_bipush (v := (iI (10))) hx hb d_M_stop_51 (by decide) ?_
        refine fw_icmp_ne (tgt := 60) hx hb d_M_stop_53 (by decide) ⟨by omega, by omega⟩ ⟨by omega, by omega⟩ (fun c_14 => ?_) (fun c_14 => ?_)
        · refine lv_iconst (v := (bI (false))) hx hb d_M_stop_60 (by decide) ?_
          refine lv_iload hx hb d_M_stop_61 (lv_at hl 0 rfl) ?_
          refine lv_iconst (v := (bI (false))) hx hb d_M_stop_63 (by decide) ?_
          refine fw_calliP [0] (va_runV (As := [.int (bI (true)), .int (bI (false)), .int (bI (true)), .int (bI (false))]) (rest := []) ⟨hx, hb, hml, hown, hts⟩ (c_M_throwing l dC dI  _ mm th mO mg md mH ml mu mp ud cs mS xu xf xt mW mF rn sp nd rd li pz lt true false true false ) (cwV 4 hts (gw_V kw_652 kw_654 ks_M_throwing kw_5 kw_655) rfl rfl rfl (by decide +kernel) ⟨Nat.le_of_ble_eq_true rfl, Nat.le_of_ble_eq_true rfl⟩) (fw_preV (ci := 4) (q0 := 0) hP hK hD hN [0] [] rfl rfl rfl rfl rfl) rfl rfl hl.1 rfl (lv_room (Nat.le_of_ble_eq_true rfl)) d_M_stop_64 ⟨Nat.le_of_ble_eq_true rfl, Nat.le_of_ble_eq_true rfl⟩) hP hD hS hA rfl rfl rfl (fun H locs hP hD hS => ?_)
          have hP : va_P (dC, dI) cls_ [(mm, .inr (4, [.int (iI (fc_thr true false true false)), .int (iI (mO)), .ref mg, .ref md, .int (iI (mH)), .ref ml, .ref mu, .ref mp, .int (bI (ud)), .int (iI (cs)), .int (iI (mS)), .ref xu, .ref xf, .ref xt, .int (iI (mW)), .int (iI (mF)), .int (bI (rn)), .int (bI (sp)), .int (iI (nd)), .int (iI (rd)), .int (iI (li)), .ref pz, .int (iI (lt))])), (xu, fw_a kI 10 (xU)), (xf, fw_a kI 10 (xF)), (xt, fw_a kI 10 (xT))] H := hP
          have hD : va_D A [(mm, .inr (4, [.int (iI (fc_thr true false true false)), .int (iI (mO)), .ref mg, .ref md, .int (iI (mH)), .ref ml, .ref mu, .ref mp, .int (bI (ud)), .int (iI (cs)), .int (iI (mS)), .ref xu, .ref xf, .ref xt, .int (iI (mW)), .int (iI (mF)), .int (bI (rn)), .int (bI (sp)), .int (iI (nd)), .int (iI (rd)), .int (iI (li)), .ref pz, .int (iI (lt))])), (xu, fw_a kI 10 (xU)), (xf, fw_a kI 10 (xF)), (xt, fw_a kI 10 (xT))] := hD
          refine fw_cast (show (.int (bI (decide (0 < fc_thr true false true false))) : Value) = .int (bI (true)) from congrArg (fun b => Value.int (bI b)) (by decide)) ?_
          refine fw_bif_eq (tgt := 72) hx hb d_M_stop_67 (by decide) (fun c_15 => ?_) (fun c_15 => ?_)
          · exact absurd c_15 (by decide)
          · refine lv_iconst (v := (iI (0))) hx hb d_M_stop_70 (by decide) ?_
            have e9 : k_stop mS u a b = (fc_thr true false true false) := by simp [k_stop, fc_thr, c_1, c_9, c_10, c_14] <;> omega
            have e8 : ¬ k_stop mS u a b = 0 := by rw [e9]; decide
            refine fw_iret hx hb hr hlocks hS ?_ ?_ d_M_stop_71
            · exact Or.inl ⟨e8, by rw [e9]; exact hP⟩
            · rw [if_neg e8]
        · refine lv_iconst (v := (bI (true))) hx hb d_M_stop_56 (by decide) ?_
          refine lv_goto (tgt := 61) hx hb d_M_stop_57 (by decide) ?_
          refine lv_iload hx hb d_M_stop_61 (lv_at hl 0 rfl) ?_
          refine lv_iconst (v := (bI (false))) hx hb d_M_stop_63 (by decide) ?_
          refine fw_calliP [0] (va_runV (As := [.int (bI (true)), .int (bI (true)), .int (bI (true)), .int (bI (false))]) (rest := []) ⟨hx, hb, hml, hown, hts⟩ (c_M_throwing l dC dI  _ mm th mO mg md mH ml mu mp ud cs mS xu xf xt mW mF rn sp nd rd li pz lt true true true false ) (cwV 4 hts (gw_V kw_652 kw_654 ks_M_throwing kw_5 kw_655) rfl rfl rfl (by decide +kernel) ⟨Nat.le_of_ble_eq_true rfl, Nat.le_of_ble_eq_true rfl⟩) (fw_preV (ci := 4) (q0 := 0) hP hK hD hN [0] [] rfl rfl rfl rfl rfl) rfl rfl hl.1 rfl (lv_room (Nat.le_of_ble_eq_true rfl)) d_M_stop_64 ⟨Nat.le_of_ble_eq_true rfl, Nat.le_of_ble_eq_true rfl⟩) hP hD hS hA rfl rfl rfl (fun H locs hP hD hS => ?_)
          have hP : va_P (dC, dI) cls_ [(mm, .inr (4, [.int (iI (fc_thr true true true false)), .int (iI (mO)), .ref mg, .ref md, .int (iI (mH)), .ref ml, .ref mu, .ref mp, .int (bI (ud)), .int (iI (cs)), .int (iI (mS)), .ref xu, .ref xf, .ref xt, .int (iI (mW)), .int (iI (mF)), .int (bI (rn)), .int (bI (sp)), .int (iI (nd)), .int (iI (rd)), .int (iI (li)), .ref pz, .int (iI (lt))])), (xu, fw_a kI 10 (xU)), (xf, fw_a kI 10 (xF)), (xt, fw_a kI 10 (xT))] H := hP
          have hD : va_D A [(mm, .inr (4, [.int (iI (fc_thr true true true false)), .int (iI (mO)), .ref mg, .ref md, .int (iI (mH)), .ref ml, .ref mu, .ref mp, .int (bI (ud)), .int (iI (cs)), .int (iI (mS)), .ref xu, .ref xf, .ref xt, .int (iI (mW)), .int (iI (mF)), .int (bI (rn)), .int (bI (sp)), .int (iI (nd)), .int (iI (rd)), .int (iI (li)), .ref pz, .int (iI (lt))])), (xu, fw_a kI 10 (xU)), (xf, fw_a kI 10 (xF)), (xt, fw_a kI 10 (xT))] := hD
          refine fw_cast (show (.int (bI (decide (0 < fc_thr true true true false))) : Value) = .int (bI (true)) from congrArg (fun b => Value.int (bI b)) (by decide)) ?_
          refine fw_bif_eq (tgt := 72) hx hb d_M_stop_67 (by decide) (fun c_16 => ?_) (fun c_16 => ?_)
          · exact absurd c_16 (by decide)
          · refine lv_iconst (v := (iI (0))) hx hb d_M_stop_70 (by decide) ?_
            have e9 : k_stop mS u a b = (fc_thr true true true false) := by simp [k_stop, fc_thr, c_1, c_9, c_10, c_14] <;> omega
            have e8 : ¬ k_stop mS u a b = 0 := by rw [e9]; decide
            refine fw_iret hx hb hr hlocks hS ?_ ?_ d_M_stop_71
            · exact Or.inl ⟨e8, by rw [e9]; exact hP⟩
            · rw [if_neg e8]
    · refine lv_iload_n hx hb d_M_stop_20 rfl (lv_at hl 3 rfl) ?_
      refine lv_iload_n hx hb d_M_stop_21 rfl (lv_at hl 2 rfl) ?_
      refine fw_icmp_gt (tgt := 29) hx hb d_M_stop_22 (by decide) ⟨by omega, by omega⟩ ⟨by omega, by omega⟩ (fun c_17 => ?_) (fun c_17 => ?_)
      · refine lv_iconst (v := (bI (false))) hx hb d_M_stop_29 (by decide) ?_
        refine lv_istore (lv' := [(4, .int (bI (false))), (0, .ref mm), (1, .int (iI (u))), (2, .int (iI (a))), (3, .int (iI (b)))]) hx hb d_M_stop_30 hl (by decide) rfl (fun ls hl => ?_)
        refine lv_aload_n hx hb d_M_stop_32 rfl (lv_at hl 1 rfl) ?_
        refine lv_iload_n hx hb d_M_stop_33 rfl (lv_at hl 2 rfl) ?_
        refine lv_iconst (v := (iI (0))) hx hb d_M_stop_34 (by decide) ?_
        refine lv_iconst (v := (iI (2))) hx hb d_M_stop_35 (by decide) ?_
        refine fw_callR (va_runS (As := [.int (iI (u)), .int (iI (0)), .int (iI (2))]) (rest := [.ref mm]) ⟨hx, hb, hml, hown, hts⟩ (c_M_in l dC dI  u 0 2 ⟨by omega, by omega⟩ ⟨by omega, by omega⟩ ⟨by omega, by omega⟩) (cwS 3 hts (gw_S kw_649 kw_650 kw_5 kw_651) rfl rfl rfl (by decide +kernel) ⟨Nat.le_of_ble_eq_true rfl, Nat.le_of_ble_eq_true rfl⟩) (fw_preRS hP hK hN [] [] rfl rfl) rfl rfl hl.1 rfl (lv_room (Nat.le_of_ble_eq_true rfl)) d_M_stop_36 ⟨Nat.le_of_ble_eq_true rfl, Nat.le_of_ble_eq_true rfl⟩).run ?_
        refine fw_bif_ne (tgt := 46) hx hb d_M_stop_39 (by decide) (fun c_18 => ?_) (fun c_18 => ?_)
        · refine lv_iconst (v := (bI (false))) hx hb d_M_stop_46 (by decide) ?_
          refine lv_aload_n hx hb d_M_stop_47 rfl (lv_at hl 1 rfl) ?_
          refine va_get (D := (dC, dI)) (ci := 4) (v := .int (iI (mS))) (C := R_M) (T := T_M) (N := 23) hx hb hts in_M hown hK hP 0 rfl rfl 10 (by decide) (hts _ kw_581) (fun _ h9 => h9) rfl d_M_stop_48 ?_
          refine lv_bipush (v := (iI (10))) hx hb d_M_stop_51 (by decide) ?_
          refine fw_icmp_ne (tgt := 60) hx hb d_M_stop_53 (by decide) ⟨by omega, by omega⟩ ⟨by omega, by omega⟩ (fun c_19 => ?_) (fun c_19 => ?_)
          · refine lv_iconst (v := (bI (false))) hx hb d_M_stop_60 (by decide) ?_
            refine lv_iload hx hb d_M_stop_61 (lv_at hl 0 rfl) ?_
            refine lv_iconst (v := (bI (false))) hx hb d_M_stop_63 (by decide) ?_
            refine fw_calliP [0] (va_runV (As := [.int (bI (false)), .int (bI (false)), .int (bI (false)), .int (bI (false))]) (rest := []) ⟨hx, hb, hml, hown, hts⟩ (c_M_throwing l dC dI  _ mm th mO mg md mH ml mu mp ud cs mS xu xf xt mW mF rn sp nd rd li pz lt false false false false ) (cwV 4 hts (gw_V kw_652 kw_654 ks_M_throwing kw_5 kw_655) rfl rfl rfl (by decide +kernel) ⟨Nat.le_of_ble_eq_true rfl, Nat.le_of_ble_eq_true rfl⟩) (fw_preV (ci := 4) (q0 := 0) hP hK hD hN [0] [] rfl rfl rfl rfl rfl) rfl rfl hl.1 rfl (lv_room (Nat.le_of_ble_eq_true rfl)) d_M_stop_64 ⟨Nat.le_of_ble_eq_true rfl, Nat.le_of_ble_eq_true rfl⟩) hP hD hS hA rfl rfl rfl (fun H locs hP hD hS => ?_)
            have hP : va_P (dC, dI) cls_ [(mm, .inr (4, [.int (iI (fc_thr false false false false)), .int (iI (mO)), .ref mg, .ref md, .int (iI (mH)), .ref ml, .ref mu, .ref mp, .int (bI (ud)), .int (iI (cs)), .int (iI (mS)), .ref xu, .ref xf, .ref xt, .int (iI (mW)), .int (iI (mF)), .int (bI (rn)), .int (bI (sp)), .int (iI (nd)), .int (iI (rd)), .int (iI (li)), .ref pz, .int (iI (lt))])), (xu, fw_a kI 10 (xU)), (xf, fw_a kI 10 (xF)), (xt, fw_a kI 10 (xT))] H := hP
            have hD : va_D A [(mm, .inr (4, [.int (iI (fc_thr false false false false)), .int (iI (mO)), .ref mg, .ref md, .int (iI (mH)), .ref ml, .ref mu, .ref mp, .int (bI (ud)), .int (iI (cs)), .int (iI (mS)), .ref xu, .ref xf, .ref xt, .int (iI (mW)), .int (iI (mF)), .int (bI (rn)), .int (bI (sp)), .int (iI (nd)), .int (iI (rd)), .int (iI (li)), .ref pz, .int (iI (lt))])), (xu, fw_a kI 10 (xU)), (xf, fw_a kI 10 (xF)), (xt, fw_a kI 10 (xT))] := hD
            refine fw_cast (show (.int (bI (decide (0 < fc_thr false false false false))) : Value) = .int (bI (false)) from congrArg (fun b => Value.int (bI b)) (by decide)) ?_
            refine fw_bif_eq (tgt := 72) hx hb d_M_stop_67 (by decide) (fun c_20 => ?_) (fun c_20 => ?_)
            · refine lv_aload_n hx hb d_M_stop_72 rfl (lv_at hl 1 rfl) ?_
              refine va_get (D := (dC, dI)) (ci := 4) (v := .ref xu) (C := R_M) (T := T_M) (N := 23) hx hb hts in_M hown hK hP 0 rfl rfl 11 (by decide) (hts _ kw_582) (fun _ h9 => h9) rfl d_M_stop_73 ?_
              refine lv_aload_n hx hb d_M_stop_76 rfl (lv_at hl 1 rfl) ?_
              refine va_get (D := (dC, dI)) (ci := 4) (v := .int (iI (mS))) (C := R_M) (T := T_M) (N := 23) hx hb hts in_M hown hK hP 0 rfl rfl 10 (by decide) (hts _ kw_581) (fun _ h9 => h9) rfl d_M_stop_77 ?_
              refine lv_iload_n hx hb d_M_stop_80 rfl (lv_at hl 2 rfl) ?_
              refine fw_iast hx hb hK hP hD hS 1 0 rfl rfl ((mS).toNat) (by omega) (by omega) (by omega) d_M_stop_81 (fun H locs hP hD hS => ?_)
              have hP : va_P (dC, dI) cls_ [(mm, .inr (4, [.int (iI (fc_thr false false false false)), .int (iI (mO)), .ref mg, .ref md, .int (iI (mH)), .ref ml, .ref mu, .ref mp, .int (bI (ud)), .int (iI (cs)), .int (iI (mS)), .ref xu, .ref xf, .ref xt, .int (iI (mW)), .int (iI (mF)), .int (bI (rn)), .int (bI (sp)), .int (iI (nd)), .int (iI (rd)), .int (iI (li)), .ref pz, .int (iI (lt))])), (xu, fw_a kI 10 (fw_up xU ((mS).toNat) u)), (xf, fw_a kI 10 (xF)), (xt, fw_a kI 10 (xT))] H := hP
              have hD : va_D A [(mm, .inr (4, [.int (iI (fc_thr false false false false)), .int (iI (mO)), .ref mg, .ref md, .int (iI (mH)), .ref ml, .ref mu, .ref mp, .int (bI (ud)), .int (iI (cs)), .int (iI (mS)), .ref xu, .ref xf, .ref xt, .int (iI (mW)), .int (iI (mF)), .int (bI (rn)), .int (bI (sp)), .int (iI (nd)), .int (iI (rd)), .int (iI (li)), .ref pz, .int (iI (lt))])), (xu, fw_a kI 10 (fw_up xU ((mS).toNat) u)), (xf, fw_a kI 10 (xF)), (xt, fw_a kI 10 (xT))] := hD
              refine lv_aload_n hx hb d_M_stop_82 rfl (lv_at hl 1 rfl) ?_
              refine va_get (D := (dC, dI)) (ci := 4) (v := .ref xf) (C := R_M) (T := T_M) (N := 23) hx hb hts in_M hown hK hP 0 rfl rfl 12 (by decide) (hts _ kw_583) (fun _ h9 => h9) rfl d_M_stop_83 ?_
              refine lv_aload_n hx hb d_M_stop_86 rfl (lv_at hl 1 rfl) ?_
              refine va_get (D := (dC, dI)) (ci := 4) (v := .int (iI (mS))) (C := R_M) (T := T_M) (N := 23) hx hb hts in_M hown hK hP 0 rfl rfl 10 (by decide) (hts _ kw_581) (fun _ h9 => h9) rfl d_M_stop_87 ?_
              refine lv_iload_n hx hb d_M_stop_90 rfl (lv_at hl 3 rfl) ?_
              refine fw_iast hx hb hK hP hD hS 2 0 rfl rfl ((mS).toNat) (by omega) (by omega) (by omega) d_M_stop_91 (fun H locs hP hD hS => ?_)
              have hP : va_P (dC, dI) cls_ [(mm, .inr (4, [.int (iI (fc_thr false false false false)), .int (iI (mO)), .ref mg, .ref md, .int (iI (mH)), .ref ml, .ref mu, .ref mp, .int (bI (ud)), .int (iI (cs)), .int (iI (mS)), .ref xu, .ref xf, .ref xt, .int (iI (mW)), .int (iI (mF)), .int (bI (rn)), .int (bI (sp)), .int (iI (nd)), .int (iI (rd)), .int (iI (li)), .ref pz, .int (iI (lt))])), (xu, fw_a kI 10 (fw_up xU ((mS).toNat) u)), (xf, fw_a kI 10 (fw_up xF ((mS).toNat) a)), (xt, fw_a kI 10 (xT))] H := hP
              have hD : va_D A [(mm, .inr (4, [.int (iI (fc_thr false false false false)), .int (iI (mO)), .ref mg, .ref md, .int (iI (mH)), .ref ml, .ref mu, .ref mp, .int (bI (ud)), .int (iI (cs)), .int (iI (mS)), .ref xu, .ref xf, .ref xt, .int (iI (mW)), .int (iI (mF)), .int (bI (rn)), .int (bI (sp)), .int (iI (nd)), .int (iI (rd)), .int (iI (li)), .ref pz, .int (iI (lt))])), (xu, fw_a kI 10 (fw_up xU ((mS).toNat) u)), (xf, fw_a kI 10 (fw_up xF ((mS).toNat) a)), (xt, fw_a kI 10 (xT))] := hD
              refine lv_aload_n hx hb d_M_stop_92 rfl (lv_at hl 1 rfl) ?_
              refine va_get (D := (dC, dI)) (ci := 4) (v := .ref xt) (C := R_M) (T := T_M) (N := 23) hx hb hts in_M hown hK hP 0 rfl rfl 13 (by decide) (hts _ kw_584) (fun _ h9 => h9) rfl d_M_stop_93 ?_
              refine lv_aload_n hx hb d_M_stop_96 rfl (lv_at hl 1 rfl) ?_
              refine va_get (D := (dC, dI)) (ci := 4) (v := .int (iI (mS))) (C := R_M) (T := T_M) (N := 23) hx hb hts in_M hown hK hP 0 rfl rfl 10 (by decide) (hts _ kw_581) (fun _ h9 => h9) rfl d_M_stop_97 ?_
              refine lv_iload_n hx hb d_M_stop_100 rfl (lv_at hl 4 rfl) ?_
              refine fw_iast hx hb hK hP hD hS 3 0 rfl rfl ((mS).toNat) (by omega) (by omega) (by omega) d_M_stop_101 (fun H locs hP hD hS => ?_)
              have hP : va_P (dC, dI) cls_ [(mm, .inr (4, [.int (iI (fc_thr false false false false)), .int (iI (mO)), .ref mg, .ref md, .int (iI (mH)), .ref ml, .ref mu, .ref mp, .int (bI (ud)), .int (iI (cs)), .int (iI (mS)), .ref xu, .ref xf, .ref xt, .int (iI (mW)), .int (iI (mF)), .int (bI (rn)), .int (bI (sp)), .int (iI (nd)), .int (iI (rd)), .int (iI (li)), .ref pz, .int (iI (lt))])), (xu, fw_a kI 10 (fw_up xU ((mS).toNat) u)), (xf, fw_a kI 10 (fw_up xF ((mS).toNat) a)), (xt, fw_a kI 10 (fw_up xT ((mS).toNat) b))] H := hP
              have hD : va_D A [(mm, .inr (4, [.int (iI (fc_thr false false false false)), .int (iI (mO)), .ref mg, .ref md, .int (iI (mH)), .ref ml, .ref mu, .ref mp, .int (bI (ud)), .int (iI (cs)), .int (iI (mS)), .ref xu, .ref xf, .ref xt, .int (iI (mW)), .int (iI (mF)), .int (bI (rn)), .int (bI (sp)), .int (iI (nd)), .int (iI (rd)), .int (iI (li)), .ref pz, .int (iI (lt))])), (xu, fw_a kI 10 (fw_up xU ((mS).toNat) u)), (xf, fw_a kI 10 (fw_up xF ((mS).toNat) a)), (xt, fw_a kI 10 (fw_up xT ((mS).toNat) b))] := hD
              refine lv_aload_n hx hb d_M_stop_102 rfl (lv_at hl 1 rfl) ?_
              refine lv_dup hx hb d_M_stop_103 rfl ?_
              refine va_get (D := (dC, dI)) (ci := 4) (v := .int (iI (mS))) (C := R_M) (T := T_M) (N := 23) hx hb hts in_M hown hK hP 0 rfl rfl 10 (by decide) (hts _ kw_581) (fun _ h9 => h9) rfl d_M_stop_104 ?_
              refine lv_iconst (v := (iI (1))) hx hb d_M_stop_107 (by decide) ?_
              refine fw_iadd hx hb d_M_stop_108 ?_
              refine va_put (D := (dC, dI)) (ci := 4) (v := .int (iI (mS + 1))) (ty := .int) (C := R_M) (T := T_M) (N := 23) hx hb hts in_M t_M t_M_ok n_M hown hK hP hD hS 0 rfl rfl 10 (by decide) (hts _ kw_581) (fun _ h9 => h9) rfl (by decide +kernel) rfl rfl (Nat.le_of_ble_eq_true rfl) d_M_stop_109 (fun H locs hP hD hS => ?_)
              have hP : va_P (dC, dI) cls_ [(mm, .inr (4, [.int (iI (fc_thr false false false false)), .int (iI (mO)), .ref mg, .ref md, .int (iI (mH)), .ref ml, .ref mu, .ref mp, .int (bI (ud)), .int (iI (cs)), .int (iI (mS + 1)), .ref xu, .ref xf, .ref xt, .int (iI (mW)), .int (iI (mF)), .int (bI (rn)), .int (bI (sp)), .int (iI (nd)), .int (iI (rd)), .int (iI (li)), .ref pz, .int (iI (lt))])), (xu, fw_a kI 10 (fw_up xU ((mS).toNat) u)), (xf, fw_a kI 10 (fw_up xF ((mS).toNat) a)), (xt, fw_a kI 10 (fw_up xT ((mS).toNat) b))] H := hP
              have hD : va_D A [(mm, .inr (4, [.int (iI (fc_thr false false false false)), .int (iI (mO)), .ref mg, .ref md, .int (iI (mH)), .ref ml, .ref mu, .ref mp, .int (bI (ud)), .int (iI (cs)), .int (iI (mS + 1)), .ref xu, .ref xf, .ref xt, .int (iI (mW)), .int (iI (mF)), .int (bI (rn)), .int (bI (sp)), .int (iI (nd)), .int (iI (rd)), .int (iI (li)), .ref pz, .int (iI (lt))])), (xu, fw_a kI 10 (fw_up xU ((mS).toNat) u)), (xf, fw_a kI 10 (fw_up xF ((mS).toNat) a)), (xt, fw_a kI 10 (fw_up xT ((mS).toNat) b))] := hD
              refine lv_aload_n hx hb d_M_stop_112 rfl (lv_at hl 1 rfl) ?_
              refine va_get (D := (dC, dI)) (ci := 4) (v := .int (iI (mS + 1))) (C := R_M) (T := T_M) (N := 23) hx hb hts in_M hown hK hP 0 rfl rfl 10 (by decide) (hts _ kw_581) (fun _ h9 => h9) rfl d_M_stop_113 ?_
              have e9 : k_stop mS u a b = 0 := by simp [k_stop, c_1, c_9, c_17, c_18, c_19] <;> omega
              refine fw_iret hx hb hr hlocks hS ?_ ?_ d_M_stop_116
              · exact Or.inr ⟨e9, hP⟩
              · rw [if_pos e9]
            · exact absurd c_20 (by decide)
          · refine lv_iconst (v := (bI (true))) hx hb d_M_stop_56 (by decide) ?_
            refine lv_goto (tgt := 61) hx hb d_M_stop_57 (by decide) ?_
            refine lv_iload hx hb d_M_stop_61 (lv_at hl 0 rfl) ?_
            refine lv_iconst (v := (bI (false))) hx hb d_M_stop_63 (by decide) ?_
            refine fw_calliP [0] (va_runV (As := [.int (bI (false)), .int (bI (true)), .int (bI (false)), .int (bI (false))]) (rest := []) ⟨hx, hb, hml, hown, hts⟩ (c_M_throwing l dC dI  _ mm th mO mg md mH ml mu mp ud cs mS xu xf xt mW mF rn sp nd rd li pz lt false true false false ) (cwV 4 hts (gw_V kw_652 kw_654 ks_M_throwing kw_5 kw_655) rfl rfl rfl (by decide +kernel) ⟨Nat.le_of_ble_eq_true rfl, Nat.le_of_ble_eq_true rfl⟩) (fw_preV (ci := 4) (q0 := 0) hP hK hD hN [0] [] rfl rfl rfl rfl rfl) rfl rfl hl.1 rfl (lv_room (Nat.le_of_ble_eq_true rfl)) d_M_stop_64 ⟨Nat.le_of_ble_eq_true rfl, Nat.le_of_ble_eq_true rfl⟩) hP hD hS hA rfl rfl rfl (fun H locs hP hD hS => ?_)
            have hP : va_P (dC, dI) cls_ [(mm, .inr (4, [.int (iI (fc_thr false true false false)), .int (iI (mO)), .ref mg, .ref md, .int (iI (mH)), .ref ml, .ref mu, .ref mp, .int (bI (ud)), .int (iI (cs)), .int (iI (mS)), .ref xu, .ref xf, .ref xt, .int (iI (mW)), .int (iI (mF)), .int (bI (rn)), .int (bI (sp)), .int (iI (nd)), .int (iI (rd)), .int (iI (li)), .ref pz, .int (iI (lt))])), (xu, fw_a kI 10 (xU)), (xf, fw_a kI 10 (xF)), (xt, fw_a kI 10 (xT))] H := hP
            have hD : va_D A [(mm, .inr (4, [.int (iI (fc_thr false true false false)), .int (iI (mO)), .ref mg, .ref md, .int (iI (mH)), .ref ml, .ref mu, .ref mp, .int (bI (ud)), .int (iI (cs)), .int (iI (mS)), .ref xu, .ref xf, .ref xt, .int (iI (mW)), .int (iI (mF)), .int (bI (rn)), .int (bI (sp)), .int (iI (nd)), .int (iI (rd)), .int (iI (li)), .ref pz, .int (iI (lt))])), (xu, fw_a kI 10 (xU)), (xf, fw_a kI 10 (xF)), (xt, fw_a kI 10 (xT))] := hD
            refine fw_cast (show (.int (bI (decide (0 < fc_thr false true false false))) : Value) = .int (bI (true)) from congrArg (fun b => Value.int (bI b)) (by decide)) ?_
            refine fw_bif_eq (tgt := 72) hx hb d_M_stop_67 (by decide) (fun c_21 => ?_) (fun c_21 => ?_)
            · exact absurd c_21 (by decide)
            · refine lv_iconst (v := (iI (0))) hx hb d_M_stop_70 (by decide) ?_
              have e9 : k_stop mS u a b = (fc_thr false true false false) := by simp [k_stop, fc_thr, c_1, c_9, c_17, c_18, c_19] <;> omega
              have e8 : ¬ k_stop mS u a b = 0 := by rw [e9]; decide
              refine fw_iret hx hb hr hlocks hS ?_ ?_ d_M_stop_71
              · exact Or.inl ⟨e8, by rw [e9]; exact hP⟩
              · rw [if_neg e8]
        · refine lv_iconst (v := (bI (true))) hx hb d_M_stop_42 (by decide) ?_
          refine lv_goto (tgt := 47) hx hb d_M_stop_43 (by decide) ?_
          refine lv_aload_n hx hb d_M_stop_47 rfl (lv_at hl 1 rfl) ?_
          refine va_get (D := (dC, dI)) (ci := 4) (v := .int (iI (mS))) (C := R_M) (T := T_M) (N := 23) hx hb hts in_M hown hK hP 0 rfl rfl 10 (by decide) (hts _ kw_581) (fun _ h9 => h9) rfl d_M_stop_48 ?_
          refine lv_bipush (v := (iI (10))) hx hb d_M_stop_51 (by decide) ?_
          refine fw_icmp_ne (tgt := 60) hx hb d_M_stop_53 (by decide) ⟨by omega, by omega⟩ ⟨by omega, by omega⟩ (fun c_22 => ?_) (fun c_22 => ?_)
          · refine lv_iconst (v := (bI (false))) hx hb d_M_stop_60 (by decide) ?_
            refine lv_iload hx hb d_M_stop_61 (lv_at hl 0 rfl) ?_
            refine lv_iconst (v := (bI (false))) hx hb d_M_stop_63 (by decide) ?_
            refine fw_calliP [0] (va_runV (As := [.int (bI (true)), .int (bI (false)), .int (bI (false)), .int (bI (false))]) (rest := []) ⟨hx, hb, hml, hown, hts⟩ (c_M_throwing l dC dI  _ mm th mO mg md mH ml mu mp ud cs mS xu xf xt mW mF rn sp nd rd li pz lt true false false false ) (cwV 4 hts (gw_V kw_652 kw_654 ks_M_throwing kw_5 kw_655) rfl rfl rfl (by decide +kernel) ⟨Nat.le_of_ble_eq_true rfl, Nat.le_of_ble_eq_true rfl⟩) (fw_preV (ci := 4) (q0 := 0) hP hK hD hN [0] [] rfl rfl rfl rfl rfl) rfl rfl hl.1 rfl (lv_room (Nat.le_of_ble_eq_true rfl)) d_M_stop_64 ⟨Nat.le_of_ble_eq_true rfl, Nat.le_of_ble_eq_true rfl⟩) hP hD hS hA rfl rfl rfl (fun H locs hP hD hS => ?_)
            have hP : va_P (dC, dI) cls_ [(mm, .inr (4, [.int (iI (fc_thr true false false false)), .int (iI (mO)), .ref mg, .ref md, .int (iI (mH)), .ref ml, .ref mu, .ref mp, .int (bI (ud)), .int (iI (cs)), .int (iI (mS)), .ref xu, .ref xf, .ref xt, .int (iI (mW)), .int (iI (mF)), .int (bI (rn)), .int (bI (sp)), .int (iI (nd)), .int (iI (rd)), .int (iI (li)), .ref pz, .int (iI (lt))])), (xu, fw_a kI 10 (xU)), (xf, fw_a kI 10 (xF)), (xt, fw_a kI 10 (xT))] H := hP
            have hD : va_D A [(mm, .inr (4, [.int (iI (fc_thr true false false false)), .int (iI (mO)), .ref mg, .ref md, .int (iI (mH)), .ref ml, .ref mu, .ref mp, .int (bI (ud)), .int (iI (cs)), .int (iI (mS)), .ref xu, .ref xf, .ref xt, .int (iI (mW)), .int (iI (mF)), .int (bI (rn)), .int (bI (sp)), .int (iI (nd)), .int (iI (rd)), .int (iI (li)), .ref pz, .int (iI (lt))])), (xu, fw_a kI 10 (xU)), (xf, fw_a kI 10 (xF)), (xt, fw_a kI 10 (xT))] := hD
            refine fw_cast (show (.int (bI (decide (0 < fc_thr true false false false))) : Value) = .int (bI (true)) from congrArg (fun b => Value.int (bI b)) (by decide)) ?_
            refine fw_bif_eq (tgt := 72) hx hb d_M_stop_67 (by decide) (fun c_23 => ?_) (fun c_23 => ?_)
            · exact absurd c_23 (by decide)
            · refine lv_iconst (v := (iI (0))) hx hb d_M_stop_70 (by decide) ?_
              have e9 : k_stop mS u a b = (fc_thr true false false false) := by simp [k_stop, fc_thr, c_1, c_9, c_17, c_18, c_22] <;> omega
              have e8 : ¬ k_stop mS u a b = 0 := by rw [e9]; decide
              refine fw_iret hx hb hr hlocks hS ?_ ?_ d_M_stop_71
              · exact Or.inl ⟨e8, by rw [e9]; exact hP⟩
              · rw [if_neg e8]
          · refine lv_iconst (v := (bI (true))) hx hb d_M_stop_56 (by decide) ?_
            refine lv_goto (tgt := 61) hx hb d_M_stop_57 (by decide) ?_
            refine lv_iload hx hb d_M_stop_61 (lv_at hl 0 rfl) ?_
            refine lv_iconst (v := (bI (false))) hx hb d_M_stop_63 (by decide) ?_
            refine fw_calliP [0] (va_runV (As := [.int (bI (true)), .int (bI (true)), .int (bI (false)), .int (bI (false))]) (rest := []) ⟨hx, hb, hml, hown, hts⟩ (c_M_throwing l dC dI  _ mm th mO mg md mH ml mu mp ud cs mS xu xf xt mW mF rn sp nd rd li pz lt true true false false ) (cwV 4 hts (gw_V kw_652 kw_654 ks_M_throwing kw_5 kw_655) rfl rfl rfl (by decide +kernel) ⟨Nat.le_of_ble_eq_true rfl, Nat.le_of_ble_eq_true rfl⟩) (fw_preV (ci := 4) (q0 := 0) hP hK hD hN [0] [] rfl rfl rfl rfl rfl) rfl rfl hl.1 rfl (lv_room (Nat.le_of_ble_eq_true rfl)) d_M_stop_64 ⟨Nat.le_of_ble_eq_true rfl, Nat.le_of_ble_eq_true rfl⟩) hP hD hS hA rfl rfl rfl (fun H locs hP hD hS => ?_)
            have hP : va_P (dC, dI) cls_ [(mm, .inr (4, [.int (iI (fc_thr true true false false)), .int (iI (mO)), .ref mg, .ref md, .int (iI (mH)), .ref ml, .ref mu, .ref mp, .int (bI (ud)), .int (iI (cs)), .int (iI (mS)), .ref xu, .ref xf, .ref xt, .int (iI (mW)), .int (iI (mF)), .int (bI (rn)), .int (bI (sp)), .int (iI (nd)), .int (iI (rd)), .int (iI (li)), .ref pz, .int (iI (lt))])), (xu, fw_a kI 10 (xU)), (xf, fw_a kI 10 (xF)), (xt, fw_a kI 10 (xT))] H := hP
            have hD : va_D A [(mm, .inr (4, [.int (iI (fc_thr true true false false)), .int (iI (mO)), .ref mg, .ref md, .int (iI (mH)), .ref ml, .ref mu, .ref mp, .int (bI (ud)), .int (iI (cs)), .int (iI (mS)), .ref xu, .ref xf, .ref xt, .int (iI (mW)), .int (iI (mF)), .int (bI (rn)), .int (bI (sp)), .int (iI (nd)), .int (iI (rd)), .int (iI (li)), .ref pz, .int (iI (lt))])), (xu, fw_a kI 10 (xU)), (xf, fw_a kI 10 (xF)), (xt, fw_a kI 10 (xT))] := hD
            refine fw_cast (show (.int (bI (decide (0 < fc_thr true true false false))) : Value) = .int (bI (true)) from congrArg (fun b => Value.int (bI b)) (by decide)) ?_
            refine fw_bif_eq (tgt := 72) hx hb d_M_stop_67 (by decide) (fun c_24 => ?_) (fun c_24 => ?_)
            · exact absurd c_24 (by decide)
            · refine lv_iconst (v := (iI (0))) hx hb d_M_stop_70 (by decide) ?_
              have e9 : k_stop mS u a b = (fc_thr true true false false) := by simp [k_stop, fc_thr, c_1, c_9, c_17, c_18, c_22] <;> omega
              have e8 : ¬ k_stop mS u a b = 0 := by rw [e9]; decide
              refine fw_iret hx hb hr hlocks hS ?_ ?_ d_M_stop_71
              · exact Or.inl ⟨e8, by rw [e9]; exact hP⟩
              · rw [if_neg e8]
      · refine lv_iconst (v := (bI (true))) hx hb d_M_stop_25 (by decide) ?_
        refine lv_goto (tgt := 30) hx hb d_M_stop_26 (by decide) ?_
        refine lv_istore (lv' := [(4, .int (bI (true))), (0, .ref mm), (1, .int (iI (u))), (2, .int (iI (a))), (3, .int (iI (b)))]) hx hb d_M_stop_30 hl (by decide) rfl (fun ls hl => ?_)
        refine lv_aload_n hx hb d_M_stop_32 rfl (lv_at hl 1 rfl) ?_
        refine lv_iload_n hx hb d_M_stop_33 rfl (lv_at hl 2 rfl) ?_
        refine lv_iconst (v := (iI (0))) hx hb d_M_stop_34 (by decide) ?_
        refine lv_iconst (v := (iI (2))) hx hb d_M_stop_35 (by decide) ?_
        refine fw_callR (va_runS (As := [.int (iI (u)), .int (iI (0)), .int (iI (2))]) (rest := [.ref mm]) ⟨hx, hb, hml, hown, hts⟩ (c_M_in l dC dI  u 0 2 ⟨by omega, by omega⟩ ⟨by omega, by omega⟩ ⟨by omega, by omega⟩) (cwS 3 hts (gw_S kw_649 kw_650 kw_5 kw_651) rfl rfl rfl (by decide +kernel) ⟨Nat.le_of_ble_eq_true rfl, Nat.le_of_ble_eq_true rfl⟩) (fw_preRS hP hK hN [] [] rfl rfl) rfl rfl hl.1 rfl (lv_room (Nat.le_of_ble_eq_true rfl)) d_M_stop_36 ⟨Nat.le_of_ble_eq_true rfl, Nat.le_of_ble_eq_true rfl⟩).run ?_
        refine fw_bif_ne (tgt := 46) hx hb d_M_stop_39 (by decide) (fun c_25 => ?_) (fun c_25 => ?_)
        · refine lv_iconst (v := (bI (false))) hx hb d_M_stop_46 (by decide) ?_
          refine lv_aload_n hx hb d_M_stop_47 rfl (lv_at hl 1 rfl) ?_
          refine va_get (D := (dC, dI)) (ci := 4) (v := .int (iI (mS))) (C := R_M) (T := T_M) (N := 23) hx hb hts in_M hown hK hP 0 rfl rfl 10 (by decide) (hts _ kw_581) (fun _ h9 => h9) rfl d_M_stop_48 ?_
          refine lv_bipush (v := (iI (10))) hx hb d_M_stop_51 (by decide) ?_
          refine fw_icmp_ne (tgt := 60) hx hb d_M_stop_53 (by decide) ⟨by omega, by omega⟩ ⟨by omega, by omega⟩ (fun c_26 => ?_) (fun c_26 => ?_)
          · refine lv_iconst (v := (bI (false))) hx hb d_M_stop_60 (by decide) ?_
            refine lv_iload hx hb d_M_stop_61 (lv_at hl 0 rfl) ?_
            refine lv_iconst (v := (bI (false))) hx hb d_M_stop_63 (by decide) ?_
            refine fw_calliP [0] (va_runV (As := [.int (bI (false)), .int (bI (false)), .int (bI (true)), .int (bI (false))]) (rest := []) ⟨hx, hb, hml, hown, hts⟩ (c_M_throwing l dC dI  _ mm th mO mg md mH ml mu mp ud cs mS xu xf xt mW mF rn sp nd rd li pz lt false false true false ) (cwV 4 hts (gw_V kw_652 kw_654 ks_M_throwing kw_5 kw_655) rfl rfl rfl (by decide +kernel) ⟨Nat.le_of_ble_eq_true rfl, Nat.le_of_ble_eq_true rfl⟩) (fw_preV (ci := 4) (q0 := 0) hP hK hD hN [0] [] rfl rfl rfl rfl rfl) rfl rfl hl.1 rfl (lv_room (Nat.le_of_ble_eq_true rfl)) d_M_stop_64 ⟨Nat.le_of_ble_eq_true rfl, Nat.le_of_ble_eq_true rfl⟩) hP hD hS hA rfl rfl rfl (fun H locs hP hD hS => ?_)
            have hP : va_P (dC, dI) cls_ [(mm, .inr (4, [.int (iI (fc_thr false false true false)), .int (iI (mO)), .ref mg, .ref md, .int (iI (mH)), .ref ml, .ref mu, .ref mp, .int (bI (ud)), .int (iI (cs)), .int (iI (mS)), .ref xu, .ref xf, .ref xt, .int (iI (mW)), .int (iI (mF)), .int (bI (rn)), .int (bI (sp)), .int (iI (nd)), .int (iI (rd)), .int (iI (li)), .ref pz, .int (iI (lt))])), (xu, fw_a kI 10 (xU)), (xf, fw_a kI 10 (xF)), (xt, fw_a kI 10 (xT))] H := hP
            have hD : va_D A [(mm, .inr (4, [.int (iI (fc_thr false false true false)), .int (iI (mO)), .ref mg, .ref md, .int (iI (mH)), .ref ml, .ref mu, .ref mp, .int (bI (ud)), .int (iI (cs)), .int (iI (mS)), .ref xu, .ref xf, .ref xt, .int (iI (mW)), .int (iI (mF)), .int (bI (rn)), .int (bI (sp)), .int (iI (nd)), .int (iI (rd)), .int (iI (li)), .ref pz, .int (iI (lt))])), (xu, fw_a kI 10 (xU)), (xf, fw_a kI 10 (xF)), (xt, fw_a kI 10 (xT))] := hD
            refine fw_cast (show (.int (bI (decide (0 < fc_thr false false true false))) : Value) = .int (bI (true)) from congrArg (fun b => Value.int (bI b)) (by decide)) ?_
            refine fw_bif_eq (tgt := 72) hx hb d_M_stop_67 (by decide) (fun c_27 => ?_) (fun c_27 => ?_)
            · exact absurd c_27 (by decide)
            · refine lv_iconst (v := (iI (0))) hx hb d_M_stop_70 (by decide) ?_
              have e9 : k_stop mS u a b = (fc_thr false false true false) := by simp [k_stop, fc_thr, c_1, c_9, c_17, c_25, c_26] <;> omega
              have e8 : ¬ k_stop mS u a b = 0 := by rw [e9]; decide
              refine fw_iret hx hb hr hlocks hS ?_ ?_ d_M_stop_71
              · exact Or.inl ⟨e8, by rw [e9]; exact hP⟩
              · rw [if_neg e8]
          · refine lv_iconst (v := (bI (true))) hx hb d_M_stop_56 (by decide) ?_
            refine lv_goto (tgt := 61) hx hb d_M_stop_57 (by decide) ?_
            refine lv_iload hx hb d_M_stop_61 (lv_at hl 0 rfl) ?_
            refine lv_iconst (v := (bI (false))) hx hb d_M_stop_63 (by decide) ?_
            refine fw_calliP [0] (va_runV (As := [.int (bI (false)), .int (bI (true)), .int (bI (true)), .int (bI (false))]) (rest := []) ⟨hx, hb, hml, hown, hts⟩ (c_M_throwing l dC dI  _ mm th mO mg md mH ml mu mp ud cs mS xu xf xt mW mF rn sp nd rd li pz lt false true true false ) (cwV 4 hts (gw_V kw_652 kw_654 ks_M_throwing kw_5 kw_655) rfl rfl rfl (by decide +kernel) ⟨Nat.le_of_ble_eq_true rfl, Nat.le_of_ble_eq_true rfl⟩) (fw_preV (ci := 4) (q0 := 0) hP hK hD hN [0] [] rfl rfl rfl rfl rfl) rfl rfl hl.1 rfl (lv_room (Nat.le_of_ble_eq_true rfl)) d_M_stop_64 ⟨Nat.le_of_ble_eq_true rfl, Nat.le_of_ble_eq_true rfl⟩) hP hD hS hA rfl rfl rfl (fun H locs hP hD hS => ?_)
            have hP : va_P (dC, dI) cls_ [(mm, .inr (4, [.int (iI (fc_thr false true true false)), .int (iI (mO)), .ref mg, .ref md, .int (iI (mH)), .ref ml, .ref mu, .ref mp, .int (bI (ud)), .int (iI (cs)), .int (iI (mS)), .ref xu, .ref xf, .ref xt, .int (iI (mW)), .int (iI (mF)), .int (bI (rn)), .int (bI (sp)), .int (iI (nd)), .int (iI (rd)), .int (iI (li)), .ref pz, .int (iI (lt))])), (xu, fw_a kI 10 (xU)), (xf, fw_a kI 10 (xF)), (xt, fw_a kI 10 (xT))] H := hP
            have hD : va_D A [(mm, .inr (4, [.int (iI (fc_thr false true true false)), .int (iI (mO)), .ref mg, .ref md, .int (iI (mH)), .ref ml, .ref mu, .ref mp, .int (bI (ud)), .int (iI (cs)), .int (iI (mS)), .ref xu, .ref xf, .ref xt, .int (iI (mW)), .int (iI (mF)), .int (bI (rn)), .int (bI (sp)), .int (iI (nd)), .int (iI (rd)), .int (iI (li)), .ref pz, .int (iI (lt))])), (xu, fw_a kI 10 (xU)), (xf, fw_a kI 10 (xF)), (xt, fw_a kI 10 (xT))] := hD
            refine fw_cast (show (.int (bI (decide (0 < fc_thr false true true false))) : Value) = .int (bI (true)) from congrArg (fun b => Value.int (bI b)) (by decide)) ?_
            refine fw_bif_eq (tgt := 72) hx hb d_M_stop_67 (by decide) (fun c_28 => ?_) (fun c_28 => ?_)
            · exact absurd c_28 (by decide)
            · refine lv_iconst (v := (iI (0))) hx hb d_M_stop_70 (by decide) ?_
              have e9 : k_stop mS u a b = (fc_thr false true true false) := by simp [k_stop, fc_thr, c_1, c_9, c_17, c_25, c_26] <;> omega
              have e8 : ¬ k_stop mS u a b = 0 := by rw [e9]; decide
              refine fw_iret hx hb hr hlocks hS ?_ ?_ d_M_stop_71
              · exact Or.inl ⟨e8, by rw [e9]; exact hP⟩
              · rw [if_neg e8]
        · refine lv_iconst (v := (bI (true))) hx hb d_M_stop_42 (by decide) ?_
          refine lv_goto (tgt := 47) hx hb d_M_stop_43 (by decide) ?_
          refine lv_aload_n hx hb d_M_stop_47 rfl (lv_at hl 1 rfl) ?_
          refine va_get (D := (dC, dI)) (ci := 4) (v := .int (iI (mS))) (C := R_M) (T := T_M) (N := 23) hx hb hts in_M hown hK hP 0 rfl rfl 10 (by decide) (hts _ kw_581) (fun _ h9 => h9) rfl d_M_stop_48 ?_
          refine lv_bipush (v := (iI (10))) hx hb d_M_stop_51 (by decide) ?_
          refine fw_icmp_ne (tgt := 60) hx hb d_M_stop_53 (by decide) ⟨by omega, by omega⟩ ⟨by omega, by omega⟩ (fun c_29 => ?_) (fun c_29 => ?_)
          · refine lv_iconst (v := (bI (false))) hx hb d_M_stop_60 (by decide) ?_
            refine lv_iload hx hb d_M_stop_61 (lv_at hl 0 rfl) ?_
            refine lv_iconst (v := (bI (false))) hx hb d_M_stop_63 (by decide) ?_
            refine fw_calliP [0] (va_runV (As := [.int (bI (true)), .int (bI (false)), .int (bI (true)), .int (bI (false))]) (rest := []) ⟨hx, hb, hml, hown, hts⟩ (c_M_throwing l dC dI  _ mm th mO mg md mH ml mu mp ud cs mS xu xf xt mW mF rn sp nd rd li pz lt true false true false ) (cwV 4 hts (gw_V kw_652 kw_654 ks_M_throwing kw_5 kw_655) rfl rfl rfl (by decide +kernel) ⟨Nat.le_of_ble_eq_true rfl, Nat.le_of_ble_eq_true rfl⟩) (fw_preV (ci := 4) (q0 := 0) hP hK hD hN [0] [] rfl rfl rfl rfl rfl) rfl rfl hl.1 rfl (lv_room (Nat.le_of_ble_eq_true rfl)) d_M_stop_64 ⟨Nat.le_of_ble_eq_true rfl, Nat.le_of_ble_eq_true rfl⟩) hP hD hS hA rfl rfl rfl (fun H locs hP hD hS => ?_)
            have hP : va_P (dC, dI) cls_ [(mm, .inr (4, [.int (iI (fc_thr true false true false)), .int (iI (mO)), .ref mg, .ref md, .int (iI (mH)), .ref ml, .ref mu, .ref mp, .int (bI (ud)), .int (iI (cs)), .int (iI (mS)), .ref xu, .ref xf, .ref xt, .int (iI (mW)), .int (iI (mF)), .int (bI (rn)), .int (bI (sp)), .int (iI (nd)), .int (iI (rd)), .int (iI (li)), .ref pz, .int (iI (lt))])), (xu, fw_a kI 10 (xU)), (xf, fw_a kI 10 (xF)), (xt, fw_a kI 10 (xT))] H := hP
            have hD : va_D A [(mm, .inr (4, [.int (iI (fc_thr true false true false)), .int (iI (mO)), .ref mg, .ref md, .int (iI (mH)), .ref ml, .ref mu, .ref mp, .int (bI (ud)), .int (iI (cs)), .int (iI (mS)), .ref xu, .ref xf, .ref xt, .int (iI (mW)), .int (iI (mF)), .int (bI (rn)), .int (bI (sp)), .int (iI (nd)), .int (iI (rd)), .int (iI (li)), .ref pz, .int (iI (lt))])), (xu, fw_a kI 10 (xU)), (xf, fw_a kI 10 (xF)), (xt, fw_a kI 10 (xT))] := hD
            refine fw_cast (show (.int (bI (decide (0 < fc_thr true false true false))) : Value) = .int (bI (true)) from congrArg (fun b => Value.int (bI b)) (by decide)) ?_
            refine fw_bif_eq (tgt := 72) hx hb d_M_stop_67 (by decide) (fun c_30 => ?_) (fun c_30 => ?_)
            · exact absurd c_30 (by decide)
            · refine lv_iconst (v := (iI (0))) hx hb d_M_stop_70 (by decide) ?_
              have e9 : k_stop mS u a b = (fc_thr true false true false) := by simp [k_stop, fc_thr, c_1, c_9, c_17, c_25, c_29] <;> omega
              have e8 : ¬ k_stop mS u a b = 0 := by rw [e9]; decide
              refine fw_iret hx hb hr hlocks hS ?_ ?_ d_M_stop_71
              · exact Or.inl ⟨e8, by rw [e9]; exact hP⟩
              · rw [if_neg e8]
          · refine lv_iconst (v := (bI (true))) hx hb d_M_stop_56 (by decide) ?_
            refine lv_goto (tgt := 61) hx hb d_M_stop_57 (by decide) ?_
            refine lv_iload hx hb d_M_stop_61 (lv_at hl 0 rfl) ?_
            refine lv_iconst (v := (bI (false))) hx hb d_M_stop_63 (by decide) ?_
            refine fw_calliP [0] (va_runV (As := [.int (bI (true)), .int (bI (true)), .int (bI (true)), .int (bI (false))]) (rest := []) ⟨hx, hb, hml, hown, hts⟩ (c_M_throwing l dC dI  _ mm th mO mg md mH ml mu mp ud cs mS xu xf xt mW mF rn sp nd rd li pz lt true true true false ) (cwV 4 hts (gw_V kw_652 kw_654 ks_M_throwing kw_5 kw_655) rfl rfl rfl (by decide +kernel) ⟨Nat.le_of_ble_eq_true rfl, Nat.le_of_ble_eq_true rfl⟩) (fw_preV (ci := 4) (q0 := 0) hP hK hD hN [0] [] rfl rfl rfl rfl rfl) rfl rfl hl.1 rfl (lv_room (Nat.le_of_ble_eq_true rfl)) d_M_stop_64 ⟨Nat.le_of_ble_eq_true rfl, Nat.le_of_ble_eq_true rfl⟩) hP hD hS hA rfl rfl rfl (fun H locs hP hD hS => ?_)
            have hP : va_P (dC, dI) cls_ [(mm, .inr (4, [.int (iI (fc_thr true true true false)), .int (iI (mO)), .ref mg, .ref md, .int (iI (mH)), .ref ml, .ref mu, .ref mp, .int (bI (ud)), .int (iI (cs)), .int (iI (mS)), .ref xu, .ref xf, .ref xt, .int (iI (mW)), .int (iI (mF)), .int (bI (rn)), .int (bI (sp)), .int (iI (nd)), .int (iI (rd)), .int (iI (li)), .ref pz, .int (iI (lt))])), (xu, fw_a kI 10 (xU)), (xf, fw_a kI 10 (xF)), (xt, fw_a kI 10 (xT))] H := hP
            have hD : va_D A [(mm, .inr (4, [.int (iI (fc_thr true true true false)), .int (iI (mO)), .ref mg, .ref md, .int (iI (mH)), .ref ml, .ref mu, .ref mp, .int (bI (ud)), .int (iI (cs)), .int (iI (mS)), .ref xu, .ref xf, .ref xt, .int (iI (mW)), .int (iI (mF)), .int (bI (rn)), .int (bI (sp)), .int (iI (nd)), .int (iI (rd)), .int (iI (li)), .ref pz, .int (iI (lt))])), (xu, fw_a kI 10 (xU)), (xf, fw_a kI 10 (xF)), (xt, fw_a kI 10 (xT))] := hD
            refine fw_cast (show (.int (bI (decide (0 < fc_thr true true true false))) : Value) = .int (bI (true)) from congrArg (fun b => Value.int (bI b)) (by decide)) ?_
            refine fw_bif_eq (tgt := 72) hx hb d_M_stop_67 (by decide) (fun c_31 => ?_) (fun c_31 => ?_)
            · exact absurd c_31 (by decide)
            · refine lv_iconst (v := (iI (0))) hx hb d_M_stop_70 (by decide) ?_
              have e9 : k_stop mS u a b = (fc_thr true true true false) := by simp [k_stop, fc_thr, c_1, c_9, c_17, c_25, c_29] <;> omega
              have e8 : ¬ k_stop mS u a b = 0 := by rw [e9]; decide
              refine fw_iret hx hb hr hlocks hS ?_ ?_ d_M_stop_71
              · exact Or.inl ⟨e8, by rw [e9]; exact hP⟩
              · rw [if_neg e8]

set_option maxHeartbeats 4000000 in
set_option maxRecDepth 100000 in
theorem c_M_go (l : Launch) (dC : Nat → ClassId) (dI : Nat → Nat → Nat) (sz : Nat) (mm : Nat) (th : Int) (mO : Int) (mg : Nat) (md : Nat) (mH : Int) (ml : Nat) (mu : Nat) (mp : Nat) (ud : Bool) (cs : Int) (mS : Int) (xu : Nat) (xf : Nat) (xt : Nat) (mW : Int) (mF : Int) (rn : Bool) (sp : Bool) (nd : Int) (rd : Int) (li : Int) (pz : Nat) (lt : Int)  : Met l y_M_go (Cond.code y_M_go b_M_go 1 none :: gw) ({ frames := 0, locals := 0, cells := 0, slots := 0 }) (fw_Pc (dC, dI) [.ref mm] [(mm, .inr (4, [.int (iI (th)), .int (iI (mO)), .ref mg, .ref md, .int (iI (mH)), .ref ml, .ref mu, .ref mp, .int (bI (ud)), .int (iI (cs)), .int (iI (mS)), .ref xu, .ref xf, .ref xt, .int (iI (mW)), .int (iI (mF)), .int (bI (rn)), .int (bI (sp)), .int (iI (nd)), .int (iI (rd)), .int (iI (li)), .ref pz, .int (iI (lt))]))] [] sz) (fw_Qv (va_P (dC, dI) cls_ [(mm, .inr (4, [.int (iI (0)), .int (iI (mO)), .ref mg, .ref md, .int (iI (mH)), .ref ml, .ref mu, .ref mp, .int (bI (ud)), .int (iI (cs)), .int (iI (0)), .ref xu, .ref xf, .ref xt, .int (iI (mW)), .int (iI (mF)), .int (bI (rn)), .int (bI (sp)), .int (iI (nd)), .int (iI (rd)), .int (iI (li)), .ref pz, .int (iI (lt))]))]) (va_A [(mm, .inr (4, [.int (iI (th)), .int (iI (mO)), .ref mg, .ref md, .int (iI (mH)), .ref ml, .ref mu, .ref mp, .int (bI (ud)), .int (iI (cs)), .int (iI (mS)), .ref xu, .ref xf, .ref xt, .int (iI (mW)), .int (iI (mF)), .int (bI (rn)), .int (bI (sp)), .int (iI (nd)), .int (iI (rd)), .int (iI (li)), .ref pz, .int (iI (lt))]))] sz)) 0 0 (va_A [(mm, .inr (4, [.int (iI (th)), .int (iI (mO)), .ref mg, .ref md, .int (iI (mH)), .ref ml, .ref mu, .ref mp, .int (bI (ud)), .int (iI (cs)), .int (iI (mS)), .ref xu, .ref xf, .ref xt, .int (iI (mW)), .int (iI (mF)), .int (bI (rn)), .int (bI (sp)), .int (iI (nd)), .int (iI (rd)), .int (iI (li)), .ref pz, .int (iI (lt))]))] sz) := by
  refine fw_ofW (Qc := fun A => fw_Qv (va_P (dC, dI) cls_ [(mm, .inr (4, [.int (iI (0)), .int (iI (mO)), .ref mg, .ref md, .int (iI (mH)), .ref ml, .ref mu, .ref mp, .int (bI (ud)), .int (iI (cs)), .int (iI (0)), .ref xu, .ref xf, .ref xt, .int (iI (mW)), .int (iI (mF)), .int (bI (rn)), .int (bI (sp)), .int (iI (nd)), .int (iI (rd)), .int (iI (li)), .ref pz, .int (iI (lt))]))]) A) (by decide) (Nat.le_of_ble_eq_true rfl) ?_
  intro p e s m below meth c A ls hx hb hr hts hown hlocks hnm hml hsz hP hK hD hN hA hS hl
  have hl : lv_has ls 1 [(0, .ref mm)] := hl
  refine lv_aload_n hx hb d_M_go_0 rfl (lv_at hl 0 rfl) ?_
  refine lv_iconst (v := (iI (0))) hx hb d_M_go_1 (by decide) ?_
  refine va_put (D := (dC, dI)) (ci := 4) (v := .int (iI (0))) (ty := .int) (C := R_M) (T := T_M) (N := 23) hx hb hts in_M t_M t_M_ok n_M hown hK hP hD hS 0 rfl rfl 0 (by decide) (hts _ kw_571) (fun _ h9 => h9) rfl (by decide +kernel) rfl rfl (Nat.le_of_ble_eq_true rfl) d_M_go_2 (fun H locs hP hD hS => ?_)
  have hP : va_P (dC, dI) cls_ [(mm, .inr (4, [.int (iI (0)), .int (iI (mO)), .ref mg, .ref md, .int (iI (mH)), .ref ml, .ref mu, .ref mp, .int (bI (ud)), .int (iI (cs)), .int (iI (mS)), .ref xu, .ref xf, .ref xt, .int (iI (mW)), .int (iI (mF)), .int (bI (rn)), .int (bI (sp)), .int (iI (nd)), .int (iI (rd)), .int (iI (li)), .ref pz, .int (iI (lt))]))] H := hP
  have hD : va_D A [(mm, .inr (4, [.int (iI (0)), .int (iI (mO)), .ref mg, .ref md, .int (iI (mH)), .ref ml, .ref mu, .ref mp, .int (bI (ud)), .int (iI (cs)), .int (iI (mS)), .ref xu, .ref xf, .ref xt, .int (iI (mW)), .int (iI (mF)), .int (bI (rn)), .int (bI (sp)), .int (iI (nd)), .int (iI (rd)), .int (iI (li)), .ref pz, .int (iI (lt))]))] := hD
  refine lv_aload_n hx hb d_M_go_5 rfl (lv_at hl 0 rfl) ?_
  refine lv_iconst (v := (iI (0))) hx hb d_M_go_6 (by decide) ?_
  refine va_put (D := (dC, dI)) (ci := 4) (v := .int (iI (0))) (ty := .int) (C := R_M) (T := T_M) (N := 23) hx hb hts in_M t_M t_M_ok n_M hown hK hP hD hS 0 rfl rfl 10 (by decide) (hts _ kw_581) (fun _ h9 => h9) rfl (by decide +kernel) rfl rfl (Nat.le_of_ble_eq_true rfl) d_M_go_7 (fun H locs hP hD hS => ?_)
  have hP : va_P (dC, dI) cls_ [(mm, .inr (4, [.int (iI (0)), .int (iI (mO)), .ref mg, .ref md, .int (iI (mH)), .ref ml, .ref mu, .ref mp, .int (bI (ud)), .int (iI (cs)), .int (iI (0)), .ref xu, .ref xf, .ref xt, .int (iI (mW)), .int (iI (mF)), .int (bI (rn)), .int (bI (sp)), .int (iI (nd)), .int (iI (rd)), .int (iI (li)), .ref pz, .int (iI (lt))]))] H := hP
  have hD : va_D A [(mm, .inr (4, [.int (iI (0)), .int (iI (mO)), .ref mg, .ref md, .int (iI (mH)), .ref ml, .ref mu, .ref mp, .int (bI (ud)), .int (iI (cs)), .int (iI (0)), .ref xu, .ref xf, .ref xt, .int (iI (mW)), .int (iI (mF)), .int (bI (rn)), .int (bI (sp)), .int (iI (nd)), .int (iI (rd)), .int (iI (li)), .ref pz, .int (iI (lt))]))] := hD
  refine fw_vret hx hb hr hlocks hS ?_ d_M_go_10
  · exact hP

set_option maxHeartbeats 4000000 in
set_option maxRecDepth 100000 in
theorem c_M_clock (l : Launch) (dC : Nat → ClassId) (dI : Nat → Nat → Nat) (sz : Nat) (mm : Nat) (th : Int) (mO : Int) (mg : Nat) (md : Nat) (mH : Int) (ml : Nat) (mu : Nat) (mp : Nat) (ud : Bool) (cs : Int) (mS : Int) (xu : Nat) (xf : Nat) (xt : Nat) (mW : Int) (mF : Int) (rn : Bool) (sp : Bool) (nd : Int) (rd : Int) (li : Int) (pz : Nat) (lt : Int) (n : Int) (f : Int) (hb_n : fw_b n) (hb_f : fw_b f) : Met l y_M_clock (Cond.code y_M_clock b_M_clock 3 none :: gw) ({ frames := 1, locals := 24, cells := 0, slots := 0 }) (fw_Pc (dC, dI) [.ref mm, .int (iI (n)), .int (iI (f))] [(mm, .inr (4, [.int (iI (th)), .int (iI (mO)), .ref mg, .ref md, .int (iI (mH)), .ref ml, .ref mu, .ref mp, .int (bI (ud)), .int (iI (cs)), .int (iI (mS)), .ref xu, .ref xf, .ref xt, .int (iI (mW)), .int (iI (mF)), .int (bI (rn)), .int (bI (sp)), .int (iI (nd)), .int (iI (rd)), .int (iI (li)), .ref pz, .int (iI (lt))]))] [] sz) (fw_Qv (fun H => (¬ k_clock n f = 0 ∧ va_P (dC, dI) cls_ [(mm, .inr (4, [.int (iI (k_clock n f)), .int (iI (mO)), .ref mg, .ref md, .int (iI (mH)), .ref ml, .ref mu, .ref mp, .int (bI (ud)), .int (iI (cs)), .int (iI (mS)), .ref xu, .ref xf, .ref xt, .int (iI (mW)), .int (iI (mF)), .int (bI (rn)), .int (bI (sp)), .int (iI (nd)), .int (iI (rd)), .int (iI (li)), .ref pz, .int (iI (lt))]))] H) ∨ (k_clock n f = 0 ∧ va_P (dC, dI) cls_ [(mm, .inr (4, [.int (iI (0)), .int (iI (mO)), .ref mg, .ref md, .int (iI (mH)), .ref ml, .ref mu, .ref mp, .int (bI (ud)), .int (iI (cs)), .int (iI (mS)), .ref xu, .ref xf, .ref xt, .int (iI (n)), .int (iI (f)), .int (bI (rn)), .int (bI (sp)), .int (iI (nd)), .int (iI (rd)), .int (iI (li)), .ref pz, .int (iI (lt))]))] H)) (va_A [(mm, .inr (4, [.int (iI (th)), .int (iI (mO)), .ref mg, .ref md, .int (iI (mH)), .ref ml, .ref mu, .ref mp, .int (bI (ud)), .int (iI (cs)), .int (iI (mS)), .ref xu, .ref xf, .ref xt, .int (iI (mW)), .int (iI (mF)), .int (bI (rn)), .int (bI (sp)), .int (iI (nd)), .int (iI (rd)), .int (iI (li)), .ref pz, .int (iI (lt))]))] sz)) 0 0 (va_A [(mm, .inr (4, [.int (iI (th)), .int (iI (mO)), .ref mg, .ref md, .int (iI (mH)), .ref ml, .ref mu, .ref mp, .int (bI (ud)), .int (iI (cs)), .int (iI (mS)), .ref xu, .ref xf, .ref xt, .int (iI (mW)), .int (iI (mF)), .int (bI (rn)), .int (bI (sp)), .int (iI (nd)), .int (iI (rd)), .int (iI (li)), .ref pz, .int (iI (lt))]))] sz) := by
  refine fw_ofW (Qc := fun A => fw_Qv (fun H => (¬ k_clock n f = 0 ∧ va_P (dC, dI) cls_ [(mm, .inr (4, [.int (iI (k_clock n f)), .int (iI (mO)), .ref mg, .ref md, .int (iI (mH)), .ref ml, .ref mu, .ref mp, .int (bI (ud)), .int (iI (cs)), .int (iI (mS)), .ref xu, .ref xf, .ref xt, .int (iI (mW)), .int (iI (mF)), .int (bI (rn)), .int (bI (sp)), .int (iI (nd)), .int (iI (rd)), .int (iI (li)), .ref pz, .int (iI (lt))]))] H) ∨ (k_clock n f = 0 ∧ va_P (dC, dI) cls_ [(mm, .inr (4, [.int (iI (0)), .int (iI (mO)), .ref mg, .ref md, .int (iI (mH)), .ref ml, .ref mu, .ref mp, .int (bI (ud)), .int (iI (cs)), .int (iI (mS)), .ref xu, .ref xf, .ref xt, .int (iI (n)), .int (iI (f)), .int (bI (rn)), .int (bI (sp)), .int (iI (nd)), .int (iI (rd)), .int (iI (li)), .ref pz, .int (iI (lt))]))] H)) A) (by decide) (Nat.le_of_ble_eq_true rfl) ?_
  intro p e s m below meth c A ls hx hb hr hts hown hlocks hnm hml hsz hP hK hD hN hA hS hl
  have hl : lv_has ls 3 [(0, .ref mm), (1, .int (iI (n))), (2, .int (iI (f)))] := hl
  refine lv_aload_n hx hb d_M_clock_0 rfl (lv_at hl 0 rfl) ?_
  refine lv_iload_n hx hb d_M_clock_1 rfl (lv_at hl 1 rfl) ?_
  refine lv_iconst (v := (iI (0))) hx hb d_M_clock_2 (by decide) ?_
  refine lv_bipush (v := (iI (60))) hx hb d_M_clock_3 (by decide) ?_
  refine fw_callR (va_runS (As := [.int (iI (n)), .int (iI (0)), .int (iI (60))]) (rest := [.ref mm]) ⟨hx, hb, hml, hown, hts⟩ (c_M_in l dC dI  n 0 60 ⟨by omega, by omega⟩ ⟨by omega, by omega⟩ ⟨by omega, by omega⟩) (cwS 3 hts (gw_S kw_649 kw_650 kw_5 kw_651) rfl rfl rfl (by decide +kernel) ⟨Nat.le_of_ble_eq_true rfl, Nat.le_of_ble_eq_true rfl⟩) (fw_preRS hP hK hN [] [] rfl rfl) rfl rfl hl.1 rfl (lv_room (Nat.le_of_ble_eq_true rfl)) d_M_clock_5 ⟨Nat.le_of_ble_eq_true rfl, Nat.le_of_ble_eq_true rfl⟩).run ?_
  refine fw_bif_eq (tgt := 21) hx hb d_M_clock_8 (by decide) (fun c_1 => ?_) (fun c_1 => ?_)
  · refine lv_iconst (v := (bI (true))) hx hb d_M_clock_21 (by decide) ?_
    refine lv_goto (tgt := 26) hx hb d_M_clock_22 (by decide) ?_
    refine lv_iconst (v := (bI (false))) hx hb d_M_clock_26 (by decide) ?_
    refine lv_iconst (v := (bI (false))) hx hb d_M_clock_27 (by decide) ?_
    refine lv_iconst (v := (bI (false))) hx hb d_M_clock_28 (by decide) ?_
    refine fw_calliP [0] (va_runV (As := [.int (bI (true)), .int (bI (false)), .int (bI (false)), .int (bI (false))]) (rest := []) ⟨hx, hb, hml, hown, hts⟩ (c_M_throwing l dC dI  _ mm th mO mg md mH ml mu mp ud cs mS xu xf xt mW mF rn sp nd rd li pz lt true false false false ) (cwV 4 hts (gw_V kw_652 kw_654 ks_M_throwing kw_5 kw_655) rfl rfl rfl (by decide +kernel) ⟨Nat.le_of_ble_eq_true rfl, Nat.le_of_ble_eq_true rfl⟩) (fw_preV (ci := 4) (q0 := 0) hP hK hD hN [0] [] rfl rfl rfl rfl rfl) rfl rfl hl.1 rfl (lv_room (Nat.le_of_ble_eq_true rfl)) d_M_clock_29 ⟨Nat.le_of_ble_eq_true rfl, Nat.le_of_ble_eq_true rfl⟩) hP hD hS hA rfl rfl rfl (fun H locs hP hD hS => ?_)
    have hP : va_P (dC, dI) cls_ [(mm, .inr (4, [.int (iI (fc_thr true false false false)), .int (iI (mO)), .ref mg, .ref md, .int (iI (mH)), .ref ml, .ref mu, .ref mp, .int (bI (ud)), .int (iI (cs)), .int (iI (mS)), .ref xu, .ref xf, .ref xt, .int (iI (mW)), .int (iI (mF)), .int (bI (rn)), .int (bI (sp)), .int (iI (nd)), .int (iI (rd)), .int (iI (li)), .ref pz, .int (iI (lt))]))] H := hP
    have hD : va_D A [(mm, .inr (4, [.int (iI (fc_thr true false false false)), .int (iI (mO)), .ref mg, .ref md, .int (iI (mH)), .ref ml, .ref mu, .ref mp, .int (bI (ud)), .int (iI (cs)), .int (iI (mS)), .ref xu, .ref xf, .ref xt, .int (iI (mW)), .int (iI (mF)), .int (bI (rn)), .int (bI (sp)), .int (iI (nd)), .int (iI (rd)), .int (iI (li)), .ref pz, .int (iI (lt))]))] := hD
    refine fw_cast (show (.int (bI (decide (0 < fc_thr true false false false))) : Value) = .int (bI (true)) from congrArg (fun b => Value.int (bI b)) (by decide)) ?_
    refine fw_bif_eq (tgt := 36) hx hb d_M_clock_32 (by decide) (fun c_2 => ?_) (fun c_2 => ?_)
    · exact absurd c_2 (by decide)
    · have e9 : k_clock n f = (fc_thr true false false false) := by simp [k_clock, fc_thr, c_1] <;> omega
      have e8 : ¬ k_clock n f = 0 := by rw [e9]; decide
      refine fw_vret hx hb hr hlocks hS ?_ d_M_clock_35
      · exact Or.inl ⟨e8, by rw [e9]; exact hP⟩
  · refine lv_iload_n hx hb d_M_clock_11 rfl (lv_at hl 2 rfl) ?_
    refine lv_iconst (v := (iI (0))) hx hb d_M_clock_12 (by decide) ?_
    refine lv_bipush (v := (iI (60))) hx hb d_M_clock_13 (by decide) ?_
    refine fw_callR (va_runS (As := [.int (iI (f)), .int (iI (0)), .int (iI (60))]) (rest := [.ref mm]) ⟨hx, hb, hml, hown, hts⟩ (c_M_in l dC dI  f 0 60 ⟨by omega, by omega⟩ ⟨by omega, by omega⟩ ⟨by omega, by omega⟩) (cwS 3 hts (gw_S kw_649 kw_650 kw_5 kw_651) rfl rfl rfl (by decide +kernel) ⟨Nat.le_of_ble_eq_true rfl, Nat.le_of_ble_eq_true rfl⟩) (fw_preRS hP hK hN [] [] rfl rfl) rfl rfl hl.1 rfl (lv_room (Nat.le_of_ble_eq_true rfl)) d_M_clock_15 ⟨Nat.le_of_ble_eq_true rfl, Nat.le_of_ble_eq_true rfl⟩).run ?_
    refine fw_bif_ne (tgt := 25) hx hb d_M_clock_18 (by decide) (fun c_3 => ?_) (fun c_3 => ?_)
    · refine lv_iconst (v := (bI (false))) hx hb d_M_clock_25 (by decide) ?_
      refine lv_iconst (v := (bI (false))) hx hb d_M_clock_26 (by decide) ?_
      refine lv_iconst (v := (bI (false))) hx hb d_M_clock_27 (by decide) ?_
      refine lv_iconst (v := (bI (false))) hx hb d_M_clock_28 (by decide) ?_
      refine fw_calliP [0] (va_runV (As := [.int (bI (false)), .int (bI (false)), .int (bI (false)), .int (bI (false))]) (rest := []) ⟨hx, hb, hml, hown, hts⟩ (c_M_throwing l dC dI  _ mm th mO mg md mH ml mu mp ud cs mS xu xf xt mW mF rn sp nd rd li pz lt false false false false ) (cwV 4 hts (gw_V kw_652 kw_654 ks_M_throwing kw_5 kw_655) rfl rfl rfl (by decide +kernel) ⟨Nat.le_of_ble_eq_true rfl, Nat.le_of_ble_eq_true rfl⟩) (fw_preV (ci := 4) (q0 := 0) hP hK hD hN [0] [] rfl rfl rfl rfl rfl) rfl rfl hl.1 rfl (lv_room (Nat.le_of_ble_eq_true rfl)) d_M_clock_29 ⟨Nat.le_of_ble_eq_true rfl, Nat.le_of_ble_eq_true rfl⟩) hP hD hS hA rfl rfl rfl (fun H locs hP hD hS => ?_)
      have hP : va_P (dC, dI) cls_ [(mm, .inr (4, [.int (iI (fc_thr false false false false)), .int (iI (mO)), .ref mg, .ref md, .int (iI (mH)), .ref ml, .ref mu, .ref mp, .int (bI (ud)), .int (iI (cs)), .int (iI (mS)), .ref xu, .ref xf, .ref xt, .int (iI (mW)), .int (iI (mF)), .int (bI (rn)), .int (bI (sp)), .int (iI (nd)), .int (iI (rd)), .int (iI (li)), .ref pz, .int (iI (lt))]))] H := hP
      have hD : va_D A [(mm, .inr (4, [.int (iI (fc_thr false false false false)), .int (iI (mO)), .ref mg, .ref md, .int (iI (mH)), .ref ml, .ref mu, .ref mp, .int (bI (ud)), .int (iI (cs)), .int (iI (mS)), .ref xu, .ref xf, .ref xt, .int (iI (mW)), .int (iI (mF)), .int (bI (rn)), .int (bI (sp)), .int (iI (nd)), .int (iI (rd)), .int (iI (li)), .ref pz, .int (iI (lt))]))] := hD
      refine fw_cast (show (.int (bI (decide (0 < fc_thr false false false false))) : Value) = .int (bI (false)) from congrArg (fun b => Value.int (bI b)) (by decide)) ?_
      refine fw_bif_eq (tgt := 36) hx hb d_M_clock_32 (by decide) (fun c_4 => ?_) (fun c_4 => ?_)
      · refine lv_aload_n hx hb d_M_clock_36 rfl (lv_at hl 0 rfl) ?_
        refine lv_iload_n hx hb d_M_clock_37 rfl (lv_at hl 1 rfl) ?_
        refine va_put (D := (dC, dI)) (ci := 4) (v := .int (iI (n))) (ty := .int) (C := R_M) (T := T_M) (N := 23) hx hb hts in_M t_M t_M_ok n_M hown hK hP hD hS 0 rfl rfl 14 (by decide) (hts _ kw_585) (fun _ h9 => h9) rfl (by decide +kernel) rfl rfl (Nat.le_of_ble_eq_true rfl) d_M_clock_38 (fun H locs hP hD hS => ?_)
        have hP : va_P (dC, dI) cls_ [(mm, .inr (4, [.int (iI (fc_thr false false false false)), .int (iI (mO)), .ref mg, .ref md, .int (iI (mH)), .ref ml, .ref mu, .ref mp, .int (bI (ud)), .int (iI (cs)), .int (iI (mS)), .ref xu, .ref xf, .ref xt, .int (iI (n)), .int (iI (mF)), .int (bI (rn)), .int (bI (sp)), .int (iI (nd)), .int (iI (rd)), .int (iI (li)), .ref pz, .int (iI (lt))]))] H := hP
        have hD : va_D A [(mm, .inr (4, [.int (iI (fc_thr false false false false)), .int (iI (mO)), .ref mg, .ref md, .int (iI (mH)), .ref ml, .ref mu, .ref mp, .int (bI (ud)), .int (iI (cs)), .int (iI (mS)), .ref xu, .ref xf, .ref xt, .int (iI (n)), .int (iI (mF)), .int (bI (rn)), .int (bI (sp)), .int (iI (nd)), .int (iI (rd)), .int (iI (li)), .ref pz, .int (iI (lt))]))] := hD
        refine lv_aload_n hx hb d_M_clock_41 rfl (lv_at hl 0 rfl) ?_
        refine lv_iload_n hx hb d_M_clock_42 rfl (lv_at hl 2 rfl) ?_
        refine va_put (D := (dC, dI)) (ci := 4) (v := .int (iI (f))) (ty := .int) (C := R_M) (T := T_M) (N := 23) hx hb hts in_M t_M t_M_ok n_M hown hK hP hD hS 0 rfl rfl 15 (by decide) (hts _ kw_586) (fun _ h9 => h9) rfl (by decide +kernel) rfl rfl (Nat.le_of_ble_eq_true rfl) d_M_clock_43 (fun H locs hP hD hS => ?_)
        have hP : va_P (dC, dI) cls_ [(mm, .inr (4, [.int (iI (fc_thr false false false false)), .int (iI (mO)), .ref mg, .ref md, .int (iI (mH)), .ref ml, .ref mu, .ref mp, .int (bI (ud)), .int (iI (cs)), .int (iI (mS)), .ref xu, .ref xf, .ref xt, .int (iI (n)), .int (iI (f)), .int (bI (rn)), .int (bI (sp)), .int (iI (nd)), .int (iI (rd)), .int (iI (li)), .ref pz, .int (iI (lt))]))] H := hP
        have hD : va_D A [(mm, .inr (4, [.int (iI (fc_thr false false false false)), .int (iI (mO)), .ref mg, .ref md, .int (iI (mH)), .ref ml, .ref mu, .ref mp, .int (bI (ud)), .int (iI (cs)), .int (iI (mS)), .ref xu, .ref xf, .ref xt, .int (iI (n)), .int (iI (f)), .int (bI (rn)), .int (bI (sp)), .int (iI (nd)), .int (iI (rd)), .int (iI (li)), .ref pz, .int (iI (lt))]))] := hD
        have e9 : k_clock n f = 0 := by simp [k_clock, c_1, c_3] <;> omega
        refine fw_vret hx hb hr hlocks hS ?_ d_M_clock_46
        · exact Or.inr ⟨e9, hP⟩
      · exact absurd c_4 (by decide)
    · refine lv_iconst (v := (bI (true))) hx hb d_M_clock_21 (by decide) ?_
      refine lv_goto (tgt := 26) hx hb d_M_clock_22 (by decide) ?_
      refine lv_iconst (v := (bI (false))) hx hb d_M_clock_26 (by decide) ?_
      refine lv_iconst (v := (bI (false))) hx hb d_M_clock_27 (by decide) ?_
      refine lv_iconst (v := (bI (false))) hx hb d_M_clock_28 (by decide) ?_
      refine fw_calliP [0] (va_runV (As := [.int (bI (true)), .int (bI (false)), .int (bI (false)), .int (bI (false))]) (rest := []) ⟨hx, hb, hml, hown, hts⟩ (c_M_throwing l dC dI  _ mm th mO mg md mH ml mu mp ud cs mS xu xf xt mW mF rn sp nd rd li pz lt true false false false ) (cwV 4 hts (gw_V kw_652 kw_654 ks_M_throwing kw_5 kw_655) rfl rfl rfl (by decide +kernel) ⟨Nat.le_of_ble_eq_true rfl, Nat.le_of_ble_eq_true rfl⟩) (fw_preV (ci := 4) (q0 := 0) hP hK hD hN [0] [] rfl rfl rfl rfl rfl) rfl rfl hl.1 rfl (lv_room (Nat.le_of_ble_eq_true rfl)) d_M_clock_29 ⟨Nat.le_of_ble_eq_true rfl, Nat.le_of_ble_eq_true rfl⟩) hP hD hS hA rfl rfl rfl (fun H locs hP hD hS => ?_)
      have hP : va_P (dC, dI) cls_ [(mm, .inr (4, [.int (iI (fc_thr true false false false)), .int (iI (mO)), .ref mg, .ref md, .int (iI (mH)), .ref ml, .ref mu, .ref mp, .int (bI (ud)), .int (iI (cs)), .int (iI (mS)), .ref xu, .ref xf, .ref xt, .int (iI (mW)), .int (iI (mF)), .int (bI (rn)), .int (bI (sp)), .int (iI (nd)), .int (iI (rd)), .int (iI (li)), .ref pz, .int (iI (lt))]))] H := hP
      have hD : va_D A [(mm, .inr (4, [.int (iI (fc_thr true false false false)), .int (iI (mO)), .ref mg, .ref md, .int (iI (mH)), .ref ml, .ref mu, .ref mp, .int (bI (ud)), .int (iI (cs)), .int (iI (mS)), .ref xu, .ref xf, .ref xt, .int (iI (mW)), .int (iI (mF)), .int (bI (rn)), .int (bI (sp)), .int (iI (nd)), .int (iI (rd)), .int (iI (li)), .ref pz, .int (iI (lt))]))] := hD
      refine fw_cast (show (.int (bI (decide (0 < fc_thr true false false false))) : Value) = .int (bI (true)) from congrArg (fun b => Value.int (bI b)) (by decide)) ?_
      refine fw_bif_eq (tgt := 36) hx hb d_M_clock_32 (by decide) (fun c_5 => ?_) (fun c_5 => ?_)
      · exact absurd c_5 (by decide)
      · have e9 : k_clock n f = (fc_thr true false false false) := by simp [k_clock, fc_thr, c_1, c_3] <;> omega
        have e8 : ¬ k_clock n f = 0 := by rw [e9]; decide
        refine fw_vret hx hb hr hlocks hS ?_ d_M_clock_35
        · exact Or.inl ⟨e8, by rw [e9]; exact hP⟩

set_option maxHeartbeats 4000000 in
set_option maxRecDepth 100000 in
theorem c_M_undo (l : Launch) (dC : Nat → ClassId) (dI : Nat → Nat → Nat) (sz : Nat) (mm : Nat) (th : Int) (mO : Int) (mg : Nat) (md : Nat) (mH : Int) (ml : Nat) (mu : Nat) (mp : Nat) (ud : Bool) (cs : Int) (mS : Int) (xu : Nat) (xf : Nat) (xt : Nat) (mW : Int) (mF : Int) (rn : Bool) (sp : Bool) (nd : Int) (rd : Int) (li : Int) (pz : Nat) (lt : Int) (gP : Nat → Int) (kI : ClassId)  : Met l y_M_undo (Cond.code y_M_undo b_M_undo 1 none :: gw) ({ frames := 1, locals := 24, cells := 0, slots := 0 }) (fw_Pc (dC, dI) [.ref mm] [(mm, .inr (4, [.int (iI (th)), .int (iI (mO)), .ref mg, .ref md, .int (iI (mH)), .ref ml, .ref mu, .ref mp, .int (bI (ud)), .int (iI (cs)), .int (iI (mS)), .ref xu, .ref xf, .ref xt, .int (iI (mW)), .int (iI (mF)), .int (bI (rn)), .int (bI (sp)), .int (iI (nd)), .int (iI (rd)), .int (iI (li)), .ref pz, .int (iI (lt))])), (mp, fw_a kI 144 (gP))] [(kI, .int)] sz) (fw_Qv (fun H => (¬ k_undo ud = 0 ∧ va_P (dC, dI) cls_ [(mm, .inr (4, [.int (iI (k_undo ud)), .int (iI (mO)), .ref mg, .ref md, .int (iI (mH)), .ref ml, .ref mu, .ref mp, .int (bI (ud)), .int (iI (cs)), .int (iI (mS)), .ref xu, .ref xf, .ref xt, .int (iI (mW)), .int (iI (mF)), .int (bI (rn)), .int (bI (sp)), .int (iI (nd)), .int (iI (rd)), .int (iI (li)), .ref pz, .int (iI (lt))])), (mp, fw_a kI 144 (gP))] H) ∨ (k_undo ud = 0 ∧ va_P (dC, dI) cls_ [(mm, .inr (4, [.int (iI (0)), .int (iI (mO)), .ref mg, .ref md, .int (iI (mH)), .ref ml, .ref mu, .ref mp, .int (bI (false)), .int (iI (cs)), .int (iI (mS)), .ref xu, .ref xf, .ref xt, .int (iI (mW)), .int (iI (mF)), .int (bI (rn)), .int (bI (sp)), .int (iI (nd)), .int (iI (rd)), .int (iI (li)), .ref pz, .int (iI (lt))])), (mp, fw_a kI 144 (fm_cp 54 0 gP))] H)) (va_A [(mm, .inr (4, [.int (iI (th)), .int (iI (mO)), .ref mg, .ref md, .int (iI (mH)), .ref ml, .ref mu, .ref mp, .int (bI (ud)), .int (iI (cs)), .int (iI (mS)), .ref xu, .ref xf, .ref xt, .int (iI (mW)), .int (iI (mF)), .int (bI (rn)), .int (bI (sp)), .int (iI (nd)), .int (iI (rd)), .int (iI (li)), .ref pz, .int (iI (lt))])), (mp, fw_a kI 144 (gP))] sz)) 0 0 (va_A [(mm, .inr (4, [.int (iI (th)), .int (iI (mO)), .ref mg, .ref md, .int (iI (mH)), .ref ml, .ref mu, .ref mp, .int (bI (ud)), .int (iI (cs)), .int (iI (mS)), .ref xu, .ref xf, .ref xt, .int (iI (mW)), .int (iI (mF)), .int (bI (rn)), .int (bI (sp)), .int (iI (nd)), .int (iI (rd)), .int (iI (li)), .ref pz, .int (iI (lt))])), (mp, fw_a kI 144 (gP))] sz) := by
  refine fw_ofW (Qc := fun A => fw_Qv (fun H => (¬ k_undo ud = 0 ∧ va_P (dC, dI) cls_ [(mm, .inr (4, [.int (iI (k_undo ud)), .int (iI (mO)), .ref mg, .ref md, .int (iI (mH)), .ref ml, .ref mu, .ref mp, .int (bI (ud)), .int (iI (cs)), .int (iI (mS)), .ref xu, .ref xf, .ref xt, .int (iI (mW)), .int (iI (mF)), .int (bI (rn)), .int (bI (sp)), .int (iI (nd)), .int (iI (rd)), .int (iI (li)), .ref pz, .int (iI (lt))])), (mp, fw_a kI 144 (gP))] H) ∨ (k_undo ud = 0 ∧ va_P (dC, dI) cls_ [(mm, .inr (4, [.int (iI (0)), .int (iI (mO)), .ref mg, .ref md, .int (iI (mH)), .ref ml, .ref mu, .ref mp, .int (bI (false)), .int (iI (cs)), .int (iI (mS)), .ref xu, .ref xf, .ref xt, .int (iI (mW)), .int (iI (mF)), .int (bI (rn)), .int (bI (sp)), .int (iI (nd)), .int (iI (rd)), .int (iI (li)), .ref pz, .int (iI (lt))])), (mp, fw_a kI 144 (fm_cp 54 0 gP))] H)) A) (by decide) (Nat.le_of_ble_eq_true rfl) ?_
  intro p e s m below meth c A ls hx hb hr hts hown hlocks hnm hml hsz hP hK hD hN hA hS hl
  have hl : lv_has ls 1 [(0, .ref mm)] := hl
  refine lv_aload_n hx hb d_M_undo_0 rfl (lv_at hl 0 rfl) ?_
  refine lv_aload_n hx hb d_M_undo_1 rfl (lv_at hl 0 rfl) ?_
  refine va_get (D := (dC, dI)) (ci := 4) (v := .int (bI (ud))) (C := R_M) (T := T_M) (N := 23) hx hb hts in_M hown hK hP 0 rfl rfl 8 (by decide) (hts _ kw_579) (fun _ h9 => h9) rfl d_M_undo_2 ?_
  refine fw_bif_ne (tgt := 12) hx hb d_M_undo_5 (by decide) (fun c_1 => ?_) (fun c_1 => ?_)
  · refine lv_iconst (v := (bI (false))) hx hb d_M_undo_12 (by decide) ?_
    refine lv_iconst (v := (bI (false))) hx hb d_M_undo_13 (by decide) ?_
    refine lv_iconst (v := (bI (false))) hx hb d_M_undo_14 (by decide) ?_
    refine lv_iconst (v := (bI (false))) hx hb d_M_undo_15 (by decide) ?_
    refine fw_calliP [0] (va_runV (As := [.int (bI (false)), .int (bI (false)), .int (bI (false)), .int (bI (false))]) (rest := []) ⟨hx, hb, hml, hown, hts⟩ (c_M_throwing l dC dI  _ mm th mO mg md mH ml mu mp ud cs mS xu xf xt mW mF rn sp nd rd li pz lt false false false false ) (cwV 4 hts (gw_V kw_652 kw_654 ks_M_throwing kw_5 kw_655) rfl rfl rfl (by decide +kernel) ⟨Nat.le_of_ble_eq_true rfl, Nat.le_of_ble_eq_true rfl⟩) (fw_preV (ci := 4) (q0 := 0) hP hK hD hN [0] [] rfl rfl rfl rfl rfl) rfl rfl hl.1 rfl (lv_room (Nat.le_of_ble_eq_true rfl)) d_M_undo_16 ⟨Nat.le_of_ble_eq_true rfl, Nat.le_of_ble_eq_true rfl⟩) hP hD hS hA rfl rfl rfl (fun H locs hP hD hS => ?_)
    have hP : va_P (dC, dI) cls_ [(mm, .inr (4, [.int (iI (fc_thr false false false false)), .int (iI (mO)), .ref mg, .ref md, .int (iI (mH)), .ref ml, .ref mu, .ref mp, .int (bI (ud)), .int (iI (cs)), .int (iI (mS)), .ref xu, .ref xf, .ref xt, .int (iI (mW)), .int (iI (mF)), .int (bI (rn)), .int (bI (sp)), .int (iI (nd)), .int (iI (rd)), .int (iI (li)), .ref pz, .int (iI (lt))])), (mp, fw_a kI 144 (gP))] H := hP
    have hD : va_D A [(mm, .inr (4, [.int (iI (fc_thr false false false false)), .int (iI (mO)), .ref mg, .ref md, .int (iI (mH)), .ref ml, .ref mu, .ref mp, .int (bI (ud)), .int (iI (cs)), .int (iI (mS)), .ref xu, .ref xf, .ref xt, .int (iI (mW)), .int (iI (mF)), .int (bI (rn)), .int (bI (sp)), .int (iI (nd)), .int (iI (rd)), .int (iI (li)), .ref pz, .int (iI (lt))])), (mp, fw_a kI 144 (gP))] := hD
    refine fw_cast (show (.int (bI (decide (0 < fc_thr false false false false))) : Value) = .int (bI (false)) from congrArg (fun b => Value.int (bI b)) (by decide)) ?_
    refine fw_bif_eq (tgt := 23) hx hb d_M_undo_19 (by decide) (fun c_2 => ?_) (fun c_2 => ?_)
    · refine lv_aload_n hx hb d_M_undo_23 rfl (lv_at hl 0 rfl) ?_
      refine lv_bipush (v := (iI (54))) hx hb d_M_undo_24 (by decide) ?_
      refine lv_iconst (v := (iI (0))) hx hb d_M_undo_26 (by decide) ?_
      refine fw_callvP [0, 1] (va_runV (As := [.int (iI (54)), .int (iI (0))]) (rest := []) ⟨hx, hb, hml, hown, hts⟩ (c_M_copy l dC dI  _ mm (fc_thr false false false false) mO mg md mH ml mu mp ud cs mS xu xf xt mW mF rn sp nd rd li pz lt gP kI 54 0 (by first | assumption | omega) (by first | assumption | omega) (by first | assumption | omega) (by first | assumption | omega) (by omega)) (cwV 2 hts (gw_V kw_700 kw_702 ks_M_copy kw_5 kw_703) rfl rfl rfl (by decide +kernel) ⟨Nat.le_of_ble_eq_true rfl, Nat.le_of_ble_eq_true rfl⟩) (fw_preV (ci := 4) (q0 := 0) hP hK hD hN [0, 1] [0] rfl rfl rfl rfl rfl) rfl rfl hl.1 rfl (lv_room (Nat.le_of_ble_eq_true rfl)) d_M_undo_27 ⟨Nat.le_of_ble_eq_true rfl, Nat.le_of_ble_eq_true rfl⟩) hP hD hS hA rfl rfl rfl (fun H locs hP hD hS => ?_)
      have hP : va_P (dC, dI) cls_ [(mm, .inr (4, [.int (iI ((fc_thr false false false false))), .int (iI (mO)), .ref mg, .ref md, .int (iI (mH)), .ref ml, .ref mu, .ref mp, .int (bI (ud)), .int (iI (cs)), .int (iI (mS)), .ref xu, .ref xf, .ref xt, .int (iI (mW)), .int (iI (mF)), .int (bI (rn)), .int (bI (sp)), .int (iI (nd)), .int (iI (rd)), .int (iI (li)), .ref pz, .int (iI (lt))])), (mp, fw_a kI 144 (fm_cp (54 : Int).toNat (0 : Int).toNat gP))] H := hP
      have hD : va_D A [(mm, .inr (4, [.int (iI ((fc_thr false false false false))), .int (iI (mO)), .ref mg, .ref md, .int (iI (mH)), .ref ml, .ref mu, .ref mp, .int (bI (ud)), .int (iI (cs)), .int (iI (mS)), .ref xu, .ref xf, .ref xt, .int (iI (mW)), .int (iI (mF)), .int (bI (rn)), .int (bI (sp)), .int (iI (nd)), .int (iI (rd)), .int (iI (li)), .ref pz, .int (iI (lt))])), (mp, fw_a kI 144 (fm_cp (54 : Int).toNat (0 : Int).toNat gP))] := hD
      refine lv_aload_n hx hb d_M_undo_30 rfl (lv_at hl 0 rfl) ?_
      refine lv_iconst (v := (bI (false))) hx hb d_M_undo_31 (by decide) ?_
      refine va_put (D := (dC, dI)) (ci := 4) (v := .int (bI (false))) (ty := .boolean) (C := R_M) (T := T_M) (N := 23) hx hb hts in_M t_M t_M_ok n_M hown hK hP hD hS 0 rfl rfl 8 (by decide) (hts _ kw_579) (fun _ h9 => h9) rfl (by decide +kernel) (bI_nar _) (bI_fit _) (Nat.le_of_ble_eq_true rfl) d_M_undo_32 (fun H locs hP hD hS => ?_)
      have hP : va_P (dC, dI) cls_ [(mm, .inr (4, [.int (iI ((fc_thr false false false false))), .int (iI (mO)), .ref mg, .ref md, .int (iI (mH)), .ref ml, .ref mu, .ref mp, .int (bI (false)), .int (iI (cs)), .int (iI (mS)), .ref xu, .ref xf, .ref xt, .int (iI (mW)), .int (iI (mF)), .int (bI (rn)), .int (bI (sp)), .int (iI (nd)), .int (iI (rd)), .int (iI (li)), .ref pz, .int (iI (lt))])), (mp, fw_a kI 144 (fm_cp (54 : Int).toNat (0 : Int).toNat gP))] H := hP
      have hD : va_D A [(mm, .inr (4, [.int (iI ((fc_thr false false false false))), .int (iI (mO)), .ref mg, .ref md, .int (iI (mH)), .ref ml, .ref mu, .ref mp, .int (bI (false)), .int (iI (cs)), .int (iI (mS)), .ref xu, .ref xf, .ref xt, .int (iI (mW)), .int (iI (mF)), .int (bI (rn)), .int (bI (sp)), .int (iI (nd)), .int (iI (rd)), .int (iI (li)), .ref pz, .int (iI (lt))])), (mp, fw_a kI 144 (fm_cp (54 : Int).toNat (0 : Int).toNat gP))] := hD
      have e9 : k_undo ud = 0 := by simp [k_undo, c_1] <;> omega
      refine fw_vret hx hb hr hlocks hS ?_ d_M_undo_35
      · exact Or.inr ⟨e9, hP⟩
    · exact absurd c_2 (by decide)
  · refine lv_iconst (v := (bI (true))) hx hb d_M_undo_8 (by decide) ?_
    refine lv_goto (tgt := 13) hx hb d_M_undo_9 (by decide) ?_
    refine lv_iconst (v := (bI (false))) hx hb d_M_undo_13 (by decide) ?_
    refine lv_iconst (v := (bI (false))) hx hb d_M_undo_14 (by decide) ?_
    refine lv_iconst (v := (bI (false))) hx hb d_M_undo_15 (by decide) ?_
    refine fw_calliP [0] (va_runV (As := [.int (bI (true)), .int (bI (false)), .int (bI (false)), .int (bI (false))]) (rest := []) ⟨hx, hb, hml, hown, hts⟩ (c_M_throwing l dC dI  _ mm th mO mg md mH ml mu mp ud cs mS xu xf xt mW mF rn sp nd rd li pz lt true false false false ) (cwV 4 hts (gw_V kw_652 kw_654 ks_M_throwing kw_5 kw_655) rfl rfl rfl (by decide +kernel) ⟨Nat.le_of_ble_eq_true rfl, Nat.le_of_ble_eq_true rfl⟩) (fw_preV (ci := 4) (q0 := 0) hP hK hD hN [0] [] rfl rfl rfl rfl rfl) rfl rfl hl.1 rfl (lv_room (Nat.le_of_ble_eq_true rfl)) d_M_undo_16 ⟨Nat.le_of_ble_eq_true rfl, Nat.le_of_ble_eq_true rfl⟩) hP hD hS hA rfl rfl rfl (fun H locs hP hD hS => ?_)
    have hP : va_P (dC, dI) cls_ [(mm, .inr (4, [.int (iI (fc_thr true false false false)), .int (iI (mO)), .ref mg, .ref md, .int (iI (mH)), .ref ml, .ref mu, .ref mp, .int (bI (ud)), .int (iI (cs)), .int (iI (mS)), .ref xu, .ref xf, .ref xt, .int (iI (mW)), .int (iI (mF)), .int (bI (rn)), .int (bI (sp)), .int (iI (nd)), .int (iI (rd)), .int (iI (li)), .ref pz, .int (iI (lt))])), (mp, fw_a kI 144 (gP))] H := hP
    have hD : va_D A [(mm, .inr (4, [.int (iI (fc_thr true false false false)), .int (iI (mO)), .ref mg, .ref md, .int (iI (mH)), .ref ml, .ref mu, .ref mp, .int (bI (ud)), .int (iI (cs)), .int (iI (mS)), .ref xu, .ref xf, .ref xt, .int (iI (mW)), .int (iI (mF)), .int (bI (rn)), .int (bI (sp)), .int (iI (nd)), .int (iI (rd)), .int (iI (li)), .ref pz, .int (iI (lt))])), (mp, fw_a kI 144 (gP))] := hD
    refine fw_cast (show (.int (bI (decide (0 < fc_thr true false false false))) : Value) = .int (bI (true)) from congrArg (fun b => Value.int (bI b)) (by decide)) ?_
    refine fw_bif_eq (tgt := 23) hx hb d_M_undo_19 (by decide) (fun c_3 => ?_) (fun c_3 => ?_)
    · exact absurd c_3 (by decide)
    · have e9 : k_undo ud = (fc_thr true false false false) := by simp [k_undo, fc_thr, c_1] <;> omega
      have e8 : ¬ k_undo ud = 0 := by rw [e9]; decide
      refine fw_vret hx hb hr hlocks hS ?_ d_M_undo_22
      · exact Or.inl ⟨e8, by rw [e9]; exact hP⟩

set_option maxHeartbeats 4000000 in
set_option maxRecDepth 100000 in
theorem c_M_keep (l : Launch) (dC : Nat → ClassId) (dI : Nat → Nat → Nat) (sz : Nat) (mm : Nat) (th : Int) (mO : Int) (mg : Nat) (md : Nat) (mH : Int) (ml : Nat) (mu : Nat) (mp : Nat) (ud : Bool) (cs : Int) (mS : Int) (xu : Nat) (xf : Nat) (xt : Nat) (mW : Int) (mF : Int) (rn : Bool) (sp : Bool) (nd : Int) (rd : Int) (li : Int) (pz : Nat) (lt : Int) (gP : Nat → Int) (kI : ClassId) (z : Int) (hb_z : fw_b z) (c1 : 0 ≤ cs) (c2 : cs < 16) : Met l y_M_keep (Cond.code y_M_keep b_M_keep 2 none :: gw) ({ frames := 1, locals := 24, cells := 0, slots := 0 }) (fw_Pc (dC, dI) [.ref mm, .int (iI (z))] [(mm, .inr (4, [.int (iI (th)), .int (iI (mO)), .ref mg, .ref md, .int (iI (mH)), .ref ml, .ref mu, .ref mp, .int (bI (ud)), .int (iI (cs)), .int (iI (mS)), .ref xu, .ref xf, .ref xt, .int (iI (mW)), .int (iI (mF)), .int (bI (rn)), .int (bI (sp)), .int (iI (nd)), .int (iI (rd)), .int (iI (li)), .ref pz, .int (iI (lt))])), (mp, fw_a kI 144 (gP))] [(kI, .int)] sz) (fw_Qv (fun H => (¬ k_keep z = 0 ∧ va_P (dC, dI) cls_ [(mm, .inr (4, [.int (iI (k_keep z)), .int (iI (mO)), .ref mg, .ref md, .int (iI (mH)), .ref ml, .ref mu, .ref mp, .int (bI (ud)), .int (iI (cs)), .int (iI (mS)), .ref xu, .ref xf, .ref xt, .int (iI (mW)), .int (iI (mF)), .int (bI (rn)), .int (bI (sp)), .int (iI (nd)), .int (iI (rd)), .int (iI (li)), .ref pz, .int (iI (lt))])), (mp, fw_a kI 144 (gP))] H) ∨ (k_keep z = 0 ∧ va_P (dC, dI) cls_ [(mm, .inr (4, [.int (iI (0)), .int (iI (mO)), .ref mg, .ref md, .int (iI (mH)), .ref ml, .ref mu, .ref mp, .int (bI (ud)), .int (iI (fm_or cs z.toNat)), .int (iI (mS)), .ref xu, .ref xf, .ref xt, .int (iI (mW)), .int (iI (mF)), .int (bI (rn)), .int (bI (sp)), .int (iI (nd)), .int (iI (rd)), .int (iI (li)), .ref pz, .int (iI (lt))])), (mp, fw_a kI 144 (fm_cp 0 (72 + 18 * z).toNat gP))] H)) (va_A [(mm, .inr (4, [.int (iI (th)), .int (iI (mO)), .ref mg, .ref md, .int (iI (mH)), .ref ml, .ref mu, .ref mp, .int (bI (ud)), .int (iI (cs)), .int (iI (mS)), .ref xu, .ref xf, .ref xt, .int (iI (mW)), .int (iI (mF)), .int (bI (rn)), .int (bI (sp)), .int (iI (nd)), .int (iI (rd)), .int (iI (li)), .ref pz, .int (iI (lt))])), (mp, fw_a kI 144 (gP))] sz)) 0 0 (va_A [(mm, .inr (4, [.int (iI (th)), .int (iI (mO)), .ref mg, .ref md, .int (iI (mH)), .ref ml, .ref mu, .ref mp, .int (bI (ud)), .int (iI (cs)), .int (iI (mS)), .ref xu, .ref xf, .ref xt, .int (iI (mW)), .int (iI (mF)), .int (bI (rn)), .int (bI (sp)), .int (iI (nd)), .int (iI (rd)), .int (iI (li)), .ref pz, .int (iI (lt))])), (mp, fw_a kI 144 (gP))] sz) := by
  refine fw_ofW (Qc := fun A => fw_Qv (fun H => (¬ k_keep z = 0 ∧ va_P (dC, dI) cls_ [(mm, .inr (4, [.int (iI (k_keep z)), .int (iI (mO)), .ref mg, .ref md, .int (iI (mH)), .ref ml, .ref mu, .ref mp, .int (bI (ud)), .int (iI (cs)), .int (iI (mS)), .ref xu, .ref xf, .ref xt, .int (iI (mW)), .int (iI (mF)), .int (bI (rn)), .int (bI (sp)), .int (iI (nd)), .int (iI (rd)), .int (iI (li)), .ref pz, .int (iI (lt))])), (mp, fw_a kI 144 (gP))] H) ∨ (k_keep z = 0 ∧ va_P (dC, dI) cls_ [(mm, .inr (4, [.int (iI (0)), .int (iI (mO)), .ref mg, .ref md, .int (iI (mH)), .ref ml, .ref mu, .ref mp, .int (bI (ud)), .int (iI (fm_or cs z.toNat)), .int (iI (mS)), .ref xu, .ref xf, .ref xt, .int (iI (mW)), .int (iI (mF)), .int (bI (rn)), .int (bI (sp)), .int (iI (nd)), .int (iI (rd)), .int (iI (li)), .ref pz, .int (iI (lt))])), (mp, fw_a kI 144 (fm_cp 0 (72 + 18 * z).toNat gP))] H)) A) (by decide) (Nat.le_of_ble_eq_true rfl) ?_
  intro p e s m below meth c A ls hx hb hr hts hown hlocks hnm hml hsz hP hK hD hN hA hS hl
  have hl : lv_has ls 2 [(0, .ref mm), (1, .int (iI (z)))] := hl
  refine lv_aload_n hx hb d_M_keep_0 rfl (lv_at hl 0 rfl) ?_
  refine lv_iload_n hx hb d_M_keep_1 rfl (lv_at hl 1 rfl) ?_
  refine lv_iconst (v := (iI (0))) hx hb d_M_keep_2 (by decide) ?_
  refine lv_iconst (v := (iI (3))) hx hb d_M_keep_3 (by decide) ?_
  refine fw_callR (va_runS (As := [.int (iI (z)), .int (iI (0)), .int (iI (3))]) (rest := [.ref mm]) ⟨hx, hb, hml, hown, hts⟩ (c_M_in l dC dI  z 0 3 ⟨by omega, by omega⟩ ⟨by omega, by omega⟩ ⟨by omega, by omega⟩) (cwS 3 hts (gw_S kw_649 kw_650 kw_5 kw_651) rfl rfl rfl (by decide +kernel) ⟨Nat.le_of_ble_eq_true rfl, Nat.le_of_ble_eq_true rfl⟩) (fw_preRS hP hK hN [] [] rfl rfl) rfl rfl hl.1 rfl (lv_room (Nat.le_of_ble_eq_true rfl)) d_M_keep_4 ⟨Nat.le_of_ble_eq_true rfl, Nat.le_of_ble_eq_true rfl⟩).run ?_
  refine fw_bif_ne (tgt := 14) hx hb d_M_keep_7 (by decide) (fun c_1 => ?_) (fun c_1 => ?_)
  · refine lv_iconst (v := (bI (false))) hx hb d_M_keep_14 (by decide) ?_
    refine lv_iconst (v := (bI (false))) hx hb d_M_keep_15 (by decide) ?_
    refine lv_iconst (v := (bI (false))) hx hb d_M_keep_16 (by decide) ?_
    refine lv_iconst (v := (bI (false))) hx hb d_M_keep_17 (by decide) ?_
    refine fw_calliP [0] (va_runV (As := [.int (bI (false)), .int (bI (false)), .int (bI (false)), .int (bI (false))]) (rest := []) ⟨hx, hb, hml, hown, hts⟩ (c_M_throwing l dC dI  _ mm th mO mg md mH ml mu mp ud cs mS xu xf xt mW mF rn sp nd rd li pz lt false false false false ) (cwV 4 hts (gw_V kw_652 kw_654 ks_M_throwing kw_5 kw_655) rfl rfl rfl (by decide +kernel) ⟨Nat.le_of_ble_eq_true rfl, Nat.le_of_ble_eq_true rfl⟩) (fw_preV (ci := 4) (q0 := 0) hP hK hD hN [0] [] rfl rfl rfl rfl rfl) rfl rfl hl.1 rfl (lv_room (Nat.le_of_ble_eq_true rfl)) d_M_keep_18 ⟨Nat.le_of_ble_eq_true rfl, Nat.le_of_ble_eq_true rfl⟩) hP hD hS hA rfl rfl rfl (fun H locs hP hD hS => ?_)
    have hP : va_P (dC, dI) cls_ [(mm, .inr (4, [.int (iI (fc_thr false false false false)), .int (iI (mO)), .ref mg, .ref md, .int (iI (mH)), .ref ml, .ref mu, .ref mp, .int (bI (ud)), .int (iI (cs)), .int (iI (mS)), .ref xu, .ref xf, .ref xt, .int (iI (mW)), .int (iI (mF)), .int (bI (rn)), .int (bI (sp)), .int (iI (nd)), .int (iI (rd)), .int (iI (li)), .ref pz, .int (iI (lt))])), (mp, fw_a kI 144 (gP))] H := hP
    have hD : va_D A [(mm, .inr (4, [.int (iI (fc_thr false false false false)), .int (iI (mO)), .ref mg, .ref md, .int (iI (mH)), .ref ml, .ref mu, .ref mp, .int (bI (ud)), .int (iI (cs)), .int (iI (mS)), .ref xu, .ref xf, .ref xt, .int (iI (mW)), .int (iI (mF)), .int (bI (rn)), .int (bI (sp)), .int (iI (nd)), .int (iI (rd)), .int (iI (li)), .ref pz, .int (iI (lt))])), (mp, fw_a kI 144 (gP))] := hD
    refine fw_cast (show (.int (bI (decide (0 < fc_thr false false false false))) : Value) = .int (bI (false)) from congrArg (fun b => Value.int (bI b)) (by decide)) ?_
    refine fw_bif_eq (tgt := 25) hx hb d_M_keep_21 (by decide) (fun c_2 => ?_) (fun c_2 => ?_)
    · have q1 := fc_in_t c_1
      refine lv_aload_n hx hb d_M_keep_25 rfl (lv_at hl 0 rfl) ?_
      refine lv_iconst (v := (iI (0))) hx hb d_M_keep_26 (by decide) ?_
      refine lv_bipush (v := (iI (72))) hx hb d_M_keep_27 (by decide) ?_
      refine lv_bipush (v := (iI (18))) hx hb d_M_keep_29 (by decide) ?_
      refine lv_iload_n hx hb d_M_keep_31 rfl (lv_at hl 1 rfl) ?_
      refine fw_imul hx hb d_M_keep_32 ?_
      refine fw_iadd hx hb d_M_keep_33 ?_
      refine fw_callvP [0, 1] (va_runV (As := [.int (iI (0)), .int (iI (72 + (18 * z)))]) (rest := []) ⟨hx, hb, hml, hown, hts⟩ (c_M_copy l dC dI  _ mm (fc_thr false false false false) mO mg md mH ml mu mp ud cs mS xu xf xt mW mF rn sp nd rd li pz lt gP kI 0 (72 + (18 * z)) (by first | assumption | omega) (by first | assumption | omega) (by first | assumption | omega) (by first | assumption | omega) (by omega)) (cwV 2 hts (gw_V kw_700 kw_702 ks_M_copy kw_5 kw_703) rfl rfl rfl (by decide +kernel) ⟨Nat.le_of_ble_eq_true rfl, Nat.le_of_ble_eq_true rfl⟩) (fw_preV (ci := 4) (q0 := 0) hP hK hD hN [0, 1] [0] rfl rfl rfl rfl rfl) rfl rfl hl.1 rfl (lv_room (Nat.le_of_ble_eq_true rfl)) d_M_keep_34 ⟨Nat.le_of_ble_eq_true rfl, Nat.le_of_ble_eq_true rfl⟩) hP hD hS hA rfl rfl rfl (fun H locs hP hD hS => ?_)
      have hP : va_P (dC, dI) cls_ [(mm, .inr (4, [.int (iI ((fc_thr false false false false))), .int (iI (mO)), .ref mg, .ref md, .int (iI (mH)), .ref ml, .ref mu, .ref mp, .int (bI (ud)), .int (iI (cs)), .int (iI (mS)), .ref xu, .ref xf, .ref xt, .int (iI (mW)), .int (iI (mF)), .int (bI (rn)), .int (bI (sp)), .int (iI (nd)), .int (iI (rd)), .int (iI (li)), .ref pz, .int (iI (lt))])), (mp, fw_a kI 144 (fm_cp (0 : Int).toNat (72 + (18 * z)).toNat gP))] H := hP
      have hD : va_D A [(mm, .inr (4, [.int (iI ((fc_thr false false false false))), .int (iI (mO)), .ref mg, .ref md, .int (iI (mH)), .ref ml, .ref mu, .ref mp, .int (bI (ud)), .int (iI (cs)), .int (iI (mS)), .ref xu, .ref xf, .ref xt, .int (iI (mW)), .int (iI (mF)), .int (bI (rn)), .int (bI (sp)), .int (iI (nd)), .int (iI (rd)), .int (iI (li)), .ref pz, .int (iI (lt))])), (mp, fw_a kI 144 (fm_cp (0 : Int).toNat (72 + (18 * z)).toNat gP))] := hD
      refine lv_aload_n hx hb d_M_keep_37 rfl (lv_at hl 0 rfl) ?_
      refine lv_dup hx hb d_M_keep_38 rfl ?_
      refine va_get (D := (dC, dI)) (ci := 4) (v := .int (iI (cs))) (C := R_M) (T := T_M) (N := 23) hx hb hts in_M hown hK hP 0 rfl rfl 9 (by decide) (hts _ kw_580) (fun _ h9 => h9) rfl d_M_keep_39 ?_
      refine lv_iconst (v := (iI (1))) hx hb d_M_keep_42 (by decide) ?_
      refine lv_iload_n hx hb d_M_keep_43 rfl (lv_at hl 1 rfl) ?_
      refine lv_ishl hx hb d_M_keep_44 ?_
      refine fw_cast (show (.int ((iI (1)) <<< ((iI (z)) &&& 31)) : Value) = .int (iI (2 ^ z.toNat)) from congrArg Value.int (iI_shl1 (by omega) (by omega))) ?_
      refine lv_ior hx hb d_M_keep_45 ?_
      refine fw_cast (show (.int ((iI (cs)) ||| (iI (2 ^ z.toNat))) : Value) = .int (iI (fm_or cs z.toNat)) from congrArg Value.int (fm_or_ok c1 c2 (by omega))) ?_
      refine va_put (D := (dC, dI)) (ci := 4) (v := .int (iI (fm_or cs z.toNat))) (ty := .int) (C := R_M) (T := T_M) (N := 23) hx hb hts in_M t_M t_M_ok n_M hown hK hP hD hS 0 rfl rfl 9 (by decide) (hts _ kw_580) (fun _ h9 => h9) rfl (by decide +kernel) rfl rfl (Nat.le_of_ble_eq_true rfl) d_M_keep_46 (fun H locs hP hD hS => ?_)
      have hP : va_P (dC, dI) cls_ [(mm, .inr (4, [.int (iI ((fc_thr false false false false))), .int (iI (mO)), .ref mg, .ref md, .int (iI (mH)), .ref ml, .ref mu, .ref mp, .int (bI (ud)), .int (iI (fm_or cs z.toNat)), .int (iI (mS)), .ref xu, .ref xf, .ref xt, .int (iI (mW)), .int (iI (mF)), .int (bI (rn)), .int (bI (sp)), .int (iI (nd)), .int (iI (rd)), .int (iI (li)), .ref pz, .int (iI (lt))])), (mp, fw_a kI 144 (fm_cp (0 : Int).toNat (72 + (18 * z)).toNat gP))] H := hP
      have hD : va_D A [(mm, .inr (4, [.int (iI ((fc_thr false false false false))), .int (iI (mO)), .ref mg, .ref md, .int (iI (mH)), .ref ml, .ref mu, .ref mp, .int (bI (ud)), .int (iI (fm_or cs z.toNat)), .int (iI (mS)), .ref xu, .ref xf, .ref xt, .int (iI (mW)), .int (iI (mF)), .int (bI (rn)), .int (bI (sp)), .int (iI (nd)), .int (iI (rd)), .int (iI (li)), .ref pz, .int (iI (lt))])), (mp, fw_a kI 144 (fm_cp (0 : Int).toNat (72 + (18 * z)).toNat gP))] := hD
      have e9 : k_keep z = 0 := by simp [k_keep, c_1] <;> omega
      refine fw_vret hx hb hr hlocks hS ?_ d_M_keep_49
      · exact Or.inr ⟨e9, hP⟩
    · exact absurd c_2 (by decide)
  · refine lv_iconst (v := (bI (true))) hx hb d_M_keep_10 (by decide) ?_
    refine lv_goto (tgt := 15) hx hb d_M_keep_11 (by decide) ?_
    refine lv_iconst (v := (bI (false))) hx hb d_M_keep_15 (by decide) ?_
    refine lv_iconst (v := (bI (false))) hx hb d_M_keep_16 (by decide) ?_
    refine lv_iconst (v := (bI (false))) hx hb d_M_keep_17 (by decide) ?_
    refine fw_calliP [0] (va_runV (As := [.int (bI (true)), .int (bI (false)), .int (bI (false)), .int (bI (false))]) (rest := []) ⟨hx, hb, hml, hown, hts⟩ (c_M_throwing l dC dI  _ mm th mO mg md mH ml mu mp ud cs mS xu xf xt mW mF rn sp nd rd li pz lt true false false false ) (cwV 4 hts (gw_V kw_652 kw_654 ks_M_throwing kw_5 kw_655) rfl rfl rfl (by decide +kernel) ⟨Nat.le_of_ble_eq_true rfl, Nat.le_of_ble_eq_true rfl⟩) (fw_preV (ci := 4) (q0 := 0) hP hK hD hN [0] [] rfl rfl rfl rfl rfl) rfl rfl hl.1 rfl (lv_room (Nat.le_of_ble_eq_true rfl)) d_M_keep_18 ⟨Nat.le_of_ble_eq_true rfl, Nat.le_of_ble_eq_true rfl⟩) hP hD hS hA rfl rfl rfl (fun H locs hP hD hS => ?_)
    have hP : va_P (dC, dI) cls_ [(mm, .inr (4, [.int (iI (fc_thr true false false false)), .int (iI (mO)), .ref mg, .ref md, .int (iI (mH)), .ref ml, .ref mu, .ref mp, .int (bI (ud)), .int (iI (cs)), .int (iI (mS)), .ref xu, .ref xf, .ref xt, .int (iI (mW)), .int (iI (mF)), .int (bI (rn)), .int (bI (sp)), .int (iI (nd)), .int (iI (rd)), .int (iI (li)), .ref pz, .int (iI (lt))])), (mp, fw_a kI 144 (gP))] H := hP
    have hD : va_D A [(mm, .inr (4, [.int (iI (fc_thr true false false false)), .int (iI (mO)), .ref mg, .ref md, .int (iI (mH)), .ref ml, .ref mu, .ref mp, .int (bI (ud)), .int (iI (cs)), .int (iI (mS)), .ref xu, .ref xf, .ref xt, .int (iI (mW)), .int (iI (mF)), .int (bI (rn)), .int (bI (sp)), .int (iI (nd)), .int (iI (rd)), .int (iI (li)), .ref pz, .int (iI (lt))])), (mp, fw_a kI 144 (gP))] := hD
    refine fw_cast (show (.int (bI (decide (0 < fc_thr true false false false))) : Value) = .int (bI (true)) from congrArg (fun b => Value.int (bI b)) (by decide)) ?_
    refine fw_bif_eq (tgt := 25) hx hb d_M_keep_21 (by decide) (fun c_3 => ?_) (fun c_3 => ?_)
    · exact absurd c_3 (by decide)
    · have e9 : k_keep z = (fc_thr true false false false) := by simp [k_keep, fc_thr, c_1] <;> omega
      have e8 : ¬ k_keep z = 0 := by rw [e9]; decide
      refine fw_vret hx hb hr hlocks hS ?_ d_M_keep_24
      · exact Or.inl ⟨e8, by rw [e9]; exact hP⟩

set_option maxHeartbeats 4000000 in
set_option maxRecDepth 100000 in
theorem c_M_use (l : Launch) (dC : Nat → ClassId) (dI : Nat → Nat → Nat) (sz : Nat) (mm : Nat) (th : Int) (mO : Int) (mg : Nat) (md : Nat) (mH : Int) (ml : Nat) (mu : Nat) (mp : Nat) (ud : Bool) (cs : Int) (mS : Int) (xu : Nat) (xf : Nat) (xt : Nat) (mW : Int) (mF : Int) (rn : Bool) (sp : Bool) (nd : Int) (rd : Int) (li : Int) (pz : Nat) (lt : Int) (gP : Nat → Int) (kI : ClassId) (z : Int) (hb_z : fw_b z) (c1 : 0 ≤ cs) (c2 : cs < 16) : Met l y_M_use (Cond.code y_M_use b_M_use 2 none :: gw) ({ frames := 2, locals := 43, cells := 0, slots := 0 }) (fw_Pc (dC, dI) [.ref mm, .int (iI (z))] [(mm, .inr (4, [.int (iI (th)), .int (iI (mO)), .ref mg, .ref md, .int (iI (mH)), .ref ml, .ref mu, .ref mp, .int (bI (ud)), .int (iI (cs)), .int (iI (mS)), .ref xu, .ref xf, .ref xt, .int (iI (mW)), .int (iI (mF)), .int (bI (rn)), .int (bI (sp)), .int (iI (nd)), .int (iI (rd)), .int (iI (li)), .ref pz, .int (iI (lt))])), (mp, fw_a kI 144 (gP))] [(kI, .int)] sz) (fw_Qv (fun H => (¬ k_use z (fc_bit cs) = 0 ∧ va_P (dC, dI) cls_ [(mm, .inr (4, [.int (iI (k_use z (fc_bit cs))), .int (iI (mO)), .ref mg, .ref md, .int (iI (mH)), .ref ml, .ref mu, .ref mp, .int (bI (ud)), .int (iI (cs)), .int (iI (mS)), .ref xu, .ref xf, .ref xt, .int (iI (mW)), .int (iI (mF)), .int (bI (rn)), .int (bI (sp)), .int (iI (nd)), .int (iI (rd)), .int (iI (li)), .ref pz, .int (iI (lt))])), (mp, fw_a kI 144 (gP))] H) ∨ (k_use z (fc_bit cs) = 0 ∧ va_P (dC, dI) cls_ [(mm, .inr (4, [.int (iI (0)), .int (iI (mO)), .ref mg, .ref md, .int (iI (mH)), .ref ml, .ref mu, .ref mp, .int (bI (true)), .int (iI (cs)), .int (iI (mS)), .ref xu, .ref xf, .ref xt, .int (iI (mW)), .int (iI (mF)), .int (bI (rn)), .int (bI (sp)), .int (iI (nd)), .int (iI (rd)), .int (iI (li)), .ref pz, .int (iI (lt))])), (mp, fw_a kI 144 (fm_cp (72 + 18 * z).toNat 0 (fm_cp 0 54 gP)))] H)) (va_A [(mm, .inr (4, [.int (iI (th)), .int (iI (mO)), .ref mg, .ref md, .int (iI (mH)), .ref ml, .ref mu, .ref mp, .int (bI (ud)), .int (iI (cs)), .int (iI (mS)), .ref xu, .ref xf, .ref xt, .int (iI (mW)), .int (iI (mF)), .int (bI (rn)), .int (bI (sp)), .int (iI (nd)), .int (iI (rd)), .int (iI (li)), .ref pz, .int (iI (lt))])), (mp, fw_a kI 144 (gP))] sz)) 0 0 (va_A [(mm, .inr (4, [.int (iI (th)), .int (iI (mO)), .ref mg, .ref md, .int (iI (mH)), .ref ml, .ref mu, .ref mp, .int (bI (ud)), .int (iI (cs)), .int (iI (mS)), .ref xu, .ref xf, .ref xt, .int (iI (mW)), .int (iI (mF)), .int (bI (rn)), .int (bI (sp)), .int (iI (nd)), .int (iI (rd)), .int (iI (li)), .ref pz, .int (iI (lt))])), (mp, fw_a kI 144 (gP))] sz) := by
  refine fw_ofW (Qc := fun A => fw_Qv (fun H => (¬ k_use z (fc_bit cs) = 0 ∧ va_P (dC, dI) cls_ [(mm, .inr (4, [.int (iI (k_use z (fc_bit cs))), .int (iI (mO)), .ref mg, .ref md, .int (iI (mH)), .ref ml, .ref mu, .ref mp, .int (bI (ud)), .int (iI (cs)), .int (iI (mS)), .ref xu, .ref xf, .ref xt, .int (iI (mW)), .int (iI (mF)), .int (bI (rn)), .int (bI (sp)), .int (iI (nd)), .int (iI (rd)), .int (iI (li)), .ref pz, .int (iI (lt))])), (mp, fw_a kI 144 (gP))] H) ∨ (k_use z (fc_bit cs) = 0 ∧ va_P (dC, dI) cls_ [(mm, .inr (4, [.int (iI (0)), .int (iI (mO)), .ref mg, .ref md, .int (iI (mH)), .ref ml, .ref mu, .ref mp, .int (bI (true)), .int (iI (cs)), .int (iI (mS)), .ref xu, .ref xf, .ref xt, .int (iI (mW)), .int (iI (mF)), .int (bI (rn)), .int (bI (sp)), .int (iI (nd)), .int (iI (rd)), .int (iI (li)), .ref pz, .int (iI (lt))])), (mp, fw_a kI 144 (fm_cp (72 + 18 * z).toNat 0 (fm_cp 0 54 gP)))] H)) A) (by decide) (Nat.le_of_ble_eq_true rfl) ?_
  intro p e s m below meth c A ls hx hb hr hts hown hlocks hnm hml hsz hP hK hD hN hA hS hl
  have hl : lv_has ls 2 [(0, .ref mm), (1, .int (iI (z)))] := hl
  refine lv_aload_n hx hb d_M_use_0 rfl (lv_at hl 0 rfl) ?_
  refine lv_iload_n hx hb d_M_use_1 rfl (lv_at hl 1 rfl) ?_
  refine lv_iconst (v := (iI (0))) hx hb d_M_use_2 (by decide) ?_
  refine lv_iconst (v := (iI (3))) hx hb d_M_use_3 (by decide) ?_
  refine fw_callR (va_runS (As := [.int (iI (z)), .int (iI (0)), .int (iI (3))]) (rest := [.ref mm]) ⟨hx, hb, hml, hown, hts⟩ (c_M_in l dC dI  z 0 3 ⟨by omega, by omega⟩ ⟨by omega, by omega⟩ ⟨by omega, by omega⟩) (cwS 3 hts (gw_S kw_649 kw_650 kw_5 kw_651) rfl rfl rfl (by decide +kernel) ⟨Nat.le_of_ble_eq_true rfl, Nat.le_of_ble_eq_true rfl⟩) (fw_preRS hP hK hN [] [] rfl rfl) rfl rfl hl.1 rfl (lv_room (Nat.le_of_ble_eq_true rfl)) d_M_use_4 ⟨Nat.le_of_ble_eq_true rfl, Nat.le_of_ble_eq_true rfl⟩).run ?_
  refine fw_bif_ne (tgt := 14) hx hb d_M_use_7 (by decide) (fun c_1 => ?_) (fun c_1 => ?_)
  · refine lv_iconst (v := (bI (false))) hx hb d_M_use_14 (by decide) ?_
    refine lv_aload_n hx hb d_M_use_15 rfl (lv_at hl 0 rfl) ?_
    refine lv_iload_n hx hb d_M_use_16 rfl (lv_at hl 1 rfl) ?_
    refine fw_callR (va_runV (As := [.int (iI (z))]) (rest := [.int (bI (false)), .ref mm]) ⟨hx, hb, hml, hown, hts⟩ (c_M_isKept l dC dI  mm th mO mg md mH ml mu mp ud cs mS xu xf xt mW mF rn sp nd rd li pz lt z ⟨by omega, by omega⟩ (by first | assumption | omega) (by first | assumption | omega)) (cwV 1 hts (gw_V kw_770 kw_772 ks_M_isKept kw_5 kw_773) rfl rfl rfl (by decide +kernel) ⟨Nat.le_of_ble_eq_true rfl, Nat.le_of_ble_eq_true rfl⟩) (fw_preRV (ci := 4) (q0 := 0) hP hK hN [0] [] rfl rfl rfl rfl) rfl rfl hl.1 rfl (lv_room (Nat.le_of_ble_eq_true rfl)) d_M_use_17 ⟨Nat.le_of_ble_eq_true rfl, Nat.le_of_ble_eq_true rfl⟩).run ?_
    refine fw_bif_ne (tgt := 27) hx hb d_M_use_20 (by decide) (fun c_2 => ?_) (fun c_2 => ?_)
    · refine lv_iconst (v := (bI (false))) hx hb d_M_use_27 (by decide) ?_
      refine lv_iconst (v := (bI (false))) hx hb d_M_use_28 (by decide) ?_
      refine lv_iconst (v := (bI (false))) hx hb d_M_use_29 (by decide) ?_
      refine fw_calliP [0] (va_runV (As := [.int (bI (false)), .int (bI (false)), .int (bI (false)), .int (bI (false))]) (rest := []) ⟨hx, hb, hml, hown, hts⟩ (c_M_throwing l dC dI  _ mm th mO mg md mH ml mu mp ud cs mS xu xf xt mW mF rn sp nd rd li pz lt false false false false ) (cwV 4 hts (gw_V kw_652 kw_654 ks_M_throwing kw_5 kw_655) rfl rfl rfl (by decide +kernel) ⟨Nat.le_of_ble_eq_true rfl, Nat.le_of_ble_eq_true rfl⟩) (fw_preV (ci := 4) (q0 := 0) hP hK hD hN [0] [] rfl rfl rfl rfl rfl) rfl rfl hl.1 rfl (lv_room (Nat.le_of_ble_eq_true rfl)) d_M_use_30 ⟨Nat.le_of_ble_eq_true rfl, Nat.le_of_ble_eq_true rfl⟩) hP hD hS hA rfl rfl rfl (fun H locs hP hD hS => ?_)
      have hP : va_P (dC, dI) cls_ [(mm, .inr (4, [.int (iI (fc_thr false false false false)), .int (iI (mO)), .ref mg, .ref md, .int (iI (mH)), .ref ml, .ref mu, .ref mp, .int (bI (ud)), .int (iI (cs)), .int (iI (mS)), .ref xu, .ref xf, .ref xt, .int (iI (mW)), .int (iI (mF)), .int (bI (rn)), .int (bI (sp)), .int (iI (nd)), .int (iI (rd)), .int (iI (li)), .ref pz, .int (iI (lt))])), (mp, fw_a kI 144 (gP))] H := hP
      have hD : va_D A [(mm, .inr (4, [.int (iI (fc_thr false false false false)), .int (iI (mO)), .ref mg, .ref md, .int (iI (mH)), .ref ml, .ref mu, .ref mp, .int (bI (ud)), .int (iI (cs)), .int (iI (mS)), .ref xu, .ref xf, .ref xt, .int (iI (mW)), .int (iI (mF)), .int (bI (rn)), .int (bI (sp)), .int (iI (nd)), .int (iI (rd)), .int (iI (li)), .ref pz, .int (iI (lt))])), (mp, fw_a kI 144 (gP))] := hD
      refine fw_cast (show (.int (bI (decide (0 < fc_thr false false false false))) : Value) = .int (bI (false)) from congrArg (fun b => Value.int (bI b)) (by decide)) ?_
      refine fw_bif_eq (tgt := 37) hx hb d_M_use_33 (by decide) (fun c_3 => ?_) (fun c_3 => ?_)
      · have q1 := fc_in_t c_1
        refine lv_aload_n hx hb d_M_use_37 rfl (lv_at hl 0 rfl) ?_
        refine fw_callvP [0, 1] (va_runV (As := []) (rest := []) ⟨hx, hb, hml, hown, hts⟩ (c_M_keepForUndo l dC dI  _ mm (fc_thr false false false false) mO mg md mH ml mu mp ud cs mS xu xf xt mW mF rn sp nd rd li pz lt gP kI ) (cwV 0 hts (gw_V kw_696 kw_698 ks_M_keepForUndo kw_5 kw_699) rfl rfl rfl (by decide +kernel) ⟨Nat.le_of_ble_eq_true rfl, Nat.le_of_ble_eq_true rfl⟩) (fw_preV (ci := 4) (q0 := 0) hP hK hD hN [0, 1] [0] rfl rfl rfl rfl rfl) rfl rfl hl.1 rfl (lv_room (Nat.le_of_ble_eq_true rfl)) d_M_use_38 ⟨Nat.le_of_ble_eq_true rfl, Nat.le_of_ble_eq_true rfl⟩) hP hD hS hA rfl rfl rfl (fun H locs hP hD hS => ?_)
        have hP : va_P (dC, dI) cls_ [(mm, .inr (4, [.int (iI ((fc_thr false false false false))), .int (iI (mO)), .ref mg, .ref md, .int (iI (mH)), .ref ml, .ref mu, .ref mp, .int (bI (true)), .int (iI (cs)), .int (iI (mS)), .ref xu, .ref xf, .ref xt, .int (iI (mW)), .int (iI (mF)), .int (bI (rn)), .int (bI (sp)), .int (iI (nd)), .int (iI (rd)), .int (iI (li)), .ref pz, .int (iI (lt))])), (mp, fw_a kI 144 (fm_cp 0 54 gP))] H := hP
        have hD : va_D A [(mm, .inr (4, [.int (iI ((fc_thr false false false false))), .int (iI (mO)), .ref mg, .ref md, .int (iI (mH)), .ref ml, .ref mu, .ref mp, .int (bI (true)), .int (iI (cs)), .int (iI (mS)), .ref xu, .ref xf, .ref xt, .int (iI (mW)), .int (iI (mF)), .int (bI (rn)), .int (bI (sp)), .int (iI (nd)), .int (iI (rd)), .int (iI (li)), .ref pz, .int (iI (lt))])), (mp, fw_a kI 144 (fm_cp 0 54 gP))] := hD
        refine lv_aload_n hx hb d_M_use_41 rfl (lv_at hl 0 rfl) ?_
        refine lv_bipush (v := (iI (72))) hx hb d_M_use_42 (by decide) ?_
        refine lv_bipush (v := (iI (18))) hx hb d_M_use_44 (by decide) ?_
        refine lv_iload_n hx hb d_M_use_46 rfl (lv_at hl 1 rfl) ?_
        refine fw_imul hx hb d_M_use_47 ?_
        refine fw_iadd hx hb d_M_use_48 ?_
        refine lv_iconst (v := (iI (0))) hx hb d_M_use_49 (by decide) ?_
        refine fw_callvP [0, 1] (va_runV (As := [.int (iI (72 + (18 * z))), .int (iI (0))]) (rest := []) ⟨hx, hb, hml, hown, hts⟩ (c_M_copy l dC dI  _ mm (fc_thr false false false false) mO mg md mH ml mu mp true cs mS xu xf xt mW mF rn sp nd rd li pz lt (fm_cp 0 54 gP) kI (72 + (18 * z)) 0 (by first | assumption | omega) (by first | assumption | omega) (by first | assumption | omega) (by first | assumption | omega) (by omega)) (cwV 2 hts (gw_V kw_700 kw_702 ks_M_copy kw_5 kw_703) rfl rfl rfl (by decide +kernel) ⟨Nat.le_of_ble_eq_true rfl, Nat.le_of_ble_eq_true rfl⟩) (fw_preV (ci := 4) (q0 := 0) hP hK hD hN [0, 1] [0] rfl rfl rfl rfl rfl) rfl rfl hl.1 rfl (lv_room (Nat.le_of_ble_eq_true rfl)) d_M_use_50 ⟨Nat.le_of_ble_eq_true rfl, Nat.le_of_ble_eq_true rfl⟩) hP hD hS hA rfl rfl rfl (fun H locs hP hD hS => ?_)
        have hP : va_P (dC, dI) cls_ [(mm, .inr (4, [.int (iI ((fc_thr false false false false))), .int (iI (mO)), .ref mg, .ref md, .int (iI (mH)), .ref ml, .ref mu, .ref mp, .int (bI (true)), .int (iI (cs)), .int (iI (mS)), .ref xu, .ref xf, .ref xt, .int (iI (mW)), .int (iI (mF)), .int (bI (rn)), .int (bI (sp)), .int (iI (nd)), .int (iI (rd)), .int (iI (li)), .ref pz, .int (iI (lt))])), (mp, fw_a kI 144 (fm_cp (72 + (18 * z)).toNat (0 : Int).toNat (fm_cp 0 54 gP)))] H := hP
        have hD : va_D A [(mm, .inr (4, [.int (iI ((fc_thr false false false false))), .int (iI (mO)), .ref mg, .ref md, .int (iI (mH)), .ref ml, .ref mu, .ref mp, .int (bI (true)), .int (iI (cs)), .int (iI (mS)), .ref xu, .ref xf, .ref xt, .int (iI (mW)), .int (iI (mF)), .int (bI (rn)), .int (bI (sp)), .int (iI (nd)), .int (iI (rd)), .int (iI (li)), .ref pz, .int (iI (lt))])), (mp, fw_a kI 144 (fm_cp (72 + (18 * z)).toNat (0 : Int).toNat (fm_cp 0 54 gP)))] := hD
        have e9 : k_use z (fc_bit cs) = 0 := by first | (simp [k_use, fc_thr, c_1]; done) | (have q9 := c_2; rw [c_1] at q9; have q8 : fc_bit cs z.toNat = _ := q9; simp [k_use, fc_thr, c_1, q8])
        refine fw_vret hx hb hr hlocks hS ?_ d_M_use_53
        · exact Or.inr ⟨e9, hP⟩
      · exact absurd c_3 (by decide)
    · refine lv_iconst (v := (bI (true))) hx hb d_M_use_23 (by decide) ?_
      refine lv_goto (tgt := 28) hx hb d_M_use_24 (by decide) ?_
      refine lv_iconst (v := (bI (false))) hx hb d_M_use_28 (by decide) ?_
      refine lv_iconst (v := (bI (false))) hx hb d_M_use_29 (by decide) ?_
      refine fw_calliP [0] (va_runV (As := [.int (bI (false)), .int (bI (true)), .int (bI (false)), .int (bI (false))]) (rest := []) ⟨hx, hb, hml, hown, hts⟩ (c_M_throwing l dC dI  _ mm th mO mg md mH ml mu mp ud cs mS xu xf xt mW mF rn sp nd rd li pz lt false true false false ) (cwV 4 hts (gw_V kw_652 kw_654 ks_M_throwing kw_5 kw_655) rfl rfl rfl (by decide +kernel) ⟨Nat.le_of_ble_eq_true rfl, Nat.le_of_ble_eq_true rfl⟩) (fw_preV (ci := 4) (q0 := 0) hP hK hD hN [0] [] rfl rfl rfl rfl rfl) rfl rfl hl.1 rfl (lv_room (Nat.le_of_ble_eq_true rfl)) d_M_use_30 ⟨Nat.le_of_ble_eq_true rfl, Nat.le_of_ble_eq_true rfl⟩) hP hD hS hA rfl rfl rfl (fun H locs hP hD hS => ?_)
      have hP : va_P (dC, dI) cls_ [(mm, .inr (4, [.int (iI (fc_thr false true false false)), .int (iI (mO)), .ref mg, .ref md, .int (iI (mH)), .ref ml, .ref mu, .ref mp, .int (bI (ud)), .int (iI (cs)), .int (iI (mS)), .ref xu, .ref xf, .ref xt, .int (iI (mW)), .int (iI (mF)), .int (bI (rn)), .int (bI (sp)), .int (iI (nd)), .int (iI (rd)), .int (iI (li)), .ref pz, .int (iI (lt))])), (mp, fw_a kI 144 (gP))] H := hP
      have hD : va_D A [(mm, .inr (4, [.int (iI (fc_thr false true false false)), .int (iI (mO)), .ref mg, .ref md, .int (iI (mH)), .ref ml, .ref mu, .ref mp, .int (bI (ud)), .int (iI (cs)), .int (iI (mS)), .ref xu, .ref xf, .ref xt, .int (iI (mW)), .int (iI (mF)), .int (bI (rn)), .int (bI (sp)), .int (iI (nd)), .int (iI (rd)), .int (iI (li)), .ref pz, .int (iI (lt))])), (mp, fw_a kI 144 (gP))] := hD
      refine fw_cast (show (.int (bI (decide (0 < fc_thr false true false false))) : Value) = .int (bI (true)) from congrArg (fun b => Value.int (bI b)) (by decide)) ?_
      refine fw_bif_eq (tgt := 37) hx hb d_M_use_33 (by decide) (fun c_4 => ?_) (fun c_4 => ?_)
      · exact absurd c_4 (by decide)
      · have e9 : k_use z (fc_bit cs) = (fc_thr false true false false) := by first | (simp [k_use, fc_thr, c_1]; done) | (have q9 := c_2; rw [c_1] at q9; have q8 : fc_bit cs z.toNat = _ := q9; simp [k_use, fc_thr, c_1, q8])
        have e8 : ¬ k_use z (fc_bit cs) = 0 := by rw [e9]; decide
        refine fw_vret hx hb hr hlocks hS ?_ d_M_use_36
        · exact Or.inl ⟨e8, by rw [e9]; exact hP⟩
  · refine lv_iconst (v := (bI (true))) hx hb d_M_use_10 (by decide) ?_
    refine lv_goto (tgt := 15) hx hb d_M_use_11 (by decide) ?_
    refine lv_aload_n hx hb d_M_use_15 rfl (lv_at hl 0 rfl) ?_
    refine lv_iload_n hx hb d_M_use_16 rfl (lv_at hl 1 rfl) ?_
    refine fw_callR (va_runV (As := [.int (iI (z))]) (rest := [.int (bI (true)), .ref mm]) ⟨hx, hb, hml, hown, hts⟩ (c_M_isKept l dC dI  mm th mO mg md mH ml mu mp ud cs mS xu xf xt mW mF rn sp nd rd li pz lt z ⟨by omega, by omega⟩ (by first | assumption | omega) (by first | assumption | omega)) (cwV 1 hts (gw_V kw_770 kw_772 ks_M_isKept kw_5 kw_773) rfl rfl rfl (by decide +kernel) ⟨Nat.le_of_ble_eq_true rfl, Nat.le_of_ble_eq_true rfl⟩) (fw_preRV (ci := 4) (q0 := 0) hP hK hN [0] [] rfl rfl rfl rfl) rfl rfl hl.1 rfl (lv_room (Nat.le_of_ble_eq_true rfl)) d_M_use_17 ⟨Nat.le_of_ble_eq_true rfl, Nat.le_of_ble_eq_true rfl⟩).run ?_
    refine fw_bif_ne (tgt := 27) hx hb d_M_use_20 (by decide) (fun c_5 => ?_) (fun c_5 => ?_)
    · refine lv_iconst (v := (bI (false))) hx hb d_M_use_27 (by decide) ?_
      refine lv_iconst (v := (bI (false))) hx hb d_M_use_28 (by decide) ?_
      refine lv_iconst (v := (bI (false))) hx hb d_M_use_29 (by decide) ?_
      refine fw_calliP [0] (va_runV (As := [.int (bI (true)), .int (bI (false)), .int (bI (false)), .int (bI (false))]) (rest := []) ⟨hx, hb, hml, hown, hts⟩ (c_M_throwing l dC dI  _ mm th mO mg md mH ml mu mp ud cs mS xu xf xt mW mF rn sp nd rd li pz lt true false false false ) (cwV 4 hts (gw_V kw_652 kw_654 ks_M_throwing kw_5 kw_655) rfl rfl rfl (by decide +kernel) ⟨Nat.le_of_ble_eq_true rfl, Nat.le_of_ble_eq_true rfl⟩) (fw_preV (ci := 4) (q0 := 0) hP hK hD hN [0] [] rfl rfl rfl rfl rfl) rfl rfl hl.1 rfl (lv_room (Nat.le_of_ble_eq_true rfl)) d_M_use_30 ⟨Nat.le_of_ble_eq_true rfl, Nat.le_of_ble_eq_true rfl⟩) hP hD hS hA rfl rfl rfl (fun H locs hP hD hS => ?_)
      have hP : va_P (dC, dI) cls_ [(mm, .inr (4, [.int (iI (fc_thr true false false false)), .int (iI (mO)), .ref mg, .ref md, .int (iI (mH)), .ref ml, .ref mu, .ref mp, .int (bI (ud)), .int (iI (cs)), .int (iI (mS)), .ref xu, .ref xf, .ref xt, .int (iI (mW)), .int (iI (mF)), .int (bI (rn)), .int (bI (sp)), .int (iI (nd)), .int (iI (rd)), .int (iI (li)), .ref pz, .int (iI (lt))])), (mp, fw_a kI 144 (gP))] H := hP
      have hD : va_D A [(mm, .inr (4, [.int (iI (fc_thr true false false false)), .int (iI (mO)), .ref mg, .ref md, .int (iI (mH)), .ref ml, .ref mu, .ref mp, .int (bI (ud)), .int (iI (cs)), .int (iI (mS)), .ref xu, .ref xf, .ref xt, .int (iI (mW)), .int (iI (mF)), .int (bI (rn)), .int (bI (sp)), .int (iI (nd)), .int (iI (rd)), .int (iI (li)), .ref pz, .int (iI (lt))])), (mp, fw_a kI 144 (gP))] := hD
      refine fw_cast (show (.int (bI (decide (0 < fc_thr true false false false))) : Value) = .int (bI (true)) from congrArg (fun b => Value.int (bI b)) (by decide)) ?_
      refine fw_bif_eq (tgt := 37) hx hb d_M_use_33 (by decide) (fun c_6 => ?_) (fun c_6 => ?_)
      · exact absurd c_6 (by decide)
      · have e9 : k_use z (fc_bit cs) = (fc_thr true false false false) := by first | (simp [k_use, fc_thr, c_1]; done) | (have q9 := c_5; rw [c_1] at q9; have q8 : fc_bit cs z.toNat = _ := q9; simp [k_use, fc_thr, c_1, q8])
        have e8 : ¬ k_use z (fc_bit cs) = 0 := by rw [e9]; decide
        refine fw_vret hx hb hr hlocks hS ?_ d_M_use_36
        · exact Or.inl ⟨e8, by rw [e9]; exact hP⟩
    · refine lv_iconst (v := (bI (true))) hx hb d_M_use_23 (by decide) ?_
      refine lv_goto (tgt := 28) hx hb d_M_use_24 (by decide) ?_
      refine lv_iconst (v := (bI (false))) hx hb d_M_use_28 (by decide) ?_
      refine lv_iconst (v := (bI (false))) hx hb d_M_use_29 (by decide) ?_
      refine fw_calliP [0] (va_runV (As := [.int (bI (true)), .int (bI (true)), .int (bI (false)), .int (bI (false))]) (rest := []) ⟨hx, hb, hml, hown, hts⟩ (c_M_throwing l dC dI  _ mm th mO mg md mH ml mu mp ud cs mS xu xf xt mW mF rn sp nd rd li pz lt true true false false ) (cwV 4 hts (gw_V kw_652 kw_654 ks_M_throwing kw_5 kw_655) rfl rfl rfl (by decide +kernel) ⟨Nat.le_of_ble_eq_true rfl, Nat.le_of_ble_eq_true rfl⟩) (fw_preV (ci := 4) (q0 := 0) hP hK hD hN [0] [] rfl rfl rfl rfl rfl) rfl rfl hl.1 rfl (lv_room (Nat.le_of_ble_eq_true rfl)) d_M_use_30 ⟨Nat.le_of_ble_eq_true rfl, Nat.le_of_ble_eq_true rfl⟩) hP hD hS hA rfl rfl rfl (fun H locs hP hD hS => ?_)
      have hP : va_P (dC, dI) cls_ [(mm, .inr (4, [.int (iI (fc_thr true true false false)), .int (iI (mO)), .ref mg, .ref md, .int (iI (mH)), .ref ml, .ref mu, .ref mp, .int (bI (ud)), .int (iI (cs)), .int (iI (mS)), .ref xu, .ref xf, .ref xt, .int (iI (mW)), .int (iI (mF)), .int (bI (rn)), .int (bI (sp)), .int (iI (nd)), .int (iI (rd)), .int (iI (li)), .ref pz, .int (iI (lt))])), (mp, fw_a kI 144 (gP))] H := hP
      have hD : va_D A [(mm, .inr (4, [.int (iI (fc_thr true true false false)), .int (iI (mO)), .ref mg, .ref md, .int (iI (mH)), .ref ml, .ref mu, .ref mp, .int (bI (ud)), .int (iI (cs)), .int (iI (mS)), .ref xu, .ref xf, .ref xt, .int (iI (mW)), .int (iI (mF)), .int (bI (rn)), .int (bI (sp)), .int (iI (nd)), .int (iI (rd)), .int (iI (li)), .ref pz, .int (iI (lt))])), (mp, fw_a kI 144 (gP))] := hD
      refine fw_cast (show (.int (bI (decide (0 < fc_thr true true false false))) : Value) = .int (bI (true)) from congrArg (fun b => Value.int (bI b)) (by decide)) ?_
      refine fw_bif_eq (tgt := 37) hx hb d_M_use_33 (by decide) (fun c_7 => ?_) (fun c_7 => ?_)
      · exact absurd c_7 (by decide)
      · have e9 : k_use z (fc_bit cs) = (fc_thr true true false false) := by first | (simp [k_use, fc_thr, c_1]; done) | (have q9 := c_5; rw [c_1] at q9; have q8 : fc_bit cs z.toNat = _ := q9; simp [k_use, fc_thr, c_1, q8])
        have e8 : ¬ k_use z (fc_bit cs) = 0 := by rw [e9]; decide
        refine fw_vret hx hb hr hlocks hS ?_ d_M_use_36
        · exact Or.inl ⟨e8, by rw [e9]; exact hP⟩

set_option maxHeartbeats 4000000 in
set_option maxRecDepth 100000 in
theorem c_M_told (l : Launch) (dC : Nat → ClassId) (dI : Nat → Nat → Nat) (sz : Nat) (mm : Nat) (th : Int) (mO : Int) (mg : Nat) (md : Nat) (mH : Int) (ml : Nat) (mu : Nat) (mp : Nat) (ud : Bool) (cs : Int) (mS : Int) (xu : Nat) (xf : Nat) (xt : Nat) (mW : Int) (mF : Int) (rn : Bool) (sp : Bool) (nd : Int) (rd : Int) (li : Int) (pz : Nat) (lt : Int) (w : Int) (hb_w : fw_b w) : Met l y_M_told (Cond.code y_M_told b_M_told 2 (some .int) :: gw) ({ frames := 1, locals := 24, cells := 0, slots := 0 }) (fw_Pc (dC, dI) [.ref mm, .int (iI (w))] [(mm, .inr (4, [.int (iI (th)), .int (iI (mO)), .ref mg, .ref md, .int (iI (mH)), .ref ml, .ref mu, .ref mp, .int (bI (ud)), .int (iI (cs)), .int (iI (mS)), .ref xu, .ref xf, .ref xt, .int (iI (mW)), .int (iI (mF)), .int (bI (rn)), .int (bI (sp)), .int (iI (nd)), .int (iI (rd)), .int (iI (li)), .ref pz, .int (iI (lt))]))] [] sz) (fw_Qi (iI (if k_told w rn = 0 then fc_told w sp nd rd li else 0)) (fun H => (¬ k_told w rn = 0 ∧ va_P (dC, dI) cls_ [(mm, .inr (4, [.int (iI (k_told w rn)), .int (iI (mO)), .ref mg, .ref md, .int (iI (mH)), .ref ml, .ref mu, .ref mp, .int (bI (ud)), .int (iI (cs)), .int (iI (mS)), .ref xu, .ref xf, .ref xt, .int (iI (mW)), .int (iI (mF)), .int (bI (rn)), .int (bI (sp)), .int (iI (nd)), .int (iI (rd)), .int (iI (li)), .ref pz, .int (iI (lt))]))] H) ∨ (k_told w rn = 0 ∧ va_P (dC, dI) cls_ [(mm, .inr (4, [.int (iI (0)), .int (iI (mO)), .ref mg, .ref md, .int (iI (mH)), .ref ml, .ref mu, .ref mp, .int (bI (ud)), .int (iI (cs)), .int (iI (mS)), .ref xu, .ref xf, .ref xt, .int (iI (mW)), .int (iI (mF)), .int (bI (rn)), .int (bI (sp)), .int (iI (nd)), .int (iI (rd)), .int (iI (li)), .ref pz, .int (iI (lt))]))] H)) (va_A [(mm, .inr (4, [.int (iI (th)), .int (iI (mO)), .ref mg, .ref md, .int (iI (mH)), .ref ml, .ref mu, .ref mp, .int (bI (ud)), .int (iI (cs)), .int (iI (mS)), .ref xu, .ref xf, .ref xt, .int (iI (mW)), .int (iI (mF)), .int (bI (rn)), .int (bI (sp)), .int (iI (nd)), .int (iI (rd)), .int (iI (li)), .ref pz, .int (iI (lt))]))] sz)) 0 0 (va_A [(mm, .inr (4, [.int (iI (th)), .int (iI (mO)), .ref mg, .ref md, .int (iI (mH)), .ref ml, .ref mu, .ref mp, .int (bI (ud)), .int (iI (cs)), .int (iI (mS)), .ref xu, .ref xf, .ref xt, .int (iI (mW)), .int (iI (mF)), .int (bI (rn)), .int (bI (sp)), .int (iI (nd)), .int (iI (rd)), .int (iI (li)), .ref pz, .int (iI (lt))]))] sz) := by
  refine fw_ofW (Qc := fun A => fw_Qi (iI (if k_told w rn = 0 then fc_told w sp nd rd li else 0)) (fun H => (¬ k_told w rn = 0 ∧ va_P (dC, dI) cls_ [(mm, .inr (4, [.int (iI (k_told w rn)), .int (iI (mO)), .ref mg, .ref md, .int (iI (mH)), .ref ml, .ref mu, .ref mp, .int (bI (ud)), .int (iI (cs)), .int (iI (mS)), .ref xu, .ref xf, .ref xt, .int (iI (mW)), .int (iI (mF)), .int (bI (rn)), .int (bI (sp)), .int (iI (nd)), .int (iI (rd)), .int (iI (li)), .ref pz, .int (iI (lt))]))] H) ∨ (k_told w rn = 0 ∧ va_P (dC, dI) cls_ [(mm, .inr (4, [.int (iI (0)), .int (iI (mO)), .ref mg, .ref md, .int (iI (mH)), .ref ml, .ref mu, .ref mp, .int (bI (ud)), .int (iI (cs)), .int (iI (mS)), .ref xu, .ref xf, .ref xt, .int (iI (mW)), .int (iI (mF)), .int (bI (rn)), .int (bI (sp)), .int (iI (nd)), .int (iI (rd)), .int (iI (li)), .ref pz, .int (iI (lt))]))] H)) A) (by decide) (Nat.le_of_ble_eq_true rfl) ?_
  intro p e s m below meth c A ls hx hb hr hts hown hlocks hnm hml hsz hP hK hD hN hA hS hl
  have hl : lv_has ls 2 [(0, .ref mm), (1, .int (iI (w)))] := hl
  refine lv_aload_n hx hb d_M_told_0 rfl (lv_at hl 0 rfl) ?_
  refine lv_iload_n hx hb d_M_told_1 rfl (lv_at hl 1 rfl) ?_
  refine lv_iconst (v := (iI (0))) hx hb d_M_told_2 (by decide) ?_
  refine lv_iconst (v := (iI (3))) hx hb d_M_told_3 (by decide) ?_
  refine fw_callR (va_runS (As := [.int (iI (w)), .int (iI (0)), .int (iI (3))]) (rest := [.ref mm]) ⟨hx, hb, hml, hown, hts⟩ (c_M_in l dC dI  w 0 3 ⟨by omega, by omega⟩ ⟨by omega, by omega⟩ ⟨by omega, by omega⟩) (cwS 3 hts (gw_S kw_649 kw_650 kw_5 kw_651) rfl rfl rfl (by decide +kernel) ⟨Nat.le_of_ble_eq_true rfl, Nat.le_of_ble_eq_true rfl⟩) (fw_preRS hP hK hN [] [] rfl rfl) rfl rfl hl.1 rfl (lv_room (Nat.le_of_ble_eq_true rfl)) d_M_told_4 ⟨Nat.le_of_ble_eq_true rfl, Nat.le_of_ble_eq_true rfl⟩).run ?_
  refine fw_bif_ne (tgt := 14) hx hb d_M_told_7 (by decide) (fun c_1 => ?_) (fun c_1 => ?_)
  · refine lv_iconst (v := (bI (false))) hx hb d_M_told_14 (by decide) ?_
    refine lv_aload_n hx hb d_M_told_15 rfl (lv_at hl 0 rfl) ?_
    refine va_get (D := (dC, dI)) (ci := 4) (v := .int (bI (rn))) (C := R_M) (T := T_M) (N := 23) hx hb hts in_M hown hK hP 0 rfl rfl 16 (by decide) (hts _ kw_587) (fun _ h9 => h9) rfl d_M_told_16 ?_
    refine fw_bif_ne (tgt := 26) hx hb d_M_told_19 (by decide) (fun c_2 => ?_) (fun c_2 => ?_)
    · refine lv_iconst (v := (bI (false))) hx hb d_M_told_26 (by decide) ?_
      refine lv_iconst (v := (bI (false))) hx hb d_M_told_27 (by decide) ?_
      refine lv_iconst (v := (bI (false))) hx hb d_M_told_28 (by decide) ?_
      refine fw_calliP [0] (va_runV (As := [.int (bI (false)), .int (bI (false)), .int (bI (false)), .int (bI (false))]) (rest := []) ⟨hx, hb, hml, hown, hts⟩ (c_M_throwing l dC dI  _ mm th mO mg md mH ml mu mp ud cs mS xu xf xt mW mF rn sp nd rd li pz lt false false false false ) (cwV 4 hts (gw_V kw_652 kw_654 ks_M_throwing kw_5 kw_655) rfl rfl rfl (by decide +kernel) ⟨Nat.le_of_ble_eq_true rfl, Nat.le_of_ble_eq_true rfl⟩) (fw_preV (ci := 4) (q0 := 0) hP hK hD hN [0] [] rfl rfl rfl rfl rfl) rfl rfl hl.1 rfl (lv_room (Nat.le_of_ble_eq_true rfl)) d_M_told_29 ⟨Nat.le_of_ble_eq_true rfl, Nat.le_of_ble_eq_true rfl⟩) hP hD hS hA rfl rfl rfl (fun H locs hP hD hS => ?_)
      have hP : va_P (dC, dI) cls_ [(mm, .inr (4, [.int (iI (fc_thr false false false false)), .int (iI (mO)), .ref mg, .ref md, .int (iI (mH)), .ref ml, .ref mu, .ref mp, .int (bI (ud)), .int (iI (cs)), .int (iI (mS)), .ref xu, .ref xf, .ref xt, .int (iI (mW)), .int (iI (mF)), .int (bI (rn)), .int (bI (sp)), .int (iI (nd)), .int (iI (rd)), .int (iI (li)), .ref pz, .int (iI (lt))]))] H := hP
      have hD : va_D A [(mm, .inr (4, [.int (iI (fc_thr false false false false)), .int (iI (mO)), .ref mg, .ref md, .int (iI (mH)), .ref ml, .ref mu, .ref mp, .int (bI (ud)), .int (iI (cs)), .int (iI (mS)), .ref xu, .ref xf, .ref xt, .int (iI (mW)), .int (iI (mF)), .int (bI (rn)), .int (bI (sp)), .int (iI (nd)), .int (iI (rd)), .int (iI (li)), .ref pz, .int (iI (lt))]))] := hD
      refine fw_cast (show (.int (bI (decide (0 < fc_thr false false false false))) : Value) = .int (bI (false)) from congrArg (fun b => Value.int (bI b)) (by decide)) ?_
      refine fw_bif_eq (tgt := 37) hx hb d_M_told_32 (by decide) (fun c_3 => ?_) (fun c_3 => ?_)
      · have q1 := fc_in_t c_1
        refine lv_iload_n hx hb d_M_told_37 rfl (lv_at hl 1 rfl) ?_
        refine fw_if_ne (tgt := 56) hx hb d_M_told_38 (by decide) ⟨by omega, by omega⟩ (fun c_4 => ?_) (fun c_4 => ?_)
        · refine lv_iload_n hx hb d_M_told_56 rfl (lv_at hl 1 rfl) ?_
          refine lv_iconst (v := (iI (1))) hx hb d_M_told_57 (by decide) ?_
          refine fw_icmp_ne (tgt := 68) hx hb d_M_told_58 (by decide) ⟨by omega, by omega⟩ ⟨by omega, by omega⟩ (fun c_5 => ?_) (fun c_5 => ?_)
          · refine lv_iload_n hx hb d_M_told_68 rfl (lv_at hl 1 rfl) ?_
            refine lv_iconst (v := (iI (2))) hx hb d_M_told_69 (by decide) ?_
            refine fw_icmp_ne (tgt := 80) hx hb d_M_told_70 (by decide) ⟨by omega, by omega⟩ ⟨by omega, by omega⟩ (fun c_6 => ?_) (fun c_6 => ?_)
            · refine lv_aload_n hx hb d_M_told_80 rfl (lv_at hl 0 rfl) ?_
              refine va_get (D := (dC, dI)) (ci := 4) (v := .int (iI (li))) (C := R_M) (T := T_M) (N := 23) hx hb hts in_M hown hK hP 0 rfl rfl 20 (by decide) (hts _ kw_591) (fun _ h9 => h9) rfl d_M_told_81 ?_
              have e9 : k_told w rn = 0 := by simp [k_told, c_1, c_2]
              refine fw_iret hx hb hr hlocks hS ?_ ?_ d_M_told_84
              · exact Or.inr ⟨e9, hP⟩
              · rw [if_pos e9]
                simp only [fc_told]; simp [c_1, c_2, c_4, c_5, c_6] <;> omega
            · refine lv_aload_n hx hb d_M_told_73 rfl (lv_at hl 0 rfl) ?_
              refine va_get (D := (dC, dI)) (ci := 4) (v := .int (iI (rd))) (C := R_M) (T := T_M) (N := 23) hx hb hts in_M hown hK hP 0 rfl rfl 19 (by decide) (hts _ kw_590) (fun _ h9 => h9) rfl d_M_told_74 ?_
              refine lv_goto (tgt := 84) hx hb d_M_told_77 (by decide) ?_
              have e9 : k_told w rn = 0 := by simp [k_told, c_1, c_2]
              refine fw_iret hx hb hr hlocks hS ?_ ?_ d_M_told_84
              · exact Or.inr ⟨e9, hP⟩
              · rw [if_pos e9]
                simp only [fc_told]; simp [c_1, c_2, c_4, c_5, c_6] <;> omega
          · refine lv_aload_n hx hb d_M_told_61 rfl (lv_at hl 0 rfl) ?_
            refine va_get (D := (dC, dI)) (ci := 4) (v := .int (iI (nd))) (C := R_M) (T := T_M) (N := 23) hx hb hts in_M hown hK hP 0 rfl rfl 18 (by decide) (hts _ kw_589) (fun _ h9 => h9) rfl d_M_told_62 ?_
            refine lv_goto (tgt := 84) hx hb d_M_told_65 (by decide) ?_
            have e9 : k_told w rn = 0 := by simp [k_told, c_1, c_2]
            refine fw_iret hx hb hr hlocks hS ?_ ?_ d_M_told_84
            · exact Or.inr ⟨e9, hP⟩
            · rw [if_pos e9]
              simp only [fc_told]; simp [c_1, c_2, c_4, c_5] <;> omega
        · refine lv_aload_n hx hb d_M_told_41 rfl (lv_at hl 0 rfl) ?_
          refine va_get (D := (dC, dI)) (ci := 4) (v := .int (bI (sp))) (C := R_M) (T := T_M) (N := 23) hx hb hts in_M hown hK hP 0 rfl rfl 17 (by decide) (hts _ kw_588) (fun _ h9 => h9) rfl d_M_told_42 ?_
          refine fw_bif_eq (tgt := 52) hx hb d_M_told_45 (by decide) (fun c_7 => ?_) (fun c_7 => ?_)
          · refine lv_iconst (v := (iI (0))) hx hb d_M_told_52 (by decide) ?_
            refine lv_goto (tgt := 84) hx hb d_M_told_53 (by decide) ?_
            have e9 : k_told w rn = 0 := by simp [k_told, c_1, c_2]
            refine fw_iret hx hb hr hlocks hS ?_ ?_ d_M_told_84
            · exact Or.inr ⟨e9, hP⟩
            · rw [if_pos e9]
              simp only [fc_told]; simp [c_1, c_2, c_4, c_7] <;> omega
          · refine lv_iconst (v := (iI (1))) hx hb d_M_told_48 (by decide) ?_
            refine lv_goto (tgt := 84) hx hb d_M_told_49 (by decide) ?_
            have e9 : k_told w rn = 0 := by simp [k_told, c_1, c_2]
            refine fw_iret hx hb hr hlocks hS ?_ ?_ d_M_told_84
            · exact Or.inr ⟨e9, hP⟩
            · rw [if_pos e9]
              simp only [fc_told]; simp [c_1, c_2, c_4, c_7] <;> omega
      · exact absurd c_3 (by decide)
    · refine lv_iconst (v := (bI (true))) hx hb d_M_told_22 (by decide) ?_
      refine lv_goto (tgt := 27) hx hb d_M_told_23 (by decide) ?_
      refine lv_iconst (v := (bI (false))) hx hb d_M_told_27 (by decide) ?_
      refine lv_iconst (v := (bI (false))) hx hb d_M_told_28 (by decide) ?_
      refine fw_calliP [0] (va_runV (As := [.int (bI (false)), .int (bI (true)), .int (bI (false)), .int (bI (false))]) (rest := []) ⟨hx, hb, hml, hown, hts⟩ (c_M_throwing l dC dI  _ mm th mO mg md mH ml mu mp ud cs mS xu xf xt mW mF rn sp nd rd li pz lt false true false false ) (cwV 4 hts (gw_V kw_652 kw_654 ks_M_throwing kw_5 kw_655) rfl rfl rfl (by decide +kernel) ⟨Nat.le_of_ble_eq_true rfl, Nat.le_of_ble_eq_true rfl⟩) (fw_preV (ci := 4) (q0 := 0) hP hK hD hN [0] [] rfl rfl rfl rfl rfl) rfl rfl hl.1 rfl (lv_room (Nat.le_of_ble_eq_true rfl)) d_M_told_29 ⟨Nat.le_of_ble_eq_true rfl, Nat.le_of_ble_eq_true rfl⟩) hP hD hS hA rfl rfl rfl (fun H locs hP hD hS => ?_)
      have hP : va_P (dC, dI) cls_ [(mm, .inr (4, [.int (iI (fc_thr false true false false)), .int (iI (mO)), .ref mg, .ref md, .int (iI (mH)), .ref ml, .ref mu, .ref mp, .int (bI (ud)), .int (iI (cs)), .int (iI (mS)), .ref xu, .ref xf, .ref xt, .int (iI (mW)), .int (iI (mF)), .int (bI (rn)), .int (bI (sp)), .int (iI (nd)), .int (iI (rd)), .int (iI (li)), .ref pz, .int (iI (lt))]))] H := hP
      have hD : va_D A [(mm, .inr (4, [.int (iI (fc_thr false true false false)), .int (iI (mO)), .ref mg, .ref md, .int (iI (mH)), .ref ml, .ref mu, .ref mp, .int (bI (ud)), .int (iI (cs)), .int (iI (mS)), .ref xu, .ref xf, .ref xt, .int (iI (mW)), .int (iI (mF)), .int (bI (rn)), .int (bI (sp)), .int (iI (nd)), .int (iI (rd)), .int (iI (li)), .ref pz, .int (iI (lt))]))] := hD
      refine fw_cast (show (.int (bI (decide (0 < fc_thr false true false false))) : Value) = .int (bI (true)) from congrArg (fun b => Value.int (bI b)) (by decide)) ?_
      refine fw_bif_eq (tgt := 37) hx hb d_M_told_32 (by decide) (fun c_8 => ?_) (fun c_8 => ?_)
      · exact absurd c_8 (by decide)
      · refine lv_iconst (v := (iI (0))) hx hb d_M_told_35 (by decide) ?_
        have e9 : k_told w rn = (fc_thr false true false false) := by simp [k_told, fc_thr, c_1, c_2] <;> omega
        have e8 : ¬ k_told w rn = 0 := by rw [e9]; decide
        refine fw_iret hx hb hr hlocks hS ?_ ?_ d_M_told_36
        · exact Or.inl ⟨e8, by rw [e9]; exact hP⟩
        · rw [if_neg e8]
  · refine lv_iconst (v := (bI (true))) hx hb d_M_told_10 (by decide) ?_
    refine lv_goto (tgt := 15) hx hb d_M_told_11 (by decide) ?_
    refine lv_aload_n hx hb d_M_told_15 rfl (lv_at hl 0 rfl) ?_
    refine va_get (D := (dC, dI)) (ci := 4) (v := .int (bI (rn))) (C := R_M) (T := T_M) (N := 23) hx hb hts in_M hown hK hP 0 rfl rfl 16 (by decide) (hts _ kw_587) (fun _ h9 => h9) rfl d_M_told_16 ?_
    refine fw_bif_ne (tgt := 26) hx hb d_M_told_19 (by decide) (fun c_9 => ?_) (fun c_9 => ?_)
    · refine lv_iconst (v := (bI (false))) hx hb d_M_told_26 (by decide) ?_
      refine lv_iconst (v := (bI (false))) hx hb d_M_told_27 (by decide) ?_
      refine lv_iconst (v := (bI (false))) hx hb d_M_told_28 (by decide) ?_
      refine fw_calliP [0] (va_runV (As := [.int (bI (true)), .int (bI (false)), .int (bI (false)), .int (bI (false))]) (rest := []) ⟨hx, hb, hml, hown, hts⟩ (c_M_throwing l dC dI  _ mm th mO mg md mH ml mu mp ud cs mS xu xf xt mW mF rn sp nd rd li pz lt true false false false ) (cwV 4 hts (gw_V kw_652 kw_654 ks_M_throwing kw_5 kw_655) rfl rfl rfl (by decide +kernel) ⟨Nat.le_of_ble_eq_true rfl, Nat.le_of_ble_eq_true rfl⟩) (fw_preV (ci := 4) (q0 := 0) hP hK hD hN [0] [] rfl rfl rfl rfl rfl) rfl rfl hl.1 rfl (lv_room (Nat.le_of_ble_eq_true rfl)) d_M_told_29 ⟨Nat.le_of_ble_eq_true rfl, Nat.le_of_ble_eq_true rfl⟩) hP hD hS hA rfl rfl rfl (fun H locs hP hD hS => ?_)
      have hP : va_P (dC, dI) cls_ [(mm, .inr (4, [.int (iI (fc_thr true false false false)), .int (iI (mO)), .ref mg, .ref md, .int (iI (mH)), .ref ml, .ref mu, .ref mp, .int (bI (ud)), .int (iI (cs)), .int (iI (mS)), .ref xu, .ref xf, .ref xt, .int (iI (mW)), .int (iI (mF)), .int (bI (rn)), .int (bI (sp)), .int (iI (nd)), .int (iI (rd)), .int (iI (li)), .ref pz, .int (iI (lt))]))] H := hP
      have hD : va_D A [(mm, .inr (4, [.int (iI (fc_thr true false false false)), .int (iI (mO)), .ref mg, .ref md, .int (iI (mH)), .ref ml, .ref mu, .ref mp, .int (bI (ud)), .int (iI (cs)), .int (iI (mS)), .ref xu, .ref xf, .ref xt, .int (iI (mW)), .int (iI (mF)), .int (bI (rn)), .int (bI (sp)), .int (iI (nd)), .int (iI (rd)), .int (iI (li)), .ref pz, .int (iI (lt))]))] := hD
      refine fw_cast (show (.int (bI (decide (0 < fc_thr true false false false))) : Value) = .int (bI (true)) from congrArg (fun b => Value.int (bI b)) (by decide)) ?_
      refine fw_bif_eq (tgt := 37) hx hb d_M_told_32 (by decide) (fun c_10 => ?_) (fun c_10 => ?_)
      · exact absurd c_10 (by decide)
      · refine lv_iconst (v := (iI (0))) hx hb d_M_told_35 (by decide) ?_
        have e9 : k_told w rn = (fc_thr true false false false) := by simp [k_told, fc_thr, c_1, c_9] <;> omega
        have e8 : ¬ k_told w rn = 0 := by rw [e9]; decide
        refine fw_iret hx hb hr hlocks hS ?_ ?_ d_M_told_36
        · exact Or.inl ⟨e8, by rw [e9]; exact hP⟩
        · rw [if_neg e8]
    · refine lv_iconst (v := (bI (true))) hx hb d_M_told_22 (by decide) ?_
      refine lv_goto (tgt := 27) hx hb d_M_told_23 (by decide) ?_
      refine lv_iconst (v := (bI (false))) hx hb d_M_told_27 (by decide) ?_
      refine lv_iconst (v := (bI (false))) hx hb d_M_told_28 (by decide) ?_
      refine fw_calliP [0] (va_runV (As := [.int (bI (true)), .int (bI (true)), .int (bI (false)), .int (bI (false))]) (rest := []) ⟨hx, hb, hml, hown, hts⟩ (c_M_throwing l dC dI  _ mm th mO mg md mH ml mu mp ud cs mS xu xf xt mW mF rn sp nd rd li pz lt true true false false ) (cwV 4 hts (gw_V kw_652 kw_654 ks_M_throwing kw_5 kw_655) rfl rfl rfl (by decide +kernel) ⟨Nat.le_of_ble_eq_true rfl, Nat.le_of_ble_eq_true rfl⟩) (fw_preV (ci := 4) (q0 := 0) hP hK hD hN [0] [] rfl rfl rfl rfl rfl) rfl rfl hl.1 rfl (lv_room (Nat.le_of_ble_eq_true rfl)) d_M_told_29 ⟨Nat.le_of_ble_eq_true rfl, Nat.le_of_ble_eq_true rfl⟩) hP hD hS hA rfl rfl rfl (fun H locs hP hD hS => ?_)
      have hP : va_P (dC, dI) cls_ [(mm, .inr (4, [.int (iI (fc_thr true true false false)), .int (iI (mO)), .ref mg, .ref md, .int (iI (mH)), .ref ml, .ref mu, .ref mp, .int (bI (ud)), .int (iI (cs)), .int (iI (mS)), .ref xu, .ref xf, .ref xt, .int (iI (mW)), .int (iI (mF)), .int (bI (rn)), .int (bI (sp)), .int (iI (nd)), .int (iI (rd)), .int (iI (li)), .ref pz, .int (iI (lt))]))] H := hP
      have hD : va_D A [(mm, .inr (4, [.int (iI (fc_thr true true false false)), .int (iI (mO)), .ref mg, .ref md, .int (iI (mH)), .ref ml, .ref mu, .ref mp, .int (bI (ud)), .int (iI (cs)), .int (iI (mS)), .ref xu, .ref xf, .ref xt, .int (iI (mW)), .int (iI (mF)), .int (bI (rn)), .int (bI (sp)), .int (iI (nd)), .int (iI (rd)), .int (iI (li)), .ref pz, .int (iI (lt))]))] := hD
      refine fw_cast (show (.int (bI (decide (0 < fc_thr true true false false))) : Value) = .int (bI (true)) from congrArg (fun b => Value.int (bI b)) (by decide)) ?_
      refine fw_bif_eq (tgt := 37) hx hb d_M_told_32 (by decide) (fun c_11 => ?_) (fun c_11 => ?_)
      · exact absurd c_11 (by decide)
      · refine lv_iconst (v := (iI (0))) hx hb d_M_told_35 (by decide) ?_
        have e9 : k_told w rn = (fc_thr true true false false) := by simp [k_told, fc_thr, c_1, c_9] <;> omega
        have e8 : ¬ k_told w rn = 0 := by rw [e9]; decide
        refine fw_iret hx hb hr hlocks hS ?_ ?_ d_M_told_36
        · exact Or.inl ⟨e8, by rw [e9]; exact hP⟩
        · rw [if_neg e8]

set_option maxHeartbeats 4000000 in
set_option maxRecDepth 100000 in
theorem c_M_divert (l : Launch) (dC : Nat → ClassId) (dI : Nat → Nat → Nat) (sz : Nat) (mm : Nat) (th : Int) (mO : Int) (mg : Nat) (md : Nat) (mH : Int) (ml : Nat) (mu : Nat) (mp : Nat) (ud : Bool) (cs : Int) (mS : Int) (xu : Nat) (xf : Nat) (xt : Nat) (mW : Int) (mF : Int) (rn : Bool) (sp : Bool) (nd : Int) (rd : Int) (li : Int) (pz : Nat) (lt : Int) (gG : Nat → Int) (gP : Nat → Int) (kI : ClassId) (h : Int) (o : Int) (m1 : 0 ≤ mH) (m2 : mH ≤ 6) (m6 : 0 ≤ mO) (m7 : mO ≤ 8) (hgP : ∀ j, -1 ≤ gP j ∧ gP j ≤ 60) (hgG : ∀ j, -1000 ≤ gG j ∧ gG j ≤ 1000) (hgO : ∀ j : Nat, (j : Int) < mH → 0 ≤ gP (3 * j + 2) ∧ gP (3 * j + 2) < mO) (hb_h : fw_b h) (hb_o : fw_b o) : Met l y_M_divert (Cond.code y_M_divert b_M_divert 5 none :: gw) ({ frames := 2, locals := 43, cells := 0, slots := 0 }) (fw_Pc (dC, dI) [.ref mm, .int (iI (h)), .int (iI (o))] [(mm, .inr (4, [.int (iI (th)), .int (iI (mO)), .ref mg, .ref md, .int (iI (mH)), .ref ml, .ref mu, .ref mp, .int (bI (ud)), .int (iI (cs)), .int (iI (mS)), .ref xu, .ref xf, .ref xt, .int (iI (mW)), .int (iI (mF)), .int (bI (rn)), .int (bI (sp)), .int (iI (nd)), .int (iI (rd)), .int (iI (li)), .ref pz, .int (iI (lt))])), (mg, fw_a kI 8 (gG)), (mp, fw_a kI 144 (gP))] [(kI, .int)] sz) (fw_Qv (fun H => (¬ km_divert mH mO h o gG gP = 0 ∧ va_P (dC, dI) cls_ [(mm, .inr (4, [.int (iI (km_divert mH mO h o gG gP)), .int (iI (mO)), .ref mg, .ref md, .int (iI (mH)), .ref ml, .ref mu, .ref mp, .int (bI (ud)), .int (iI (cs)), .int (iI (mS)), .ref xu, .ref xf, .ref xt, .int (iI (mW)), .int (iI (mF)), .int (bI (rn)), .int (bI (sp)), .int (iI (nd)), .int (iI (rd)), .int (iI (li)), .ref pz, .int (iI (lt))])), (mg, fw_a kI 8 (gG)), (mp, fw_a kI 144 (gP))] H) ∨ (km_divert mH mO h o gG gP = 0 ∧ va_P (dC, dI) cls_ [(mm, .inr (4, [.int (iI (0)), .int (iI (mO)), .ref mg, .ref md, .int (iI (mH)), .ref ml, .ref mu, .ref mp, .int (bI (true)), .int (iI (cs)), .int (iI (mS)), .ref xu, .ref xf, .ref xt, .int (iI (mW)), .int (iI (mF)), .int (bI (rn)), .int (bI (sp)), .int (iI (nd)), .int (iI (rd)), .int (iI (li)), .ref pz, .int (iI (lt))])), (mg, fw_a kI 8 (gG)), (mp, fw_a kI 144 (fw_up (fm_cp 0 54 gP) (3 * h.toNat + 2) o))] H)) (va_A [(mm, .inr (4, [.int (iI (th)), .int (iI (mO)), .ref mg, .ref md, .int (iI (mH)), .ref ml, .ref mu, .ref mp, .int (bI (ud)), .int (iI (cs)), .int (iI (mS)), .ref xu, .ref xf, .ref xt, .int (iI (mW)), .int (iI (mF)), .int (bI (rn)), .int (bI (sp)), .int (iI (nd)), .int (iI (rd)), .int (iI (li)), .ref pz, .int (iI (lt))])), (mg, fw_a kI 8 (gG)), (mp, fw_a kI 144 (gP))] sz)) 0 0 (va_A [(mm, .inr (4, [.int (iI (th)), .int (iI (mO)), .ref mg, .ref md, .int (iI (mH)), .ref ml, .ref mu, .ref mp, .int (bI (ud)), .int (iI (cs)), .int (iI (mS)), .ref xu, .ref xf, .ref xt, .int (iI (mW)), .int (iI (mF)), .int (bI (rn)), .int (bI (sp)), .int (iI (nd)), .int (iI (rd)), .int (iI (li)), .ref pz, .int (iI (lt))])), (mg, fw_a kI 8 (gG)), (mp, fw_a kI 144 (gP))] sz) := by
  refine fw_ofW (Qc := fun A => fw_Qv (fun H => (¬ km_divert mH mO h o gG gP = 0 ∧ va_P (dC, dI) cls_ [(mm, .inr (4, [.int (iI (km_divert mH mO h o gG gP)), .int (iI (mO)), .ref mg, .ref md, .int (iI (mH)), .ref ml, .ref mu, .ref mp, .int (bI (ud)), .int (iI (cs)), .int (iI (mS)), .ref xu, .ref xf, .ref xt, .int (iI (mW)), .int (iI (mF)), .int (bI (rn)), .int (bI (sp)), .int (iI (nd)), .int (iI (rd)), .int (iI (li)), .ref pz, .int (iI (lt))])), (mg, fw_a kI 8 (gG)), (mp, fw_a kI 144 (gP))] H) ∨ (km_divert mH mO h o gG gP = 0 ∧ va_P (dC, dI) cls_ [(mm, .inr (4, [.int (iI (0)), .int (iI (mO)), .ref mg, .ref md, .int (iI (mH)), .ref ml, .ref mu, .ref mp, .int (bI (true)), .int (iI (cs)), .int (iI (mS)), .ref xu, .ref xf, .ref xt, .int (iI (mW)), .int (iI (mF)), .int (bI (rn)), .int (bI (sp)), .int (iI (nd)), .int (iI (rd)), .int (iI (li)), .ref pz, .int (iI (lt))])), (mg, fw_a kI 8 (gG)), (mp, fw_a kI 144 (fw_up (fm_cp 0 54 gP) (3 * h.toNat + 2) o))] H)) A) (by decide) (Nat.le_of_ble_eq_true rfl) ?_
  intro p e s m below meth c A ls hx hb hr hts hown hlocks hnm hml hsz hP hK hD hN hA hS hl
  have hl : lv_has ls 5 [(0, .ref mm), (1, .int (iI (h))), (2, .int (iI (o)))] := hl
  refine lv_aload_n hx hb d_M_divert_0 rfl (lv_at hl 0 rfl) ?_
  refine lv_iload_n hx hb d_M_divert_1 rfl (lv_at hl 1 rfl) ?_
  refine fw_callR (va_runV (As := [.int (iI (h))]) (rest := []) ⟨hx, hb, hml, hown, hts⟩ (c_M_isHeat l dC dI  mm th mO mg md mH ml mu mp ud cs mS xu xf xt mW mF rn sp nd rd li pz lt h ⟨by omega, by omega⟩ ⟨by omega, by omega⟩) (cwV 1 hts (gw_V kw_688 kw_690 ks_M_isHeat kw_5 kw_691) rfl rfl rfl (by decide +kernel) ⟨Nat.le_of_ble_eq_true rfl, Nat.le_of_ble_eq_true rfl⟩) (fw_preRV (ci := 4) (q0 := 0) hP hK hN [0] [] rfl rfl rfl rfl) rfl rfl hl.1 rfl (lv_room (Nat.le_of_ble_eq_true rfl)) d_M_divert_2 ⟨Nat.le_of_ble_eq_true rfl, Nat.le_of_ble_eq_true rfl⟩).run ?_
  refine fw_bif_eq (tgt := 22) hx hb d_M_divert_5 (by decide) (fun c_1 => ?_) (fun c_1 => ?_)
  · refine lv_iconst (v := (bI (true))) hx hb d_M_divert_22 (by decide) ?_
    refine lv_goto (tgt := 27) hx hb d_M_divert_23 (by decide) ?_
    refine lv_istore_n (lv' := [(3, .int (bI (true))), (0, .ref mm), (1, .int (iI (h))), (2, .int (iI (o)))]) hx hb d_M_divert_27 rfl hl (by decide) rfl (fun ls hl => ?_)
    refine lv_iload_n hx hb d_M_divert_28 rfl (lv_at hl 0 rfl) ?_
    refine fw_bif_ne (tgt := 74) hx hb d_M_divert_29 (by decide) (fun c_2 => ?_) (fun c_2 => ?_)
    · refine lv_iconst (v := (bI (false))) hx hb d_M_divert_74 (by decide) ?_
      refine lv_istore (lv' := [(4, .int (bI (false))), (3, .int (bI (true))), (0, .ref mm), (1, .int (iI (h))), (2, .int (iI (o)))]) hx hb d_M_divert_75 hl (by decide) rfl (fun ls hl => ?_)
      refine lv_aload_n hx hb d_M_divert_77 rfl (lv_at hl 2 rfl) ?_
      refine lv_iload_n hx hb d_M_divert_78 rfl (lv_at hl 1 rfl) ?_
      refine lv_iload hx hb d_M_divert_79 (lv_at hl 0 rfl) ?_
      refine lv_iconst (v := (bI (false))) hx hb d_M_divert_81 (by decide) ?_
      refine lv_iconst (v := (bI (false))) hx hb d_M_divert_82 (by decide) ?_
      refine fw_calliP [0] (va_runV (As := [.int (bI (true)), .int (bI (false)), .int (bI (false)), .int (bI (false))]) (rest := []) ⟨hx, hb, hml, hown, hts⟩ (c_M_throwing l dC dI  _ mm th mO mg md mH ml mu mp ud cs mS xu xf xt mW mF rn sp nd rd li pz lt true false false false ) (cwV 4 hts (gw_V kw_652 kw_654 ks_M_throwing kw_5 kw_655) rfl rfl rfl (by decide +kernel) ⟨Nat.le_of_ble_eq_true rfl, Nat.le_of_ble_eq_true rfl⟩) (fw_preV (ci := 4) (q0 := 0) hP hK hD hN [0] [] rfl rfl rfl rfl rfl) rfl rfl hl.1 rfl (lv_room (Nat.le_of_ble_eq_true rfl)) d_M_divert_83 ⟨Nat.le_of_ble_eq_true rfl, Nat.le_of_ble_eq_true rfl⟩) hP hD hS hA rfl rfl rfl (fun H locs hP hD hS => ?_)
      have hP : va_P (dC, dI) cls_ [(mm, .inr (4, [.int (iI (fc_thr true false false false)), .int (iI (mO)), .ref mg, .ref md, .int (iI (mH)), .ref ml, .ref mu, .ref mp, .int (bI (ud)), .int (iI (cs)), .int (iI (mS)), .ref xu, .ref xf, .ref xt, .int (iI (mW)), .int (iI (mF)), .int (bI (rn)), .int (bI (sp)), .int (iI (nd)), .int (iI (rd)), .int (iI (li)), .ref pz, .int (iI (lt))])), (mg, fw_a kI 8 (gG)), (mp, fw_a kI 144 (gP))] H := hP
      have hD : va_D A [(mm, .inr (4, [.int (iI (fc_thr true false false false)), .int (iI (mO)), .ref mg, .ref md, .int (iI (mH)), .ref ml, .ref mu, .ref mp, .int (bI (ud)), .int (iI (cs)), .int (iI (mS)), .ref xu, .ref xf, .ref xt, .int (iI (mW)), .int (iI (mF)), .int (bI (rn)), .int (bI (sp)), .int (iI (nd)), .int (iI (rd)), .int (iI (li)), .ref pz, .int (iI (lt))])), (mg, fw_a kI 8 (gG)), (mp, fw_a kI 144 (gP))] := hD
      refine fw_cast (show (.int (bI (decide (0 < fc_thr true false false false))) : Value) = .int (bI (true)) from congrArg (fun b => Value.int (bI b)) (by decide)) ?_
      refine fw_bif_eq (tgt := 90) hx hb d_M_divert_86 (by decide) (fun c_3 => ?_) (fun c_3 => ?_)
      · exact absurd c_3 (by decide)
      · have e9 : km_divert mH mO h o gG gP = (fc_thr true false false false) := by simp [km_divert, k_divert, fc_thr, c_1] <;> omega
        have e8 : ¬ km_divert mH mO h o gG gP = 0 := by rw [e9]; decide
        refine fw_vret hx hb hr hlocks hS ?_ d_M_divert_89
        · exact Or.inl ⟨e8, by rw [e9]; exact hP⟩
    · exact absurd c_2 (by decide)
  · refine lv_iload_n hx hb d_M_divert_8 rfl (lv_at hl 2 rfl) ?_
    refine lv_iconst (v := (iI (0))) hx hb d_M_divert_9 (by decide) ?_
    refine lv_aload_n hx hb d_M_divert_10 rfl (lv_at hl 0 rfl) ?_
    refine va_get (D := (dC, dI)) (ci := 4) (v := .int (iI (mO))) (C := R_M) (T := T_M) (N := 23) hx hb hts in_M hown hK hP 0 rfl rfl 1 (by decide) (hts _ kw_572) (fun _ h9 => h9) rfl d_M_divert_11 ?_
    refine lv_iconst (v := (iI (1))) hx hb d_M_divert_14 (by decide) ?_
    refine fw_isub hx hb d_M_divert_15 ?_
    refine fw_callR (va_runS (As := [.int (iI (o)), .int (iI (0)), .int (iI (mO - 1))]) (rest := []) ⟨hx, hb, hml, hown, hts⟩ (c_M_in l dC dI  o 0 (mO - 1) ⟨by omega, by omega⟩ ⟨by omega, by omega⟩ ⟨by omega, by omega⟩) (cwS 3 hts (gw_S kw_649 kw_650 kw_5 kw_651) rfl rfl rfl (by decide +kernel) ⟨Nat.le_of_ble_eq_true rfl, Nat.le_of_ble_eq_true rfl⟩) (fw_preRS hP hK hN [] [] rfl rfl) rfl rfl hl.1 rfl (lv_room (Nat.le_of_ble_eq_true rfl)) d_M_divert_16 ⟨Nat.le_of_ble_eq_true rfl, Nat.le_of_ble_eq_true rfl⟩).run ?_
    refine fw_bif_ne (tgt := 26) hx hb d_M_divert_19 (by decide) (fun c_4 => ?_) (fun c_4 => ?_)
    · obtain ⟨g1, g2⟩ := fc_in_t c_1
      obtain ⟨g3, g4⟩ := fc_in_t c_4
      have q1 := hgO h.toNat (by omega)
      have q2 := hgP (3 * h.toNat + 2)
      have q3 := hgG (gP (3 * h.toNat + 2)).toNat
      have q4 := hgG o.toNat
      refine lv_iconst (v := (bI (false))) hx hb d_M_divert_26 (by decide) ?_
      refine lv_istore_n (lv' := [(3, .int (bI (false))), (0, .ref mm), (1, .int (iI (h))), (2, .int (iI (o)))]) hx hb d_M_divert_27 rfl hl (by decide) rfl (fun ls hl => ?_)
      refine lv_iload_n hx hb d_M_divert_28 rfl (lv_at hl 0 rfl) ?_
      refine fw_bif_ne (tgt := 74) hx hb d_M_divert_29 (by decide) (fun c_5 => ?_) (fun c_5 => ?_)
      · exact absurd c_5 (by decide)
      · refine lv_aload_n hx hb d_M_divert_32 rfl (lv_at hl 1 rfl) ?_
        refine va_get (D := (dC, dI)) (ci := 4) (v := .ref mp) (C := R_M) (T := T_M) (N := 23) hx hb hts in_M hown hK hP 0 rfl rfl 7 (by decide) (hts _ kw_578) (fun _ h9 => h9) rfl d_M_divert_33 ?_
        refine lv_iconst (v := (iI (3))) hx hb d_M_divert_36 (by decide) ?_
        refine lv_iload_n hx hb d_M_divert_37 rfl (lv_at hl 2 rfl) ?_
        refine fw_imul hx hb d_M_divert_38 ?_
        refine lv_iconst (v := (iI (2))) hx hb d_M_divert_39 (by decide) ?_
        refine fw_iadd hx hb d_M_divert_40 ?_
        refine fw_iald hx hb hK hP 2 0 rfl rfl (((3 * h.toNat) + 2)) (by omega) (by omega) (by omega) d_M_divert_41 ?_
        refine lv_iload_n hx hb d_M_divert_42 rfl (lv_at hl 3 rfl) ?_
        refine fw_icmp_eq (tgt := 70) hx hb d_M_divert_43 (by decide) ⟨by omega, by omega⟩ ⟨by omega, by omega⟩ (fun c_6 => ?_) (fun c_6 => ?_)
        · refine lv_iconst (v := (bI (true))) hx hb d_M_divert_70 (by decide) ?_
          refine lv_goto (tgt := 75) hx hb d_M_divert_71 (by decide) ?_
          refine lv_istore (lv' := [(4, .int (bI (true))), (3, .int (bI (false))), (0, .ref mm), (1, .int (iI (h))), (2, .int (iI (o)))]) hx hb d_M_divert_75 hl (by decide) rfl (fun ls hl => ?_)
          refine lv_aload_n hx hb d_M_divert_77 rfl (lv_at hl 2 rfl) ?_
          refine lv_iload_n hx hb d_M_divert_78 rfl (lv_at hl 1 rfl) ?_
          refine lv_iload hx hb d_M_divert_79 (lv_at hl 0 rfl) ?_
          refine lv_iconst (v := (bI (false))) hx hb d_M_divert_81 (by decide) ?_
          refine lv_iconst (v := (bI (false))) hx hb d_M_divert_82 (by decide) ?_
          refine fw_calliP [0] (va_runV (As := [.int (bI (false)), .int (bI (true)), .int (bI (false)), .int (bI (false))]) (rest := []) ⟨hx, hb, hml, hown, hts⟩ (c_M_throwing l dC dI  _ mm th mO mg md mH ml mu mp ud cs mS xu xf xt mW mF rn sp nd rd li pz lt false true false false ) (cwV 4 hts (gw_V kw_652 kw_654 ks_M_throwing kw_5 kw_655) rfl rfl rfl (by decide +kernel) ⟨Nat.le_of_ble_eq_true rfl, Nat.le_of_ble_eq_true rfl⟩) (fw_preV (ci := 4) (q0 := 0) hP hK hD hN [0] [] rfl rfl rfl rfl rfl) rfl rfl hl.1 rfl (lv_room (Nat.le_of_ble_eq_true rfl)) d_M_divert_83 ⟨Nat.le_of_ble_eq_true rfl, Nat.le_of_ble_eq_true rfl⟩) hP hD hS hA rfl rfl rfl (fun H locs hP hD hS => ?_)
          have hP : va_P (dC, dI) cls_ [(mm, .inr (4, [.int (iI (fc_thr false true false false)), .int (iI (mO)), .ref mg, .ref md, .int (iI (mH)), .ref ml, .ref mu, .ref mp, .int (bI (ud)), .int (iI (cs)), .int (iI (mS)), .ref xu, .ref xf, .ref xt, .int (iI (mW)), .int (iI (mF)), .int (bI (rn)), .int (bI (sp)), .int (iI (nd)), .int (iI (rd)), .int (iI (li)), .ref pz, .int (iI (lt))])), (mg, fw_a kI 8 (gG)), (mp, fw_a kI 144 (gP))] H := hP
          have hD : va_D A [(mm, .inr (4, [.int (iI (fc_thr false true false false)), .int (iI (mO)), .ref mg, .ref md, .int (iI (mH)), .ref ml, .ref mu, .ref mp, .int (bI (ud)), .int (iI (cs)), .int (iI (mS)), .ref xu, .ref xf, .ref xt, .int (iI (mW)), .int (iI (mF)), .int (bI (rn)), .int (bI (sp)), .int (iI (nd)), .int (iI (rd)), .int (iI (li)), .ref pz, .int (iI (lt))])), (mg, fw_a kI 8 (gG)), (mp, fw_a kI 144 (gP))] := hD
          refine fw_cast (show (.int (bI (decide (0 < fc_thr false true false false))) : Value) = .int (bI (true)) from congrArg (fun b => Value.int (bI b)) (by decide)) ?_
          refine fw_bif_eq (tgt := 90) hx hb d_M_divert_86 (by decide) (fun c_7 => ?_) (fun c_7 => ?_)
          · exact absurd c_7 (by decide)
          · have e9 : km_divert mH mO h o gG gP = (fc_thr false true false false) := by simp [km_divert, k_divert, fc_thr, c_1, c_4, c_6] <;> omega
            have e8 : ¬ km_divert mH mO h o gG gP = 0 := by rw [e9]; decide
            refine fw_vret hx hb hr hlocks hS ?_ d_M_divert_89
            · exact Or.inl ⟨e8, by rw [e9]; exact hP⟩
        · refine lv_aload_n hx hb d_M_divert_46 rfl (lv_at hl 1 rfl) ?_
          refine va_get (D := (dC, dI)) (ci := 4) (v := .ref mg) (C := R_M) (T := T_M) (N := 23) hx hb hts in_M hown hK hP 0 rfl rfl 2 (by decide) (hts _ kw_573) (fun _ h9 => h9) rfl d_M_divert_47 ?_
          refine lv_aload_n hx hb d_M_divert_50 rfl (lv_at hl 1 rfl) ?_
          refine va_get (D := (dC, dI)) (ci := 4) (v := .ref mp) (C := R_M) (T := T_M) (N := 23) hx hb hts in_M hown hK hP 0 rfl rfl 7 (by decide) (hts _ kw_578) (fun _ h9 => h9) rfl d_M_divert_51 ?_
          refine lv_iconst (v := (iI (3))) hx hb d_M_divert_54 (by decide) ?_
          refine lv_iload_n hx hb d_M_divert_55 rfl (lv_at hl 2 rfl) ?_
          refine fw_imul hx hb d_M_divert_56 ?_
          refine lv_iconst (v := (iI (2))) hx hb d_M_divert_57 (by decide) ?_
          refine fw_iadd hx hb d_M_divert_58 ?_
          refine fw_iald hx hb hK hP 2 0 rfl rfl (((3 * h.toNat) + 2)) (by omega) (by omega) (by omega) d_M_divert_59 ?_
          refine fw_iald hx hb hK hP 1 0 rfl rfl ((gP ((3 * h.toNat) + 2)).toNat) (by omega) (by omega) (by omega) d_M_divert_60 ?_
          refine lv_aload_n hx hb d_M_divert_61 rfl (lv_at hl 1 rfl) ?_
          refine va_get (D := (dC, dI)) (ci := 4) (v := .ref mg) (C := R_M) (T := T_M) (N := 23) hx hb hts in_M hown hK hP 0 rfl rfl 2 (by decide) (hts _ kw_573) (fun _ h9 => h9) rfl d_M_divert_62 ?_
          refine lv_iload_n hx hb d_M_divert_65 rfl (lv_at hl 3 rfl) ?_
          refine fw_iald hx hb hK hP 1 0 rfl rfl ((o).toNat) (by omega) (by omega) (by omega) d_M_divert_66 ?_
          refine fw_icmp_eq (tgt := 74) hx hb d_M_divert_67 (by decide) ⟨by omega, by omega⟩ ⟨by omega, by omega⟩ (fun c_8 => ?_) (fun c_8 => ?_)
          · refine lv_iconst (v := (bI (false))) hx hb d_M_divert_74 (by decide) ?_
            refine lv_istore (lv' := [(4, .int (bI (false))), (3, .int (bI (false))), (0, .ref mm), (1, .int (iI (h))), (2, .int (iI (o)))]) hx hb d_M_divert_75 hl (by decide) rfl (fun ls hl => ?_)
            refine lv_aload_n hx hb d_M_divert_77 rfl (lv_at hl 2 rfl) ?_
            refine lv_iload_n hx hb d_M_divert_78 rfl (lv_at hl 1 rfl) ?_
            refine lv_iload hx hb d_M_divert_79 (lv_at hl 0 rfl) ?_
            refine lv_iconst (v := (bI (false))) hx hb d_M_divert_81 (by decide) ?_
            refine lv_iconst (v := (bI (false))) hx hb d_M_divert_82 (by decide) ?_
            refine fw_calliP [0] (va_runV (As := [.int (bI (false)), .int (bI (false)), .int (bI (false)), .int (bI (false))]) (rest := []) ⟨hx, hb, hml, hown, hts⟩ (c_M_throwing l dC dI  _ mm th mO mg md mH ml mu mp ud cs mS xu xf xt mW mF rn sp nd rd li pz lt false false false false ) (cwV 4 hts (gw_V kw_652 kw_654 ks_M_throwing kw_5 kw_655) rfl rfl rfl (by decide +kernel) ⟨Nat.le_of_ble_eq_true rfl, Nat.le_of_ble_eq_true rfl⟩) (fw_preV (ci := 4) (q0 := 0) hP hK hD hN [0] [] rfl rfl rfl rfl rfl) rfl rfl hl.1 rfl (lv_room (Nat.le_of_ble_eq_true rfl)) d_M_divert_83 ⟨Nat.le_of_ble_eq_true rfl, Nat.le_of_ble_eq_true rfl⟩) hP hD hS hA rfl rfl rfl (fun H locs hP hD hS => ?_)
            have hP : va_P (dC, dI) cls_ [(mm, .inr (4, [.int (iI (fc_thr false false false false)), .int (iI (mO)), .ref mg, .ref md, .int (iI (mH)), .ref ml, .ref mu, .ref mp, .int (bI (ud)), .int (iI (cs)), .int (iI (mS)), .ref xu, .ref xf, .ref xt, .int (iI (mW)), .int (iI (mF)), .int (bI (rn)), .int (bI (sp)), .int (iI (nd)), .int (iI (rd)), .int (iI (li)), .ref pz, .int (iI (lt))])), (mg, fw_a kI 8 (gG)), (mp, fw_a kI 144 (gP))] H := hP
            have hD : va_D A [(mm, .inr (4, [.int (iI (fc_thr false false false false)), .int (iI (mO)), .ref mg, .ref md, .int (iI (mH)), .ref ml, .ref mu, .ref mp, .int (bI (ud)), .int (iI (cs)), .int (iI (mS)), .ref xu, .ref xf, .ref xt, .int (iI (mW)), .int (iI (mF)), .int (bI (rn)), .int (bI (sp)), .int (iI (nd)), .int (iI (rd)), .int (iI (li)), .ref pz, .int (iI (lt))])), (mg, fw_a kI 8 (gG)), (mp, fw_a kI 144 (gP))] := hD
            refine fw_cast (show (.int (bI (decide (0 < fc_thr false false false false))) : Value) = .int (bI (false)) from congrArg (fun b => Value.int (bI b)) (by decide)) ?_
            refine fw_bif_eq (tgt := 90) hx hb d_M_divert_86 (by decide) (fun c_9 => ?_) (fun c_9 => ?_)
            · refine lv_aload_n hx hb d_M_divert_90 rfl (lv_at hl 2 rfl) ?_
              refine fw_callvP [0, 2] (va_runV (As := []) (rest := []) ⟨hx, hb, hml, hown, hts⟩ (c_M_keepForUndo l dC dI  _ mm (fc_thr false false false false) mO mg md mH ml mu mp ud cs mS xu xf xt mW mF rn sp nd rd li pz lt gP kI ) (cwV 0 hts (gw_V kw_696 kw_698 ks_M_keepForUndo kw_5 kw_699) rfl rfl rfl (by decide +kernel) ⟨Nat.le_of_ble_eq_true rfl, Nat.le_of_ble_eq_true rfl⟩) (fw_preV (ci := 4) (q0 := 0) hP hK hD hN [0, 2] [0] rfl rfl rfl rfl rfl) rfl rfl hl.1 rfl (lv_room (Nat.le_of_ble_eq_true rfl)) d_M_divert_91 ⟨Nat.le_of_ble_eq_true rfl, Nat.le_of_ble_eq_true rfl⟩) hP hD hS hA rfl rfl rfl (fun H locs hP hD hS => ?_)
              have hP : va_P (dC, dI) cls_ [(mm, .inr (4, [.int (iI ((fc_thr false false false false))), .int (iI (mO)), .ref mg, .ref md, .int (iI (mH)), .ref ml, .ref mu, .ref mp, .int (bI (true)), .int (iI (cs)), .int (iI (mS)), .ref xu, .ref xf, .ref xt, .int (iI (mW)), .int (iI (mF)), .int (bI (rn)), .int (bI (sp)), .int (iI (nd)), .int (iI (rd)), .int (iI (li)), .ref pz, .int (iI (lt))])), (mg, fw_a kI 8 (gG)), (mp, fw_a kI 144 (fm_cp 0 54 gP))] H := hP
              have hD : va_D A [(mm, .inr (4, [.int (iI ((fc_thr false false false false))), .int (iI (mO)), .ref mg, .ref md, .int (iI (mH)), .ref ml, .ref mu, .ref mp, .int (bI (true)), .int (iI (cs)), .int (iI (mS)), .ref xu, .ref xf, .ref xt, .int (iI (mW)), .int (iI (mF)), .int (bI (rn)), .int (bI (sp)), .int (iI (nd)), .int (iI (rd)), .int (iI (li)), .ref pz, .int (iI (lt))])), (mg, fw_a kI 8 (gG)), (mp, fw_a kI 144 (fm_cp 0 54 gP))] := hD
              refine lv_aload_n hx hb d_M_divert_94 rfl (lv_at hl 2 rfl) ?_
              refine va_get (D := (dC, dI)) (ci := 4) (v := .ref mp) (C := R_M) (T := T_M) (N := 23) hx hb hts in_M hown hK hP 0 rfl rfl 7 (by decide) (hts _ kw_578) (fun _ h9 => h9) rfl d_M_divert_95 ?_
              refine lv_iconst (v := (iI (3))) hx hb d_M_divert_98 (by decide) ?_
              refine lv_iload_n hx hb d_M_divert_99 rfl (lv_at hl 3 rfl) ?_
              refine fw_imul hx hb d_M_divert_100 ?_
              refine lv_iconst (v := (iI (2))) hx hb d_M_divert_101 (by decide) ?_
              refine fw_iadd hx hb d_M_divert_102 ?_
              refine lv_iload_n hx hb d_M_divert_103 rfl (lv_at hl 4 rfl) ?_
              refine fw_iast hx hb hK hP hD hS 2 0 rfl rfl (((3 * h.toNat) + 2)) (by omega) (by omega) (by omega) d_M_divert_104 (fun H locs hP hD hS => ?_)
              have hP : va_P (dC, dI) cls_ [(mm, .inr (4, [.int (iI ((fc_thr false false false false))), .int (iI (mO)), .ref mg, .ref md, .int (iI (mH)), .ref ml, .ref mu, .ref mp, .int (bI (true)), .int (iI (cs)), .int (iI (mS)), .ref xu, .ref xf, .ref xt, .int (iI (mW)), .int (iI (mF)), .int (bI (rn)), .int (bI (sp)), .int (iI (nd)), .int (iI (rd)), .int (iI (li)), .ref pz, .int (iI (lt))])), (mg, fw_a kI 8 (gG)), (mp, fw_a kI 144 (fw_up (fm_cp 0 54 gP) ((3 * h.toNat) + 2) o))] H := hP
              have hD : va_D A [(mm, .inr (4, [.int (iI ((fc_thr false false false false))), .int (iI (mO)), .ref mg, .ref md, .int (iI (mH)), .ref ml, .ref mu, .ref mp, .int (bI (true)), .int (iI (cs)), .int (iI (mS)), .ref xu, .ref xf, .ref xt, .int (iI (mW)), .int (iI (mF)), .int (bI (rn)), .int (bI (sp)), .int (iI (nd)), .int (iI (rd)), .int (iI (li)), .ref pz, .int (iI (lt))])), (mg, fw_a kI 8 (gG)), (mp, fw_a kI 144 (fw_up (fm_cp 0 54 gP) ((3 * h.toNat) + 2) o))] := hD
              have e9 : km_divert mH mO h o gG gP = 0 := by simp [km_divert, k_divert, c_1, c_4, c_6, c_8] <;> omega
              refine fw_vret hx hb hr hlocks hS ?_ d_M_divert_105
              · exact Or.inr ⟨e9, hP⟩
            · exact absurd c_9 (by decide)
          · refine lv_iconst (v := (bI (true))) hx hb d_M_divert_70 (by decide) ?_
            refine lv_goto (tgt := 75) hx hb d_M_divert_71 (by decide) ?_
            refine lv_istore (lv' := [(4, .int (bI (true))), (3, .int (bI (false))), (0, .ref mm), (1, .int (iI (h))), (2, .int (iI (o)))]) hx hb d_M_divert_75 hl (by decide) rfl (fun ls hl => ?_)
            refine lv_aload_n hx hb d_M_divert_77 rfl (lv_at hl 2 rfl) ?_
            refine lv_iload_n hx hb d_M_divert_78 rfl (lv_at hl 1 rfl) ?_
            refine lv_iload hx hb d_M_divert_79 (lv_at hl 0 rfl) ?_
            refine lv_iconst (v := (bI (false))) hx hb d_M_divert_81 (by decide) ?_
            refine lv_iconst (v := (bI (false))) hx hb d_M_divert_82 (by decide) ?_
            refine fw_calliP [0] (va_runV (As := [.int (bI (false)), .int (bI (true)), .int (bI (false)), .int (bI (false))]) (rest := []) ⟨hx, hb, hml, hown, hts⟩ (c_M_throwing l dC dI  _ mm th mO mg md mH ml mu mp ud cs mS xu xf xt mW mF rn sp nd rd li pz lt false true false false ) (cwV 4 hts (gw_V kw_652 kw_654 ks_M_throwing kw_5 kw_655) rfl rfl rfl (by decide +kernel) ⟨Nat.le_of_ble_eq_true rfl, Nat.le_of_ble_eq_true rfl⟩) (fw_preV (ci := 4) (q0 := 0) hP hK hD hN [0] [] rfl rfl rfl rfl rfl) rfl rfl hl.1 rfl (lv_room (Nat.le_of_ble_eq_true rfl)) d_M_divert_83 ⟨Nat.le_of_ble_eq_true rfl, Nat.le_of_ble_eq_true rfl⟩) hP hD hS hA rfl rfl rfl (fun H locs hP hD hS => ?_)
            have hP : va_P (dC, dI) cls_ [(mm, .inr (4, [.int (iI (fc_thr false true false false)), .int (iI (mO)), .ref mg, .ref md, .int (iI (mH)), .ref ml, .ref mu, .ref mp, .int (bI (ud)), .int (iI (cs)), .int (iI (mS)), .ref xu, .ref xf, .ref xt, .int (iI (mW)), .int (iI (mF)), .int (bI (rn)), .int (bI (sp)), .int (iI (nd)), .int (iI (rd)), .int (iI (li)), .ref pz, .int (iI (lt))])), (mg, fw_a kI 8 (gG)), (mp, fw_a kI 144 (gP))] H := hP
            have hD : va_D A [(mm, .inr (4, [.int (iI (fc_thr false true false false)), .int (iI (mO)), .ref mg, .ref md, .int (iI (mH)), .ref ml, .ref mu, .ref mp, .int (bI (ud)), .int (iI (cs)), .int (iI (mS)), .ref xu, .ref xf, .ref xt, .int (iI (mW)), .int (iI (mF)), .int (bI (rn)), .int (bI (sp)), .int (iI (nd)), .int (iI (rd)), .int (iI (li)), .ref pz, .int (iI (lt))])), (mg, fw_a kI 8 (gG)), (mp, fw_a kI 144 (gP))] := hD
            refine fw_cast (show (.int (bI (decide (0 < fc_thr false true false false))) : Value) = .int (bI (true)) from congrArg (fun b => Value.int (bI b)) (by decide)) ?_
            refine fw_bif_eq (tgt := 90) hx hb d_M_divert_86 (by decide) (fun c_10 => ?_) (fun c_10 => ?_)
            · exact absurd c_10 (by decide)
            · have e9 : km_divert mH mO h o gG gP = (fc_thr false true false false) := by simp [km_divert, k_divert, fc_thr, c_1, c_4, c_6, c_8] <;> omega
              have e8 : ¬ km_divert mH mO h o gG gP = 0 := by rw [e9]; decide
              refine fw_vret hx hb hr hlocks hS ?_ d_M_divert_89
              · exact Or.inl ⟨e8, by rw [e9]; exact hP⟩
    · refine lv_iconst (v := (bI (true))) hx hb d_M_divert_22 (by decide) ?_
      refine lv_goto (tgt := 27) hx hb d_M_divert_23 (by decide) ?_
      refine lv_istore_n (lv' := [(3, .int (bI (true))), (0, .ref mm), (1, .int (iI (h))), (2, .int (iI (o)))]) hx hb d_M_divert_27 rfl hl (by decide) rfl (fun ls hl => ?_)
      refine lv_iload_n hx hb d_M_divert_28 rfl (lv_at hl 0 rfl) ?_
      refine fw_bif_ne (tgt := 74) hx hb d_M_divert_29 (by decide) (fun c_11 => ?_) (fun c_11 => ?_)
      · refine lv_iconst (v := (bI (false))) hx hb d_M_divert_74 (by decide) ?_
        refine lv_istore (lv' := [(4, .int (bI (false))), (3, .int (bI (true))), (0, .ref mm), (1, .int (iI (h))), (2, .int (iI (o)))]) hx hb d_M_divert_75 hl (by decide) rfl (fun ls hl => ?_)
        refine lv_aload_n hx hb d_M_divert_77 rfl (lv_at hl 2 rfl) ?_
        refine lv_iload_n hx hb d_M_divert_78 rfl (lv_at hl 1 rfl) ?_
        refine lv_iload hx hb d_M_divert_79 (lv_at hl 0 rfl) ?_
        refine lv_iconst (v := (bI (false))) hx hb d_M_divert_81 (by decide) ?_
        refine lv_iconst (v := (bI (false))) hx hb d_M_divert_82 (by decide) ?_
        refine fw_calliP [0] (va_runV (As := [.int (bI (true)), .int (bI (false)), .int (bI (false)), .int (bI (false))]) (rest := []) ⟨hx, hb, hml, hown, hts⟩ (c_M_throwing l dC dI  _ mm th mO mg md mH ml mu mp ud cs mS xu xf xt mW mF rn sp nd rd li pz lt true false false false ) (cwV 4 hts (gw_V kw_652 kw_654 ks_M_throwing kw_5 kw_655) rfl rfl rfl (by decide +kernel) ⟨Nat.le_of_ble_eq_true rfl, Nat.le_of_ble_eq_true rfl⟩) (fw_preV (ci := 4) (q0 := 0) hP hK hD hN [0] [] rfl rfl rfl rfl rfl) rfl rfl hl.1 rfl (lv_room (Nat.le_of_ble_eq_true rfl)) d_M_divert_83 ⟨Nat.le_of_ble_eq_true rfl, Nat.le_of_ble_eq_true rfl⟩) hP hD hS hA rfl rfl rfl (fun H locs hP hD hS => ?_)
        have hP : va_P (dC, dI) cls_ [(mm, .inr (4, [.int (iI (fc_thr true false false false)), .int (iI (mO)), .ref mg, .ref md, .int (iI (mH)), .ref ml, .ref mu, .ref mp, .int (bI (ud)), .int (iI (cs)), .int (iI (mS)), .ref xu, .ref xf, .ref xt, .int (iI (mW)), .int (iI (mF)), .int (bI (rn)), .int (bI (sp)), .int (iI (nd)), .int (iI (rd)), .int (iI (li)), .ref pz, .int (iI (lt))])), (mg, fw_a kI 8 (gG)), (mp, fw_a kI 144 (gP))] H := hP
        have hD : va_D A [(mm, .inr (4, [.int (iI (fc_thr true false false false)), .int (iI (mO)), .ref mg, .ref md, .int (iI (mH)), .ref ml, .ref mu, .ref mp, .int (bI (ud)), .int (iI (cs)), .int (iI (mS)), .ref xu, .ref xf, .ref xt, .int (iI (mW)), .int (iI (mF)), .int (bI (rn)), .int (bI (sp)), .int (iI (nd)), .int (iI (rd)), .int (iI (li)), .ref pz, .int (iI (lt))])), (mg, fw_a kI 8 (gG)), (mp, fw_a kI 144 (gP))] := hD
        refine fw_cast (show (.int (bI (decide (0 < fc_thr true false false false))) : Value) = .int (bI (true)) from congrArg (fun b => Value.int (bI b)) (by decide)) ?_
        refine fw_bif_eq (tgt := 90) hx hb d_M_divert_86 (by decide) (fun c_12 => ?_) (fun c_12 => ?_)
        · exact absurd c_12 (by decide)
        · have e9 : km_divert mH mO h o gG gP = (fc_thr true false false false) := by simp [km_divert, k_divert, fc_thr, c_1, c_4] <;> omega
          have e8 : ¬ km_divert mH mO h o gG gP = 0 := by rw [e9]; decide
          refine fw_vret hx hb hr hlocks hS ?_ d_M_divert_89
          · exact Or.inl ⟨e8, by rw [e9]; exact hP⟩
      · exact absurd c_11 (by decide)

set_option maxHeartbeats 4000000 in
set_option maxRecDepth 100000 in
theorem c_M_place (l : Launch) (dC : Nat → ClassId) (dI : Nat → Nat → Nat) (sz : Nat) (mm : Nat) (th : Int) (mO : Int) (mg : Nat) (md : Nat) (mH : Int) (ml : Nat) (mu : Nat) (mp : Nat) (ud : Bool) (cs : Int) (mS : Int) (xu : Nat) (xf : Nat) (xt : Nat) (mW : Int) (mF : Int) (rn : Bool) (sp : Bool) (nd : Int) (rd : Int) (li : Int) (pz : Nat) (lt : Int) (gL : Nat → Int) (gU : Nat → Int) (gP : Nat → Int) (xU : Nat → Int) (xF : Nat → Int) (xT : Nat → Int) (kI : ClassId) (h : Int) (u : Int) (mi : Int) (m1 : 0 ≤ mH) (m2 : mH ≤ 6) (m6 : 0 ≤ mO) (m7 : mO ≤ 8) (w1 : 0 ≤ mW) (w2 : mW ≤ 60) (w3 : 0 ≤ mF) (w4 : mF ≤ 60) (m3 : 0 ≤ mS) (m4 : mS ≤ 10) (m5 : ∀ j : Nat, (j : Int) < mS → fw_b (xU j) ∧ fw_b (xF j) ∧ fw_b (xT j)) (hgP : ∀ j, -1 ≤ gP j ∧ gP j ≤ 60) (hgL : ∀ j, 0 ≤ gL j ∧ gL j ≤ 20) (hgU : ∀ j, 0 ≤ gU j ∧ gU j ≤ 7) (hb_h : fw_b h) (hb_u : fw_b u) (hb_mi : fw_b mi) : Met l y_M_place (Cond.code y_M_place b_M_place 6 none :: gw) ({ frames := 2, locals := 51, cells := 0, slots := 0 }) (fw_Pc (dC, dI) [.ref mm, .int (iI (h)), .int (iI (u)), .int (iI (mi))] [(mm, .inr (4, [.int (iI (th)), .int (iI (mO)), .ref mg, .ref md, .int (iI (mH)), .ref ml, .ref mu, .ref mp, .int (bI (ud)), .int (iI (cs)), .int (iI (mS)), .ref xu, .ref xf, .ref xt, .int (iI (mW)), .int (iI (mF)), .int (bI (rn)), .int (bI (sp)), .int (iI (nd)), .int (iI (rd)), .int (iI (li)), .ref pz, .int (iI (lt))])), (ml, fw_a kI 6 (gL)), (mu, fw_a kI 6 (gU)), (mp, fw_a kI 144 (gP)), (xu, fw_a kI 10 (xU)), (xf, fw_a kI 10 (xF)), (xt, fw_a kI 10 (xT))] [(kI, .int)] sz) (fw_Qv (fun H => (¬ km_place mH mW mF h u mi gP gU gL xU xF xT mS.toNat = 0 ∧ va_P (dC, dI) cls_ [(mm, .inr (4, [.int (iI (km_place mH mW mF h u mi gP gU gL xU xF xT mS.toNat)), .int (iI (mO)), .ref mg, .ref md, .int (iI (mH)), .ref ml, .ref mu, .ref mp, .int (bI (ud)), .int (iI (cs)), .int (iI (mS)), .ref xu, .ref xf, .ref xt, .int (iI (mW)), .int (iI (mF)), .int (bI (rn)), .int (bI (sp)), .int (iI (nd)), .int (iI (rd)), .int (iI (li)), .ref pz, .int (iI (lt))])), (ml, fw_a kI 6 (gL)), (mu, fw_a kI 6 (gU)), (mp, fw_a kI 144 (gP)), (xu, fw_a kI 10 (xU)), (xf, fw_a kI 10 (xF)), (xt, fw_a kI 10 (xT))] H) ∨ (km_place mH mW mF h u mi gP gU gL xU xF xT mS.toNat = 0 ∧ va_P (dC, dI) cls_ [(mm, .inr (4, [.int (iI (0)), .int (iI (mO)), .ref mg, .ref md, .int (iI (mH)), .ref ml, .ref mu, .ref mp, .int (bI (true)), .int (iI (cs)), .int (iI (mS)), .ref xu, .ref xf, .ref xt, .int (iI (mW)), .int (iI (mF)), .int (bI (rn)), .int (bI (sp)), .int (iI (nd)), .int (iI (rd)), .int (iI (li)), .ref pz, .int (iI (lt))])), (ml, fw_a kI 6 (gL)), (mu, fw_a kI 6 (gU)), (mp, fw_a kI 144 (fw_up (fw_up (fm_cp 0 54 gP) (3 * h.toNat) u) (3 * h.toNat + 1) mi)), (xu, fw_a kI 10 (xU)), (xf, fw_a kI 10 (xF)), (xt, fw_a kI 10 (xT))] H)) (va_A [(mm, .inr (4, [.int (iI (th)), .int (iI (mO)), .ref mg, .ref md, .int (iI (mH)), .ref ml, .ref mu, .ref mp, .int (bI (ud)), .int (iI (cs)), .int (iI (mS)), .ref xu, .ref xf, .ref xt, .int (iI (mW)), .int (iI (mF)), .int (bI (rn)), .int (bI (sp)), .int (iI (nd)), .int (iI (rd)), .int (iI (li)), .ref pz, .int (iI (lt))])), (ml, fw_a kI 6 (gL)), (mu, fw_a kI 6 (gU)), (mp, fw_a kI 144 (gP)), (xu, fw_a kI 10 (xU)), (xf, fw_a kI 10 (xF)), (xt, fw_a kI 10 (xT))] sz)) 0 0 (va_A [(mm, .inr (4, [.int (iI (th)), .int (iI (mO)), .ref mg, .ref md, .int (iI (mH)), .ref ml, .ref mu, .ref mp, .int (bI (ud)), .int (iI (cs)), .int (iI (mS)), .ref xu, .ref xf, .ref xt, .int (iI (mW)), .int (iI (mF)), .int (bI (rn)), .int (bI (sp)), .int (iI (nd)), .int (iI (rd)), .int (iI (li)), .ref pz, .int (iI (lt))])), (ml, fw_a kI 6 (gL)), (mu, fw_a kI 6 (gU)), (mp, fw_a kI 144 (gP)), (xu, fw_a kI 10 (xU)), (xf, fw_a kI 10 (xF)), (xt, fw_a kI 10 (xT))] sz) := by
  refine fw_ofW (Qc := fun A => fw_Qv (fun H => (¬ km_place mH mW mF h u mi gP gU gL xU xF xT mS.toNat = 0 ∧ va_P (dC, dI) cls_ [(mm, .inr (4, [.int (iI (km_place mH mW mF h u mi gP gU gL xU xF xT mS.toNat)), .int (iI (mO)), .ref mg, .ref md, .int (iI (mH)), .ref ml, .ref mu, .ref mp, .int (bI (ud)), .int (iI (cs)), .int (iI (mS)), .ref xu, .ref xf, .ref xt, .int (iI (mW)), .int (iI (mF)), .int (bI (rn)), .int (bI (sp)), .int (iI (nd)), .int (iI (rd)), .int (iI (li)), .ref pz, .int (iI (lt))])), (ml, fw_a kI 6 (gL)), (mu, fw_a kI 6 (gU)), (mp, fw_a kI 144 (gP)), (xu, fw_a kI 10 (xU)), (xf, fw_a kI 10 (xF)), (xt, fw_a kI 10 (xT))] H) ∨ (km_place mH mW mF h u mi gP gU gL xU xF xT mS.toNat = 0 ∧ va_P (dC, dI) cls_ [(mm, .inr (4, [.int (iI (0)), .int (iI (mO)), .ref mg, .ref md, .int (iI (mH)), .ref ml, .ref mu, .ref mp, .int (bI (true)), .int (iI (cs)), .int (iI (mS)), .ref xu, .ref xf, .ref xt, .int (iI (mW)), .int (iI (mF)), .int (bI (rn)), .int (bI (sp)), .int (iI (nd)), .int (iI (rd)), .int (iI (li)), .ref pz, .int (iI (lt))])), (ml, fw_a kI 6 (gL)), (mu, fw_a kI 6 (gU)), (mp, fw_a kI 144 (fw_up (fw_up (fm_cp 0 54 gP) (3 * h.toNat) u) (3 * h.toNat + 1) mi)), (xu, fw_a kI 10 (xU)), (xf, fw_a kI 10 (xF)), (xt, fw_a kI 10 (xT))] H)) A) (by decide) (Nat.le_of_ble_eq_true rfl) ?_
  intro p e s m below meth c A ls hx hb hr hts hown hlocks hnm hml hsz hP hK hD hN hA hS hl
  have hl : lv_has ls 6 [(0, .ref mm), (1, .int (iI (h))), (2, .int (iI (u))), (3, .int (iI (mi)))] := hl
  refine lv_aload_n hx hb d_M_place_0 rfl (lv_at hl 0 rfl) ?_
  refine lv_iload_n hx hb d_M_place_1 rfl (lv_at hl 1 rfl) ?_
  refine fw_callR (va_runV (As := [.int (iI (h))]) (rest := []) ⟨hx, hb, hml, hown, hts⟩ (c_M_isHeat l dC dI  mm th mO mg md mH ml mu mp ud cs mS xu xf xt mW mF rn sp nd rd li pz lt h ⟨by omega, by omega⟩ ⟨by omega, by omega⟩) (cwV 1 hts (gw_V kw_688 kw_690 ks_M_isHeat kw_5 kw_691) rfl rfl rfl (by decide +kernel) ⟨Nat.le_of_ble_eq_true rfl, Nat.le_of_ble_eq_true rfl⟩) (fw_preRV (ci := 4) (q0 := 0) hP hK hN [0] [] rfl rfl rfl rfl) rfl rfl hl.1 rfl (lv_room (Nat.le_of_ble_eq_true rfl)) d_M_place_2 ⟨Nat.le_of_ble_eq_true rfl, Nat.le_of_ble_eq_true rfl⟩).run ?_
  refine fw_bif_eq (tgt := 17) hx hb d_M_place_5 (by decide) (fun c_1 => ?_) (fun c_1 => ?_)
  · refine lv_iconst (v := (bI (true))) hx hb d_M_place_17 (by decide) ?_
    refine lv_goto (tgt := 22) hx hb d_M_place_18 (by decide) ?_
    refine lv_istore (lv' := [(4, .int (bI (true))), (0, .ref mm), (1, .int (iI (h))), (2, .int (iI (u))), (3, .int (iI (mi)))]) hx hb d_M_place_22 hl (by decide) rfl (fun ls hl => ?_)
    refine lv_iload_n hx hb d_M_place_24 rfl (lv_at hl 4 rfl) ?_
    refine lv_iconst (v := (iI (0))) hx hb d_M_place_25 (by decide) ?_
    refine lv_bipush (v := (iI (59))) hx hb d_M_place_26 (by decide) ?_
    refine fw_callR (va_runS (As := [.int (iI (mi)), .int (iI (0)), .int (iI (59))]) (rest := []) ⟨hx, hb, hml, hown, hts⟩ (c_M_in l dC dI  mi 0 59 ⟨by omega, by omega⟩ ⟨by omega, by omega⟩ ⟨by omega, by omega⟩) (cwS 3 hts (gw_S kw_649 kw_650 kw_5 kw_651) rfl rfl rfl (by decide +kernel) ⟨Nat.le_of_ble_eq_true rfl, Nat.le_of_ble_eq_true rfl⟩) (fw_preRS hP hK hN [] [] rfl rfl) rfl rfl hl.1 rfl (lv_room (Nat.le_of_ble_eq_true rfl)) d_M_place_28 ⟨Nat.le_of_ble_eq_true rfl, Nat.le_of_ble_eq_true rfl⟩).run ?_
    refine fw_bif_ne (tgt := 38) hx hb d_M_place_31 (by decide) (fun c_2 => ?_) (fun c_2 => ?_)
    · have g5 := fc_in_t c_2
      refine lv_iconst (v := (bI (false))) hx hb d_M_place_38 (by decide) ?_
      refine lv_istore (lv' := [(5, .int (bI (false))), (4, .int (bI (true))), (0, .ref mm), (1, .int (iI (h))), (2, .int (iI (u))), (3, .int (iI (mi)))]) hx hb d_M_place_39 hl (by decide) rfl (fun ls hl => ?_)
      refine lv_aload_n hx hb d_M_place_41 rfl (lv_at hl 2 rfl) ?_
      refine lv_iload hx hb d_M_place_42 (lv_at hl 1 rfl) ?_
      refine lv_iload hx hb d_M_place_44 (lv_at hl 1 rfl) ?_
      refine fw_bif_ne (tgt := 61) hx hb d_M_place_46 (by decide) (fun c_3 => ?_) (fun c_3 => ?_)
      · refine lv_iconst (v := (bI (false))) hx hb d_M_place_61 (by decide) ?_
        refine lv_iload hx hb d_M_place_62 (lv_at hl 0 rfl) ?_
        refine lv_iload hx hb d_M_place_64 (lv_at hl 1 rfl) ?_
        refine fw_bif_ne (tgt := 88) hx hb d_M_place_66 (by decide) (fun c_4 => ?_) (fun c_4 => ?_)
        · refine lv_iconst (v := (bI (false))) hx hb d_M_place_88 (by decide) ?_
          refine fw_calliP [0] (va_runV (As := [.int (bI (true)), .int (bI (false)), .int (bI (false)), .int (bI (false))]) (rest := []) ⟨hx, hb, hml, hown, hts⟩ (c_M_throwing l dC dI  _ mm th mO mg md mH ml mu mp ud cs mS xu xf xt mW mF rn sp nd rd li pz lt true false false false ) (cwV 4 hts (gw_V kw_652 kw_654 ks_M_throwing kw_5 kw_655) rfl rfl rfl (by decide +kernel) ⟨Nat.le_of_ble_eq_true rfl, Nat.le_of_ble_eq_true rfl⟩) (fw_preV (ci := 4) (q0 := 0) hP hK hD hN [0] [] rfl rfl rfl rfl rfl) rfl rfl hl.1 rfl (lv_room (Nat.le_of_ble_eq_true rfl)) d_M_place_89 ⟨Nat.le_of_ble_eq_true rfl, Nat.le_of_ble_eq_true rfl⟩) hP hD hS hA rfl rfl rfl (fun H locs hP hD hS => ?_)
          have hP : va_P (dC, dI) cls_ [(mm, .inr (4, [.int (iI (fc_thr true false false false)), .int (iI (mO)), .ref mg, .ref md, .int (iI (mH)), .ref ml, .ref mu, .ref mp, .int (bI (ud)), .int (iI (cs)), .int (iI (mS)), .ref xu, .ref xf, .ref xt, .int (iI (mW)), .int (iI (mF)), .int (bI (rn)), .int (bI (sp)), .int (iI (nd)), .int (iI (rd)), .int (iI (li)), .ref pz, .int (iI (lt))])), (ml, fw_a kI 6 (gL)), (mu, fw_a kI 6 (gU)), (mp, fw_a kI 144 (gP)), (xu, fw_a kI 10 (xU)), (xf, fw_a kI 10 (xF)), (xt, fw_a kI 10 (xT))] H := hP
          have hD : va_D A [(mm, .inr (4, [.int (iI (fc_thr true false false false)), .int (iI (mO)), .ref mg, .ref md, .int (iI (mH)), .ref ml, .ref mu, .ref mp, .int (bI (ud)), .int (iI (cs)), .int (iI (mS)), .ref xu, .ref xf, .ref xt, .int (iI (mW)), .int (iI (mF)), .int (bI (rn)), .int (bI (sp)), .int (iI (nd)), .int (iI (rd)), .int (iI (li)), .ref pz, .int (iI (lt))])), (ml, fw_a kI 6 (gL)), (mu, fw_a kI 6 (gU)), (mp, fw_a kI 144 (gP)), (xu, fw_a kI 10 (xU)), (xf, fw_a kI 10 (xF)), (xt, fw_a kI 10 (xT))] := hD
          refine fw_cast (show (.int (bI (decide (0 < fc_thr true false false false))) : Value) = .int (bI (true)) from congrArg (fun b => Value.int (bI b)) (by decide)) ?_
          refine fw_bif_eq (tgt := 96) hx hb d_M_place_92 (by decide) (fun c_5 => ?_) (fun c_5 => ?_)
          · exact absurd c_5 (by decide)
          · have e9 : km_place mH mW mF h u mi gP gU gL xU xF xT mS.toNat = (fc_thr true false false false) := by simp [km_place, fc_thr, c_1, c_2] <;> omega
            have e8 : ¬ km_place mH mW mF h u mi gP gU gL xU xF xT mS.toNat = 0 := by rw [e9]; decide
            refine fw_vret hx hb hr hlocks hS ?_ d_M_place_95
            · exact Or.inl ⟨e8, by rw [e9]; exact hP⟩
        · exact absurd c_4 (by decide)
      · exact absurd c_3 (by decide)
    · refine lv_iconst (v := (bI (true))) hx hb d_M_place_34 (by decide) ?_
      refine lv_goto (tgt := 39) hx hb d_M_place_35 (by decide) ?_
      refine lv_istore (lv' := [(5, .int (bI (true))), (4, .int (bI (true))), (0, .ref mm), (1, .int (iI (h))), (2, .int (iI (u))), (3, .int (iI (mi)))]) hx hb d_M_place_39 hl (by decide) rfl (fun ls hl => ?_)
      refine lv_aload_n hx hb d_M_place_41 rfl (lv_at hl 2 rfl) ?_
      refine lv_iload hx hb d_M_place_42 (lv_at hl 1 rfl) ?_
      refine lv_iload hx hb d_M_place_44 (lv_at hl 1 rfl) ?_
      refine fw_bif_ne (tgt := 61) hx hb d_M_place_46 (by decide) (fun c_6 => ?_) (fun c_6 => ?_)
      · refine lv_iconst (v := (bI (false))) hx hb d_M_place_61 (by decide) ?_
        refine lv_iload hx hb d_M_place_62 (lv_at hl 0 rfl) ?_
        refine lv_iload hx hb d_M_place_64 (lv_at hl 1 rfl) ?_
        refine fw_bif_ne (tgt := 88) hx hb d_M_place_66 (by decide) (fun c_7 => ?_) (fun c_7 => ?_)
        · refine lv_iconst (v := (bI (false))) hx hb d_M_place_88 (by decide) ?_
          refine fw_calliP [0] (va_runV (As := [.int (bI (true)), .int (bI (false)), .int (bI (true)), .int (bI (false))]) (rest := []) ⟨hx, hb, hml, hown, hts⟩ (c_M_throwing l dC dI  _ mm th mO mg md mH ml mu mp ud cs mS xu xf xt mW mF rn sp nd rd li pz lt true false true false ) (cwV 4 hts (gw_V kw_652 kw_654 ks_M_throwing kw_5 kw_655) rfl rfl rfl (by decide +kernel) ⟨Nat.le_of_ble_eq_true rfl, Nat.le_of_ble_eq_true rfl⟩) (fw_preV (ci := 4) (q0 := 0) hP hK hD hN [0] [] rfl rfl rfl rfl rfl) rfl rfl hl.1 rfl (lv_room (Nat.le_of_ble_eq_true rfl)) d_M_place_89 ⟨Nat.le_of_ble_eq_true rfl, Nat.le_of_ble_eq_true rfl⟩) hP hD hS hA rfl rfl rfl (fun H locs hP hD hS => ?_)
          have hP : va_P (dC, dI) cls_ [(mm, .inr (4, [.int (iI (fc_thr true false true false)), .int (iI (mO)), .ref mg, .ref md, .int (iI (mH)), .ref ml, .ref mu, .ref mp, .int (bI (ud)), .int (iI (cs)), .int (iI (mS)), .ref xu, .ref xf, .ref xt, .int (iI (mW)), .int (iI (mF)), .int (bI (rn)), .int (bI (sp)), .int (iI (nd)), .int (iI (rd)), .int (iI (li)), .ref pz, .int (iI (lt))])), (ml, fw_a kI 6 (gL)), (mu, fw_a kI 6 (gU)), (mp, fw_a kI 144 (gP)), (xu, fw_a kI 10 (xU)), (xf, fw_a kI 10 (xF)), (xt, fw_a kI 10 (xT))] H := hP
          have hD : va_D A [(mm, .inr (4, [.int (iI (fc_thr true false true false)), .int (iI (mO)), .ref mg, .ref md, .int (iI (mH)), .ref ml, .ref mu, .ref mp, .int (bI (ud)), .int (iI (cs)), .int (iI (mS)), .ref xu, .ref xf, .ref xt, .int (iI (mW)), .int (iI (mF)), .int (bI (rn)), .int (bI (sp)), .int (iI (nd)), .int (iI (rd)), .int (iI (li)), .ref pz, .int (iI (lt))])), (ml, fw_a kI 6 (gL)), (mu, fw_a kI 6 (gU)), (mp, fw_a kI 144 (gP)), (xu, fw_a kI 10 (xU)), (xf, fw_a kI 10 (xF)), (xt, fw_a kI 10 (xT))] := hD
          refine fw_cast (show (.int (bI (decide (0 < fc_thr true false true false))) : Value) = .int (bI (true)) from congrArg (fun b => Value.int (bI b)) (by decide)) ?_
          refine fw_bif_eq (tgt := 96) hx hb d_M_place_92 (by decide) (fun c_8 => ?_) (fun c_8 => ?_)
          · exact absurd c_8 (by decide)
          · have e9 : km_place mH mW mF h u mi gP gU gL xU xF xT mS.toNat = (fc_thr true false true false) := by simp [km_place, fc_thr, c_1, c_2] <;> omega
            have e8 : ¬ km_place mH mW mF h u mi gP gU gL xU xF xT mS.toNat = 0 := by rw [e9]; decide
            refine fw_vret hx hb hr hlocks hS ?_ d_M_place_95
            · exact Or.inl ⟨e8, by rw [e9]; exact hP⟩
        · exact absurd c_7 (by decide)
      · exact absurd c_6 (by decide)
  · refine lv_iload_n hx hb d_M_place_8 rfl (lv_at hl 2 rfl) ?_
    refine lv_iconst (v := (iI (0))) hx hb d_M_place_9 (by decide) ?_
    refine lv_iconst (v := (iI (2))) hx hb d_M_place_10 (by decide) ?_
    refine fw_callR (va_runS (As := [.int (iI (u)), .int (iI (0)), .int (iI (2))]) (rest := []) ⟨hx, hb, hml, hown, hts⟩ (c_M_in l dC dI  u 0 2 ⟨by omega, by omega⟩ ⟨by omega, by omega⟩ ⟨by omega, by omega⟩) (cwS 3 hts (gw_S kw_649 kw_650 kw_5 kw_651) rfl rfl rfl (by decide +kernel) ⟨Nat.le_of_ble_eq_true rfl, Nat.le_of_ble_eq_true rfl⟩) (fw_preRS hP hK hN [] [] rfl rfl) rfl rfl hl.1 rfl (lv_room (Nat.le_of_ble_eq_true rfl)) d_M_place_11 ⟨Nat.le_of_ble_eq_true rfl, Nat.le_of_ble_eq_true rfl⟩).run ?_
    refine fw_bif_ne (tgt := 21) hx hb d_M_place_14 (by decide) (fun c_9 => ?_) (fun c_9 => ?_)
    · obtain ⟨g1, g2⟩ := fc_in_t c_1
      obtain ⟨g3, g4⟩ := fc_in_t c_9
      refine lv_iconst (v := (bI (false))) hx hb d_M_place_21 (by decide) ?_
      refine lv_istore (lv' := [(4, .int (bI (false))), (0, .ref mm), (1, .int (iI (h))), (2, .int (iI (u))), (3, .int (iI (mi)))]) hx hb d_M_place_22 hl (by decide) rfl (fun ls hl => ?_)
      refine lv_iload_n hx hb d_M_place_24 rfl (lv_at hl 4 rfl) ?_
      refine lv_iconst (v := (iI (0))) hx hb d_M_place_25 (by decide) ?_
      refine lv_bipush (v := (iI (59))) hx hb d_M_place_26 (by decide) ?_
      refine fw_callR (va_runS (As := [.int (iI (mi)), .int (iI (0)), .int (iI (59))]) (rest := []) ⟨hx, hb, hml, hown, hts⟩ (c_M_in l dC dI  mi 0 59 ⟨by omega, by omega⟩ ⟨by omega, by omega⟩ ⟨by omega, by omega⟩) (cwS 3 hts (gw_S kw_649 kw_650 kw_5 kw_651) rfl rfl rfl (by decide +kernel) ⟨Nat.le_of_ble_eq_true rfl, Nat.le_of_ble_eq_true rfl⟩) (fw_preRS hP hK hN [] [] rfl rfl) rfl rfl hl.1 rfl (lv_room (Nat.le_of_ble_eq_true rfl)) d_M_place_28 ⟨Nat.le_of_ble_eq_true rfl, Nat.le_of_ble_eq_true rfl⟩).run ?_
      refine fw_bif_ne (tgt := 38) hx hb d_M_place_31 (by decide) (fun c_10 => ?_) (fun c_10 => ?_)
      · have g5 := fc_in_t c_10
        refine lv_iconst (v := (bI (false))) hx hb d_M_place_38 (by decide) ?_
        refine lv_istore (lv' := [(5, .int (bI (false))), (4, .int (bI (false))), (0, .ref mm), (1, .int (iI (h))), (2, .int (iI (u))), (3, .int (iI (mi)))]) hx hb d_M_place_39 hl (by decide) rfl (fun ls hl => ?_)
        refine lv_aload_n hx hb d_M_place_41 rfl (lv_at hl 2 rfl) ?_
        refine lv_iload hx hb d_M_place_42 (lv_at hl 1 rfl) ?_
        refine lv_iload hx hb d_M_place_44 (lv_at hl 1 rfl) ?_
        refine fw_bif_ne (tgt := 61) hx hb d_M_place_46 (by decide) (fun c_11 => ?_) (fun c_11 => ?_)
        · exact absurd c_11 (by decide)
        · refine lv_aload_n hx hb d_M_place_49 rfl (lv_at hl 2 rfl) ?_
          refine lv_iload_n hx hb d_M_place_50 rfl (lv_at hl 3 rfl) ?_
          refine fw_callR (va_runV (As := [.int (iI (h))]) (rest := [.int (bI (false)), .ref mm]) ⟨hx, hb, hml, hown, hts⟩ (c_M_isFrozen l dC dI  mm th mO mg md mH ml mu mp ud cs mS xu xf xt mW mF rn sp nd rd li pz lt gP kI h (by assumption) (by first | assumption | omega) (by first | assumption | omega) (by first | assumption | omega) (by first | assumption | omega) (by first | assumption | omega) (by first | assumption | omega)) (cwV 1 hts (gw_V kw_692 kw_694 ks_M_isFrozen kw_5 kw_695) rfl rfl rfl (by decide +kernel) ⟨Nat.le_of_ble_eq_true rfl, Nat.le_of_ble_eq_true rfl⟩) (fw_preRV (ci := 4) (q0 := 0) hP hK hN [0, 3] [0] rfl rfl rfl rfl) rfl rfl hl.1 rfl (lv_room (Nat.le_of_ble_eq_true rfl)) d_M_place_51 ⟨Nat.le_of_ble_eq_true rfl, Nat.le_of_ble_eq_true rfl⟩).run ?_
          refine fw_bif_eq (tgt := 61) hx hb d_M_place_54 (by decide) (fun c_12 => ?_) (fun c_12 => ?_)
          · refine lv_iconst (v := (bI (false))) hx hb d_M_place_61 (by decide) ?_
            refine lv_iload hx hb d_M_place_62 (lv_at hl 0 rfl) ?_
            refine lv_iload hx hb d_M_place_64 (lv_at hl 1 rfl) ?_
            refine fw_bif_ne (tgt := 88) hx hb d_M_place_66 (by decide) (fun c_13 => ?_) (fun c_13 => ?_)
            · exact absurd c_13 (by decide)
            · refine lv_iload hx hb d_M_place_69 (lv_at hl 0 rfl) ?_
              refine fw_bif_ne (tgt := 88) hx hb d_M_place_71 (by decide) (fun c_14 => ?_) (fun c_14 => ?_)
              · exact absurd c_14 (by decide)
              · refine lv_aload_n hx hb d_M_place_74 rfl (lv_at hl 2 rfl) ?_
                refine lv_iload_n hx hb d_M_place_75 rfl (lv_at hl 3 rfl) ?_
                refine lv_iload_n hx hb d_M_place_76 rfl (lv_at hl 4 rfl) ?_
                refine lv_iload_n hx hb d_M_place_77 rfl (lv_at hl 5 rfl) ?_
                refine fw_callR (va_runV (As := [.int (iI (h)), .int (iI (u)), .int (iI (mi))]) (rest := [.int (bI (false)), .int (bI (false)), .int (bI (false)), .ref mm]) ⟨hx, hb, hml, hown, hts⟩ (c_M_fits l dC dI  mm th mO mg md mH ml mu mp ud cs mS xu xf xt mW mF rn sp nd rd li pz lt gL gU gP xU xF xT kI h u mi (by assumption) (by assumption) (by assumption) (by first | assumption | omega) (by first | assumption | omega) (by first | assumption | omega) (by first | assumption | omega) (by assumption) (by first | assumption | omega) (by first | assumption | omega) (by first | assumption | omega) (by first | assumption | omega) (by first | assumption | omega) (by first | assumption | omega)) (cwV 3 hts (gw_V kw_660 kw_662 ks_M_fits kw_5 kw_663) rfl rfl rfl (by decide +kernel) ⟨Nat.le_of_ble_eq_true rfl, Nat.le_of_ble_eq_true rfl⟩) (fw_preRV (ci := 4) (q0 := 0) hP hK hN [0, 1, 2, 3, 4, 5, 6] [0] rfl rfl rfl rfl) rfl rfl hl.1 rfl (lv_room (Nat.le_of_ble_eq_true rfl)) d_M_place_78 ⟨Nat.le_of_ble_eq_true rfl, Nat.le_of_ble_eq_true rfl⟩).run ?_
                refine fw_bif_ne (tgt := 88) hx hb d_M_place_81 (by decide) (fun c_15 => ?_) (fun c_15 => ?_)
                · refine lv_iconst (v := (bI (false))) hx hb d_M_place_88 (by decide) ?_
                  refine fw_calliP [0] (va_runV (As := [.int (bI (false)), .int (bI (false)), .int (bI (false)), .int (bI (false))]) (rest := []) ⟨hx, hb, hml, hown, hts⟩ (c_M_throwing l dC dI  _ mm th mO mg md mH ml mu mp ud cs mS xu xf xt mW mF rn sp nd rd li pz lt false false false false ) (cwV 4 hts (gw_V kw_652 kw_654 ks_M_throwing kw_5 kw_655) rfl rfl rfl (by decide +kernel) ⟨Nat.le_of_ble_eq_true rfl, Nat.le_of_ble_eq_true rfl⟩) (fw_preV (ci := 4) (q0 := 0) hP hK hD hN [0] [] rfl rfl rfl rfl rfl) rfl rfl hl.1 rfl (lv_room (Nat.le_of_ble_eq_true rfl)) d_M_place_89 ⟨Nat.le_of_ble_eq_true rfl, Nat.le_of_ble_eq_true rfl⟩) hP hD hS hA rfl rfl rfl (fun H locs hP hD hS => ?_)
                  have hP : va_P (dC, dI) cls_ [(mm, .inr (4, [.int (iI (fc_thr false false false false)), .int (iI (mO)), .ref mg, .ref md, .int (iI (mH)), .ref ml, .ref mu, .ref mp, .int (bI (ud)), .int (iI (cs)), .int (iI (mS)), .ref xu, .ref xf, .ref xt, .int (iI (mW)), .int (iI (mF)), .int (bI (rn)), .int (bI (sp)), .int (iI (nd)), .int (iI (rd)), .int (iI (li)), .ref pz, .int (iI (lt))])), (ml, fw_a kI 6 (gL)), (mu, fw_a kI 6 (gU)), (mp, fw_a kI 144 (gP)), (xu, fw_a kI 10 (xU)), (xf, fw_a kI 10 (xF)), (xt, fw_a kI 10 (xT))] H := hP
                  have hD : va_D A [(mm, .inr (4, [.int (iI (fc_thr false false false false)), .int (iI (mO)), .ref mg, .ref md, .int (iI (mH)), .ref ml, .ref mu, .ref mp, .int (bI (ud)), .int (iI (cs)), .int (iI (mS)), .ref xu, .ref xf, .ref xt, .int (iI (mW)), .int (iI (mF)), .int (bI (rn)), .int (bI (sp)), .int (iI (nd)), .int (iI (rd)), .int (iI (li)), .ref pz, .int (iI (lt))])), (ml, fw_a kI 6 (gL)), (mu, fw_a kI 6 (gU)), (mp, fw_a kI 144 (gP)), (xu, fw_a kI 10 (xU)), (xf, fw_a kI 10 (xF)), (xt, fw_a kI 10 (xT))] := hD
                  refine fw_cast (show (.int (bI (decide (0 < fc_thr false false false false))) : Value) = .int (bI (false)) from congrArg (fun b => Value.int (bI b)) (by decide)) ?_
                  refine fw_bif_eq (tgt := 96) hx hb d_M_place_92 (by decide) (fun c_16 => ?_) (fun c_16 => ?_)
                  · refine lv_aload_n hx hb d_M_place_96 rfl (lv_at hl 2 rfl) ?_
                    refine fw_callvP [0, 3] (va_runV (As := []) (rest := []) ⟨hx, hb, hml, hown, hts⟩ (c_M_keepForUndo l dC dI  _ mm (fc_thr false false false false) mO mg md mH ml mu mp ud cs mS xu xf xt mW mF rn sp nd rd li pz lt gP kI ) (cwV 0 hts (gw_V kw_696 kw_698 ks_M_keepForUndo kw_5 kw_699) rfl rfl rfl (by decide +kernel) ⟨Nat.le_of_ble_eq_true rfl, Nat.le_of_ble_eq_true rfl⟩) (fw_preV (ci := 4) (q0 := 0) hP hK hD hN [0, 3] [0] rfl rfl rfl rfl rfl) rfl rfl hl.1 rfl (lv_room (Nat.le_of_ble_eq_true rfl)) d_M_place_97 ⟨Nat.le_of_ble_eq_true rfl, Nat.le_of_ble_eq_true rfl⟩) hP hD hS hA rfl rfl rfl (fun H locs hP hD hS => ?_)
                    have hP : va_P (dC, dI) cls_ [(mm, .inr (4, [.int (iI ((fc_thr false false false false))), .int (iI (mO)), .ref mg, .ref md, .int (iI (mH)), .ref ml, .ref mu, .ref mp, .int (bI (true)), .int (iI (cs)), .int (iI (mS)), .ref xu, .ref xf, .ref xt, .int (iI (mW)), .int (iI (mF)), .int (bI (rn)), .int (bI (sp)), .int (iI (nd)), .int (iI (rd)), .int (iI (li)), .ref pz, .int (iI (lt))])), (ml, fw_a kI 6 (gL)), (mu, fw_a kI 6 (gU)), (mp, fw_a kI 144 (fm_cp 0 54 gP)), (xu, fw_a kI 10 (xU)), (xf, fw_a kI 10 (xF)), (xt, fw_a kI 10 (xT))] H := hP
                    have hD : va_D A [(mm, .inr (4, [.int (iI ((fc_thr false false false false))), .int (iI (mO)), .ref mg, .ref md, .int (iI (mH)), .ref ml, .ref mu, .ref mp, .int (bI (true)), .int (iI (cs)), .int (iI (mS)), .ref xu, .ref xf, .ref xt, .int (iI (mW)), .int (iI (mF)), .int (bI (rn)), .int (bI (sp)), .int (iI (nd)), .int (iI (rd)), .int (iI (li)), .ref pz, .int (iI (lt))])), (ml, fw_a kI 6 (gL)), (mu, fw_a kI 6 (gU)), (mp, fw_a kI 144 (fm_cp 0 54 gP)), (xu, fw_a kI 10 (xU)), (xf, fw_a kI 10 (xF)), (xt, fw_a kI 10 (xT))] := hD
                    refine lv_aload_n hx hb d_M_place_100 rfl (lv_at hl 2 rfl) ?_
                    refine va_get (D := (dC, dI)) (ci := 4) (v := .ref mp) (C := R_M) (T := T_M) (N := 23) hx hb hts in_M hown hK hP 0 rfl rfl 7 (by decide) (hts _ kw_578) (fun _ h9 => h9) rfl d_M_place_101 ?_
                    refine lv_iconst (v := (iI (3))) hx hb d_M_place_104 (by decide) ?_
                    refine lv_iload_n hx hb d_M_place_105 rfl (lv_at hl 3 rfl) ?_
                    refine fw_imul hx hb d_M_place_106 ?_
                    refine lv_iload_n hx hb d_M_place_107 rfl (lv_at hl 4 rfl) ?_
                    refine fw_iast hx hb hK hP hD hS 3 0 rfl rfl ((3 * h.toNat)) (by omega) (by omega) (by omega) d_M_place_108 (fun H locs hP hD hS => ?_)
                    have hP : va_P (dC, dI) cls_ [(mm, .inr (4, [.int (iI ((fc_thr false false false false))), .int (iI (mO)), .ref mg, .ref md, .int (iI (mH)), .ref ml, .ref mu, .ref mp, .int (bI (true)), .int (iI (cs)), .int (iI (mS)), .ref xu, .ref xf, .ref xt, .int (iI (mW)), .int (iI (mF)), .int (bI (rn)), .int (bI (sp)), .int (iI (nd)), .int (iI (rd)), .int (iI (li)), .ref pz, .int (iI (lt))])), (ml, fw_a kI 6 (gL)), (mu, fw_a kI 6 (gU)), (mp, fw_a kI 144 (fw_up (fm_cp 0 54 gP) (3 * h.toNat) u)), (xu, fw_a kI 10 (xU)), (xf, fw_a kI 10 (xF)), (xt, fw_a kI 10 (xT))] H := hP
                    have hD : va_D A [(mm, .inr (4, [.int (iI ((fc_thr false false false false))), .int (iI (mO)), .ref mg, .ref md, .int (iI (mH)), .ref ml, .ref mu, .ref mp, .int (bI (true)), .int (iI (cs)), .int (iI (mS)), .ref xu, .ref xf, .ref xt, .int (iI (mW)), .int (iI (mF)), .int (bI (rn)), .int (bI (sp)), .int (iI (nd)), .int (iI (rd)), .int (iI (li)), .ref pz, .int (iI (lt))])), (ml, fw_a kI 6 (gL)), (mu, fw_a kI 6 (gU)), (mp, fw_a kI 144 (fw_up (fm_cp 0 54 gP) (3 * h.toNat) u)), (xu, fw_a kI 10 (xU)), (xf, fw_a kI 10 (xF)), (xt, fw_a kI 10 (xT))] := hD
                    refine lv_aload_n hx hb d_M_place_109 rfl (lv_at hl 2 rfl) ?_
                    refine va_get (D := (dC, dI)) (ci := 4) (v := .ref mp) (C := R_M) (T := T_M) (N := 23) hx hb hts in_M hown hK hP 0 rfl rfl 7 (by decide) (hts _ kw_578) (fun _ h9 => h9) rfl d_M_place_110 ?_
                    refine lv_iconst (v := (iI (3))) hx hb d_M_place_113 (by decide) ?_
                    refine lv_iload_n hx hb d_M_place_114 rfl (lv_at hl 3 rfl) ?_
                    refine fw_imul hx hb d_M_place_115 ?_
                    refine lv_iconst (v := (iI (1))) hx hb d_M_place_116 (by decide) ?_
                    refine fw_iadd hx hb d_M_place_117 ?_
                    refine lv_iload_n hx hb d_M_place_118 rfl (lv_at hl 5 rfl) ?_
                    refine fw_iast hx hb hK hP hD hS 3 0 rfl rfl (((3 * h.toNat) + 1)) (by omega) (by omega) (by omega) d_M_place_119 (fun H locs hP hD hS => ?_)
                    have hP : va_P (dC, dI) cls_ [(mm, .inr (4, [.int (iI ((fc_thr false false false false))), .int (iI (mO)), .ref mg, .ref md, .int (iI (mH)), .ref ml, .ref mu, .ref mp, .int (bI (true)), .int (iI (cs)), .int (iI (mS)), .ref xu, .ref xf, .ref xt, .int (iI (mW)), .int (iI (mF)), .int (bI (rn)), .int (bI (sp)), .int (iI (nd)), .int (iI (rd)), .int (iI (li)), .ref pz, .int (iI (lt))])), (ml, fw_a kI 6 (gL)), (mu, fw_a kI 6 (gU)), (mp, fw_a kI 144 (fw_up (fw_up (fm_cp 0 54 gP) (3 * h.toNat) u) ((3 * h.toNat) + 1) mi)), (xu, fw_a kI 10 (xU)), (xf, fw_a kI 10 (xF)), (xt, fw_a kI 10 (xT))] H := hP
                    have hD : va_D A [(mm, .inr (4, [.int (iI ((fc_thr false false false false))), .int (iI (mO)), .ref mg, .ref md, .int (iI (mH)), .ref ml, .ref mu, .ref mp, .int (bI (true)), .int (iI (cs)), .int (iI (mS)), .ref xu, .ref xf, .ref xt, .int (iI (mW)), .int (iI (mF)), .int (bI (rn)), .int (bI (sp)), .int (iI (nd)), .int (iI (rd)), .int (iI (li)), .ref pz, .int (iI (lt))])), (ml, fw_a kI 6 (gL)), (mu, fw_a kI 6 (gU)), (mp, fw_a kI 144 (fw_up (fw_up (fm_cp 0 54 gP) (3 * h.toNat) u) ((3 * h.toNat) + 1) mi)), (xu, fw_a kI 10 (xU)), (xf, fw_a kI 10 (xF)), (xt, fw_a kI 10 (xT))] := hD
                    have e9 : km_place mH mW mF h u mi gP gU gL xU xF xT mS.toNat = 0 := by simp [km_place, c_1, c_9, c_10, c_12, c_15] <;> omega
                    refine fw_vret hx hb hr hlocks hS ?_ d_M_place_120
                    · exact Or.inr ⟨e9, hP⟩
                  · exact absurd c_16 (by decide)
                · refine lv_iconst (v := (bI (true))) hx hb d_M_place_84 (by decide) ?_
                  refine lv_goto (tgt := 89) hx hb d_M_place_85 (by decide) ?_
                  refine fw_calliP [0] (va_runV (As := [.int (bI (false)), .int (bI (false)), .int (bI (false)), .int (bI (true))]) (rest := []) ⟨hx, hb, hml, hown, hts⟩ (c_M_throwing l dC dI  _ mm th mO mg md mH ml mu mp ud cs mS xu xf xt mW mF rn sp nd rd li pz lt false false false true ) (cwV 4 hts (gw_V kw_652 kw_654 ks_M_throwing kw_5 kw_655) rfl rfl rfl (by decide +kernel) ⟨Nat.le_of_ble_eq_true rfl, Nat.le_of_ble_eq_true rfl⟩) (fw_preV (ci := 4) (q0 := 0) hP hK hD hN [0] [] rfl rfl rfl rfl rfl) rfl rfl hl.1 rfl (lv_room (Nat.le_of_ble_eq_true rfl)) d_M_place_89 ⟨Nat.le_of_ble_eq_true rfl, Nat.le_of_ble_eq_true rfl⟩) hP hD hS hA rfl rfl rfl (fun H locs hP hD hS => ?_)
                  have hP : va_P (dC, dI) cls_ [(mm, .inr (4, [.int (iI (fc_thr false false false true)), .int (iI (mO)), .ref mg, .ref md, .int (iI (mH)), .ref ml, .ref mu, .ref mp, .int (bI (ud)), .int (iI (cs)), .int (iI (mS)), .ref xu, .ref xf, .ref xt, .int (iI (mW)), .int (iI (mF)), .int (bI (rn)), .int (bI (sp)), .int (iI (nd)), .int (iI (rd)), .int (iI (li)), .ref pz, .int (iI (lt))])), (ml, fw_a kI 6 (gL)), (mu, fw_a kI 6 (gU)), (mp, fw_a kI 144 (gP)), (xu, fw_a kI 10 (xU)), (xf, fw_a kI 10 (xF)), (xt, fw_a kI 10 (xT))] H := hP
                  have hD : va_D A [(mm, .inr (4, [.int (iI (fc_thr false false false true)), .int (iI (mO)), .ref mg, .ref md, .int (iI (mH)), .ref ml, .ref mu, .ref mp, .int (bI (ud)), .int (iI (cs)), .int (iI (mS)), .ref xu, .ref xf, .ref xt, .int (iI (mW)), .int (iI (mF)), .int (bI (rn)), .int (bI (sp)), .int (iI (nd)), .int (iI (rd)), .int (iI (li)), .ref pz, .int (iI (lt))])), (ml, fw_a kI 6 (gL)), (mu, fw_a kI 6 (gU)), (mp, fw_a kI 144 (gP)), (xu, fw_a kI 10 (xU)), (xf, fw_a kI 10 (xF)), (xt, fw_a kI 10 (xT))] := hD
                  refine fw_cast (show (.int (bI (decide (0 < fc_thr false false false true))) : Value) = .int (bI (true)) from congrArg (fun b => Value.int (bI b)) (by decide)) ?_
                  refine fw_bif_eq (tgt := 96) hx hb d_M_place_92 (by decide) (fun c_17 => ?_) (fun c_17 => ?_)
                  · exact absurd c_17 (by decide)
                  · have e9 : km_place mH mW mF h u mi gP gU gL xU xF xT mS.toNat = (fc_thr false false false true) := by simp [km_place, fc_thr, c_1, c_9, c_10, c_12, c_15] <;> omega
                    have e8 : ¬ km_place mH mW mF h u mi gP gU gL xU xF xT mS.toNat = 0 := by rw [e9]; decide
                    refine fw_vret hx hb hr hlocks hS ?_ d_M_place_95
                    · exact Or.inl ⟨e8, by rw [e9]; exact hP⟩
          · refine lv_iconst (v := (bI (true))) hx hb d_M_place_57 (by decide) ?_
            refine lv_goto (tgt := 62) hx hb d_M_place_58 (by decide) ?_
            refine lv_iload hx hb d_M_place_62 (lv_at hl 0 rfl) ?_
            refine lv_iload hx hb d_M_place_64 (lv_at hl 1 rfl) ?_
            refine fw_bif_ne (tgt := 88) hx hb d_M_place_66 (by decide) (fun c_18 => ?_) (fun c_18 => ?_)
            · exact absurd c_18 (by decide)
            · refine lv_iload hx hb d_M_place_69 (lv_at hl 0 rfl) ?_
              refine fw_bif_ne (tgt := 88) hx hb d_M_place_71 (by decide) (fun c_19 => ?_) (fun c_19 => ?_)
              · exact absurd c_19 (by decide)
              · refine lv_aload_n hx hb d_M_place_74 rfl (lv_at hl 2 rfl) ?_
                refine lv_iload_n hx hb d_M_place_75 rfl (lv_at hl 3 rfl) ?_
                refine lv_iload_n hx hb d_M_place_76 rfl (lv_at hl 4 rfl) ?_
                refine lv_iload_n hx hb d_M_place_77 rfl (lv_at hl 5 rfl) ?_
                refine fw_callR (va_runV (As := [.int (iI (h)), .int (iI (u)), .int (iI (mi))]) (rest := [.int (bI (false)), .int (bI (true)), .int (bI (false)), .ref mm]) ⟨hx, hb, hml, hown, hts⟩ (c_M_fits l dC dI  mm th mO mg md mH ml mu mp ud cs mS xu xf xt mW mF rn sp nd rd li pz lt gL gU gP xU xF xT kI h u mi (by assumption) (by assumption) (by assumption) (by first | assumption | omega) (by first | assumption | omega) (by first | assumption | omega) (by first | assumption | omega) (by assumption) (by first | assumption | omega) (by first | assumption | omega) (by first | assumption | omega) (by first | assumption | omega) (by first | assumption | omega) (by first | assumption | omega)) (cwV 3 hts (gw_V kw_660 kw_662 ks_M_fits kw_5 kw_663) rfl rfl rfl (by decide +kernel) ⟨Nat.le_of_ble_eq_true rfl, Nat.le_of_ble_eq_true rfl⟩) (fw_preRV (ci := 4) (q0 := 0) hP hK hN [0, 1, 2, 3, 4, 5, 6] [0] rfl rfl rfl rfl) rfl rfl hl.1 rfl (lv_room (Nat.le_of_ble_eq_true rfl)) d_M_place_78 ⟨Nat.le_of_ble_eq_true rfl, Nat.le_of_ble_eq_true rfl⟩).run ?_
                refine fw_bif_ne (tgt := 88) hx hb d_M_place_81 (by decide) (fun c_20 => ?_) (fun c_20 => ?_)
                · refine lv_iconst (v := (bI (false))) hx hb d_M_place_88 (by decide) ?_
                  refine fw_calliP [0] (va_runV (As := [.int (bI (false)), .int (bI (true)), .int (bI (false)), .int (bI (false))]) (rest := []) ⟨hx, hb, hml, hown, hts⟩ (c_M_throwing l dC dI  _ mm th mO mg md mH ml mu mp ud cs mS xu xf xt mW mF rn sp nd rd li pz lt false true false false ) (cwV 4 hts (gw_V kw_652 kw_654 ks_M_throwing kw_5 kw_655) rfl rfl rfl (by decide +kernel) ⟨Nat.le_of_ble_eq_true rfl, Nat.le_of_ble_eq_true rfl⟩) (fw_preV (ci := 4) (q0 := 0) hP hK hD hN [0] [] rfl rfl rfl rfl rfl) rfl rfl hl.1 rfl (lv_room (Nat.le_of_ble_eq_true rfl)) d_M_place_89 ⟨Nat.le_of_ble_eq_true rfl, Nat.le_of_ble_eq_true rfl⟩) hP hD hS hA rfl rfl rfl (fun H locs hP hD hS => ?_)
                  have hP : va_P (dC, dI) cls_ [(mm, .inr (4, [.int (iI (fc_thr false true false false)), .int (iI (mO)), .ref mg, .ref md, .int (iI (mH)), .ref ml, .ref mu, .ref mp, .int (bI (ud)), .int (iI (cs)), .int (iI (mS)), .ref xu, .ref xf, .ref xt, .int (iI (mW)), .int (iI (mF)), .int (bI (rn)), .int (bI (sp)), .int (iI (nd)), .int (iI (rd)), .int (iI (li)), .ref pz, .int (iI (lt))])), (ml, fw_a kI 6 (gL)), (mu, fw_a kI 6 (gU)), (mp, fw_a kI 144 (gP)), (xu, fw_a kI 10 (xU)), (xf, fw_a kI 10 (xF)), (xt, fw_a kI 10 (xT))] H := hP
                  have hD : va_D A [(mm, .inr (4, [.int (iI (fc_thr false true false false)), .int (iI (mO)), .ref mg, .ref md, .int (iI (mH)), .ref ml, .ref mu, .ref mp, .int (bI (ud)), .int (iI (cs)), .int (iI (mS)), .ref xu, .ref xf, .ref xt, .int (iI (mW)), .int (iI (mF)), .int (bI (rn)), .int (bI (sp)), .int (iI (nd)), .int (iI (rd)), .int (iI (li)), .ref pz, .int (iI (lt))])), (ml, fw_a kI 6 (gL)), (mu, fw_a kI 6 (gU)), (mp, fw_a kI 144 (gP)), (xu, fw_a kI 10 (xU)), (xf, fw_a kI 10 (xF)), (xt, fw_a kI 10 (xT))] := hD
                  refine fw_cast (show (.int (bI (decide (0 < fc_thr false true false false))) : Value) = .int (bI (true)) from congrArg (fun b => Value.int (bI b)) (by decide)) ?_
                  refine fw_bif_eq (tgt := 96) hx hb d_M_place_92 (by decide) (fun c_21 => ?_) (fun c_21 => ?_)
                  · exact absurd c_21 (by decide)
                  · have e9 : km_place mH mW mF h u mi gP gU gL xU xF xT mS.toNat = (fc_thr false true false false) := by simp [km_place, fc_thr, c_1, c_9, c_10, c_12, c_20] <;> omega
                    have e8 : ¬ km_place mH mW mF h u mi gP gU gL xU xF xT mS.toNat = 0 := by rw [e9]; decide
                    refine fw_vret hx hb hr hlocks hS ?_ d_M_place_95
                    · exact Or.inl ⟨e8, by rw [e9]; exact hP⟩
                · refine lv_iconst (v := (bI (true))) hx hb d_M_place_84 (by decide) ?_
                  refine lv_goto (tgt := 89) hx hb d_M_place_85 (by decide) ?_
                  refine fw_calliP [0] (va_runV (As := [.int (bI (false)), .int (bI (true)), .int (bI (false)), .int (bI (true))]) (rest := []) ⟨hx, hb, hml, hown, hts⟩ (c_M_throwing l dC dI  _ mm th mO mg md mH ml mu mp ud cs mS xu xf xt mW mF rn sp nd rd li pz lt false true false true ) (cwV 4 hts (gw_V kw_652 kw_654 ks_M_throwing kw_5 kw_655) rfl rfl rfl (by decide +kernel) ⟨Nat.le_of_ble_eq_true rfl, Nat.le_of_ble_eq_true rfl⟩) (fw_preV (ci := 4) (q0 := 0) hP hK hD hN [0] [] rfl rfl rfl rfl rfl) rfl rfl hl.1 rfl (lv_room (Nat.le_of_ble_eq_true rfl)) d_M_place_89 ⟨Nat.le_of_ble_eq_true rfl, Nat.le_of_ble_eq_true rfl⟩) hP hD hS hA rfl rfl rfl (fun H locs hP hD hS => ?_)
                  have hP : va_P (dC, dI) cls_ [(mm, .inr (4, [.int (iI (fc_thr false true false true)), .int (iI (mO)), .ref mg, .ref md, .int (iI (mH)), .ref ml, .ref mu, .ref mp, .int (bI (ud)), .int (iI (cs)), .int (iI (mS)), .ref xu, .ref xf, .ref xt, .int (iI (mW)), .int (iI (mF)), .int (bI (rn)), .int (bI (sp)), .int (iI (nd)), .int (iI (rd)), .int (iI (li)), .ref pz, .int (iI (lt))])), (ml, fw_a kI 6 (gL)), (mu, fw_a kI 6 (gU)), (mp, fw_a kI 144 (gP)), (xu, fw_a kI 10 (xU)), (xf, fw_a kI 10 (xF)), (xt, fw_a kI 10 (xT))] H := hP
                  have hD : va_D A [(mm, .inr (4, [.int (iI (fc_thr false true false true)), .int (iI (mO)), .ref mg, .ref md, .int (iI (mH)), .ref ml, .ref mu, .ref mp, .int (bI (ud)), .int (iI (cs)), .int (iI (mS)), .ref xu, .ref xf, .ref xt, .int (iI (mW)), .int (iI (mF)), .int (bI (rn)), .int (bI (sp)), .int (iI (nd)), .int (iI (rd)), .int (iI (li)), .ref pz, .int (iI (lt))])), (ml, fw_a kI 6 (gL)), (mu, fw_a kI 6 (gU)), (mp, fw_a kI 144 (gP)), (xu, fw_a kI 10 (xU)), (xf, fw_a kI 10 (xF)), (xt, fw_a kI 10 (xT))] := hD
                  refine fw_cast (show (.int (bI (decide (0 < fc_thr false true false true))) : Value) = .int (bI (true)) from congrArg (fun b => Value.int (bI b)) (by decide)) ?_
                  refine fw_bif_eq (tgt := 96) hx hb d_M_place_92 (by decide) (fun c_22 => ?_) (fun c_22 => ?_)
                  · exact absurd c_22 (by decide)
                  · have e9 : km_place mH mW mF h u mi gP gU gL xU xF xT mS.toNat = (fc_thr false true false true) := by simp [km_place, fc_thr, c_1, c_9, c_10, c_12, c_20] <;> omega
                    have e8 : ¬ km_place mH mW mF h u mi gP gU gL xU xF xT mS.toNat = 0 := by rw [e9]; decide
                    refine fw_vret hx hb hr hlocks hS ?_ d_M_place_95
                    · exact Or.inl ⟨e8, by rw [e9]; exact hP⟩
      · refine lv_iconst (v := (bI (true))) hx hb d_M_place_34 (by decide) ?_
        refine lv_goto (tgt := 39) hx hb d_M_place_35 (by decide) ?_
        refine lv_istore (lv' := [(5, .int (bI (true))), (4, .int (bI (false))), (0, .ref mm), (1, .int (iI (h))), (2, .int (iI (u))), (3, .int (iI (mi)))]) hx hb d_M_place_39 hl (by decide) rfl (fun ls hl => ?_)
        refine lv_aload_n hx hb d_M_place_41 rfl (lv_at hl 2 rfl) ?_
        refine lv_iload hx hb d_M_place_42 (lv_at hl 1 rfl) ?_
        refine lv_iload hx hb d_M_place_44 (lv_at hl 1 rfl) ?_
        refine fw_bif_ne (tgt := 61) hx hb d_M_place_46 (by decide) (fun c_23 => ?_) (fun c_23 => ?_)
        · exact absurd c_23 (by decide)
        · refine lv_aload_n hx hb d_M_place_49 rfl (lv_at hl 2 rfl) ?_
          refine lv_iload_n hx hb d_M_place_50 rfl (lv_at hl 3 rfl) ?_
          refine fw_callR (va_runV (As := [.int (iI (h))]) (rest := [.int (bI (false)), .ref mm]) ⟨hx, hb, hml, hown, hts⟩ (c_M_isFrozen l dC dI  mm th mO mg md mH ml mu mp ud cs mS xu xf xt mW mF rn sp nd rd li pz lt gP kI h (by assumption) (by first | assumption | omega) (by first | assumption | omega) (by first | assumption | omega) (by first | assumption | omega) (by first | assumption | omega) (by first | assumption | omega)) (cwV 1 hts (gw_V kw_692 kw_694 ks_M_isFrozen kw_5 kw_695) rfl rfl rfl (by decide +kernel) ⟨Nat.le_of_ble_eq_true rfl, Nat.le_of_ble_eq_true rfl⟩) (fw_preRV (ci := 4) (q0 := 0) hP hK hN [0, 3] [0] rfl rfl rfl rfl) rfl rfl hl.1 rfl (lv_room (Nat.le_of_ble_eq_true rfl)) d_M_place_51 ⟨Nat.le_of_ble_eq_true rfl, Nat.le_of_ble_eq_true rfl⟩).run ?_
          refine fw_bif_eq (tgt := 61) hx hb d_M_place_54 (by decide) (fun c_24 => ?_) (fun c_24 => ?_)
          · refine lv_iconst (v := (bI (false))) hx hb d_M_place_61 (by decide) ?_
            refine lv_iload hx hb d_M_place_62 (lv_at hl 0 rfl) ?_
            refine lv_iload hx hb d_M_place_64 (lv_at hl 1 rfl) ?_
            refine fw_bif_ne (tgt := 88) hx hb d_M_place_66 (by decide) (fun c_25 => ?_) (fun c_25 => ?_)
            · exact absurd c_25 (by decide)
            · refine lv_iload hx hb d_M_place_69 (lv_at hl 0 rfl) ?_
              refine fw_bif_ne (tgt := 88) hx hb d_M_place_71 (by decide) (fun c_26 => ?_) (fun c_26 => ?_)
              · refine lv_iconst (v := (bI (false))) hx hb d_M_place_88 (by decide) ?_
                refine fw_calliP [0] (va_runV (As := [.int (bI (false)), .int (bI (false)), .int (bI (true)), .int (bI (false))]) (rest := []) ⟨hx, hb, hml, hown, hts⟩ (c_M_throwing l dC dI  _ mm th mO mg md mH ml mu mp ud cs mS xu xf xt mW mF rn sp nd rd li pz lt false false true false ) (cwV 4 hts (gw_V kw_652 kw_654 ks_M_throwing kw_5 kw_655) rfl rfl rfl (by decide +kernel) ⟨Nat.le_of_ble_eq_true rfl, Nat.le_of_ble_eq_true rfl⟩) (fw_preV (ci := 4) (q0 := 0) hP hK hD hN [0] [] rfl rfl rfl rfl rfl) rfl rfl hl.1 rfl (lv_room (Nat.le_of_ble_eq_true rfl)) d_M_place_89 ⟨Nat.le_of_ble_eq_true rfl, Nat.le_of_ble_eq_true rfl⟩) hP hD hS hA rfl rfl rfl (fun H locs hP hD hS => ?_)
                have hP : va_P (dC, dI) cls_ [(mm, .inr (4, [.int (iI (fc_thr false false true false)), .int (iI (mO)), .ref mg, .ref md, .int (iI (mH)), .ref ml, .ref mu, .ref mp, .int (bI (ud)), .int (iI (cs)), .int (iI (mS)), .ref xu, .ref xf, .ref xt, .int (iI (mW)), .int (iI (mF)), .int (bI (rn)), .int (bI (sp)), .int (iI (nd)), .int (iI (rd)), .int (iI (li)), .ref pz, .int (iI (lt))])), (ml, fw_a kI 6 (gL)), (mu, fw_a kI 6 (gU)), (mp, fw_a kI 144 (gP)), (xu, fw_a kI 10 (xU)), (xf, fw_a kI 10 (xF)), (xt, fw_a kI 10 (xT))] H := hP
                have hD : va_D A [(mm, .inr (4, [.int (iI (fc_thr false false true false)), .int (iI (mO)), .ref mg, .ref md, .int (iI (mH)), .ref ml, .ref mu, .ref mp, .int (bI (ud)), .int (iI (cs)), .int (iI (mS)), .ref xu, .ref xf, .ref xt, .int (iI (mW)), .int (iI (mF)), .int (bI (rn)), .int (bI (sp)), .int (iI (nd)), .int (iI (rd)), .int (iI (li)), .ref pz, .int (iI (lt))])), (ml, fw_a kI 6 (gL)), (mu, fw_a kI 6 (gU)), (mp, fw_a kI 144 (gP)), (xu, fw_a kI 10 (xU)), (xf, fw_a kI 10 (xF)), (xt, fw_a kI 10 (xT))] := hD
                refine fw_cast (show (.int (bI (decide (0 < fc_thr false false true false))) : Value) = .int (bI (true)) from congrArg (fun b => Value.int (bI b)) (by decide)) ?_
                refine fw_bif_eq (tgt := 96) hx hb d_M_place_92 (by decide) (fun c_27 => ?_) (fun c_27 => ?_)
                · exact absurd c_27 (by decide)
                · have e9 : km_place mH mW mF h u mi gP gU gL xU xF xT mS.toNat = (fc_thr false false true false) := by simp [km_place, fc_thr, c_1, c_9, c_10, c_24] <;> omega
                  have e8 : ¬ km_place mH mW mF h u mi gP gU gL xU xF xT mS.toNat = 0 := by rw [e9]; decide
                  refine fw_vret hx hb hr hlocks hS ?_ d_M_place_95
                  · exact Or.inl ⟨e8, by rw [e9]; exact hP⟩
              · exact absurd c_26 (by decide)
          · refine lv_iconst (v := (bI (true))) hx hb d_M_place_57 (by decide) ?_
            refine lv_goto (tgt := 62) hx hb d_M_place_58 (by decide) ?_
            refine lv_iload hx hb d_M_place_62 (lv_at hl 0 rfl) ?_
            refine lv_iload hx hb d_M_place_64 (lv_at hl 1 rfl) ?_
            refine fw_bif_ne (tgt := 88) hx hb d_M_place_66 (by decide) (fun c_28 => ?_) (fun c_28 => ?_)
            · exact absurd c_28 (by decide)
            · refine lv_iload hx hb d_M_place_69 (lv_at hl 0 rfl) ?_
              refine fw_bif_ne (tgt := 88) hx hb d_M_place_71 (by decide) (fun c_29 => ?_) (fun c_29 => ?_)
              · refine lv_iconst (v := (bI (false))) hx hb d_M_place_88 (by decide) ?_
                refine fw_calliP [0] (va_runV (As := [.int (bI (false)), .int (bI (true)), .int (bI (true)), .int (bI (false))]) (rest := []) ⟨hx, hb, hml, hown, hts⟩ (c_M_throwing l dC dI  _ mm th mO mg md mH ml mu mp ud cs mS xu xf xt mW mF rn sp nd rd li pz lt false true true false ) (cwV 4 hts (gw_V kw_652 kw_654 ks_M_throwing kw_5 kw_655) rfl rfl rfl (by decide +kernel) ⟨Nat.le_of_ble_eq_true rfl, Nat.le_of_ble_eq_true rfl⟩) (fw_preV (ci := 4) (q0 := 0) hP hK hD hN [0] [] rfl rfl rfl rfl rfl) rfl rfl hl.1 rfl (lv_room (Nat.le_of_ble_eq_true rfl)) d_M_place_89 ⟨Nat.le_of_ble_eq_true rfl, Nat.le_of_ble_eq_true rfl⟩) hP hD hS hA rfl rfl rfl (fun H locs hP hD hS => ?_)
                have hP : va_P (dC, dI) cls_ [(mm, .inr (4, [.int (iI (fc_thr false true true false)), .int (iI (mO)), .ref mg, .ref md, .int (iI (mH)), .ref ml, .ref mu, .ref mp, .int (bI (ud)), .int (iI (cs)), .int (iI (mS)), .ref xu, .ref xf, .ref xt, .int (iI (mW)), .int (iI (mF)), .int (bI (rn)), .int (bI (sp)), .int (iI (nd)), .int (iI (rd)), .int (iI (li)), .ref pz, .int (iI (lt))])), (ml, fw_a kI 6 (gL)), (mu, fw_a kI 6 (gU)), (mp, fw_a kI 144 (gP)), (xu, fw_a kI 10 (xU)), (xf, fw_a kI 10 (xF)), (xt, fw_a kI 10 (xT))] H := hP
                have hD : va_D A [(mm, .inr (4, [.int (iI (fc_thr false true true false)), .int (iI (mO)), .ref mg, .ref md, .int (iI (mH)), .ref ml, .ref mu, .ref mp, .int (bI (ud)), .int (iI (cs)), .int (iI (mS)), .ref xu, .ref xf, .ref xt, .int (iI (mW)), .int (iI (mF)), .int (bI (rn)), .int (bI (sp)), .int (iI (nd)), .int (iI (rd)), .int (iI (li)), .ref pz, .int (iI (lt))])), (ml, fw_a kI 6 (gL)), (mu, fw_a kI 6 (gU)), (mp, fw_a kI 144 (gP)), (xu, fw_a kI 10 (xU)), (xf, fw_a kI 10 (xF)), (xt, fw_a kI 10 (xT))] := hD
                refine fw_cast (show (.int (bI (decide (0 < fc_thr false true true false))) : Value) = .int (bI (true)) from congrArg (fun b => Value.int (bI b)) (by decide)) ?_
                refine fw_bif_eq (tgt := 96) hx hb d_M_place_92 (by decide) (fun c_30 => ?_) (fun c_30 => ?_)
                · exact absurd c_30 (by decide)
                · have e9 : km_place mH mW mF h u mi gP gU gL xU xF xT mS.toNat = (fc_thr false true true false) := by simp [km_place, fc_thr, c_1, c_9, c_10, c_24] <;> omega
                  have e8 : ¬ km_place mH mW mF h u mi gP gU gL xU xF xT mS.toNat = 0 := by rw [e9]; decide
                  refine fw_vret hx hb hr hlocks hS ?_ d_M_place_95
                  · exact Or.inl ⟨e8, by rw [e9]; exact hP⟩
              · exact absurd c_29 (by decide)
    · refine lv_iconst (v := (bI (true))) hx hb d_M_place_17 (by decide) ?_
      refine lv_goto (tgt := 22) hx hb d_M_place_18 (by decide) ?_
      refine lv_istore (lv' := [(4, .int (bI (true))), (0, .ref mm), (1, .int (iI (h))), (2, .int (iI (u))), (3, .int (iI (mi)))]) hx hb d_M_place_22 hl (by decide) rfl (fun ls hl => ?_)
      refine lv_iload_n hx hb d_M_place_24 rfl (lv_at hl 4 rfl) ?_
      refine lv_iconst (v := (iI (0))) hx hb d_M_place_25 (by decide) ?_
      refine lv_bipush (v := (iI (59))) hx hb d_M_place_26 (by decide) ?_
      refine fw_callR (va_runS (As := [.int (iI (mi)), .int (iI (0)), .int (iI (59))]) (rest := []) ⟨hx, hb, hml, hown, hts⟩ (c_M_in l dC dI  mi 0 59 ⟨by omega, by omega⟩ ⟨by omega, by omega⟩ ⟨by omega, by omega⟩) (cwS 3 hts (gw_S kw_649 kw_650 kw_5 kw_651) rfl rfl rfl (by decide +kernel) ⟨Nat.le_of_ble_eq_true rfl, Nat.le_of_ble_eq_true rfl⟩) (fw_preRS hP hK hN [] [] rfl rfl) rfl rfl hl.1 rfl (lv_room (Nat.le_of_ble_eq_true rfl)) d_M_place_28 ⟨Nat.le_of_ble_eq_true rfl, Nat.le_of_ble_eq_true rfl⟩).run ?_
      refine fw_bif_ne (tgt := 38) hx hb d_M_place_31 (by decide) (fun c_31 => ?_) (fun c_31 => ?_)
      · have g5 := fc_in_t c_31
        refine lv_iconst (v := (bI (false))) hx hb d_M_place_38 (by decide) ?_
        refine lv_istore (lv' := [(5, .int (bI (false))), (4, .int (bI (true))), (0, .ref mm), (1, .int (iI (h))), (2, .int (iI (u))), (3, .int (iI (mi)))]) hx hb d_M_place_39 hl (by decide) rfl (fun ls hl => ?_)
        refine lv_aload_n hx hb d_M_place_41 rfl (lv_at hl 2 rfl) ?_
        refine lv_iload hx hb d_M_place_42 (lv_at hl 1 rfl) ?_
        refine lv_iload hx hb d_M_place_44 (lv_at hl 1 rfl) ?_
        refine fw_bif_ne (tgt := 61) hx hb d_M_place_46 (by decide) (fun c_32 => ?_) (fun c_32 => ?_)
        · refine lv_iconst (v := (bI (false))) hx hb d_M_place_61 (by decide) ?_
          refine lv_iload hx hb d_M_place_62 (lv_at hl 0 rfl) ?_
          refine lv_iload hx hb d_M_place_64 (lv_at hl 1 rfl) ?_
          refine fw_bif_ne (tgt := 88) hx hb d_M_place_66 (by decide) (fun c_33 => ?_) (fun c_33 => ?_)
          · refine lv_iconst (v := (bI (false))) hx hb d_M_place_88 (by decide) ?_
            refine fw_calliP [0] (va_runV (As := [.int (bI (true)), .int (bI (false)), .int (bI (false)), .int (bI (false))]) (rest := []) ⟨hx, hb, hml, hown, hts⟩ (c_M_throwing l dC dI  _ mm th mO mg md mH ml mu mp ud cs mS xu xf xt mW mF rn sp nd rd li pz lt true false false false ) (cwV 4 hts (gw_V kw_652 kw_654 ks_M_throwing kw_5 kw_655) rfl rfl rfl (by decide +kernel) ⟨Nat.le_of_ble_eq_true rfl, Nat.le_of_ble_eq_true rfl⟩) (fw_preV (ci := 4) (q0 := 0) hP hK hD hN [0] [] rfl rfl rfl rfl rfl) rfl rfl hl.1 rfl (lv_room (Nat.le_of_ble_eq_true rfl)) d_M_place_89 ⟨Nat.le_of_ble_eq_true rfl, Nat.le_of_ble_eq_true rfl⟩) hP hD hS hA rfl rfl rfl (fun H locs hP hD hS => ?_)
            have hP : va_P (dC, dI) cls_ [(mm, .inr (4, [.int (iI (fc_thr true false false false)), .int (iI (mO)), .ref mg, .ref md, .int (iI (mH)), .ref ml, .ref mu, .ref mp, .int (bI (ud)), .int (iI (cs)), .int (iI (mS)), .ref xu, .ref xf, .ref xt, .int (iI (mW)), .int (iI (mF)), .int (bI (rn)), .int (bI (sp)), .int (iI (nd)), .int (iI (rd)), .int (iI (li)), .ref pz, .int (iI (lt))])), (ml, fw_a kI 6 (gL)), (mu, fw_a kI 6 (gU)), (mp, fw_a kI 144 (gP)), (xu, fw_a kI 10 (xU)), (xf, fw_a kI 10 (xF)), (xt, fw_a kI 10 (xT))] H := hP
            have hD : va_D A [(mm, .inr (4, [.int (iI (fc_thr true false false false)), .int (iI (mO)), .ref mg, .ref md, .int (iI (mH)), .ref ml, .ref mu, .ref mp, .int (bI (ud)), .int (iI (cs)), .int (iI (mS)), .ref xu, .ref xf, .ref xt, .int (iI (mW)), .int (iI (mF)), .int (bI (rn)), .int (bI (sp)), .int (iI (nd)), .int (iI (rd)), .int (iI (li)), .ref pz, .int (iI (lt))])), (ml, fw_a kI 6 (gL)), (mu, fw_a kI 6 (gU)), (mp, fw_a kI 144 (gP)), (xu, fw_a kI 10 (xU)), (xf, fw_a kI 10 (xF)), (xt, fw_a kI 10 (xT))] := hD
            refine fw_cast (show (.int (bI (decide (0 < fc_thr true false false false))) : Value) = .int (bI (true)) from congrArg (fun b => Value.int (bI b)) (by decide)) ?_
            refine fw_bif_eq (tgt := 96) hx hb d_M_place_92 (by decide) (fun c_34 => ?_) (fun c_34 => ?_)
            · exact absurd c_34 (by decide)
            · have e9 : km_place mH mW mF h u mi gP gU gL xU xF xT mS.toNat = (fc_thr true false false false) := by simp [km_place, fc_thr, c_1, c_9, c_31] <;> omega
              have e8 : ¬ km_place mH mW mF h u mi gP gU gL xU xF xT mS.toNat = 0 := by rw [e9]; decide
              refine fw_vret hx hb hr hlocks hS ?_ d_M_place_95
              · exact Or.inl ⟨e8, by rw [e9]; exact hP⟩
          · exact absurd c_33 (by decide)
        · exact absurd c_32 (by decide)
      · refine lv_iconst (v := (bI (true))) hx hb d_M_place_34 (by decide) ?_
        refine lv_goto (tgt := 39) hx hb d_M_place_35 (by decide) ?_
        refine lv_istore (lv' := [(5, .int (bI (true))), (4, .int (bI (true))), (0, .ref mm), (1, .int (iI (h))), (2, .int (iI (u))), (3, .int (iI (mi)))]) hx hb d_M_place_39 hl (by decide) rfl (fun ls hl => ?_)
        refine lv_aload_n hx hb d_M_place_41 rfl (lv_at hl 2 rfl) ?_
        refine lv_iload hx hb d_M_place_42 (lv_at hl 1 rfl) ?_
        refine lv_iload hx hb d_M_place_44 (lv_at hl 1 rfl) ?_
        refine fw_bif_ne (tgt := 61) hx hb d_M_place_46 (by decide) (fun c_35 => ?_) (fun c_35 => ?_)
        · refine lv_iconst (v := (bI (false))) hx hb d_M_place_61 (by decide) ?_
          refine lv_iload hx hb d_M_place_62 (lv_at hl 0 rfl) ?_
          refine lv_iload hx hb d_M_place_64 (lv_at hl 1 rfl) ?_
          refine fw_bif_ne (tgt := 88) hx hb d_M_place_66 (by decide) (fun c_36 => ?_) (fun c_36 => ?_)
          · refine lv_iconst (v := (bI (false))) hx hb d_M_place_88 (by decide) ?_
            refine fw_calliP [0] (va_runV (As := [.int (bI (true)), .int (bI (false)), .int (bI (true)), .int (bI (false))]) (rest := []) ⟨hx, hb, hml, hown, hts⟩ (c_M_throwing l dC dI  _ mm th mO mg md mH ml mu mp ud cs mS xu xf xt mW mF rn sp nd rd li pz lt true false true false ) (cwV 4 hts (gw_V kw_652 kw_654 ks_M_throwing kw_5 kw_655) rfl rfl rfl (by decide +kernel) ⟨Nat.le_of_ble_eq_true rfl, Nat.le_of_ble_eq_true rfl⟩) (fw_preV (ci := 4) (q0 := 0) hP hK hD hN [0] [] rfl rfl rfl rfl rfl) rfl rfl hl.1 rfl (lv_room (Nat.le_of_ble_eq_true rfl)) d_M_place_89 ⟨Nat.le_of_ble_eq_true rfl, Nat.le_of_ble_eq_true rfl⟩) hP hD hS hA rfl rfl rfl (fun H locs hP hD hS => ?_)
            have hP : va_P (dC, dI) cls_ [(mm, .inr (4, [.int (iI (fc_thr true false true false)), .int (iI (mO)), .ref mg, .ref md, .int (iI (mH)), .ref ml, .ref mu, .ref mp, .int (bI (ud)), .int (iI (cs)), .int (iI (mS)), .ref xu, .ref xf, .ref xt, .int (iI (mW)), .int (iI (mF)), .int (bI (rn)), .int (bI (sp)), .int (iI (nd)), .int (iI (rd)), .int (iI (li)), .ref pz, .int (iI (lt))])), (ml, fw_a kI 6 (gL)), (mu, fw_a kI 6 (gU)), (mp, fw_a kI 144 (gP)), (xu, fw_a kI 10 (xU)), (xf, fw_a kI 10 (xF)), (xt, fw_a kI 10 (xT))] H := hP
            have hD : va_D A [(mm, .inr (4, [.int (iI (fc_thr true false true false)), .int (iI (mO)), .ref mg, .ref md, .int (iI (mH)), .ref ml, .ref mu, .ref mp, .int (bI (ud)), .int (iI (cs)), .int (iI (mS)), .ref xu, .ref xf, .ref xt, .int (iI (mW)), .int (iI (mF)), .int (bI (rn)), .int (bI (sp)), .int (iI (nd)), .int (iI (rd)), .int (iI (li)), .ref pz, .int (iI (lt))])), (ml, fw_a kI 6 (gL)), (mu, fw_a kI 6 (gU)), (mp, fw_a kI 144 (gP)), (xu, fw_a kI 10 (xU)), (xf, fw_a kI 10 (xF)), (xt, fw_a kI 10 (xT))] := hD
            refine fw_cast (show (.int (bI (decide (0 < fc_thr true false true false))) : Value) = .int (bI (true)) from congrArg (fun b => Value.int (bI b)) (by decide)) ?_
            refine fw_bif_eq (tgt := 96) hx hb d_M_place_92 (by decide) (fun c_37 => ?_) (fun c_37 => ?_)
            · exact absurd c_37 (by decide)
            · have e9 : km_place mH mW mF h u mi gP gU gL xU xF xT mS.toNat = (fc_thr true false true false) := by simp [km_place, fc_thr, c_1, c_9, c_31] <;> omega
              have e8 : ¬ km_place mH mW mF h u mi gP gU gL xU xF xT mS.toNat = 0 := by rw [e9]; decide
              refine fw_vret hx hb hr hlocks hS ?_ d_M_place_95
              · exact Or.inl ⟨e8, by rw [e9]; exact hP⟩
          · exact absurd c_36 (by decide)
        · exact absurd c_35 (by decide)
