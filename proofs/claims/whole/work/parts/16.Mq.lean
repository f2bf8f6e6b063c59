def fm_at (w h : Int) (gP gU gL xU xF xT : Nat → Int) (nH nS : Nat) (t : Int) : Int := if w < 3 then gP (3 * h.toNat + w.toNat) else if w = 3 then (if fm_fits gP gU gL xU xF xT nH nS h (gP (3 * h.toNat)) (gP (3 * h.toNat + 1)) = true then 1 else 0) else (if decide (gP (3 * h.toNat + 1) < t) = true then 1 else 0)
set_option maxHeartbeats 4000000 in
set_option maxRecDepth 100000 in
theorem c_M_at (l : Launch) (dC : Nat → ClassId) (dI : Nat → Nat → Nat) (sz : Nat) (mm : Nat) (th : Int) (mO : Int) (mg : Nat) (md : Nat) (mH : Int) (ml : Nat) (mu : Nat) (mp : Nat) (ud : Bool) (cs : Int) (mS : Int) (xu : Nat) (xf : Nat) (xt : Nat) (mW : Int) (mF : Int) (rn : Bool) (sp : Bool) (nd : Int) (rd : Int) (li : Int) (pz : Nat) (lt : Int) (gL : Nat → Int) (gU : Nat → Int) (gP : Nat → Int) (xU : Nat → Int) (xF : Nat → Int) (xT : Nat → Int) (kI : ClassId) (h : Int) (w : Int) (m1 : 0 ≤ mH) (m2 : mH ≤ 6) (m6 : 0 ≤ mO) (m7 : mO ≤ 8) (w1 : 0 ≤ mW) (w2 : mW ≤ 60) (w3 : 0 ≤ mF) (w4 : mF ≤ 60) (m3 : 0 ≤ mS) (m4 : mS ≤ 10) (m5 : ∀ j : Nat, (j : Int) < mS → fw_b (xU j) ∧ fw_b (xF j) ∧ fw_b (xT j)) (hgP : ∀ j, -1 ≤ gP j ∧ gP j ≤ 60) (hgL : ∀ j, 0 ≤ gL j ∧ gL j ≤ 20) (hgU : ∀ j, 0 ≤ gU j ∧ gU j ≤ 7) (hgN : ∀ j : Nat, (j : Int) < mH → 0 ≤ gP (3 * j) ∧ gP (3 * j) < 3) (hb_h : fw_b h) (hb_w : fw_b w) : Met l y_M_at (Cond.code y_M_at b_M_at 3 (some .int) :: gw) ({ frames := 2, locals := 51, cells := 0, slots := 0 }) (fw_Pc (dC, dI) [.ref mm, .int (iI (h)), .int (iI (w))] [(mm, .inr (4, [.int (iI (th)), .int (iI (mO)), .ref mg, .ref md, .int (iI (mH)), .ref ml, .ref mu, .ref mp, .int (bI (ud)), .int (iI (cs)), .int (iI (mS)), .ref xu, .ref xf, .ref xt, .int (iI (mW)), .int (iI (mF)), .int (bI (rn)), .int (bI (sp)), .int (iI (nd)), .int (iI (rd)), .int (iI (li)), .ref pz, .int (iI (lt))])), (ml, fw_a kI 6 (gL)), (mu, fw_a kI 6 (gU)), (mp, fw_a kI 144 (gP)), (xu, fw_a kI 10 (xU)), (xf, fw_a kI 10 (xF)), (xt, fw_a kI 10 (xT))] [(kI, .int)] sz) (fw_Qi (iI (if k_at mH h w = 0 then fm_at w h gP gU gL xU xF xT mH.toNat mS.toNat (mW + mF) else 0)) (fun H => (¬ k_at mH h w = 0 ∧ va_P (dC, dI) cls_ [(mm, .inr (4, [.int (iI (k_at mH h w)), .int (iI (mO)), .ref mg, .ref md, .int (iI (mH)), .ref ml, .ref mu, .ref mp, .int (bI (ud)), .int (iI (cs)), .int (iI (mS)), .ref xu, .ref xf, .ref xt, .int (iI (mW)), .int (iI (mF)), .int (bI (rn)), .int (bI (sp)), .int (iI (nd)), .int (iI (rd)), .int (iI (li)), .ref pz, .int (iI (lt))])), (ml, fw_a kI 6 (gL)), (mu, fw_a kI 6 (gU)), (mp, fw_a kI 144 (gP)), (xu, fw_a kI 10 (xU)), (xf, fw_a kI 10 (xF)), (xt, fw_a kI 10 (xT))] H) ∨ (k_at mH h w = 0 ∧ va_P (dC, dI) cls_ [(mm, .inr (4, [.int (iI (0)), .int (iI (mO)), .ref mg, .ref md, .int (iI (mH)), .ref ml, .ref mu, .ref mp, .int (bI (ud)), .int (iI (cs)), .int (iI (mS)), .ref xu, .ref xf, .ref xt, .int (iI (mW)), .int (iI (mF)), .int (bI (rn)), .int (bI (sp)), .int (iI (nd)), .int (iI (rd)), .int (iI (li)), .ref pz, .int (iI (lt))])), (ml, fw_a kI 6 (gL)), (mu, fw_a kI 6 (gU)), (mp, fw_a kI 144 (gP)), (xu, fw_a kI 10 (xU)), (xf, fw_a kI 10 (xF)), (xt, fw_a kI 10 (xT))] H)) (va_A [(mm, .inr (4, [.int (iI (th)), .int (iI (mO)), .ref mg, .ref md, .int (iI (mH)), .ref ml, .ref mu, .ref mp, .int (bI (ud)), .int (iI (cs)), .int (iI (mS)), .ref xu, .ref xf, .ref xt, .int (iI (mW)), .int (iI (mF)), .int (bI (rn)), .int (bI (sp)), .int (iI (nd)), .int (iI (rd)), .int (iI (li)), .ref pz, .int (iI (lt))])), (ml, fw_a kI 6 (gL)), (mu, fw_a kI 6 (gU)), (mp, fw_a kI 144 (gP)), (xu, fw_a kI 10 (xU)), (xf, fw_a kI 10 (xF)), (xt, fw_a kI 10 (xT))] sz)) 0 0 (va_A [(mm, .inr (4, [.int (iI (th)), .int (iI (mO)), .ref mg, .ref md, .int (iI (mH)), .ref ml, .ref mu, .ref mp, .int (bI (ud)), .int (iI (cs)), .int (iI (mS)), .ref xu, .ref xf, .ref xt, .int (iI (mW)), .int (iI (mF)), .int (bI (rn)), .int (bI (sp)), .int (iI (nd)), .int (iI (rd)), .int (iI (li)), .ref pz, .int (iI (lt))])), (ml, fw_a kI 6 (gL)), (mu, fw_a kI 6 (gU)), (mp, fw_a kI 144 (gP)), (xu, fw_a kI 10 (xU)), (xf, fw_a kI 10 (xF)), (xt, fw_a kI 10 (xT))] sz) := by
  refine fw_ofW (Qc := fun A => fw_Qi (iI (if k_at mH h w = 0 then fm_at w h gP gU gL xU xF xT mH.toNat mS.toNat (mW + mF) else 0)) (fun H => (¬ k_at mH h w = 0 ∧ va_P (dC, dI) cls_ [(mm, .inr (4, [.int (iI (k_at mH h w)), .int (iI (mO)), .ref mg, .ref md, .int (iI (mH)), .ref ml, .ref mu, .ref mp, .int (bI (ud)), .int (iI (cs)), .int (iI (mS)), .ref xu, .ref xf, .ref xt, .int (iI (mW)), .int (iI (mF)), .int (bI (rn)), .int (bI (sp)), .int (iI (nd)), .int (iI (rd)), .int (iI (li)), .ref pz, .int (iI (lt))])), (ml, fw_a kI 6 (gL)), (mu, fw_a kI 6 (gU)), (mp, fw_a kI 144 (gP)), (xu, fw_a kI 10 (xU)), (xf, fw_a kI 10 (xF)), (xt, fw_a kI 10 (xT))] H) ∨ (k_at mH h w = 0 ∧ va_P (dC, dI) cls_ [(mm, .inr (4, [.int (iI (0)), .int (iI (mO)), .ref mg, .ref md, .int (iI (mH)), .ref ml, .ref mu, .ref mp, .int (bI (ud)), .int (iI (cs)), .int (iI (mS)), .ref xu, .ref xf, .ref xt, .int (iI (mW)), .int (iI (mF)), .int (bI (rn)), .int (bI (sp)), .int (iI (nd)), .int (iI (rd)), .int (iI (li)), .ref pz, .int (iI (lt))])), (ml, fw_a kI 6 (gL)), (mu, fw_a kI 6 (gU)), (mp, fw_a kI 144 (gP)), (xu, fw_a kI 10 (xU)), (xf, fw_a kI 10 (xF)), (xt, fw_a kI 10 (xT))] H)) A) (by decide) (Nat.le_of_ble_eq_true rfl) ?_
  intro p e s m below meth c A ls hx hb hr hts hown hlocks hnm hml hsz hP hK hD hN hA hS hl
  have hl : lv_has ls 3 [(0, .ref mm), (1, .int (iI (h))), (2, .int (iI (w)))] := hl
  refine lv_aload_n hx hb d_M_at_0 rfl (lv_at hl 0 rfl) ?_
  refine lv_aload_n hx hb d_M_at_1 rfl (lv_at hl 0 rfl) ?_
  refine lv_iload_n hx hb d_M_at_2 rfl (lv_at hl 1 rfl) ?_
  refine fw_callR (va_runV (As := [.int (iI (h))]) (rest := [.ref mm]) ⟨hx, hb, hml, hown, hts⟩ (c_M_isHeat l dC dI  mm th mO mg md mH ml mu mp ud cs mS xu xf xt mW mF rn sp nd rd li pz lt h ⟨by omega, by omega⟩ ⟨by omega, by omega⟩) (cwV 1 hts (gw_V kw_688 kw_690 ks_M_isHeat kw_5 kw_691) rfl rfl rfl (by decide +kernel) ⟨Nat.le_of_ble_eq_true rfl, Nat.le_of_ble_eq_true rfl⟩) (fw_preRV (ci := 4) (q0 := 0) hP hK hN [0] [] rfl rfl rfl rfl) rfl rfl hl.1 rfl (lv_room (Nat.le_of_ble_eq_true rfl)) d_M_at_3 ⟨Nat.le_of_ble_eq_true rfl, Nat.le_of_ble_eq_true rfl⟩).run ?_
  refine fw_bif_eq (tgt := 18) hx hb d_M_at_6 (by decide) (fun c_1 => ?_) (fun c_1 => ?_)
  · refine lv_iconst (v := (bI (true))) hx hb d_M_at_18 (by decide) ?_
    refine lv_goto (tgt := 23) hx hb d_M_at_19 (by decide) ?_
    refine lv_iconst (v := (bI (false))) hx hb d_M_at_23 (by decide) ?_
    refine lv_iconst (v := (bI (false))) hx hb d_M_at_24 (by decide) ?_
    refine lv_iconst (v := (bI (false))) hx hb d_M_at_25 (by decide) ?_
    refine fw_calliP [0] (va_runV (As := [.int (bI (true)), .int (bI (false)), .int (bI (false)), .int (bI (false))]) (rest := []) ⟨hx, hb, hml, hown, hts⟩ (c_M_throwing l dC dI  _ mm th mO mg md mH ml mu mp ud cs mS xu xf xt mW mF rn sp nd rd li pz lt true false false false ) (cwV 4 hts (gw_V kw_652 kw_654 ks_M_throwing kw_5 kw_655) rfl rfl rfl (by decide +kernel) ⟨Nat.le_of_ble_eq_true rfl, Nat.le_of_ble_eq_true rfl⟩) (fw_preV (ci := 4) (q0 := 0) hP hK hD hN [0] [] rfl rfl rfl rfl rfl) rfl rfl hl.1 rfl (lv_room (Nat.le_of_ble_eq_true rfl)) d_M_at_26 ⟨Nat.le_of_ble_eq_true rfl, Nat.le_of_ble_eq_true rfl⟩) hP hD hS hA rfl rfl rfl (fun H locs hP hD hS => ?_)
    have hP : va_P (dC, dI) cls_ [(mm, .inr (4, [.int (iI (fc_thr true false false false)), .int (iI (mO)), .ref mg, .ref md, .int (iI (mH)), .ref ml, .ref mu, .ref mp, .int (bI (ud)), .int (iI (cs)), .int (iI (mS)), .ref xu, .ref xf, .ref xt, .int (iI (mW)), .int (iI (mF)), .int (bI (rn)), .int (bI (sp)), .int (iI (nd)), .int (iI (rd)), .int (iI (li)), .ref pz, .int (iI (lt))])), (ml, fw_a kI 6 (gL)), (mu, fw_a kI 6 (gU)), (mp, fw_a kI 144 (gP)), (xu, fw_a kI 10 (xU)), (xf, fw_a kI 10 (xF)), (xt, fw_a kI 10 (xT))] H := hP
    have hD : va_D A [(mm, .inr (4, [.int (iI (fc_thr true false false false)), .int (iI (mO)), .ref mg, .ref md, .int (iI (mH)), .ref ml, .ref mu, .ref mp, .int (bI (ud)), .int (iI (cs)), .int (iI (mS)), .ref xu, .ref xf, .ref xt, .int (iI (mW)), .int (iI (mF)), .int (bI (rn)), .int (bI (sp)), .int (iI (nd)), .int (iI (rd)), .int (iI (li)), .ref pz, .int (iI (lt))])), (ml, fw_a kI 6 (gL)), (mu, fw_a kI 6 (gU)), (mp, fw_a kI 144 (gP)), (xu, fw_a kI 10 (xU)), (xf, fw_a kI 10 (xF)), (xt, fw_a kI 10 (xT))] := hD
    refine fw_cast (show (.int (bI (decide (0 < fc_thr true false false false))) : Value) = .int (bI (true)) from congrArg (fun b => Value.int (bI b)) (by decide)) ?_
    refine fw_bif_eq (tgt := 34) hx hb d_M_at_29 (by decide) (fun c_2 => ?_) (fun c_2 => ?_)
    · exact absurd c_2 (by decide)
    · refine lv_iconst (v := (iI (0))) hx hb d_M_at_32 (by decide) ?_
      have e9 : k_at mH h w = (fc_thr true false false false) := by simp [k_at, fc_thr, c_1] <;> omega
      have e8 : ¬ k_at mH h w = 0 := by rw [e9]; decide
      refine fw_iret hx hb hr hlocks hS ?_ ?_ d_M_at_33
      · exact Or.inl ⟨e8, by rw [e9]; exact hP⟩
      · rw [if_neg e8]
  · refine lv_iload_n hx hb d_M_at_9 rfl (lv_at hl 2 rfl) ?_
    refine lv_iconst (v := (iI (0))) hx hb d_M_at_10 (by decide) ?_
    refine lv_iconst (v := (iI (4))) hx hb d_M_at_11 (by decide) ?_
    refine fw_callR (va_runS (As := [.int (iI (w)), .int (iI (0)), .int (iI (4))]) (rest := [.ref mm]) ⟨hx, hb, hml, hown, hts⟩ (c_M_in l dC dI  w 0 4 ⟨by omega, by omega⟩ ⟨by omega, by omega⟩ ⟨by omega, by omega⟩) (cwS 3 hts (gw_S kw_649 kw_650 kw_5 kw_651) rfl rfl rfl (by decide +kernel) ⟨Nat.le_of_ble_eq_true rfl, Nat.le_of_ble_eq_true rfl⟩) (fw_preRS hP hK hN [] [] rfl rfl) rfl rfl hl.1 rfl (lv_room (Nat.le_of_ble_eq_true rfl)) d_M_at_12 ⟨Nat.le_of_ble_eq_true rfl, Nat.le_of_ble_eq_true rfl⟩).run ?_
    refine fw_bif_ne (tgt := 22) hx hb d_M_at_15 (by decide) (fun c_3 => ?_) (fun c_3 => ?_)
    · obtain ⟨g1, g2⟩ := fc_in_t c_1
      obtain ⟨g3, g4⟩ := fc_in_t c_3
      have q1 := hgN h.toNat (by omega)
      have q2 := hgP (3 * h.toNat + 1)
      refine lv_iconst (v := (bI (false))) hx hb d_M_at_22 (by decide) ?_
      refine lv_iconst (v := (bI (false))) hx hb d_M_at_23 (by decide) ?_
      refine lv_iconst (v := (bI (false))) hx hb d_M_at_24 (by decide) ?_
      refine lv_iconst (v := (bI (false))) hx hb d_M_at_25 (by decide) ?_
      refine fw_calliP [0] (va_runV (As := [.int (bI (false)), .int (bI (false)), .int (bI (false)), .int (bI (false))]) (rest := []) ⟨hx, hb, hml, hown, hts⟩ (c_M_throwing l dC dI  _ mm th mO mg md mH ml mu mp ud cs mS xu xf xt mW mF rn sp nd rd li pz lt false false false false ) (cwV 4 hts (gw_V kw_652 kw_654 ks_M_throwing kw_5 kw_655) rfl rfl rfl (by decide +kernel) ⟨Nat.le_of_ble_eq_true rfl, Nat.le_of_ble_eq_true rfl⟩) (fw_preV (ci := 4) (q0 := 0) hP hK hD hN [0] [] rfl rfl rfl rfl rfl) rfl rfl hl.1 rfl (lv_room (Nat.le_of_ble_eq_true rfl)) d_M_at_26 ⟨Nat.le_of_ble_eq_true rfl, Nat.le_of_ble_eq_true rfl⟩) hP hD hS hA rfl rfl rfl (fun H locs hP hD hS => ?_)
      have hP : va_P (dC, dI) cls_ [(mm, .inr (4, [.int (iI (fc_thr false false false false)), .int (iI (mO)), .ref mg, .ref md, .int (iI (mH)), .ref ml, .ref mu, .ref mp, .int (bI (ud)), .int (iI (cs)), .int (iI (mS)), .ref xu, .ref xf, .ref xt, .int (iI (mW)), .int (iI (mF)), .int (bI (rn)), .int (bI (sp)), .int (iI (nd)), .int (iI (rd)), .int (iI (li)), .ref pz, .int (iI (lt))])), (ml, fw_a kI 6 (gL)), (mu, fw_a kI 6 (gU)), (mp, fw_a kI 144 (gP)), (xu, fw_a kI 10 (xU)), (xf, fw_a kI 10 (xF)), (xt, fw_a kI 10 (xT))] H := hP
      have hD : va_D A [(mm, .inr (4, [.int (iI (fc_thr false false false false)), .int (iI (mO)), .ref mg, .ref md, .int (iI (mH)), .ref ml, .ref mu, .ref mp, .int (bI (ud)), .int (iI (cs)), .int (iI (mS)), .ref xu, .ref xf, .ref xt, .int (iI (mW)), .int (iI (mF)), .int (bI (rn)), .int (bI (sp)), .int (iI (nd)), .int (iI (rd)), .int (iI (li)), .ref pz, .int (iI (lt))])), (ml, fw_a kI 6 (gL)), (mu, fw_a kI 6 (gU)), (mp, fw_a kI 144 (gP)), (xu, fw_a kI 10 (xU)), (xf, fw_a kI 10 (xF)), (xt, fw_a kI 10 (xT))] := hD
      refine fw_cast (show (.int (bI (decide (0 < fc_thr false false false false))) : Value) = .int (bI (false)) from congrArg (fun b => Value.int (bI b)) (by decide)) ?_
      refine fw_bif_eq (tgt := 34) hx hb d_M_at_29 (by decide) (fun c_4 => ?_) (fun c_4 => ?_)
      · refine lv_iload_n hx hb d_M_at_34 rfl (lv_at hl 2 rfl) ?_
        refine lv_iconst (v := (iI (3))) hx hb d_M_at_35 (by decide) ?_
        refine fw_icmp_ge (tgt := 50) hx hb d_M_at_36 (by decide) ⟨by omega, by omega⟩ ⟨by omega, by omega⟩ (fun c_5 => ?_) (fun c_5 => ?_)
        · refine lv_iload_n hx hb d_M_at_50 rfl (lv_at hl 2 rfl) ?_
          refine lv_iconst (v := (iI (3))) hx hb d_M_at_51 (by decide) ?_
          refine fw_icmp_ne (tgt := 89) hx hb d_M_at_52 (by decide) ⟨by omega, by omega⟩ ⟨by omega, by omega⟩ (fun c_6 => ?_) (fun c_6 => ?_)
          · refine lv_aload_n hx hb d_M_at_89 rfl (lv_at hl 0 rfl) ?_
            refine lv_iload_n hx hb d_M_at_90 rfl (lv_at hl 1 rfl) ?_
            refine fw_callR (va_runV (As := [.int (iI (h))]) (rest := []) ⟨hx, hb, hml, hown, hts⟩ (c_M_isFrozen l dC dI  mm (fc_thr false false false false) mO mg md mH ml mu mp ud cs mS xu xf xt mW mF rn sp nd rd li pz lt gP kI h (by assumption) (by first | assumption | omega) (by first | assumption | omega) (by first | assumption | omega) (by first | assumption | omega) (by first | assumption | omega) (by first | assumption | omega)) (cwV 1 hts (gw_V kw_692 kw_694 ks_M_isFrozen kw_5 kw_695) rfl rfl rfl (by decide +kernel) ⟨Nat.le_of_ble_eq_true rfl, Nat.le_of_ble_eq_true rfl⟩) (fw_preRV (ci := 4) (q0 := 0) hP hK hN [0, 3] [0] rfl rfl rfl rfl) rfl rfl hl.1 rfl (lv_room (Nat.le_of_ble_eq_true rfl)) d_M_at_91 ⟨Nat.le_of_ble_eq_true rfl, Nat.le_of_ble_eq_true rfl⟩).run ?_
            refine fw_bif_eq (tgt := 101) hx hb d_M_at_94 (by decide) (fun c_7 => ?_) (fun c_7 => ?_)
            · refine lv_iconst (v := (iI (0))) hx hb d_M_at_101 (by decide) ?_
              have e9 : k_at mH h w = 0 := by simp [k_at, c_1, c_3]
              refine fw_iret hx hb hr hlocks hS ?_ ?_ d_M_at_102
              · exact Or.inr ⟨e9, hP⟩
              · rw [if_pos e9]
                simp only [fm_at]; rw [if_neg (by omega)]; first | (rw [if_pos (by omega)]; simp [c_7]) | (rw [if_neg (by omega)]; simp [c_7])
            · refine lv_iconst (v := (iI (1))) hx hb d_M_at_97 (by decide) ?_
              refine lv_goto (tgt := 102) hx hb d_M_at_98 (by decide) ?_
              have e9 : k_at mH h w = 0 := by simp [k_at, c_1, c_3]
              refine fw_iret hx hb hr hlocks hS ?_ ?_ d_M_at_102
              · exact Or.inr ⟨e9, hP⟩
              · rw [if_pos e9]
                simp only [fm_at]; rw [if_neg (by omega)]; first | (rw [if_pos (by omega)]; simp [c_7]) | (rw [if_neg (by omega)]; simp [c_7])
          · refine lv_aload_n hx hb d_M_at_55 rfl (lv_at hl 0 rfl) ?_
            refine lv_iload_n hx hb d_M_at_56 rfl (lv_at hl 1 rfl) ?_
            refine lv_aload_n hx hb d_M_at_57 rfl (lv_at hl 0 rfl) ?_
            refine va_get (D := (dC, dI)) (ci := 4) (v := .ref mp) (C := R_M) (T := T_M) (N := 23) hx hb hts in_M hown hK hP 0 rfl rfl 7 (by decide) (hts _ kw_578) (fun _ h9 => h9) rfl d_M_at_58 ?_
            refine lv_iconst (v := (iI (3))) hx hb d_M_at_61 (by decide) ?_
            refine lv_iload_n hx hb d_M_at_62 rfl (lv_at hl 1 rfl) ?_
            refine fw_imul hx hb d_M_at_63 ?_
            refine fw_iald hx hb hK hP 3 0 rfl rfl ((3 * h.toNat)) (by omega) (by omega) (by omega) d_M_at_64 ?_
            refine lv_aload_n hx hb d_M_at_65 rfl (lv_at hl 0 rfl) ?_
            refine va_get (D := (dC, dI)) (ci := 4) (v := .ref mp) (C := R_M) (T := T_M) (N := 23) hx hb hts in_M hown hK hP 0 rfl rfl 7 (by decide) (hts _ kw_578) (fun _ h9 => h9) rfl d_M_at_66 ?_
            refine lv_iconst (v := (iI (3))) hx hb d_M_at_69 (by decide) ?_
            refine lv_iload_n hx hb d_M_at_70 rfl (lv_at hl 1 rfl) ?_
            refine fw_imul hx hb d_M_at_71 ?_
            refine lv_iconst (v := (iI (1))) hx hb d_M_at_72 (by decide) ?_
            refine fw_iadd hx hb d_M_at_73 ?_
            refine fw_iald hx hb hK hP 3 0 rfl rfl (((3 * h.toNat) + 1)) (by omega) (by omega) (by omega) d_M_at_74 ?_
            refine fw_callR (va_runV (As := [.int (iI (h)), .int (iI (gP (3 * h.toNat))), .int (iI (gP ((3 * h.toNat) + 1)))]) (rest := []) ⟨hx, hb, hml, hown, hts⟩ (c_M_fits l dC dI  mm (fc_thr false false false false) mO mg md mH ml mu mp ud cs mS xu xf xt mW mF rn sp nd rd li pz lt gL gU gP xU xF xT kI h (gP (3 * h.toNat)) (gP ((3 * h.toNat) + 1)) (by assumption) (by assumption) (by assumption) (by first | assumption | omega) (by first | assumption | omega) (by first | assumption | omega) (by first | assumption | omega) (by assumption) (by first | assumption | omega) (by first | assumption | omega) (by first | assumption | omega) (by first | assumption | omega) (by first | assumption | omega) (by first | assumption | omega)) (cwV 3 hts (gw_V kw_660 kw_662 ks_M_fits kw_5 kw_663) rfl rfl rfl (by decide +kernel) ⟨Nat.le_of_ble_eq_true rfl, Nat.le_of_ble_eq_true rfl⟩) (fw_preRV (ci := 4) (q0 := 0) hP hK hN [0, 1, 2, 3, 4, 5, 6] [0] rfl rfl rfl rfl) rfl rfl hl.1 rfl (lv_room (Nat.le_of_ble_eq_true rfl)) d_M_at_75 ⟨Nat.le_of_ble_eq_true rfl, Nat.le_of_ble_eq_true rfl⟩).run ?_
            refine fw_bif_eq (tgt := 85) hx hb d_M_at_78 (by decide) (fun c_8 => ?_) (fun c_8 => ?_)
            · refine lv_iconst (v := (iI (0))) hx hb d_M_at_85 (by decide) ?_
              refine lv_goto (tgt := 102) hx hb d_M_at_86 (by decide) ?_
              have e9 : k_at mH h w = 0 := by simp [k_at, c_1, c_3]
              refine fw_iret hx hb hr hlocks hS ?_ ?_ d_M_at_102
              · exact Or.inr ⟨e9, hP⟩
              · rw [if_pos e9]
                simp only [fm_at]; rw [if_neg (by omega)]; first | (rw [if_pos (by omega)]; simp [c_8]) | (rw [if_neg (by omega)]; simp [c_8])
            · refine lv_iconst (v := (iI (1))) hx hb d_M_at_81 (by decide) ?_
              refine lv_goto (tgt := 102) hx hb d_M_at_82 (by decide) ?_
              have e9 : k_at mH h w = 0 := by simp [k_at, c_1, c_3]
              refine fw_iret hx hb hr hlocks hS ?_ ?_ d_M_at_102
              · exact Or.inr ⟨e9, hP⟩
              · rw [if_pos e9]
                simp only [fm_at]; rw [if_neg (by omega)]; first | (rw [if_pos (by omega)]; simp [c_8]) | (rw [if_neg (by omega)]; simp [c_8])
        · refine lv_aload_n hx hb d_M_at_39 rfl (lv_at hl 0 rfl) ?_
          refine va_get (D := (dC, dI)) (ci := 4) (v := .ref mp) (C := R_M) (T := T_M) (N := 23) hx hb hts in_M hown hK hP 0 rfl rfl 7 (by decide) (hts _ kw_578) (fun _ h9 => h9) rfl d_M_at_40 ?_
          refine lv_iconst (v := (iI (3))) hx hb d_M_at_43 (by decide) ?_
          refine lv_iload_n hx hb d_M_at_44 rfl (lv_at hl 1 rfl) ?_
          refine fw_imul hx hb d_M_at_45 ?_
          refine lv_iload_n hx hb d_M_at_46 rfl (lv_at hl 2 rfl) ?_
          refine fw_iadd hx hb d_M_at_47 ?_
          refine fw_iald hx hb hK hP 3 0 rfl rfl (((3 * h.toNat) + w.toNat)) (by omega) (by omega) (by omega) d_M_at_48 ?_
          have e9 : k_at mH h w = 0 := by simp [k_at, c_1, c_3]
          refine fw_iret hx hb hr hlocks hS ?_ ?_ d_M_at_49
          · exact Or.inr ⟨e9, hP⟩
          · rw [if_pos e9]
            simp only [fm_at]; rw [if_pos (by omega)]
      · exact absurd c_4 (by decide)
    · refine lv_iconst (v := (bI (true))) hx hb d_M_at_18 (by decide) ?_
      refine lv_goto (tgt := 23) hx hb d_M_at_19 (by decide) ?_
      refine lv_iconst (v := (bI (false))) hx hb d_M_at_23 (by decide) ?_
      refine lv_iconst (v := (bI (false))) hx hb d_M_at_24 (by decide) ?_
      refine lv_iconst (v := (bI (false))) hx hb d_M_at_25 (by decide) ?_
      refine fw_calliP [0] (va_runV (As := [.int (bI (true)), .int (bI (false)), .int (bI (false)), .int (bI (false))]) (rest := []) ⟨hx, hb, hml, hown, hts⟩ (c_M_throwing l dC dI  _ mm th mO mg md mH ml mu mp ud cs mS xu xf xt mW mF rn sp nd rd li pz lt true false false false ) (cwV 4 hts (gw_V kw_652 kw_654 ks_M_throwing kw_5 kw_655) rfl rfl rfl (by decide +kernel) ⟨Nat.le_of_ble_eq_true rfl, Nat.le_of_ble_eq_true rfl⟩) (fw_preV (ci := 4) (q0 := 0) hP hK hD hN [0] [] rfl rfl rfl rfl rfl) rfl rfl hl.1 rfl (lv_room (Nat.le_of_ble_eq_true rfl)) d_M_at_26 ⟨Nat.le_of_ble_eq_true rfl, Nat.le_of_ble_eq_true rfl⟩) hP hD hS hA rfl rfl rfl (fun H locs hP hD hS => ?_)
      have hP : va_P (dC, dI) cls_ [(mm, .inr (4, [.int (iI (fc_thr true false false false)), .int (iI (mO)), .ref mg, .ref md, .int (iI (mH)), .ref ml, .ref mu, .ref mp, .int (bI (ud)), .int (iI (cs)), .int (iI (mS)), .ref xu, .ref xf, .ref xt, .int (iI (mW)), .int (iI (mF)), .int (bI (rn)), .int (bI (sp)), .int (iI (nd)), .int (iI (rd)), .int (iI (li)), .ref pz, .int (iI (lt))])), (ml, fw_a kI 6 (gL)), (mu, fw_a kI 6 (gU)), (mp, fw_a kI 144 (gP)), (xu, fw_a kI 10 (xU)), (xf, fw_a kI 10 (xF)), (xt, fw_a kI 10 (xT))] H := hP
      have hD : va_D A [(mm, .inr (4, [.int (iI (fc_thr true false false false)), .int (iI (mO)), .ref mg, .ref md, .int (iI (mH)), .ref ml, .ref mu, .ref mp, .int (bI (ud)), .int (iI (cs)), .int (iI (mS)), .ref xu, .ref xf, .ref xt, .int (iI (mW)), .int (iI (mF)), .int (bI (rn)), .int (bI (sp)), .int (iI (nd)), .int (iI (rd)), .int (iI (li)), .ref pz, .int (iI (lt))])), (ml, fw_a kI 6 (gL)), (mu, fw_a kI 6 (gU)), (mp, fw_a kI 144 (gP)), (xu, fw_a kI 10 (xU)), (xf, fw_a kI 10 (xF)), (xt, fw_a kI 10 (xT))] := hD
      refine fw_cast (show (.int (bI (decide (0 < fc_thr true false false false))) : Value) = .int (bI (true)) from congrArg (fun b => Value.int (bI b)) (by decide)) ?_
      refine fw_bif_eq (tgt := 34) hx hb d_M_at_29 (by decide) (fun c_9 => ?_) (fun c_9 => ?_)
      · exact absurd c_9 (by decide)
      · refine lv_iconst (v := (iI (0))) hx hb d_M_at_32 (by decide) ?_
        have e9 : k_at mH h w = (fc_thr true false false false) := by simp [k_at, fc_thr, c_1, c_3] <;> omega
        have e8 : ¬ k_at mH h w = 0 := by rw [e9]; decide
        refine fw_iret hx hb hr hlocks hS ?_ ?_ d_M_at_33
        · exact Or.inl ⟨e8, by rw [e9]; exact hP⟩
        · rw [if_neg e8]

set_option maxHeartbeats 4000000 in
set_option maxRecDepth 100000 in
theorem c_M_cost (l : Launch) (dC : Nat → ClassId) (dI : Nat → Nat → Nat) (sz : Nat) (mm : Nat) (th : Int) (mO : Int) (mg : Nat) (md : Nat) (mH : Int) (ml : Nat) (mu : Nat) (mp : Nat) (ud : Bool) (cs : Int) (mS : Int) (xu : Nat) (xf : Nat) (xt : Nat) (mW : Int) (mF : Int) (rn : Bool) (sp : Bool) (nd : Int) (rd : Int) (li : Int) (pz : Nat) (lt : Int) (gD : Nat → Int) (gL : Nat → Int) (gP : Nat → Int) (kI : ClassId) (m1 : 0 ≤ mH) (m2 : mH ≤ 6) (hgP : ∀ j, -1 ≤ gP j ∧ gP j ≤ 60) (hgL : ∀ j, 0 ≤ gL j ∧ gL j ≤ 20) (hgD : ∀ j, -1000 ≤ gD j ∧ gD j ≤ 1000) (hgO : ∀ j : Nat, (j : Int) < mH → 0 ≤ gP (3 * j + 2) ∧ gP (3 * j + 2) < 8) : Met l y_M_cost (Cond.code y_M_cost b_M_cost 3 (some .int) :: gw) ({ frames := 1, locals := 23, cells := 0, slots := 0 }) (fw_Pc (dC, dI) [.ref mm] [(mm, .inr (4, [.int (iI (th)), .int (iI (mO)), .ref mg, .ref md, .int (iI (mH)), .ref ml, .ref mu, .ref mp, .int (bI (ud)), .int (iI (cs)), .int (iI (mS)), .ref xu, .ref xf, .ref xt, .int (iI (mW)), .int (iI (mF)), .int (bI (rn)), .int (bI (sp)), .int (iI (nd)), .int (iI (rd)), .int (iI (li)), .ref pz, .int (iI (lt))])), (ml, fw_a kI 6 (gL)), (md, fw_a kI 8 (gD)), (mp, fw_a kI 144 (gP))] [(kI, .int)] sz) (fw_Qi (iI (fc_sum (fm_late gP gL gD 0) mH.toNat)) (va_P (dC, dI) cls_ [(mm, .inr (4, [.int (iI (0)), .int (iI (mO)), .ref mg, .ref md, .int (iI (mH)), .ref ml, .ref mu, .ref mp, .int (bI (ud)), .int (iI (cs)), .int (iI (mS)), .ref xu, .ref xf, .ref xt, .int (iI (mW)), .int (iI (mF)), .int (bI (rn)), .int (bI (sp)), .int (iI (nd)), .int (iI (rd)), .int (iI (li)), .ref pz, .int (iI (lt))])), (ml, fw_a kI 6 (gL)), (md, fw_a kI 8 (gD)), (mp, fw_a kI 144 (gP))]) (va_A [(mm, .inr (4, [.int (iI (th)), .int (iI (mO)), .ref mg, .ref md, .int (iI (mH)), .ref ml, .ref mu, .ref mp, .int (bI (ud)), .int (iI (cs)), .int (iI (mS)), .ref xu, .ref xf, .ref xt, .int (iI (mW)), .int (iI (mF)), .int (bI (rn)), .int (bI (sp)), .int (iI (nd)), .int (iI (rd)), .int (iI (li)), .ref pz, .int (iI (lt))])), (ml, fw_a kI 6 (gL)), (md, fw_a kI 8 (gD)), (mp, fw_a kI 144 (gP))] sz)) 0 0 (va_A [(mm, .inr (4, [.int (iI (th)), .int (iI (mO)), .ref mg, .ref md, .int (iI (mH)), .ref ml, .ref mu, .ref mp, .int (bI (ud)), .int (iI (cs)), .int (iI (mS)), .ref xu, .ref xf, .ref xt, .int (iI (mW)), .int (iI (mF)), .int (bI (rn)), .int (bI (sp)), .int (iI (nd)), .int (iI (rd)), .int (iI (li)), .ref pz, .int (iI (lt))])), (ml, fw_a kI 6 (gL)), (md, fw_a kI 8 (gD)), (mp, fw_a kI 144 (gP))] sz) := by
  refine fw_ofW (Qc := fun A => fw_Qi (iI (fc_sum (fm_late gP gL gD 0) mH.toNat)) (va_P (dC, dI) cls_ [(mm, .inr (4, [.int (iI (0)), .int (iI (mO)), .ref mg, .ref md, .int (iI (mH)), .ref ml, .ref mu, .ref mp, .int (bI (ud)), .int (iI (cs)), .int (iI (mS)), .ref xu, .ref xf, .ref xt, .int (iI (mW)), .int (iI (mF)), .int (bI (rn)), .int (bI (sp)), .int (iI (nd)), .int (iI (rd)), .int (iI (li)), .ref pz, .int (iI (lt))])), (ml, fw_a kI 6 (gL)), (md, fw_a kI 8 (gD)), (mp, fw_a kI 144 (gP))]) A) (by decide) (Nat.le_of_ble_eq_true rfl) ?_
  intro p e s m below meth c A ls hx hb hr hts hown hlocks hnm hml hsz hP hK hD hN hA hS hl
  have hl : lv_has ls 3 [(0, .ref mm)] := hl
  refine lv_aload_n hx hb d_M_cost_0 rfl (lv_at hl 0 rfl) ?_
  refine lv_iconst (v := (iI (0))) hx hb d_M_cost_1 (by decide) ?_
  refine va_put (D := (dC, dI)) (ci := 4) (v := .int (iI (0))) (ty := .int) (C := R_M) (T := T_M) (N := 23) hx hb hts in_M t_M t_M_ok n_M hown hK hP hD hS 0 rfl rfl 0 (by decide) (hts _ kw_571) (fun _ h9 => h9) rfl (by decide +kernel) rfl rfl (Nat.le_of_ble_eq_true rfl) d_M_cost_2 (fun H locs hP hD hS => ?_)
  have hP : va_P (dC, dI) cls_ [(mm, .inr (4, [.int (iI (0)), .int (iI (mO)), .ref mg, .ref md, .int (iI (mH)), .ref ml, .ref mu, .ref mp, .int (bI (ud)), .int (iI (cs)), .int (iI (mS)), .ref xu, .ref xf, .ref xt, .int (iI (mW)), .int (iI (mF)), .int (bI (rn)), .int (bI (sp)), .int (iI (nd)), .int (iI (rd)), .int (iI (li)), .ref pz, .int (iI (lt))])), (ml, fw_a kI 6 (gL)), (md, fw_a kI 8 (gD)), (mp, fw_a kI 144 (gP))] H := hP
  have hD : va_D A [(mm, .inr (4, [.int (iI (0)), .int (iI (mO)), .ref mg, .ref md, .int (iI (mH)), .ref ml, .ref mu, .ref mp, .int (bI (ud)), .int (iI (cs)), .int (iI (mS)), .ref xu, .ref xf, .ref xt, .int (iI (mW)), .int (iI (mF)), .int (bI (rn)), .int (bI (sp)), .int (iI (nd)), .int (iI (rd)), .int (iI (li)), .ref pz, .int (iI (lt))])), (ml, fw_a kI 6 (gL)), (md, fw_a kI 8 (gD)), (mp, fw_a kI 144 (gP))] := hD
  refine lv_iconst (v := (iI (0))) hx hb d_M_cost_5 (by decide) ?_
  refine lv_istore_n (lv' := [(1, .int (iI (0))), (0, .ref mm)]) hx hb d_M_cost_6 rfl hl (by decide) rfl (fun ls hl => ?_)
  refine lv_iconst (v := (iI (0))) hx hb d_M_cost_7 (by decide) ?_
  refine lv_istore_n (lv' := [(2, .int (iI (0))), (1, .int (iI (0))), (0, .ref mm)]) hx hb d_M_cost_8 rfl hl (by decide) rfl (fun ls hl => ?_)
  have hlp_9 : ∀ (n : Nat) (i : Nat) (z1 : Int) (z2 : Int) (H : Heap) (locs : List Loc) (ls : Array Slot), (mH.toNat - i) < n → (z2 = (i : Int)) → ((i : Int) ≤ mH) → (z1 = fc_sum (fm_late gP gL gD 0) i) → va_P (dC, dI) cls_ [(mm, .inr (4, [.int (iI (0)), .int (iI (mO)), .ref mg, .ref md, .int (iI (mH)), .ref ml, .ref mu, .ref mp, .int (bI (ud)), .int (iI (cs)), .int (iI (mS)), .ref xu, .ref xf, .ref xt, .int (iI (mW)), .int (iI (mF)), .int (bI (rn)), .int (bI (sp)), .int (iI (nd)), .int (iI (rd)), .int (iI (li)), .ref pz, .int (iI (lt))])), (ml, fw_a kI 6 (gL)), (md, fw_a kI 8 (gD)), (mp, fw_a kI 144 (gP))] H → va_D A [(mm, .inr (4, [.int (iI (0)), .int (iI (mO)), .ref mg, .ref md, .int (iI (mH)), .ref ml, .ref mu, .ref mp, .int (bI (ud)), .int (iI (cs)), .int (iI (mS)), .ref xu, .ref xf, .ref xt, .int (iI (mW)), .int (iI (mF)), .int (bI (rn)), .int (bI (sp)), .int (iI (nd)), .int (iI (rd)), .int (iI (li)), .ref pz, .int (iI (lt))])), (ml, fw_a kI 6 (gL)), (md, fw_a kI 8 (gD)), (mp, fw_a kI 144 (gP))] → va_S A s.heap H locs → lv_has ls 3 [(1, .int (iI (z1))), (2, .int (iI (z2))), (0, .ref mm)] → W p l e ({ frames := 1, locals := 23, cells := 0, slots := 0 }) s m ([.ref mm] : List Value).toArray below meth c H locs 0 0 (MQ below (fw_Qi (iI (fc_sum (fm_late gP gL gD 0) mH.toNat)) (va_P (dC, dI) cls_ [(mm, .inr (4, [.int (iI (0)), .int (iI (mO)), .ref mg, .ref md, .int (iI (mH)), .ref ml, .ref mu, .ref mp, .int (bI (ud)), .int (iI (cs)), .int (iI (mS)), .ref xu, .ref xf, .ref xt, .int (iI (mW)), .int (iI (mF)), .int (bI (rn)), .int (bI (sp)), .int (iI (nd)), .int (iI (rd)), .int (iI (li)), .ref pz, .int (iI (lt))])), (ml, fw_a kI 6 (gL)), (md, fw_a kI 8 (gD)), (mp, fw_a kI 144 (gP))]) A) ([.ref mm] : List Value).toArray s 0 0 A) (F0 m 9 ls []) := by
    intro n_9
    induction n_9 with
    | zero => intro i z1 z2 H locs ls hms; exact absurd hms (Nat.not_lt_zero _)
    | succ n_9 ih_9 =>
      intro i z1 z2 H locs ls hms_9 hz hi hs hP hD hS hl
      refine lv_iload_n hx hb d_M_cost_9 rfl (lv_at hl 1 rfl) ?_
      refine lv_aload_n hx hb d_M_cost_10 rfl (lv_at hl 2 rfl) ?_
      refine va_get (D := (dC, dI)) (ci := 4) (v := .int (iI (mH))) (C := R_M) (T := T_M) (N := 23) hx hb hts in_M hown hK hP 0 rfl rfl 4 (by decide) (hts _ kw_575) (fun _ h9 => h9) rfl d_M_cost_11 ?_
      refine fw_icmp_ge (tgt := 32) hx hb d_M_cost_14 (by decide) ⟨by omega, by omega⟩ ⟨by omega, by omega⟩ (fun c_1 => ?_) (fun c_1 => ?_)
      · refine lv_iload_n hx hb d_M_cost_32 rfl (lv_at hl 0 rfl) ?_
        refine fw_iret hx hb hr hlocks hS ?_ ?_ d_M_cost_33
        · exact hP
        · rw [hs, show i = mH.toNat by omega]
      · have q3 : z2.toNat = i := by omega
        have q4 := hgO i (by omega)
        refine lv_iload_n hx hb d_M_cost_17 rfl (lv_at hl 0 rfl) ?_
        refine lv_aload_n hx hb d_M_cost_18 rfl (lv_at hl 2 rfl) ?_
        refine lv_iconst (v := (iI (0))) hx hb d_M_cost_19 (by decide) ?_
        refine lv_iload_n hx hb d_M_cost_20 rfl (lv_at hl 1 rfl) ?_
        refine fw_callR (va_runV (As := [.int (iI (0)), .int (iI (z2))]) (rest := [.int (iI (z1))]) ⟨hx, hb, hml, hown, hts⟩ (c_M_costOf l dC dI  mm 0 mO mg md mH ml mu mp ud cs mS xu xf xt mW mF rn sp nd rd li pz lt gD gL gP kI 0 z2 hgP hgL (by omega) (by omega) (by omega) (by omega) (by rw [q3]; show 0 ≤ gP (0 + 3 * i + 2); rw [Nat.zero_add]; exact q4.1) (by rw [q3]; show gP (0 + 3 * i + 2) < 8; rw [Nat.zero_add]; exact q4.2) hgD) (cwV 2 hts (gw_V kw_728 kw_730 ks_M_costOf kw_5 kw_731) rfl rfl rfl (by decide +kernel) ⟨Nat.le_of_ble_eq_true rfl, Nat.le_of_ble_eq_true rfl⟩) (fw_preRV (ci := 4) (q0 := 0) hP hK hN [0, 1, 2, 3] [0] rfl rfl rfl rfl) rfl rfl hl.1 rfl (lv_room (Nat.le_of_ble_eq_true rfl)) d_M_cost_21 ⟨Nat.le_of_ble_eq_true rfl, Nat.le_of_ble_eq_true rfl⟩).run ?_
        refine fw_iadd hx hb d_M_cost_24 ?_
        refine lv_istore_n (lv' := [(1, .int (iI (z1 + (fm_late gP gL gD (0 : Int).toNat z2.toNat)))), (2, .int (iI (z2))), (0, .ref mm)]) hx hb d_M_cost_25 rfl hl (by decide) rfl (fun ls hl => ?_)
        refine lv_iinc (v := iI (z2 + 1)) (lv' := [(2, .int (iI (z2 + 1))), (1, .int (iI (z1 + (fm_late gP gL gD (0 : Int).toNat z2.toNat)))), (0, .ref mm)]) hx hb d_M_cost_26 hl (k := 1) rfl (by rw [show Int32.ofInt 1 = iI 1 from rfl, iI_add]) (by decide) rfl (fun ls hl => ?_)
        refine lv_goto (tgt := 9) hx hb d_M_cost_29 (by decide) ?_
        exact ih_9 (i + 1) (z1 + (fm_late gP gL gD (0 : Int).toNat z2.toNat)) (z2 + 1) _ _ ls (by omega) (by omega) (by omega) (by rw [hs]; subst hz; rfl) hP hD hS (lv_sub hl [1, 0, 2] rfl)
  exact hlp_9 ((mH.toNat - 0) + 1) 0 0 0 _ _ ls (Nat.lt_succ_self _) rfl (by omega) rfl hP hD hS (lv_sub hl [1, 0, 2] rfl)

set_option maxHeartbeats 4000000 in
set_option maxRecDepth 100000 in
theorem c_M_on (l : Launch) (dC : Nat → ClassId) (dI : Nat → Nat → Nat) (sz : Nat) (mm : Nat) (th : Int) (mO : Int) (mg : Nat) (md : Nat) (mH : Int) (ml : Nat) (mu : Nat) (mp : Nat) (ud : Bool) (cs : Int) (mS : Int) (xu : Nat) (xf : Nat) (xt : Nat) (mW : Int) (mF : Int) (rn : Bool) (sp : Bool) (nd : Int) (rd : Int) (li : Int) (pz : Nat) (lt : Int) (gL : Nat → Int) (gP : Nat → Int) (kI : ClassId) (u : Int) (mi : Int) (m1 : 0 ≤ mH) (m2 : mH ≤ 6) (hgP : ∀ j, -1 ≤ gP j ∧ gP j ≤ 60) (hgL : ∀ j, 0 ≤ gL j ∧ gL j ≤ 20) (hb_u : fw_b u) (hb_mi : fw_b mi) : Met l y_M_on (Cond.code y_M_on b_M_on 6 (some .int) :: gw) ({ frames := 1, locals := 24, cells := 0, slots := 0 }) (fw_Pc (dC, dI) [.ref mm, .int (iI (u)), .int (iI (mi))] [(mm, .inr (4, [.int (iI (th)), .int (iI (mO)), .ref mg, .ref md, .int (iI (mH)), .ref ml, .ref mu, .ref mp, .int (bI (ud)), .int (iI (cs)), .int (iI (mS)), .ref xu, .ref xf, .ref xt, .int (iI (mW)), .int (iI (mF)), .int (bI (rn)), .int (bI (sp)), .int (iI (nd)), .int (iI (rd)), .int (iI (li)), .ref pz, .int (iI (lt))])), (ml, fw_a kI 6 (gL)), (mp, fw_a kI 144 (gP))] [(kI, .int)] sz) (fw_Qi (iI (if k_on u mi = 0 then fc_find (fc_onP gL (fun j => gP (3 * j)) (fun j => gP (3 * j + 1)) u mi) mH.toNat 0 else 0)) (fun H => (¬ k_on u mi = 0 ∧ va_P (dC, dI) cls_ [(mm, .inr (4, [.int (iI (k_on u mi)), .int (iI (mO)), .ref mg, .ref md, .int (iI (mH)), .ref ml, .ref mu, .ref mp, .int (bI (ud)), .int (iI (cs)), .int (iI (mS)), .ref xu, .ref xf, .ref xt, .int (iI (mW)), .int (iI (mF)), .int (bI (rn)), .int (bI (sp)), .int (iI (nd)), .int (iI (rd)), .int (iI (li)), .ref pz, .int (iI (lt))])), (ml, fw_a kI 6 (gL)), (mp, fw_a kI 144 (gP))] H) ∨ (k_on u mi = 0 ∧ va_P (dC, dI) cls_ [(mm, .inr (4, [.int (iI (0)), .int (iI (mO)), .ref mg, .ref md, .int (iI (mH)), .ref ml, .ref mu, .ref mp, .int (bI (ud)), .int (iI (cs)), .int (iI (mS)), .ref xu, .ref xf, .ref xt, .int (iI (mW)), .int (iI (mF)), .int (bI (rn)), .int (bI (sp)), .int (iI (nd)), .int (iI (rd)), .int (iI (li)), .ref pz, .int (iI (lt))])), (ml, fw_a kI 6 (gL)), (mp, fw_a kI 144 (gP))] H)) (va_A [(mm, .inr (4, [.int (iI (th)), .int (iI (mO)), .ref mg, .ref md, .int (iI (mH)), .ref ml, .ref mu, .ref mp, .int (bI (ud)), .int (iI (cs)), .int (iI (mS)), .ref xu, .ref xf, .ref xt, .int (iI (mW)), .int (iI (mF)), .int (bI (rn)), .int (bI (sp)), .int (iI (nd)), .int (iI (rd)), .int (iI (li)), .ref pz, .int (iI (lt))])), (ml, fw_a kI 6 (gL)), (mp, fw_a kI 144 (gP))] sz)) 0 0 (va_A [(mm, .inr (4, [.int (iI (th)), .int (iI (mO)), .ref mg, .ref md, .int (iI (mH)), .ref ml, .ref mu, .ref mp, .int (bI (ud)), .int (iI (cs)), .int (iI (mS)), .ref xu, .ref xf, .ref xt, .int (iI (mW)), .int (iI (mF)), .int (bI (rn)), .int (bI (sp)), .int (iI (nd)), .int (iI (rd)), .int (iI (li)), .ref pz, .int (iI (lt))])), (ml, fw_a kI 6 (gL)), (mp, fw_a kI 144 (gP))] sz) := by
  refine fw_ofW (Qc := fun A => fw_Qi (iI (if k_on u mi = 0 then fc_find (fc_onP gL (fun j => gP (3 * j)) (fun j => gP (3 * j + 1)) u mi) mH.toNat 0 else 0)) (fun H => (¬ k_on u mi = 0 ∧ va_P (dC, dI) cls_ [(mm, .inr (4, [.int (iI (k_on u mi)), .int (iI (mO)), .ref mg, .ref md, .int (iI (mH)), .ref ml, .ref mu, .ref mp, .int (bI (ud)), .int (iI (cs)), .int (iI (mS)), .ref xu, .ref xf, .ref xt, .int (iI (mW)), .int (iI (mF)), .int (bI (rn)), .int (bI (sp)), .int (iI (nd)), .int (iI (rd)), .int (iI (li)), .ref pz, .int (iI (lt))])), (ml, fw_a kI 6 (gL)), (mp, fw_a kI 144 (gP))] H) ∨ (k_on u mi = 0 ∧ va_P (dC, dI) cls_ [(mm, .inr (4, [.int (iI (0)), .int (iI (mO)), .ref mg, .ref md, .int (iI (mH)), .ref ml, .ref mu, .ref mp, .int (bI (ud)), .int (iI (cs)), .int (iI (mS)), .ref xu, .ref xf, .ref xt, .int (iI (mW)), .int (iI (mF)), .int (bI (rn)), .int (bI (sp)), .int (iI (nd)), .int (iI (rd)), .int (iI (li)), .ref pz, .int (iI (lt))])), (ml, fw_a kI 6 (gL)), (mp, fw_a kI 144 (gP))] H)) A) (by decide) (Nat.le_of_ble_eq_true rfl) ?_
  intro p e s m below meth c A ls hx hb hr hts hown hlocks hnm hml hsz hP hK hD hN hA hS hl
  have hl : lv_has ls 6 [(0, .ref mm), (1, .int (iI (u))), (2, .int (iI (mi)))] := hl
  refine lv_aload_n hx hb d_M_on_0 rfl (lv_at hl 0 rfl) ?_
  refine lv_iload_n hx hb d_M_on_1 rfl (lv_at hl 1 rfl) ?_
  refine lv_iconst (v := (iI (0))) hx hb d_M_on_2 (by decide) ?_
  refine lv_iconst (v := (iI (2))) hx hb d_M_on_3 (by decide) ?_
  refine fw_callR (va_runS (As := [.int (iI (u)), .int (iI (0)), .int (iI (2))]) (rest := [.ref mm]) ⟨hx, hb, hml, hown, hts⟩ (c_M_in l dC dI  u 0 2 ⟨by omega, by omega⟩ ⟨by omega, by omega⟩ ⟨by omega, by omega⟩) (cwS 3 hts (gw_S kw_649 kw_650 kw_5 kw_651) rfl rfl rfl (by decide +kernel) ⟨Nat.le_of_ble_eq_true rfl, Nat.le_of_ble_eq_true rfl⟩) (fw_preRS hP hK hN [] [] rfl rfl) rfl rfl hl.1 rfl (lv_room (Nat.le_of_ble_eq_true rfl)) d_M_on_4 ⟨Nat.le_of_ble_eq_true rfl, Nat.le_of_ble_eq_true rfl⟩).run ?_
  refine fw_bif_ne (tgt := 14) hx hb d_M_on_7 (by decide) (fun c_1 => ?_) (fun c_1 => ?_)
  · refine lv_iconst (v := (bI (false))) hx hb d_M_on_14 (by decide) ?_
    refine lv_iload_n hx hb d_M_on_15 rfl (lv_at hl 2 rfl) ?_
    refine lv_iconst (v := (iI (0))) hx hb d_M_on_16 (by decide) ?_
    refine lv_bipush (v := (iI (59))) hx hb d_M_on_17 (by decide) ?_
    refine fw_callR (va_runS (As := [.int (iI (mi)), .int (iI (0)), .int (iI (59))]) (rest := [.int (bI (false)), .ref mm]) ⟨hx, hb, hml, hown, hts⟩ (c_M_in l dC dI  mi 0 59 ⟨by omega, by omega⟩ ⟨by omega, by omega⟩ ⟨by omega, by omega⟩) (cwS 3 hts (gw_S kw_649 kw_650 kw_5 kw_651) rfl rfl rfl (by decide +kernel) ⟨Nat.le_of_ble_eq_true rfl, Nat.le_of_ble_eq_true rfl⟩) (fw_preRS hP hK hN [] [] rfl rfl) rfl rfl hl.1 rfl (lv_room (Nat.le_of_ble_eq_true rfl)) d_M_on_19 ⟨Nat.le_of_ble_eq_true rfl, Nat.le_of_ble_eq_true rfl⟩).run ?_
    refine fw_bif_ne (tgt := 29) hx hb d_M_on_22 (by decide) (fun c_2 => ?_) (fun c_2 => ?_)
    · refine lv_iconst (v := (bI (false))) hx hb d_M_on_29 (by decide) ?_
      refine lv_iconst (v := (bI (false))) hx hb d_M_on_30 (by decide) ?_
      refine lv_iconst (v := (bI (false))) hx hb d_M_on_31 (by decide) ?_
      refine fw_calliP [0] (va_runV (As := [.int (bI (false)), .int (bI (false)), .int (bI (false)), .int (bI (false))]) (rest := []) ⟨hx, hb, hml, hown, hts⟩ (c_M_throwing l dC dI  _ mm th mO mg md mH ml mu mp ud cs mS xu xf xt mW mF rn sp nd rd li pz lt false false false false ) (cwV 4 hts (gw_V kw_652 kw_654 ks_M_throwing kw_5 kw_655) rfl rfl rfl (by decide +kernel) ⟨Nat.le_of_ble_eq_true rfl, Nat.le_of_ble_eq_true rfl⟩) (fw_preV (ci := 4) (q0 := 0) hP hK hD hN [0] [] rfl rfl rfl rfl rfl) rfl rfl hl.1 rfl (lv_room (Nat.le_of_ble_eq_true rfl)) d_M_on_32 ⟨Nat.le_of_ble_eq_true rfl, Nat.le_of_ble_eq_true rfl⟩) hP hD hS hA rfl rfl rfl (fun H locs hP hD hS => ?_)
      have hP : va_P (dC, dI) cls_ [(mm, .inr (4, [.int (iI (fc_thr false false false false)), .int (iI (mO)), .ref mg, .ref md, .int (iI (mH)), .ref ml, .ref mu, .ref mp, .int (bI (ud)), .int (iI (cs)), .int (iI (mS)), .ref xu, .ref xf, .ref xt, .int (iI (mW)), .int (iI (mF)), .int (bI (rn)), .int (bI (sp)), .int (iI (nd)), .int (iI (rd)), .int (iI (li)), .ref pz, .int (iI (lt))])), (ml, fw_a kI 6 (gL)), (mp, fw_a kI 144 (gP))] H := hP
      have hD : va_D A [(mm, .inr (4, [.int (iI (fc_thr false false false false)), .int (iI (mO)), .ref mg, .ref md, .int (iI (mH)), .ref ml, .ref mu, .ref mp, .int (bI (ud)), .int (iI (cs)), .int (iI (mS)), .ref xu, .ref xf, .ref xt, .int (iI (mW)), .int (iI (mF)), .int (bI (rn)), .int (bI (sp)), .int (iI (nd)), .int (iI (rd)), .int (iI (li)), .ref pz, .int (iI (lt))])), (ml, fw_a kI 6 (gL)), (mp, fw_a kI 144 (gP))] := hD
      refine fw_cast (show (.int (bI (decide (0 < fc_thr false false false false))) : Value) = .int (bI (false)) from congrArg (fun b => Value.int (bI b)) (by decide)) ?_
      refine fw_bif_eq (tgt := 40) hx hb d_M_on_35 (by decide) (fun c_3 => ?_) (fun c_3 => ?_)
      · refine lv_iconst (v := (iI (-1))) hx hb d_M_on_40 (by decide) ?_
        refine lv_istore_n (lv' := [(3, .int (iI (-1))), (0, .ref mm), (1, .int (iI (u))), (2, .int (iI (mi)))]) hx hb d_M_on_41 rfl hl (by decide) rfl (fun ls hl => ?_)
        refine lv_aload_n hx hb d_M_on_42 rfl (lv_at hl 1 rfl) ?_
        refine va_get (D := (dC, dI)) (ci := 4) (v := .int (iI (mH))) (C := R_M) (T := T_M) (N := 23) hx hb hts in_M hown hK hP 0 rfl rfl 4 (by decide) (hts _ kw_575) (fun _ h9 => h9) rfl d_M_on_43 ?_
        refine lv_iconst (v := (iI (1))) hx hb d_M_on_46 (by decide) ?_
        refine fw_isub hx hb d_M_on_47 ?_
        refine lv_istore (lv' := [(4, .int (iI (mH - 1))), (3, .int (iI (-1))), (0, .ref mm), (1, .int (iI (u))), (2, .int (iI (mi)))]) hx hb d_M_on_48 hl (by decide) rfl (fun ls hl => ?_)
        have hlp_50 : ∀ (n : Nat) (i : Nat) (fd : Int) (z4 : Int) (H : Heap) (locs : List Loc) (ls : Array Slot), i < n → (z4 = (i : Int) - 1) → ((i : Int) ≤ mH) → (fd = fc_find (fc_onP gL (fun j => gP (3 * j)) (fun j => gP (3 * j + 1)) u mi) (mH.toNat - i) i) → va_P (dC, dI) cls_ [(mm, .inr (4, [.int (iI (fc_thr false false false false)), .int (iI (mO)), .ref mg, .ref md, .int (iI (mH)), .ref ml, .ref mu, .ref mp, .int (bI (ud)), .int (iI (cs)), .int (iI (mS)), .ref xu, .ref xf, .ref xt, .int (iI (mW)), .int (iI (mF)), .int (bI (rn)), .int (bI (sp)), .int (iI (nd)), .int (iI (rd)), .int (iI (li)), .ref pz, .int (iI (lt))])), (ml, fw_a kI 6 (gL)), (mp, fw_a kI 144 (gP))] H → va_D A [(mm, .inr (4, [.int (iI (fc_thr false false false false)), .int (iI (mO)), .ref mg, .ref md, .int (iI (mH)), .ref ml, .ref mu, .ref mp, .int (bI (ud)), .int (iI (cs)), .int (iI (mS)), .ref xu, .ref xf, .ref xt, .int (iI (mW)), .int (iI (mF)), .int (bI (rn)), .int (bI (sp)), .int (iI (nd)), .int (iI (rd)), .int (iI (li)), .ref pz, .int (iI (lt))])), (ml, fw_a kI 6 (gL)), (mp, fw_a kI 144 (gP))] → va_S A s.heap H locs → lv_has ls 6 [(3, .int (iI (fd))), (4, .int (iI (z4))), (0, .ref mm), (1, .int (iI (u))), (2, .int (iI (mi)))] → W p l e ({ frames := 1, locals := 24, cells := 0, slots := 0 }) s m ([.ref mm, .int (iI (u)), .int (iI (mi))] : List Value).toArray below meth c H locs 0 0 (MQ below (fw_Qi (iI (if k_on u mi = 0 then fc_find (fc_onP gL (fun j => gP (3 * j)) (fun j => gP (3 * j + 1)) u mi) mH.toNat 0 else 0)) (fun H => (¬ k_on u mi = 0 ∧ va_P (dC, dI) cls_ [(mm, .inr (4, [.int (iI (k_on u mi)), .int (iI (mO)), .ref mg, .ref md, .int (iI (mH)), .ref ml, .ref mu, .ref mp, .int (bI (ud)), .int (iI (cs)), .int (iI (mS)), .ref xu, .ref xf, .ref xt, .int (iI (mW)), .int (iI (mF)), .int (bI (rn)), .int (bI (sp)), .int (iI (nd)), .int (iI (rd)), .int (iI (li)), .ref pz, .int (iI (lt))])), (ml, fw_a kI 6 (gL)), (mp, fw_a kI 144 (gP))] H) ∨ (k_on u mi = 0 ∧ va_P (dC, dI) cls_ [(mm, .inr (4, [.int (iI (0)), .int (iI (mO)), .ref mg, .ref md, .int (iI (mH)), .ref ml, .ref mu, .ref mp, .int (bI (ud)), .int (iI (cs)), .int (iI (mS)), .ref xu, .ref xf, .ref xt, .int (iI (mW)), .int (iI (mF)), .int (bI (rn)), .int (bI (sp)), .int (iI (nd)), .int (iI (rd)), .int (iI (li)), .ref pz, .int (iI (lt))])), (ml, fw_a kI 6 (gL)), (mp, fw_a kI 144 (gP))] H)) A) ([.ref mm, .int (iI (u)), .int (iI (mi))] : List Value).toArray s 0 0 A) (F0 m 50 ls []) := by
          intro n_50
          induction n_50 with
          | zero => intro i fd z4 H locs ls hms; exact absurd hms (Nat.not_lt_zero _)
          | succ n_50 ih_50 =>
            intro i fd z4 H locs ls hms_50 hz hi hf hP hD hS hl
            refine lv_iload hx hb d_M_on_50 (lv_at hl 1 rfl) ?_
            refine fw_if_lt (tgt := 115) hx hb d_M_on_52 (by decide) ⟨by omega, by omega⟩ (fun c_4 => ?_) (fun c_4 => ?_)
            · refine lv_iload_n hx hb d_M_on_115 rfl (lv_at hl 0 rfl) ?_
              have e9 : k_on u mi = 0 := by simp [k_on, c_1, c_2]
              refine fw_iret hx hb hr hlocks hS ?_ ?_ d_M_on_116
              · exact Or.inr ⟨e9, hP⟩
              · rw [if_pos e9]
                rw [hf, show i = 0 by omega]; rfl
            · have q1 := hgP (3 * (i - 1))
              have q2 := hgP (3 * (i - 1) + 1)
              have q3 := hgL (i - 1)
              refine lv_aload_n hx hb d_M_on_55 rfl (lv_at hl 2 rfl) ?_
              refine va_get (D := (dC, dI)) (ci := 4) (v := .ref mp) (C := R_M) (T := T_M) (N := 23) hx hb hts in_M hown hK hP 0 rfl rfl 7 (by decide) (hts _ kw_578) (fun _ h9 => h9) rfl d_M_on_56 ?_
              refine lv_iconst (v := (iI (3))) hx hb d_M_on_59 (by decide) ?_
              refine lv_iload hx hb d_M_on_60 (lv_at hl 1 rfl) ?_
              refine fw_imul hx hb d_M_on_62 ?_
              refine lv_iconst (v := (iI (1))) hx hb d_M_on_63 (by decide) ?_
              refine fw_iadd hx hb d_M_on_64 ?_
              refine fw_iald hx hb hK hP 2 0 rfl rfl (((3 * (i - 1)) + 1)) (by omega) (by omega) (by omega) d_M_on_65 ?_
              refine lv_istore (lv' := [(5, .int (iI (gP ((3 * (i - 1)) + 1)))), (3, .int (iI (fd))), (4, .int (iI (z4))), (0, .ref mm), (1, .int (iI (u))), (2, .int (iI (mi)))]) hx hb d_M_on_66 hl (by decide) rfl (fun ls hl => ?_)
              refine lv_aload_n hx hb d_M_on_68 rfl (lv_at hl 3 rfl) ?_
              refine va_get (D := (dC, dI)) (ci := 4) (v := .ref mp) (C := R_M) (T := T_M) (N := 23) hx hb hts in_M hown hK hP 0 rfl rfl 7 (by decide) (hts _ kw_578) (fun _ h9 => h9) rfl d_M_on_69 ?_
              refine lv_iconst (v := (iI (3))) hx hb d_M_on_72 (by decide) ?_
              refine lv_iload hx hb d_M_on_73 (lv_at hl 2 rfl) ?_
              refine fw_imul hx hb d_M_on_75 ?_
              refine fw_iald hx hb hK hP 2 0 rfl rfl ((3 * (i - 1))) (by omega) (by omega) (by omega) d_M_on_76 ?_
              refine lv_iload_n hx hb d_M_on_77 rfl (lv_at hl 4 rfl) ?_
              refine fw_icmp_ne (tgt := 107) hx hb d_M_on_78 (by decide) ⟨by omega, by omega⟩ ⟨by omega, by omega⟩ (fun c_5 => ?_) (fun c_5 => ?_)
              · refine lv_iload_n hx hb d_M_on_107 rfl (lv_at hl 1 rfl) ?_
                refine lv_istore_n (lv' := [(3, .int (iI (fd))), (5, .int (iI (gP ((3 * (i - 1)) + 1)))), (4, .int (iI (z4))), (0, .ref mm), (1, .int (iI (u))), (2, .int (iI (mi)))]) hx hb d_M_on_108 rfl hl (by decide) rfl (fun ls hl => ?_)
                refine lv_iinc (v := iI (z4 - 1)) (lv' := [(4, .int (iI (z4 - 1))), (3, .int (iI (fd))), (5, .int (iI (gP ((3 * (i - 1)) + 1)))), (0, .ref mm), (1, .int (iI (u))), (2, .int (iI (mi)))]) hx hb d_M_on_109 hl (k := 2) rfl (by rw [show Int32.ofInt (-1) = iI (-1) from rfl, iI_add]; rfl) (by decide) rfl (fun ls hl => ?_)
                refine lv_goto (tgt := 50) hx hb d_M_on_112 (by decide) ?_
                exact ih_50 (i - 1) fd (z4 - 1) _ _ ls (by omega) (by omega) (by omega) (by obtain ⟨k, rfl⟩ : ∃ k, i = k + 1 := ⟨i - 1, by omega⟩; have e7 : k + 1 - 1 = k := rfl; simp only [e7] at *; rw [show mH.toNat - k = (mH.toNat - (k + 1)) + 1 by omega]; simp only [fc_find]; first | (rw [if_pos (by simp only [fc_onP, Bool.and_eq_true, decide_eq_true_eq]; have q9 := fc_in_t c_5; omega)]; omega) | (rw [if_neg (by simp only [fc_onP, Bool.and_eq_true, decide_eq_true_eq]; first | omega | (have q9 := c_5; simp only [fc_in, Bool.and_eq_false_iff, decide_eq_false_iff_not] at q9; omega))]; exact hf)) hP hD hS (lv_sub hl [1, 0, 3, 4, 5] rfl)
              · refine lv_iload_n hx hb d_M_on_81 rfl (lv_at hl 5 rfl) ?_
                refine lv_iload hx hb d_M_on_82 (lv_at hl 0 rfl) ?_
                refine lv_iload hx hb d_M_on_84 (lv_at hl 0 rfl) ?_
                refine lv_aload_n hx hb d_M_on_86 rfl (lv_at hl 3 rfl) ?_
                refine va_get (D := (dC, dI)) (ci := 4) (v := .ref ml) (C := R_M) (T := T_M) (N := 23) hx hb hts in_M hown hK hP 0 rfl rfl 5 (by decide) (hts _ kw_576) (fun _ h9 => h9) rfl d_M_on_87 ?_
                refine lv_iload hx hb d_M_on_90 (lv_at hl 2 rfl) ?_
                refine fw_iald hx hb hK hP 1 0 rfl rfl ((i - 1)) (by omega) (by omega) (by omega) d_M_on_92 ?_
                refine fw_iadd hx hb d_M_on_93 ?_
                refine lv_iconst (v := (iI (1))) hx hb d_M_on_94 (by decide) ?_
                refine fw_isub hx hb d_M_on_95 ?_
                refine fw_callR (va_runS (As := [.int (iI (mi)), .int (iI (gP ((3 * (i - 1)) + 1))), .int (iI (((gP ((3 * (i - 1)) + 1)) + (gL (i - 1))) - 1))]) (rest := []) ⟨hx, hb, hml, hown, hts⟩ (c_M_in l dC dI  mi (gP ((3 * (i - 1)) + 1)) (((gP ((3 * (i - 1)) + 1)) + (gL (i - 1))) - 1) ⟨by omega, by omega⟩ ⟨by omega, by omega⟩ ⟨by omega, by omega⟩) (cwS 3 hts (gw_S kw_649 kw_650 kw_5 kw_651) rfl rfl rfl (by decide +kernel) ⟨Nat.le_of_ble_eq_true rfl, Nat.le_of_ble_eq_true rfl⟩) (fw_preRS hP hK hN [] [] rfl rfl) rfl rfl hl.1 rfl (lv_room (Nat.le_of_ble_eq_true rfl)) d_M_on_96 ⟨Nat.le_of_ble_eq_true rfl, Nat.le_of_ble_eq_true rfl⟩).run ?_
                refine fw_bif_eq (tgt := 107) hx hb d_M_on_99 (by decide) (fun c_6 => ?_) (fun c_6 => ?_)
                · refine lv_iload_n hx hb d_M_on_107 rfl (lv_at hl 1 rfl) ?_
                  refine lv_istore_n (lv' := [(3, .int (iI (fd))), (5, .int (iI (gP ((3 * (i - 1)) + 1)))), (4, .int (iI (z4))), (0, .ref mm), (1, .int (iI (u))), (2, .int (iI (mi)))]) hx hb d_M_on_108 rfl hl (by decide) rfl (fun ls hl => ?_)
                  refine lv_iinc (v := iI (z4 - 1)) (lv' := [(4, .int (iI (z4 - 1))), (3, .int (iI (fd))), (5, .int (iI (gP ((3 * (i - 1)) + 1)))), (0, .ref mm), (1, .int (iI (u))), (2, .int (iI (mi)))]) hx hb d_M_on_109 hl (k := 2) rfl (by rw [show Int32.ofInt (-1) = iI (-1) from rfl, iI_add]; rfl) (by decide) rfl (fun ls hl => ?_)
                  refine lv_goto (tgt := 50) hx hb d_M_on_112 (by decide) ?_
                  exact ih_50 (i - 1) fd (z4 - 1) _ _ ls (by omega) (by omega) (by omega) (by obtain ⟨k, rfl⟩ : ∃ k, i = k + 1 := ⟨i - 1, by omega⟩; have e7 : k + 1 - 1 = k := rfl; simp only [e7] at *; rw [show mH.toNat - k = (mH.toNat - (k + 1)) + 1 by omega]; simp only [fc_find]; first | (rw [if_pos (by simp only [fc_onP, Bool.and_eq_true, decide_eq_true_eq]; have q9 := fc_in_t c_6; omega)]; omega) | (rw [if_neg (by simp only [fc_onP, Bool.and_eq_true, decide_eq_true_eq]; first | omega | (have q9 := c_6; simp only [fc_in, Bool.and_eq_false_iff, decide_eq_false_iff_not] at q9; omega))]; exact hf)) hP hD hS (lv_sub hl [1, 0, 3, 4, 5] rfl)
                · refine lv_iload hx hb d_M_on_102 (lv_at hl 2 rfl) ?_
                  refine lv_goto (tgt := 108) hx hb d_M_on_104 (by decide) ?_
                  refine lv_istore_n (lv' := [(3, .int (iI (z4))), (5, .int (iI (gP ((3 * (i - 1)) + 1)))), (4, .int (iI (z4))), (0, .ref mm), (1, .int (iI (u))), (2, .int (iI (mi)))]) hx hb d_M_on_108 rfl hl (by decide) rfl (fun ls hl => ?_)
                  refine lv_iinc (v := iI (z4 - 1)) (lv' := [(4, .int (iI (z4 - 1))), (3, .int (iI (z4))), (5, .int (iI (gP ((3 * (i - 1)) + 1)))), (0, .ref mm), (1, .int (iI (u))), (2, .int (iI (mi)))]) hx hb d_M_on_109 hl (k := 2) rfl (by rw [show Int32.ofInt (-1) = iI (-1) from rfl, iI_add]; rfl) (by decide) rfl (fun ls hl => ?_)
                  refine lv_goto (tgt := 50) hx hb d_M_on_112 (by decide) ?_
                  exact ih_50 (i - 1) z4 (z4 - 1) _ _ ls (by omega) (by omega) (by omega) (by obtain ⟨k, rfl⟩ : ∃ k, i = k + 1 := ⟨i - 1, by omega⟩; have e7 : k + 1 - 1 = k := rfl; simp only [e7] at *; rw [show mH.toNat - k = (mH.toNat - (k + 1)) + 1 by omega]; simp only [fc_find]; first | (rw [if_pos (by simp only [fc_onP, Bool.and_eq_true, decide_eq_true_eq]; have q9 := fc_in_t c_6; omega)]; omega) | (rw [if_neg (by simp only [fc_onP, Bool.and_eq_true, decide_eq_true_eq]; first | omega | (have q9 := c_6; simp only [fc_in, Bool.and_eq_false_iff, decide_eq_false_iff_not] at q9; omega))]; exact hf)) hP hD hS (lv_sub hl [1, 0, 3, 4, 5] rfl)
        exact hlp_50 (mH.toNat + 1) mH.toNat (-1) (mH - 1) _ _ ls (Nat.lt_succ_self _) (by omega) (by omega) (by rw [Nat.sub_self]; rfl) hP hD hS (lv_sub hl [1, 0, 2, 3, 4] rfl)
      · exact absurd c_3 (by decide)
    · refine lv_iconst (v := (bI (true))) hx hb d_M_on_25 (by decide) ?_
      refine lv_goto (tgt := 30) hx hb d_M_on_26 (by decide) ?_
      refine lv_iconst (v := (bI (false))) hx hb d_M_on_30 (by decide) ?_
      refine lv_iconst (v := (bI (false))) hx hb d_M_on_31 (by decide) ?_
      refine fw_calliP [0] (va_runV (As := [.int (bI (false)), .int (bI (true)), .int (bI (false)), .int (bI (false))]) (rest := []) ⟨hx, hb, hml, hown, hts⟩ (c_M_throwing l dC dI  _ mm th mO mg md mH ml mu mp ud cs mS xu xf xt mW mF rn sp nd rd li pz lt false true false false ) (cwV 4 hts (gw_V kw_652 kw_654 ks_M_throwing kw_5 kw_655) rfl rfl rfl (by decide +kernel) ⟨Nat.le_of_ble_eq_true rfl, Nat.le_of_ble_eq_true rfl⟩) (fw_preV (ci := 4) (q0 := 0) hP hK hD hN [0] [] rfl rfl rfl rfl rfl) rfl rfl hl.1 rfl (lv_room (Nat.le_of_ble_eq_true rfl)) d_M_on_32 ⟨Nat.le_of_ble_eq_true rfl, Nat.le_of_ble_eq_true rfl⟩) hP hD hS hA rfl rfl rfl (fun H locs hP hD hS => ?_)
      have hP : va_P (dC, dI) cls_ [(mm, .inr (4, [.int (iI (fc_thr false true false false)), .int (iI (mO)), .ref mg, .ref md, .int (iI (mH)), .ref ml, .ref mu, .ref mp, .int (bI (ud)), .int (iI (cs)), .int (iI (mS)), .ref xu, .ref xf, .ref xt, .int (iI (mW)), .int (iI (mF)), .int (bI (rn)), .int (bI (sp)), .int (iI (nd)), .int (iI (rd)), .int (iI (li)), .ref pz, .int (iI (lt))])), (ml, fw_a kI 6 (gL)), (mp, fw_a kI 144 (gP))] H := hP
      have hD : va_D A [(mm, .inr (4, [.int (iI (fc_thr false true false false)), .int (iI (mO)), .ref mg, .ref md, .int (iI (mH)), .ref ml, .ref mu, .ref mp, .int (bI (ud)), .int (iI (cs)), .int (iI (mS)), .ref xu, .ref xf, .ref xt, .int (iI (mW)), .int (iI (mF)), .int (bI (rn)), .int (bI (sp)), .int (iI (nd)), .int (iI (rd)), .int (iI (li)), .ref pz, .int (iI (lt))])), (ml, fw_a kI 6 (gL)), (mp, fw_a kI 144 (gP))] := hD
      refine fw_cast (show (.int (bI (decide (0 < fc_thr false true false false))) : Value) = .int (bI (true)) from congrArg (fun b => Value.int (bI b)) (by decide)) ?_
      refine fw_bif_eq (tgt := 40) hx hb d_M_on_35 (by decide) (fun c_7 => ?_) (fun c_7 => ?_)
      · exact absurd c_7 (by decide)
      · refine lv_iconst (v := (iI (0))) hx hb d_M_on_38 (by decide) ?_
        have e9 : k_on u mi = (fc_thr false true false false) := by simp [k_on, fc_thr, c_1, c_2] <;> omega
        have e8 : ¬ k_on u mi = 0 := by rw [e9]; decide
        refine fw_iret hx hb hr hlocks hS ?_ ?_ d_M_on_39
        · exact Or.inl ⟨e8, by rw [e9]; exact hP⟩
        · rw [if_neg e8]
  · refine lv_iconst (v := (bI (true))) hx hb d_M_on_10 (by decide) ?_
    refine lv_goto (tgt := 15) hx hb d_M_on_11 (by decide) ?_
    refine lv_iload_n hx hb d_M_on_15 rfl (lv_at hl 2 rfl) ?_
    refine lv_iconst (v := (iI (0))) hx hb d_M_on_16 (by decide) ?_
    refine lv_bipush (v := (iI (59))) hx hb d_M_on_17 (by decide) ?_
    refine fw_callR (va_runS (As := [.int (iI (mi)), .int (iI (0)), .int (iI (59))]) (rest := [.int (bI (true)), .ref mm]) ⟨hx, hb, hml, hown, hts⟩ (c_M_in l dC dI  mi 0 59 ⟨by omega, by omega⟩ ⟨by omega, by omega⟩ ⟨by omega, by omega⟩) (cwS 3 hts (gw_S kw_649 kw_650 kw_5 kw_651) rfl rfl rfl (by decide +kernel) ⟨Nat.le_of_ble_eq_true rfl, Nat.le_of_ble_eq_true rfl⟩) (fw_preRS hP hK hN [] [] rfl rfl) rfl rfl hl.1 rfl (lv_room (Nat.le_of_ble_eq_true rfl)) d_M_on_19 ⟨Nat.le_of_ble_eq_true rfl, Nat.le_of_ble_eq_true rfl⟩).run ?_
    refine fw_bif_ne (tgt := 29) hx hb d_M_on_22 (by decide) (fun c_8 => ?_) (fun c_8 => ?_)
    · refine lv_iconst (v := (bI (false))) hx hb d_M_on_29 (by decide) ?_
      refine lv_iconst (v := (bI (false))) hx hb d_M_on_30 (by decide) ?_
      refine lv_iconst (v := (bI (false))) hx hb d_M_on_31 (by decide) ?_
      refine fw_calliP [0] (va_runV (As := [.int (bI (true)), .int (bI (false)), .int (bI (false)), .int (bI (false))]) (rest := []) ⟨hx, hb, hml, hown, hts⟩ (c_M_throwing l dC dI  _ mm th mO mg md mH ml mu mp ud cs mS xu xf xt mW mF rn sp nd rd li pz lt true false false false ) (cwV 4 hts (gw_V kw_652 kw_654 ks_M_throwing kw_5 kw_655) rfl rfl rfl (by decide +kernel) ⟨Nat.le_of_ble_eq_true rfl, Nat.le_of_ble_eq_true rfl⟩) (fw_preV (ci := 4) (q0 := 0) hP hK hD hN [0] [] rfl rfl rfl rfl rfl) rfl rfl hl.1 rfl (lv_room (Nat.le_of_ble_eq_true rfl)) d_M_on_32 ⟨Nat.le_of_ble_eq_true rfl, Nat.le_of_ble_eq_true rfl⟩) hP hD hS hA rfl rfl rfl (fun H locs hP hD hS => ?_)
      have hP : va_P (dC, dI) cls_ [(mm, .inr (4, [.int (iI (fc_thr true false false false)), .int (iI (mO)), .ref mg, .ref md, .int (iI (mH)), .ref ml, .ref mu, .ref mp, .int (bI (ud)), .int (iI (cs)), .int (iI (mS)), .ref xu, .ref xf, .ref xt, .int (iI (mW)), .int (iI (mF)), .int (bI (rn)), .int (bI (sp)), .int (iI (nd)), .int (iI (rd)), .int (iI (li)), .ref pz, .int (iI (lt))])), (ml, fw_a kI 6 (gL)), (mp, fw_a kI 144 (gP))] H := hP
      have hD : va_D A [(mm, .inr (4, [.int (iI (fc_thr true false false false)), .int (iI (mO)), .ref mg, .ref md, .int (iI (mH)), .ref ml, .ref mu, .ref mp, .int (bI (ud)), .int (iI (cs)), .int (iI (mS)), .ref xu, .ref xf, .ref xt, .int (iI (mW)), .int (iI (mF)), .int (bI (rn)), .int (bI (sp)), .int (iI (nd)), .int (iI (rd)), .int (iI (li)), .ref pz, .int (iI (lt))])), (ml, fw_a kI 6 (gL)), (mp, fw_a kI 144 (gP))] := hD
      refine fw_cast (show (.int (bI (decide (0 < fc_thr true false false false))) : Value) = .int (bI (true)) from congrArg (fun b => Value.int (bI b)) (by decide)) ?_
      refine fw_bif_eq (tgt := 40) hx hb d_M_on_35 (by decide) (fun c_9 => ?_) (fun c_9 => ?_)
      · exact absurd c_9 (by decide)
      · refine lv_iconst (v := (iI (0))) hx hb d_M_on_38 (by decide) ?_
        have e9 : k_on u mi = (fc_thr true false false false) := by simp [k_on, fc_thr, c_1, c_8] <;> omega
        have e8 : ¬ k_on u mi = 0 := by rw [e9]; decide
        refine fw_iret hx hb hr hlocks hS ?_ ?_ d_M_on_39
        · exact Or.inl ⟨e8, by rw [e9]; exact hP⟩
        · rw [if_neg e8]
    · refine lv_iconst (v := (bI (true))) hx hb d_M_on_25 (by decide) ?_
      refine lv_goto (tgt := 30) hx hb d_M_on_26 (by decide) ?_
      refine lv_iconst (v := (bI (false))) hx hb d_M_on_30 (by decide) ?_
      refine lv_iconst (v := (bI (false))) hx hb d_M_on_31 (by decide) ?_
      refine fw_calliP [0] (va_runV (As := [.int (bI (true)), .int (bI (true)), .int (bI (false)), .int (bI (false))]) (rest := []) ⟨hx, hb, hml, hown, hts⟩ (c_M_throwing l dC dI  _ mm th mO mg md mH ml mu mp ud cs mS xu xf xt mW mF rn sp nd rd li pz lt true true false false ) (cwV 4 hts (gw_V kw_652 kw_654 ks_M_throwing kw_5 kw_655) rfl rfl rfl (by decide +kernel) ⟨Nat.le_of_ble_eq_true rfl, Nat.le_of_ble_eq_true rfl⟩) (fw_preV (ci := 4) (q0 := 0) hP hK hD hN [0] [] rfl rfl rfl rfl rfl) rfl rfl hl.1 rfl (lv_room (Nat.le_of_ble_eq_true rfl)) d_M_on_32 ⟨Nat.le_of_ble_eq_true rfl, Nat.le_of_ble_eq_true rfl⟩) hP hD hS hA rfl rfl rfl (fun H locs hP hD hS => ?_)
      have hP : va_P (dC, dI) cls_ [(mm, .inr (4, [.int (iI (fc_thr true true false false)), .int (iI (mO)), .ref mg, .ref md, .int (iI (mH)), .ref ml, .ref mu, .ref mp, .int (bI (ud)), .int (iI (cs)), .int (iI (mS)), .ref xu, .ref xf, .ref xt, .int (iI (mW)), .int (iI (mF)), .int (bI (rn)), .int (bI (sp)), .int (iI (nd)), .int (iI (rd)), .int (iI (li)), .ref pz, .int (iI (lt))])), (ml, fw_a kI 6 (gL)), (mp, fw_a kI 144 (gP))] H := hP
      have hD : va_D A [(mm, .inr (4, [.int (iI (fc_thr true true false false)), .int (iI (mO)), .ref mg, .ref md, .int (iI (mH)), .ref ml, .ref mu, .ref mp, .int (bI (ud)), .int (iI (cs)), .int (iI (mS)), .ref xu, .ref xf, .ref xt, .int (iI (mW)), .int (iI (mF)), .int (bI (rn)), .int (bI (sp)), .int (iI (nd)), .int (iI (rd)), .int (iI (li)), .ref pz, .int (iI (lt))])), (ml, fw_a kI 6 (gL)), (mp, fw_a kI 144 (gP))] := hD
      refine fw_cast (show (.int (bI (decide (0 < fc_thr true true false false))) : Value) = .int (bI (true)) from congrArg (fun b => Value.int (bI b)) (by decide)) ?_
      refine fw_bif_eq (tgt := 40) hx hb d_M_on_35 (by decide) (fun c_10 => ?_) (fun c_10 => ?_)
      · exact absurd c_10 (by decide)
      · refine lv_iconst (v := (iI (0))) hx hb d_M_on_38 (by decide) ?_
        have e9 : k_on u mi = (fc_thr true true false false) := by simp [k_on, fc_thr, c_1, c_8] <;> omega
        have e8 : ¬ k_on u mi = 0 := by rw [e9]; decide
        refine fw_iret hx hb hr hlocks hS ?_ ?_ d_M_on_39
        · exact Or.inl ⟨e8, by rw [e9]; exact hP⟩
        · rw [if_neg e8]
