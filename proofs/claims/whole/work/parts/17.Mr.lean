def fm_sm (gP : Nat → Int) (z : Int) (j k : Nat) : Bool := decide (gP (3 * j + k) = gP (72 + 18 * z.toNat + 3 * j + k))
def fm_cmp (gP : Nat → Int) (z : Int) (j : Nat) : Int := if fm_all (fm_sm gP z j) 3 = true then 0 else 1
theorem fw_upb {f : Nat → Int} {k : Nat} {v lo hi : Int} (h : ∀ j, lo ≤ f j ∧ f j ≤ hi) (h1 : lo ≤ v) (h2 : v ≤ hi) : ∀ j, lo ≤ fw_up f k v j ∧ fw_up f k v j ≤ hi := by
  intro j
  unfold fw_up
  split
  · exact ⟨h1, h2⟩
  · exact h j
def km_heat (mO mH o le us u mi : Int) (gP gU gL xU xF xT : Nat → Int) (nS : Nat) : Int := if fc_in o 0 (mO - 1) = false then 1 else if fc_in u 0 2 = true then (if mH < 6 then (if fc_in le 1 20 = false then 3 else if fc_in us 1 7 = false then 3 else if fc_in mi 0 59 = true then (if fm_fits gP (fw_up gU mH.toNat us) (fw_up gL mH.toNat le) xU xF xT mH.toNat nS mH u mi = true then 0 else 4) else 3) else 2) else 1
set_option maxHeartbeats 4000000 in
set_option maxRecDepth 100000 in
theorem c_M_compare (l : Launch) (dC : Nat → ClassId) (dI : Nat → Nat → Nat) (sz : Nat) (mm : Nat) (th : Int) (mO : Int) (mg : Nat) (md : Nat) (mH : Int) (ml : Nat) (mu : Nat) (mp : Nat) (ud : Bool) (cs : Int) (mS : Int) (xu : Nat) (xf : Nat) (xt : Nat) (mW : Int) (mF : Int) (rn : Bool) (sp : Bool) (nd : Int) (rd : Int) (li : Int) (pz : Nat) (lt : Int) (gP : Nat → Int) (kI : ClassId) (z : Int) (m1 : 0 ≤ mH) (m2 : mH ≤ 6) (hgP : ∀ j, -1 ≤ gP j ∧ gP j ≤ 60) (hb_z : fw_b z) (c1 : 0 ≤ cs) (c2 : cs < 16) : Met l y_M_compare (Cond.code y_M_compare b_M_compare 6 (some .int) :: gw) ({ frames := 2, locals := 43, cells := 0, slots := 0 }) (fw_Pc (dC, dI) [.ref mm, .int (iI (z))] [(mm, .inr (4, [.int (iI (th)), .int (iI (mO)), .ref mg, .ref md, .int (iI (mH)), .ref ml, .ref mu, .ref mp, .int (bI (ud)), .int (iI (cs)), .int (iI (mS)), .ref xu, .ref xf, .ref xt, .int (iI (mW)), .int (iI (mF)), .int (bI (rn)), .int (bI (sp)), .int (iI (nd)), .int (iI (rd)), .int (iI (li)), .ref pz, .int (iI (lt))])), (mp, fw_a kI 144 (gP))] [(kI, .int)] sz) (fw_Qi (iI (if k_use z (fc_bit cs) = 0 then fc_sum (fm_cmp gP z) mH.toNat else 0)) (fun H => (¬ k_use z (fc_bit cs) = 0 ∧ va_P (dC, dI) cls_ [(mm, .inr (4, [.int (iI (k_use z (fc_bit cs))), .int (iI (mO)), .ref mg, .ref md, .int (iI (mH)), .ref ml, .ref mu, .ref mp, .int (bI (ud)), .int (iI (cs)), .int (iI (mS)), .ref xu, .ref xf, .ref xt, .int (iI (mW)), .int (iI (mF)), .int (bI (rn)), .int (bI (sp)), .int (iI (nd)), .int (iI (rd)), .int (iI (li)), .ref pz, .int (iI (lt))])), (mp, fw_a kI 144 (gP))] H) ∨ (k_use z (fc_bit cs) = 0 ∧ va_P (dC, dI) cls_ [(mm, .inr (4, [.int (iI (0)), .int (iI (mO)), .ref mg, .ref md, .int (iI (mH)), .ref ml, .ref mu, .ref mp, .int (bI (ud)), .int (iI (cs)), .int (iI (mS)), .ref xu, .ref xf, .ref xt, .int (iI (mW)), .int (iI (mF)), .int (bI (rn)), .int (bI (sp)), .int (iI (nd)), .int (iI (rd)), .int (iI (li)), .ref pz, .int (iI (lt))])), (mp, fw_a kI 144 (gP))] H)) (va_A [(mm, .inr (4, [.int (iI (th)), .int (iI (mO)), .ref mg, .ref md, .int (iI (mH)), .ref ml, .ref mu, .ref mp, .int (bI (ud)), .int (iI (cs)), .int (iI (mS)), .ref xu, .ref xf, .ref xt, .int (iI (mW)), .int (iI (mF)), .int (bI (rn)), .int (bI (sp)), .int (iI (nd)), .int (iI (rd)), .int (iI (li)), .ref pz, .int (iI (lt))])), (mp, fw_a kI 144 (gP))] sz)) 0 0 (va_A [(mm, .inr (4, [.int (iI (th)), .int (iI (mO)), .ref mg, .ref md, .int (iI (mH)), .ref ml, .ref mu, .ref mp, .int (bI (ud)), .int (iI (cs)), .int (iI (mS)), .ref xu, .ref xf, .ref xt, .int (iI (mW)), .int (iI (mF)), .int (bI (rn)), .int (bI (sp)), .int (iI (nd)), .int (iI (rd)), .int (iI (li)), .ref pz, .int (iI (lt))])), (mp, fw_a kI 144 (gP))] sz) := by
  refine fw_ofW (Qc := fun A => fw_Qi (iI (if k_use z (fc_bit cs) = 0 then fc_sum (fm_cmp gP z) mH.toNat else 0)) (fun H => (¬ k_use z (fc_bit cs) = 0 ∧ va_P (dC, dI) cls_ [(mm, .inr (4, [.int (iI (k_use z (fc_bit cs))), .int (iI (mO)), .ref mg, .ref md, .int (iI (mH)), .ref ml, .ref mu, .ref mp, .int (bI (ud)), .int (iI (cs)), .int (iI (mS)), .ref xu, .ref xf, .ref xt, .int (iI (mW)), .int (iI (mF)), .int (bI (rn)), .int (bI (sp)), .int (iI (nd)), .int (iI (rd)), .int (iI (li)), .ref pz, .int (iI (lt))])), (mp, fw_a kI 144 (gP))] H) ∨ (k_use z (fc_bit cs) = 0 ∧ va_P (dC, dI) cls_ [(mm, .inr (4, [.int (iI (0)), .int (iI (mO)), .ref mg, .ref md, .int (iI (mH)), .ref ml, .ref mu, .ref mp, .int (bI (ud)), .int (iI (cs)), .int (iI (mS)), .ref xu, .ref xf, .ref xt, .int (iI (mW)), .int (iI (mF)), .int (bI (rn)), .int (bI (sp)), .int (iI (nd)), .int (iI (rd)), .int (iI (li)), .ref pz, .int (iI (lt))])), (mp, fw_a kI 144 (gP))] H)) A) (by decide) (Nat.le_of_ble_eq_true rfl) ?_
  intro p e s m below meth c A ls hx hb hr hts hown hlocks hnm hml hsz hP hK hD hN hA hS hl
  have hl : lv_has ls 6 [(0, .ref mm), (1, .int (iI (z)))] := hl
  refine lv_aload_n hx hb d_M_compare_0 rfl (lv_at hl 0 rfl) ?_
  refine lv_iload_n hx hb d_M_compare_1 rfl (lv_at hl 1 rfl) ?_
  refine lv_iconst (v := (iI (0))) hx hb d_M_compare_2 (by decide) ?_
  refine lv_iconst (v := (iI (3))) hx hb d_M_compare_3 (by decide) ?_
  refine fw_callR (va_runS (As := [.int (iI (z)), .int (iI (0)), .int (iI (3))]) (rest := [.ref mm]) ⟨hx, hb, hml, hown, hts⟩ (c_M_in l dC dI  z 0 3 ⟨by omega, by omega⟩ ⟨by omega, by omega⟩ ⟨by omega, by omega⟩) (cwS 3 hts (gw_S kw_649 kw_650 kw_5 kw_651) rfl rfl rfl (by decide +kernel) ⟨Nat.le_of_ble_eq_true rfl, Nat.le_of_ble_eq_true rfl⟩) (fw_preRS hP hK hN [] [] rfl rfl) rfl rfl hl.1 rfl (lv_room (Nat.le_of_ble_eq_true rfl)) d_M_compare_4 ⟨Nat.le_of_ble_eq_true rfl, Nat.le_of_ble_eq_true rfl⟩).run ?_
  refine fw_bif_ne (tgt := 14) hx hb d_M_compare_7 (by decide) (fun c_1 => ?_) (fun c_1 => ?_)
  · refine lv_iconst (v := (bI (false))) hx hb d_M_compare_14 (by decide) ?_
    refine lv_aload_n hx hb d_M_compare_15 rfl (lv_at hl 0 rfl) ?_
    refine lv_iload_n hx hb d_M_compare_16 rfl (lv_at hl 1 rfl) ?_
    refine fw_callR (va_runV (As := [.int (iI (z))]) (rest := [.int (bI (false)), .ref mm]) ⟨hx, hb, hml, hown, hts⟩ (c_M_isKept l dC dI  mm th mO mg md mH ml mu mp ud cs mS xu xf xt mW mF rn sp nd rd li pz lt z ⟨by omega, by omega⟩ (by first | assumption | omega) (by first | assumption | omega)) (cwV 1 hts (gw_V kw_770 kw_772 ks_M_isKept kw_5 kw_773) rfl rfl rfl (by decide +kernel) ⟨Nat.le_of_ble_eq_true rfl, Nat.le_of_ble_eq_true rfl⟩) (fw_preRV (ci := 4) (q0 := 0) hP hK hN [0] [] rfl rfl rfl rfl) rfl rfl hl.1 rfl (lv_room (Nat.le_of_ble_eq_true rfl)) d_M_compare_17 ⟨Nat.le_of_ble_eq_true rfl, Nat.le_of_ble_eq_true rfl⟩).run ?_
    refine fw_bif_ne (tgt := 27) hx hb d_M_compare_20 (by decide) (fun c_2 => ?_) (fun c_2 => ?_)
    · refine lv_iconst (v := (bI (false))) hx hb d_M_compare_27 (by decide) ?_
      refine lv_iconst (v := (bI (false))) hx hb d_M_compare_28 (by decide) ?_
      refine lv_iconst (v := (bI (false))) hx hb d_M_compare_29 (by decide) ?_
      refine fw_calliP [0] (va_runV (As := [.int (bI (false)), .int (bI (false)), .int (bI (false)), .int (bI (false))]) (rest := []) ⟨hx, hb, hml, hown, hts⟩ (c_M_throwing l dC dI  _ mm th mO mg md mH ml mu mp ud cs mS xu xf xt mW mF rn sp nd rd li pz lt false false false false ) (cwV 4 hts (gw_V kw_652 kw_654 ks_M_throwing kw_5 kw_655) rfl rfl rfl (by decide +kernel) ⟨Nat.le_of_ble_eq_true rfl, Nat.le_of_ble_eq_true rfl⟩) (fw_preV (ci := 4) (q0 := 0) hP hK hD hN [0] [] rfl rfl rfl rfl rfl) rfl rfl hl.1 rfl (lv_room (Nat.le_of_ble_eq_true rfl)) d_M_compare_30 ⟨Nat.le_of_ble_eq_true rfl, Nat.le_of_ble_eq_true rfl⟩) hP hD hS hA rfl rfl rfl (fun H locs hP hD hS => ?_)
      have hP : va_P (dC, dI) cls_ [(mm, .inr (4, [.int (iI (fc_thr false false false false)), .int (iI (mO)), .ref mg, .ref md, .int (iI (mH)), .ref ml, .ref mu, .ref mp, .int (bI (ud)), .int (iI (cs)), .int (iI (mS)), .ref xu, .ref xf, .ref xt, .int (iI (mW)), .int (iI (mF)), .int (bI (rn)), .int (bI (sp)), .int (iI (nd)), .int (iI (rd)), .int (iI (li)), .ref pz, .int (iI (lt))])), (mp, fw_a kI 144 (gP))] H := hP
      have hD : va_D A [(mm, .inr (4, [.int (iI (fc_thr false false false false)), .int (iI (mO)), .ref mg, .ref md, .int (iI (mH)), .ref ml, .ref mu, .ref mp, .int (bI (ud)), .int (iI (cs)), .int (iI (mS)), .ref xu, .ref xf, .ref xt, .int (iI (mW)), .int (iI (mF)), .int (bI (rn)), .int (bI (sp)), .int (iI (nd)), .int (iI (rd)), .int (iI (li)), .ref pz, .int (iI (lt))])), (mp, fw_a kI 144 (gP))] := hD
      refine fw_cast (show (.int (bI (decide (0 < fc_thr false false false false))) : Value) = .int (bI (false)) from congrArg (fun b => Value.int (bI b)) (by decide)) ?_
      refine fw_bif_eq (tgt := 38) hx hb d_M_compare_33 (by decide) (fun c_3 => ?_) (fun c_3 => ?_)
      · have q1 := fc_in_t c_1
        refine lv_iconst (v := (iI (0))) hx hb d_M_compare_38 (by decide) ?_
        refine lv_istore_n (lv' := [(2, .int (iI (0))), (0, .ref mm), (1, .int (iI (z)))]) hx hb d_M_compare_39 rfl hl (by decide) rfl (fun ls hl => ?_)
        refine lv_iconst (v := (iI (0))) hx hb d_M_compare_40 (by decide) ?_
        refine lv_istore_n (lv' := [(3, .int (iI (0))), (2, .int (iI (0))), (0, .ref mm), (1, .int (iI (z)))]) hx hb d_M_compare_41 rfl hl (by decide) rfl (fun ls hl => ?_)
        have hlp_42 : ∀ (n : Nat) (i : Nat) (z2 : Int) (z3 : Int) (H : Heap) (locs : List Loc) (ls : Array Slot), (mH.toNat - i) < n → (z3 = (i : Int)) → ((i : Int) ≤ mH) → (z2 = fc_sum (fm_cmp gP z) i) → va_P (dC, dI) cls_ [(mm, .inr (4, [.int (iI (fc_thr false false false false)), .int (iI (mO)), .ref mg, .ref md, .int (iI (mH)), .ref ml, .ref mu, .ref mp, .int (bI (ud)), .int (iI (cs)), .int (iI (mS)), .ref xu, .ref xf, .ref xt, .int (iI (mW)), .int (iI (mF)), .int (bI (rn)), .int (bI (sp)), .int (iI (nd)), .int (iI (rd)), .int (iI (li)), .ref pz, .int (iI (lt))])), (mp, fw_a kI 144 (gP))] H → va_D A [(mm, .inr (4, [.int (iI (fc_thr false false false false)), .int (iI (mO)), .ref mg, .ref md, .int (iI (mH)), .ref ml, .ref mu, .ref mp, .int (bI (ud)), .int (iI (cs)), .int (iI (mS)), .ref xu, .ref xf, .ref xt, .int (iI (mW)), .int (iI (mF)), .int (bI (rn)), .int (bI (sp)), .int (iI (nd)), .int (iI (rd)), .int (iI (li)), .ref pz, .int (iI (lt))])), (mp, fw_a kI 144 (gP))] → va_S A s.heap H locs → lv_has ls 6 [(2, .int (iI (z2))), (3, .int (iI (z3))), (0, .ref mm), (1, .int (iI (z)))] → W p l e ({ frames := 2, locals := 43, cells := 0, slots := 0 }) s m ([.ref mm, .int (iI (z))] : List Value).toArray below meth c H locs 0 0 (MQ below (fw_Qi (iI (if k_use z (fc_bit cs) = 0 then fc_sum (fm_cmp gP z) mH.toNat else 0)) (fun H => (¬ k_use z (fc_bit cs) = 0 ∧ va_P (dC, dI) cls_ [(mm, .inr (4, [.int (iI (k_use z (fc_bit cs))), .int (iI (mO)), .ref mg, .ref md, .int (iI (mH)), .ref ml, .ref mu, .ref mp, .int (bI (ud)), .int (iI (cs)), .int (iI (mS)), .ref xu, .ref xf, .ref xt, .int (iI (mW)), .int (iI (mF)), .int (bI (rn)), .int (bI (sp)), .int (iI (nd)), .int (iI (rd)), .int (iI (li)), .ref pz, .int (iI (lt))])), (mp, fw_a kI 144 (gP))] H) ∨ (k_use z (fc_bit cs) = 0 ∧ va_P (dC, dI) cls_ [(mm, .inr (4, [.int (iI (0)), .int (iI (mO)), .ref mg, .ref md, .int (iI (mH)), .ref ml, .ref mu, .ref mp, .int (bI (ud)), .int (iI (cs)), .int (iI (mS)), .ref xu, .ref xf, .ref xt, .int (iI (mW)), .int (iI (mF)), .int (bI (rn)), .int (bI (sp)), .int (iI (nd)), .int (iI (rd)), .int (iI (li)), .ref pz, .int (iI (lt))])), (mp, fw_a kI 144 (gP))] H)) A) ([.ref mm, .int (iI (z))] : List Value).toArray s 0 0 A) (F0 m 42 ls []) := by
          intro n_42
          induction n_42 with
          | zero => intro i z2 z3 H locs ls hms; exact absurd hms (Nat.not_lt_zero _)
          | succ n_42 ih_42 =>
            intro i z2 z3 H locs ls hms_42 hz hi hs hP hD hS hl
            refine lv_iload_n hx hb d_M_compare_42 rfl (lv_at hl 1 rfl) ?_
            refine lv_aload_n hx hb d_M_compare_43 rfl (lv_at hl 2 rfl) ?_
            refine va_get (D := (dC, dI)) (ci := 4) (v := .int (iI (mH))) (C := R_M) (T := T_M) (N := 23) hx hb hts in_M hown hK hP 0 rfl rfl 4 (by decide) (hts _ kw_575) (fun _ h9 => h9) rfl d_M_compare_44 ?_
            refine fw_icmp_ge (tgt := 132) hx hb d_M_compare_47 (by decide) ⟨by omega, by omega⟩ ⟨by omega, by omega⟩ (fun c_4 => ?_) (fun c_4 => ?_)
            · refine lv_iload_n hx hb d_M_compare_132 rfl (lv_at hl 0 rfl) ?_
              have e9 : k_use z (fc_bit cs) = 0 := by first | (simp [k_use, fc_thr, c_1]; done) | (have q9 := c_2; rw [c_1] at q9; have q8 : fc_bit cs z.toNat = _ := q9; simp [k_use, fc_thr, c_1, q8])
              refine fw_iret hx hb hr hlocks hS ?_ ?_ d_M_compare_133
              · exact Or.inr ⟨e9, hP⟩
              · rw [if_pos e9]
                rw [hs, show i = mH.toNat by omega]
            · refine lv_iconst (v := (bI (true))) hx hb d_M_compare_50 (by decide) ?_
              refine lv_istore (lv' := [(4, .int (bI (true))), (2, .int (iI (z2))), (3, .int (iI (z3))), (0, .ref mm), (1, .int (iI (z)))]) hx hb d_M_compare_51 hl (by decide) rfl (fun ls hl => ?_)
              refine lv_iconst (v := (iI (0))) hx hb d_M_compare_53 (by decide) ?_
              refine lv_istore (lv' := [(5, .int (iI (0))), (4, .int (bI (true))), (2, .int (iI (z2))), (3, .int (iI (z3))), (0, .ref mm), (1, .int (iI (z)))]) hx hb d_M_compare_54 hl (by decide) rfl (fun ls hl => ?_)
              have hlp_56 : ∀ (n : Nat) (k : Nat) (sm : Bool) (z5 : Int) (H : Heap) (locs : List Loc) (ls : Array Slot), (3 - k) < n → (z5 = (k : Int)) → (k ≤ 3) → (sm = fm_all (fm_sm gP z i) k) → va_P (dC, dI) cls_ [(mm, .inr (4, [.int (iI (fc_thr false false false false)), .int (iI (mO)), .ref mg, .ref md, .int (iI (mH)), .ref ml, .ref mu, .ref mp, .int (bI (ud)), .int (iI (cs)), .int (iI (mS)), .ref xu, .ref xf, .ref xt, .int (iI (mW)), .int (iI (mF)), .int (bI (rn)), .int (bI (sp)), .int (iI (nd)), .int (iI (rd)), .int (iI (li)), .ref pz, .int (iI (lt))])), (mp, fw_a kI 144 (gP))] H → va_D A [(mm, .inr (4, [.int (iI (fc_thr false false false false)), .int (iI (mO)), .ref mg, .ref md, .int (iI (mH)), .ref ml, .ref mu, .ref mp, .int (bI (ud)), .int (iI (cs)), .int (iI (mS)), .ref xu, .ref xf, .ref xt, .int (iI (mW)), .int (iI (mF)), .int (bI (rn)), .int (bI (sp)), .int (iI (nd)), .int (iI (rd)), .int (iI (li)), .ref pz, .int (iI (lt))])), (mp, fw_a kI 144 (gP))] → va_S A s.heap H locs → lv_has ls 6 [(4, .int (bI (sm))), (5, .int (iI (z5))), (2, .int (iI (z2))), (3, .int (iI (z3))), (0, .ref mm), (1, .int (iI (z)))] → W p l e ({ frames := 2, locals := 43, cells := 0, slots := 0 }) s m ([.ref mm, .int (iI (z))] : List Value).toArray below meth c H locs 0 0 (MQ below (fw_Qi (iI (if k_use z (fc_bit cs) = 0 then fc_sum (fm_cmp gP z) mH.toNat else 0)) (fun H => (¬ k_use z (fc_bit cs) = 0 ∧ va_P (dC, dI) cls_ [(mm, .inr (4, [.int (iI (k_use z (fc_bit cs))), .int (iI (mO)), .ref mg, .ref md, .int (iI (mH)), .ref ml, .ref mu, .ref mp, .int (bI (ud)), .int (iI (cs)), .int (iI (mS)), .ref xu, .ref xf, .ref xt, .int (iI (mW)), .int (iI (mF)), .int (bI (rn)), .int (bI (sp)), .int (iI (nd)), .int (iI (rd)), .int (iI (li)), .ref pz, .int (iI (lt))])), (mp, fw_a kI 144 (gP))] H) ∨ (k_use z (fc_bit cs) = 0 ∧ va_P (dC, dI) cls_ [(mm, .inr (4, [.int (iI (0)), .int (iI (mO)), .ref mg, .ref md, .int (iI (mH)), .ref ml, .ref mu, .ref mp, .int (bI (ud)), .int (iI (cs)), .int (iI (mS)), .ref xu, .ref xf, .ref xt, .int (iI (mW)), .int (iI (mF)), .int (bI (rn)), .int (bI (sp)), .int (iI (nd)), .int (iI (rd)), .int (iI (li)), .ref pz, .int (iI (lt))])), (mp, fw_a kI 144 (gP))] H)) A) ([.ref mm, .int (iI (z))] : List Value).toArray s 0 0 A) (F0 m 56 ls []) := by
                intro n_56
                induction n_56 with
                | zero => intro k sm z5 H locs ls hms; exact absurd hms (Nat.not_lt_zero _)
                | succ n_56 ih_56 =>
                  intro k sm z5 H locs ls hms_56 hk hj hm hP hD hS hl
                  refine lv_iload hx hb d_M_compare_56 (lv_at hl 1 rfl) ?_
                  refine lv_iconst (v := (iI (3))) hx hb d_M_compare_58 (by decide) ?_
                  refine fw_icmp_ge (tgt := 113) hx hb d_M_compare_59 (by decide) ⟨by omega, by omega⟩ ⟨by omega, by omega⟩ (fun c_5 => ?_) (fun c_5 => ?_)
                  · refine lv_iload_n hx hb d_M_compare_113 rfl (lv_at hl 2 rfl) ?_
                    refine lv_iload hx hb d_M_compare_114 (lv_at hl 0 rfl) ?_
                    refine fw_bif_eq (tgt := 123) hx hb d_M_compare_116 (by decide) (fun c_6 => ?_) (fun c_6 => ?_)
                    · refine lv_iconst (v := (iI (1))) hx hb d_M_compare_123 (by decide) ?_
                      refine fw_iadd hx hb d_M_compare_124 ?_
                      refine lv_istore_n (lv' := [(2, .int (iI (z2 + 1))), (4, .int (bI (sm))), (5, .int (iI (z5))), (3, .int (iI (z3))), (0, .ref mm), (1, .int (iI (z)))]) hx hb d_M_compare_125 rfl hl (by decide) rfl (fun ls hl => ?_)
                      refine lv_iinc (v := iI (z3 + 1)) (lv' := [(3, .int (iI (z3 + 1))), (2, .int (iI (z2 + 1))), (4, .int (bI (sm))), (5, .int (iI (z5))), (0, .ref mm), (1, .int (iI (z)))]) hx hb d_M_compare_126 hl (k := 3) rfl (by rw [show Int32.ofInt 1 = iI 1 from rfl, iI_add]) (by decide) rfl (fun ls hl => ?_)
                      refine lv_goto (tgt := 42) hx hb d_M_compare_129 (by decide) ?_
                      exact ih_42 (i + 1) (z2 + 1) (z3 + 1) _ _ ls (by omega) (by omega) (by omega) (by rw [hs]; show _ = fc_sum _ i + fm_cmp gP z i; unfold fm_cmp; rw [show 3 = k by omega, ← hm, c_6]; rfl) hP hD hS (lv_sub hl [1, 0, 4, 5] rfl)
                    · refine lv_iconst (v := (iI (0))) hx hb d_M_compare_119 (by decide) ?_
                      refine lv_goto (tgt := 124) hx hb d_M_compare_120 (by decide) ?_
                      refine fw_iadd hx hb d_M_compare_124 ?_
                      refine lv_istore_n (lv' := [(2, .int (iI (z2 + 0))), (4, .int (bI (sm))), (5, .int (iI (z5))), (3, .int (iI (z3))), (0, .ref mm), (1, .int (iI (z)))]) hx hb d_M_compare_125 rfl hl (by decide) rfl (fun ls hl => ?_)
                      refine lv_iinc (v := iI (z3 + 1)) (lv' := [(3, .int (iI (z3 + 1))), (2, .int (iI (z2 + 0))), (4, .int (bI (sm))), (5, .int (iI (z5))), (0, .ref mm), (1, .int (iI (z)))]) hx hb d_M_compare_126 hl (k := 3) rfl (by rw [show Int32.ofInt 1 = iI 1 from rfl, iI_add]) (by decide) rfl (fun ls hl => ?_)
                      refine lv_goto (tgt := 42) hx hb d_M_compare_129 (by decide) ?_
                      exact ih_42 (i + 1) (z2 + 0) (z3 + 1) _ _ ls (by omega) (by omega) (by omega) (by rw [hs]; show _ = fc_sum _ i + fm_cmp gP z i; unfold fm_cmp; rw [show 3 = k by omega, ← hm, c_6]; rfl) hP hD hS (lv_sub hl [1, 0, 4, 5] rfl)
                  · refine lv_iload hx hb d_M_compare_62 (lv_at hl 0 rfl) ?_
                    refine fw_bif_eq (tgt := 104) hx hb d_M_compare_64 (by decide) (fun c_7 => ?_) (fun c_7 => ?_)
                    · refine lv_iconst (v := (bI (false))) hx hb d_M_compare_104 (by decide) ?_
                      refine lv_istore (lv' := [(4, .int (bI (false))), (5, .int (iI (z5))), (2, .int (iI (z2))), (3, .int (iI (z3))), (0, .ref mm), (1, .int (iI (z)))]) hx hb d_M_compare_105 hl (by decide) rfl (fun ls hl => ?_)
                      refine lv_iinc (v := iI (z5 + 1)) (lv' := [(5, .int (iI (z5 + 1))), (4, .int (bI (false))), (2, .int (iI (z2))), (3, .int (iI (z3))), (0, .ref mm), (1, .int (iI (z)))]) hx hb d_M_compare_107 hl (k := 1) rfl (by rw [show Int32.ofInt 1 = iI 1 from rfl, iI_add]) (by decide) rfl (fun ls hl => ?_)
                      refine lv_goto (tgt := 56) hx hb d_M_compare_110 (by decide) ?_
                      exact ih_56 (k + 1) false (z5 + 1) _ _ ls (by omega) (by omega) (by omega) (by simp only [fm_all]; rw [← hm]; simp [fm_sm, c_1, c_2, c_4, c_5, c_7]) hP hD hS (lv_sub hl [1, 0, 2, 3, 4, 5] rfl)
                    · have q2 := hgP (3 * i + k)
                      have q3 := hgP (72 + 18 * z.toNat + 3 * i + k)
                      refine lv_aload_n hx hb d_M_compare_67 rfl (lv_at hl 4 rfl) ?_
                      refine va_get (D := (dC, dI)) (ci := 4) (v := .ref mp) (C := R_M) (T := T_M) (N := 23) hx hb hts in_M hown hK hP 0 rfl rfl 7 (by decide) (hts _ kw_578) (fun _ h9 => h9) rfl d_M_compare_68 ?_
                      refine lv_iconst (v := (iI (3))) hx hb d_M_compare_71 (by decide) ?_
                      refine lv_iload_n hx hb d_M_compare_72 rfl (lv_at hl 3 rfl) ?_
                      refine fw_imul hx hb d_M_compare_73 ?_
                      refine lv_iload hx hb d_M_compare_74 (lv_at hl 1 rfl) ?_
                      refine fw_iadd hx hb d_M_compare_76 ?_
                      refine fw_iald hx hb hK hP 1 0 rfl rfl (((3 * i) + k)) (by omega) (by omega) (by omega) d_M_compare_77 ?_
                      refine lv_aload_n hx hb d_M_compare_78 rfl (lv_at hl 4 rfl) ?_
                      refine va_get (D := (dC, dI)) (ci := 4) (v := .ref mp) (C := R_M) (T := T_M) (N := 23) hx hb hts in_M hown hK hP 0 rfl rfl 7 (by decide) (hts _ kw_578) (fun _ h9 => h9) rfl d_M_compare_79 ?_
                      refine lv_bipush (v := (iI (72))) hx hb d_M_compare_82 (by decide) ?_
                      refine lv_bipush (v := (iI (18))) hx hb d_M_compare_84 (by decide) ?_
                      refine lv_iload_n hx hb d_M_compare_86 rfl (lv_at hl 5 rfl) ?_
                      refine fw_imul hx hb d_M_compare_87 ?_
                      refine fw_iadd hx hb d_M_compare_88 ?_
                      refine lv_iconst (v := (iI (3))) hx hb d_M_compare_89 (by decide) ?_
                      refine lv_iload_n hx hb d_M_compare_90 rfl (lv_at hl 3 rfl) ?_
                      refine fw_imul hx hb d_M_compare_91 ?_
                      refine fw_iadd hx hb d_M_compare_92 ?_
                      refine lv_iload hx hb d_M_compare_93 (lv_at hl 1 rfl) ?_
                      refine fw_iadd hx hb d_M_compare_95 ?_
                      refine fw_iald hx hb hK hP 1 0 rfl rfl ((((72 + (18 * z.toNat)) + (3 * i)) + k)) (by omega) (by omega) (by omega) d_M_compare_96 ?_
                      refine fw_icmp_ne (tgt := 104) hx hb d_M_compare_97 (by decide) ⟨by omega, by omega⟩ ⟨by omega, by omega⟩ (fun c_8 => ?_) (fun c_8 => ?_)
                      · refine lv_iconst (v := (bI (false))) hx hb d_M_compare_104 (by decide) ?_
                        refine lv_istore (lv' := [(4, .int (bI (false))), (5, .int (iI (z5))), (2, .int (iI (z2))), (3, .int (iI (z3))), (0, .ref mm), (1, .int (iI (z)))]) hx hb d_M_compare_105 hl (by decide) rfl (fun ls hl => ?_)
                        refine lv_iinc (v := iI (z5 + 1)) (lv' := [(5, .int (iI (z5 + 1))), (4, .int (bI (false))), (2, .int (iI (z2))), (3, .int (iI (z3))), (0, .ref mm), (1, .int (iI (z)))]) hx hb d_M_compare_107 hl (k := 1) rfl (by rw [show Int32.ofInt 1 = iI 1 from rfl, iI_add]) (by decide) rfl (fun ls hl => ?_)
                        refine lv_goto (tgt := 56) hx hb d_M_compare_110 (by decide) ?_
                        exact ih_56 (k + 1) false (z5 + 1) _ _ ls (by omega) (by omega) (by omega) (by simp only [fm_all]; rw [← hm]; simp [fm_sm, c_1, c_2, c_4, c_5, c_7, c_8]) hP hD hS (lv_sub hl [1, 0, 2, 3, 4, 5] rfl)
                      · refine lv_iconst (v := (bI (true))) hx hb d_M_compare_100 (by decide) ?_
                        refine lv_goto (tgt := 105) hx hb d_M_compare_101 (by decide) ?_
                        refine lv_istore (lv' := [(4, .int (bI (true))), (5, .int (iI (z5))), (2, .int (iI (z2))), (3, .int (iI (z3))), (0, .ref mm), (1, .int (iI (z)))]) hx hb d_M_compare_105 hl (by decide) rfl (fun ls hl => ?_)
                        refine lv_iinc (v := iI (z5 + 1)) (lv' := [(5, .int (iI (z5 + 1))), (4, .int (bI (true))), (2, .int (iI (z2))), (3, .int (iI (z3))), (0, .ref mm), (1, .int (iI (z)))]) hx hb d_M_compare_107 hl (k := 1) rfl (by rw [show Int32.ofInt 1 = iI 1 from rfl, iI_add]) (by decide) rfl (fun ls hl => ?_)
                        refine lv_goto (tgt := 56) hx hb d_M_compare_110 (by decide) ?_
                        exact ih_56 (k + 1) true (z5 + 1) _ _ ls (by omega) (by omega) (by omega) (by simp only [fm_all]; rw [← hm]; simp [fm_sm, c_1, c_2, c_4, c_5, c_7, c_8]) hP hD hS (lv_sub hl [1, 0, 2, 3, 4, 5] rfl)
              exact hlp_56 ((3 - 0) + 1) 0 true 0 _ _ ls (Nat.lt_succ_self _) rfl (by omega) rfl hP hD hS (lv_sub hl [1, 0, 2, 3, 4, 5] rfl)
        exact hlp_42 ((mH.toNat - 0) + 1) 0 0 0 _ _ ls (Nat.lt_succ_self _) rfl (by omega) rfl hP hD hS (lv_sub hl [1, 0, 2, 3] rfl)
      · exact absurd c_3 (by decide)
    · refine lv_iconst (v := (bI (true))) hx hb d_M_compare_23 (by decide) ?_
      refine lv_goto (tgt := 28) hx hb d_M_compare_24 (by decide) ?_
      refine lv_iconst (v := (bI (false))) hx hb d_M_compare_28 (by decide) ?_
      refine lv_iconst (v := (bI (false))) hx hb d_M_compare_29 (by decide) ?_
      refine fw_calliP [0] (va_runV (As := [.int (bI (false)), .int (bI (true)), .int (bI (false)), .int (bI (false))]) (rest := []) ⟨hx, hb, hml, hown, hts⟩ (c_M_throwing l dC dI  _ mm th mO mg md mH ml mu mp ud cs mS xu xf xt mW mF rn sp nd rd li pz lt false true false false ) (cwV 4 hts (gw_V kw_652 kw_654 ks_M_throwing kw_5 kw_655) rfl rfl rfl (by decide +kernel) ⟨Nat.le_of_ble_eq_true rfl, Nat.le_of_ble_eq_true rfl⟩) (fw_preV (ci := 4) (q0 := 0) hP hK hD hN [0] [] rfl rfl rfl rfl rfl) rfl rfl hl.1 rfl (lv_room (Nat.le_of_ble_eq_true rfl)) d_M_compare_30 ⟨Nat.le_of_ble_eq_true rfl, Nat.le_of_ble_eq_true rfl⟩) hP hD hS hA rfl rfl rfl (fun H locs hP hD hS => ?_)
      have hP : va_P (dC, dI) cls_ [(mm, .inr (4, [.int (iI (fc_thr false true false false)), .int (iI (mO)), .ref mg, .ref md, .int (iI (mH)), .ref ml, .ref mu, .ref mp, .int (bI (ud)), .int (iI (cs)), .int (iI (mS)), .ref xu, .ref xf, .ref xt, .int (iI (mW)), .int (iI (mF)), .int (bI (rn)), .int (bI (sp)), .int (iI (nd)), .int (iI (rd)), .int (iI (li)), .ref pz, .int (iI (lt))])), (mp, fw_a kI 144 (gP))] H := hP
      have hD : va_D A [(mm, .inr (4, [.int (iI (fc_thr false true false false)), .int (iI (mO)), .ref mg, .ref md, .int (iI (mH)), .ref ml, .ref mu, .ref mp, .int (bI (ud)), .int (iI (cs)), .int (iI (mS)), .ref xu, .ref xf, .ref xt, .int (iI (mW)), .int (iI (mF)), .int (bI (rn)), .int (bI (sp)), .int (iI (nd)), .int (iI (rd)), .int (iI (li)), .ref pz, .int (iI (lt))])), (mp, fw_a kI 144 (gP))] := hD
      refine fw_cast (show (.int (bI (decide (0 < fc_thr false true false false))) : Value) = .int (bI (true)) from congrArg (fun b => Value.int (bI b)) (by decide)) ?_
      refine fw_bif_eq (tgt := 38) hx hb d_M_compare_33 (by decide) (fun c_9 => ?_) (fun c_9 => ?_)
      · exact absurd c_9 (by decide)
      · refine lv_iconst (v := (iI (0))) hx hb d_M_compare_36 (by decide) ?_
        have e9 : k_use z (fc_bit cs) = (fc_thr false true false false) := by first | (simp [k_use, fc_thr, c_1]; done) | (have q9 := c_2; rw [c_1] at q9; have q8 : fc_bit cs z.toNat = _ := q9; simp [k_use, fc_thr, c_1, q8])
        have e8 : ¬ k_use z (fc_bit cs) = 0 := by rw [e9]; decide
        refine fw_iret hx hb hr hlocks hS ?_ ?_ d_M_compare_37
        · exact Or.inl ⟨e8, by rw [e9]; exact hP⟩
        · rw [if_neg e8]
  · refine lv_iconst (v := (bI (true))) hx hb d_M_compare_10 (by decide) ?_
    refine lv_goto (tgt := 15) hx hb d_M_compare_11 (by decide) ?_
    refine lv_aload_n hx hb d_M_compare_15 rfl (lv_at hl 0 rfl) ?_
    refine lv_iload_n hx hb d_M_compare_16 rfl (lv_at hl 1 rfl) ?_
    refine fw_callR (va_runV (As := [.int (iI (z))]) (rest := [.int (bI (true)), .ref mm]) ⟨hx, hb, hml, hown, hts⟩ (c_M_isKept l dC dI  mm th mO mg md mH ml mu mp ud cs mS xu xf xt mW mF rn sp nd rd li pz lt z ⟨by omega, by omega⟩ (by first | assumption | omega) (by first | assumption | omega)) (cwV 1 hts (gw_V kw_770 kw_772 ks_M_isKept kw_5 kw_773) rfl rfl rfl (by decide +kernel) ⟨Nat.le_of_ble_eq_true rfl, Nat.le_of_ble_eq_true rfl⟩) (fw_preRV (ci := 4) (q0 := 0) hP hK hN [0] [] rfl rfl rfl rfl) rfl rfl hl.1 rfl (lv_room (Nat.le_of_ble_eq_true rfl)) d_M_compare_17 ⟨Nat.le_of_ble_eq_true rfl, Nat.le_of_ble_eq_true rfl⟩).run ?_
    refine fw_bif_ne (tgt := 27) hx hb d_M_compare_20 (by decide) (fun c_10 => ?_) (fun c_10 => ?_)
    · refine lv_iconst (v := (bI (false))) hx hb d_M_compare_27 (by decide) ?_
      refine lv_iconst (v := (bI (false))) hx hb d_M_compare_28 (by decide) ?_
      refine lv_iconst (v := (bI (false))) hx hb d_M_compare_29 (by decide) ?_
      refine fw_calliP [0] (va_runV (As := [.int (bI (true)), .int (bI (false)), .int (bI (false)), .int (bI (false))]) (rest := []) ⟨hx, hb, hml, hown, hts⟩ (c_M_throwing l dC dI  _ mm th mO mg md mH ml mu mp ud cs mS xu xf xt mW mF rn sp nd rd li pz lt true false false false ) (cwV 4 hts (gw_V kw_652 kw_654 ks_M_throwing kw_5 kw_655) rfl rfl rfl (by decide +kernel) ⟨Nat.le_of_ble_eq_true rfl, Nat.le_of_ble_eq_true rfl⟩) (fw_preV (ci := 4) (q0 := 0) hP hK hD hN [0] [] rfl rfl rfl rfl rfl) rfl rfl hl.1 rfl (lv_room (Nat.le_of_ble_eq_true rfl)) d_M_compare_30 ⟨Nat.le_of_ble_eq_true rfl, Nat.le_of_ble_eq_true rfl⟩) hP hD hS hA rfl rfl rfl (fun H locs hP hD hS => ?_)
      have hP : va_P (dC, dI) cls_ [(mm, .inr (4, [.int (iI (fc_thr true false false false)), .int (iI (mO)), .ref mg, .ref md, .int (iI (mH)), .ref ml, .ref mu, .ref mp, .int (bI (ud)), .int (iI (cs)), .int (iI (mS)), .ref xu, .ref xf, .ref xt, .int (iI (mW)), .int (iI (mF)), .int (bI (rn)), .int (bI (sp)), .int (iI (nd)), .int (iI (rd)), .int (iI (li)), .ref pz, .int (iI (lt))])), (mp, fw_a kI 144 (gP))] H := hP
      have hD : va_D A [(mm, .inr (4, [.int (iI (fc_thr true false false false)), .int (iI (mO)), .ref mg, .ref md, .int (iI (mH)), .ref ml, .ref mu, .ref mp, .int (bI (ud)), .int (iI (cs)), .int (iI (mS)), .ref xu, .ref xf, .ref xt, .int (iI (mW)), .int (iI (mF)), .int (bI (rn)), .int (bI (sp)), .int (iI (nd)), .int (iI (rd)), .int (iI (li)), .ref pz, .int (iI (lt))])), (mp, fw_a kI 144 (gP))] := hD
      refine fw_cast (show (.int (bI (decide (0 < fc_thr true false false false))) : Value) = .int (bI (true)) from congrArg (fun b => Value.int (bI b)) (by decide)) ?_
      refine fw_bif_eq (tgt := 38) hx hb d_M_compare_33 (by decide) (fun c_11 => ?_) (fun c_11 => ?_)
      · exact absurd c_11 (by decide)
      · refine lv_iconst (v := (iI (0))) hx hb d_M_compare_36 (by decide) ?_
        have e9 : k_use z (fc_bit cs) = (fc_thr true false false false) := by first | (simp [k_use, fc_thr, c_1]; done) | (have q9 := c_10; rw [c_1] at q9; have q8 : fc_bit cs z.toNat = _ := q9; simp [k_use, fc_thr, c_1, q8])
        have e8 : ¬ k_use z (fc_bit cs) = 0 := by rw [e9]; decide
        refine fw_iret hx hb hr hlocks hS ?_ ?_ d_M_compare_37
        · exact Or.inl ⟨e8, by rw [e9]; exact hP⟩
        · rw [if_neg e8]
    · refine lv_iconst (v := (bI (true))) hx hb d_M_compare_23 (by decide) ?_
      refine lv_goto (tgt := 28) hx hb d_M_compare_24 (by decide) ?_
      refine lv_iconst (v := (bI (false))) hx hb d_M_compare_28 (by decide) ?_
      refine lv_iconst (v := (bI (false))) hx hb d_M_compare_29 (by decide) ?_
      refine fw_calliP [0] (va_runV (As := [.int (bI (true)), .int (bI (true)), .int (bI (false)), .int (bI (false))]) (rest := []) ⟨hx, hb, hml, hown, hts⟩ (c_M_throwing l dC dI  _ mm th mO mg md mH ml mu mp ud cs mS xu xf xt mW mF rn sp nd rd li pz lt true true false false ) (cwV 4 hts (gw_V kw_652 kw_654 ks_M_throwing kw_5 kw_655) rfl rfl rfl (by decide +kernel) ⟨Nat.le_of_ble_eq_true rfl, Nat.le_of_ble_eq_true rfl⟩) (fw_preV (ci := 4) (q0 := 0) hP hK hD hN [0] [] rfl rfl rfl rfl rfl) rfl rfl hl.1 rfl (lv_room (Nat.le_of_ble_eq_true rfl)) d_M_compare_30 ⟨Nat.le_of_ble_eq_true rfl, Nat.le_of_ble_eq_true rfl⟩) hP hD hS hA rfl rfl rfl (fun H locs hP hD hS => ?_)
      have hP : va_P (dC, dI) cls_ [(mm, .inr (4, [.int (iI (fc_thr true true false false)), .int (iI (mO)), .ref mg, .ref md, .int (iI (mH)), .ref ml, .ref mu, .ref mp, .int (bI (ud)), .int (iI (cs)), .int (iI (mS)), .ref xu, .ref xf, .ref xt, .int (iI (mW)), .int (iI (mF)), .int (bI (rn)), .int (bI (sp)), .int (iI (nd)), .int (iI (rd)), .int (iI (li)), .ref pz, .int (iI (lt))])), (mp, fw_a kI 144 (gP))] H := hP
      have hD : va_D A [(mm, .inr (4, [.int (iI (fc_thr true true false false)), .int (iI (mO)), .ref mg, .ref md, .int (iI (mH)), .ref ml, .ref mu, .ref mp, .int (bI (ud)), .int (iI (cs)), .int (iI (mS)), .ref xu, .ref xf, .ref xt, .int (iI (mW)), .int (iI (mF)), .int (bI (rn)), .int (bI (sp)), .int (iI (nd)), .int (iI (rd)), .int (iI (li)), .ref pz, .int (iI (lt))])), (mp, fw_a kI 144 (gP))] := hD
      refine fw_cast (show (.int (bI (decide (0 < fc_thr true true false false))) : Value) = .int (bI (true)) from congrArg (fun b => Value.int (bI b)) (by decide)) ?_
      refine fw_bif_eq (tgt := 38) hx hb d_M_compare_33 (by decide) (fun c_12 => ?_) (fun c_12 => ?_)
      · exact absurd c_12 (by decide)
      · refine lv_iconst (v := (iI (0))) hx hb d_M_compare_36 (by decide) ?_
        have e9 : k_use z (fc_bit cs) = (fc_thr true true false false) := by first | (simp [k_use, fc_thr, c_1]; done) | (have q9 := c_10; rw [c_1] at q9; have q8 : fc_bit cs z.toNat = _ := q9; simp [k_use, fc_thr, c_1, q8])
        have e8 : ¬ k_use z (fc_bit cs) = 0 := by rw [e9]; decide
        refine fw_iret hx hb hr hlocks hS ?_ ?_ d_M_compare_37
        · exact Or.inl ⟨e8, by rw [e9]; exact hP⟩
        · rw [if_neg e8]

set_option maxHeartbeats 4000000 in
set_option maxRecDepth 100000 in
theorem c_M_heat (l : Launch) (dC : Nat → ClassId) (dI : Nat → Nat → Nat) (sz : Nat) (mm : Nat) (th : Int) (mO : Int) (mg : Nat) (md : Nat) (mH : Int) (ml : Nat) (mu : Nat) (mp : Nat) (ud : Bool) (cs : Int) (mS : Int) (xu : Nat) (xf : Nat) (xt : Nat) (mW : Int) (mF : Int) (rn : Bool) (sp : Bool) (nd : Int) (rd : Int) (li : Int) (pz : Nat) (lt : Int) (gL : Nat → Int) (gU : Nat → Int) (gP : Nat → Int) (xU : Nat → Int) (xF : Nat → Int) (xT : Nat → Int) (kI : ClassId) (o : Int) (le : Int) (us : Int) (u : Int) (mi : Int) (m1 : 0 ≤ mH) (m2 : mH ≤ 6) (m6 : 0 ≤ mO) (m7 : mO ≤ 8) (m3 : 0 ≤ mS) (m4 : mS ≤ 10) (m5 : ∀ j : Nat, (j : Int) < mS → fw_b (xU j) ∧ fw_b (xF j) ∧ fw_b (xT j)) (hgP : ∀ j, -1 ≤ gP j ∧ gP j ≤ 60) (hgL : ∀ j, 0 ≤ gL j ∧ gL j ≤ 20) (hgU : ∀ j, 0 ≤ gU j ∧ gU j ≤ 7) (hb_o : fw_b o) (hb_le : fw_b le) (hb_us : fw_b us) (hb_u : fw_b u) (hb_mi : fw_b mi) : Met l y_M_heat (Cond.code y_M_heat b_M_heat 9 (some .int) :: gw) ({ frames := 2, locals := 51, cells := 0, slots := 0 }) (fw_Pc (dC, dI) [.ref mm, .int (iI (o)), .int (iI (le)), .int (iI (us)), .int (iI (u)), .int (iI (mi))] [(mm, .inr (4, [.int (iI (th)), .int (iI (mO)), .ref mg, .ref md, .int (iI (mH)), .ref ml, .ref mu, .ref mp, .int (bI (ud)), .int (iI (cs)), .int (iI (mS)), .ref xu, .ref xf, .ref xt, .int (iI (mW)), .int (iI (mF)), .int (bI (rn)), .int (bI (sp)), .int (iI (nd)), .int (iI (rd)), .int (iI (li)), .ref pz, .int (iI (lt))])), (ml, fw_a kI 6 (gL)), (mu, fw_a kI 6 (gU)), (mp, fw_a kI 144 (gP)), (xu, fw_a kI 10 (xU)), (xf, fw_a kI 10 (xF)), (xt, fw_a kI 10 (xT))] [(kI, .int)] sz) (fw_Qi (iI (if km_heat mO mH o le us u mi gP gU gL xU xF xT mS.toNat = 0 then mH + 1 - 1 else 0)) (fun H => (¬ km_heat mO mH o le us u mi gP gU gL xU xF xT mS.toNat = 0 ∧ va_P (dC, dI) cls_ [(mm, .inr (4, [.int (iI (km_heat mO mH o le us u mi gP gU gL xU xF xT mS.toNat)), .int (iI (mO)), .ref mg, .ref md, .int (iI (mH)), .ref ml, .ref mu, .ref mp, .int (bI (ud)), .int (iI (cs)), .int (iI (mS)), .ref xu, .ref xf, .ref xt, .int (iI (mW)), .int (iI (mF)), .int (bI (rn)), .int (bI (sp)), .int (iI (nd)), .int (iI (rd)), .int (iI (li)), .ref pz, .int (iI (lt))])), (ml, fw_a kI 6 (if km_heat mO mH o le us u mi gP gU gL xU xF xT mS.toNat = 4 then fw_up gL mH.toNat le else gL)), (mu, fw_a kI 6 (if km_heat mO mH o le us u mi gP gU gL xU xF xT mS.toNat = 4 then fw_up gU mH.toNat us else gU)), (mp, fw_a kI 144 (gP)), (xu, fw_a kI 10 (xU)), (xf, fw_a kI 10 (xF)), (xt, fw_a kI 10 (xT))] H) ∨ (km_heat mO mH o le us u mi gP gU gL xU xF xT mS.toNat = 0 ∧ va_P (dC, dI) cls_ [(mm, .inr (4, [.int (iI (0)), .int (iI (mO)), .ref mg, .ref md, .int (iI (mH + 1)), .ref ml, .ref mu, .ref mp, .int (bI (false)), .int (iI (0)), .int (iI (mS)), .ref xu, .ref xf, .ref xt, .int (iI (mW)), .int (iI (mF)), .int (bI (rn)), .int (bI (sp)), .int (iI (nd)), .int (iI (rd)), .int (iI (li)), .ref pz, .int (iI (lt))])), (ml, fw_a kI 6 (fw_up gL mH.toNat le)), (mu, fw_a kI 6 (fw_up gU mH.toNat us)), (mp, fw_a kI 144 (fw_up (fw_up (fw_up gP (3 * mH.toNat) u) (3 * mH.toNat + 1) mi) (3 * mH.toNat + 2) o)), (xu, fw_a kI 10 (xU)), (xf, fw_a kI 10 (xF)), (xt, fw_a kI 10 (xT))] H)) (va_A [(mm, .inr (4, [.int (iI (th)), .int (iI (mO)), .ref mg, .ref md, .int (iI (mH)), .ref ml, .ref mu, .ref mp, .int (bI (ud)), .int (iI (cs)), .int (iI (mS)), .ref xu, .ref xf, .ref xt, .int (iI (mW)), .int (iI (mF)), .int (bI (rn)), .int (bI (sp)), .int (iI (nd)), .int (iI (rd)), .int (iI (li)), .ref pz, .int (iI (lt))])), (ml, fw_a kI 6 (gL)), (mu, fw_a kI 6 (gU)), (mp, fw_a kI 144 (gP)), (xu, fw_a kI 10 (xU)), (xf, fw_a kI 10 (xF)), (xt, fw_a kI 10 (xT))] sz)) 0 0 (va_A [(mm, .inr (4, [.int (iI (th)), .int (iI (mO)), .ref mg, .ref md, .int (iI (mH)), .ref ml, .ref mu, .ref mp, .int (bI (ud)), .int (iI (cs)), .int (iI (mS)), .ref xu, .ref xf, .ref xt, .int (iI (mW)), .int (iI (mF)), .int (bI (rn)), .int (bI (sp)), .int (iI (nd)), .int (iI (rd)), .int (iI (li)), .ref pz, .int (iI (lt))])), (ml, fw_a kI 6 (gL)), (mu, fw_a kI 6 (gU)), (mp, fw_a kI 144 (gP)), (xu, fw_a kI 10 (xU)), (xf, fw_a kI 10 (xF)), (xt, fw_a kI 10 (xT))] sz) := by
  refine fw_ofW (Qc := fun A => fw_Qi (iI (if km_heat mO mH o le us u mi gP gU gL xU xF xT mS.toNat = 0 then mH + 1 - 1 else 0)) (fun H => (¬ km_heat mO mH o le us u mi gP gU gL xU xF xT mS.toNat = 0 ∧ va_P (dC, dI) cls_ [(mm, .inr (4, [.int (iI (km_heat mO mH o le us u mi gP gU gL xU xF xT mS.toNat)), .int (iI (mO)), .ref mg, .ref md, .int (iI (mH)), .ref ml, .ref mu, .ref mp, .int (bI (ud)), .int (iI (cs)), .int (iI (mS)), .ref xu, .ref xf, .ref xt, .int (iI (mW)), .int (iI (mF)), .int (bI (rn)), .int (bI (sp)), .int (iI (nd)), .int (iI (rd)), .int (iI (li)), .ref pz, .int (iI (lt))])), (ml, fw_a kI 6 (if km_heat mO mH o le us u mi gP gU gL xU xF xT mS.toNat = 4 then fw_up gL mH.toNat le else gL)), (mu, fw_a kI 6 (if km_heat mO mH o le us u mi gP gU gL xU xF xT mS.toNat = 4 then fw_up gU mH.toNat us else gU)), (mp, fw_a kI 144 (gP)), (xu, fw_a kI 10 (xU)), (xf, fw_a kI 10 (xF)), (xt, fw_a kI 10 (xT))] H) ∨ (km_heat mO mH o le us u mi gP gU gL xU xF xT mS.toNat = 0 ∧ va_P (dC, dI) cls_ [(mm, .inr (4, [.int (iI (0)), .int (iI (mO)), .ref mg, .ref md, .int (iI (mH + 1)), .ref ml, .ref mu, .ref mp, .int (bI (false)), .int (iI (0)), .int (iI (mS)), .ref xu, .ref xf, .ref xt, .int (iI (mW)), .int (iI (mF)), .int (bI (rn)), .int (bI (sp)), .int (iI (nd)), .int (iI (rd)), .int (iI (li)), .ref pz, .int (iI (lt))])), (ml, fw_a kI 6 (fw_up gL mH.toNat le)), (mu, fw_a kI 6 (fw_up gU mH.toNat us)), (mp, fw_a kI 144 (fw_up (fw_up (fw_up gP (3 * mH.toNat) u) (3 * mH.toNat + 1) mi) (3 * mH.toNat + 2) o)), (xu, fw_a kI 10 (xU)), (xf, fw_a kI 10 (xF)), (xt, fw_a kI 10 (xT))] H)) A) (by decide) (Nat.le_of_ble_eq_true rfl) ?_
  intro p e s m below meth c A ls hx hb hr hts hown hlocks hnm hml hsz hP hK hD hN hA hS hl
  have hl : lv_has ls 9 [(0, .ref mm), (1, .int (iI (o))), (2, .int (iI (le))), (3, .int (iI (us))), (4, .int (iI (u))), (5, .int (iI (mi)))] := hl
  refine lv_iload_n hx hb d_M_heat_0 rfl (lv_at hl 1 rfl) ?_
  refine lv_iconst (v := (iI (0))) hx hb d_M_heat_1 (by decide) ?_
  refine lv_aload_n hx hb d_M_heat_2 rfl (lv_at hl 0 rfl) ?_
  refine va_get (D := (dC, dI)) (ci := 4) (v := .int (iI (mO))) (C := R_M) (T := T_M) (N := 23) hx hb hts in_M hown hK hP 0 rfl rfl 1 (by decide) (hts _ kw_572) (fun _ h9 => h9) rfl d_M_heat_3 ?_
  refine lv_iconst (v := (iI (1))) hx hb d_M_heat_6 (by decide) ?_
  refine fw_isub hx hb d_M_heat_7 ?_
  refine fw_callR (va_runS (As := [.int (iI (o)), .int (iI (0)), .int (iI (mO - 1))]) (rest := []) ⟨hx, hb, hml, hown, hts⟩ (c_M_in l dC dI  o 0 (mO - 1) ⟨by omega, by omega⟩ ⟨by omega, by omega⟩ ⟨by omega, by omega⟩) (cwS 3 hts (gw_S kw_649 kw_650 kw_5 kw_651) rfl rfl rfl (by decide +kernel) ⟨Nat.le_of_ble_eq_true rfl, Nat.le_of_ble_eq_true rfl⟩) (fw_preRS hP hK hN [] [] rfl rfl) rfl rfl hl.1 rfl (lv_room (Nat.le_of_ble_eq_true rfl)) d_M_heat_8 ⟨Nat.le_of_ble_eq_true rfl, Nat.le_of_ble_eq_true rfl⟩).run ?_
  refine fw_bif_eq (tgt := 24) hx hb d_M_heat_11 (by decide) (fun c_1 => ?_) (fun c_1 => ?_)
  · refine lv_iconst (v := (bI (true))) hx hb d_M_heat_24 (by decide) ?_
    refine lv_goto (tgt := 29) hx hb d_M_heat_25 (by decide) ?_
    refine lv_istore (lv' := [(6, .int (bI (true))), (0, .ref mm), (1, .int (iI (o))), (2, .int (iI (le))), (3, .int (iI (us))), (4, .int (iI (u))), (5, .int (iI (mi)))]) hx hb d_M_heat_29 hl (by decide) rfl (fun ls hl => ?_)
    refine lv_iload_n hx hb d_M_heat_31 rfl (lv_at hl 3 rfl) ?_
    refine lv_iconst (v := (iI (1))) hx hb d_M_heat_32 (by decide) ?_
    refine lv_bipush (v := (iI (20))) hx hb d_M_heat_33 (by decide) ?_
    refine fw_callR (va_runS (As := [.int (iI (le)), .int (iI (1)), .int (iI (20))]) (rest := []) ⟨hx, hb, hml, hown, hts⟩ (c_M_in l dC dI  le 1 20 ⟨by omega, by omega⟩ ⟨by omega, by omega⟩ ⟨by omega, by omega⟩) (cwS 3 hts (gw_S kw_649 kw_650 kw_5 kw_651) rfl rfl rfl (by decide +kernel) ⟨Nat.le_of_ble_eq_true rfl, Nat.le_of_ble_eq_true rfl⟩) (fw_preRS hP hK hN [] [] rfl rfl) rfl rfl hl.1 rfl (lv_room (Nat.le_of_ble_eq_true rfl)) d_M_heat_35 ⟨Nat.le_of_ble_eq_true rfl, Nat.le_of_ble_eq_true rfl⟩).run ?_
    refine fw_bif_eq (tgt := 62) hx hb d_M_heat_38 (by decide) (fun c_2 => ?_) (fun c_2 => ?_)
    · refine lv_iconst (v := (bI (true))) hx hb d_M_heat_62 (by decide) ?_
      refine lv_goto (tgt := 67) hx hb d_M_heat_63 (by decide) ?_
      refine lv_istore (lv' := [(7, .int (bI (true))), (6, .int (bI (true))), (0, .ref mm), (1, .int (iI (o))), (2, .int (iI (le))), (3, .int (iI (us))), (4, .int (iI (u))), (5, .int (iI (mi)))]) hx hb d_M_heat_67 hl (by decide) rfl (fun ls hl => ?_)
      refine lv_iconst (v := (bI (false))) hx hb d_M_heat_69 (by decide) ?_
      refine lv_istore (lv' := [(8, .int (bI (false))), (7, .int (bI (true))), (6, .int (bI (true))), (0, .ref mm), (1, .int (iI (o))), (2, .int (iI (le))), (3, .int (iI (us))), (4, .int (iI (u))), (5, .int (iI (mi)))]) hx hb d_M_heat_70 hl (by decide) rfl (fun ls hl => ?_)
      refine lv_iload hx hb d_M_heat_72 (lv_at hl 2 rfl) ?_
      refine fw_bif_ne (tgt := 133) hx hb d_M_heat_74 (by decide) (fun c_3 => ?_) (fun c_3 => ?_)
      · refine lv_aload_n hx hb d_M_heat_133 rfl (lv_at hl 3 rfl) ?_
        refine lv_iload hx hb d_M_heat_134 (lv_at hl 2 rfl) ?_
        refine lv_aload_n hx hb d_M_heat_136 rfl (lv_at hl 3 rfl) ?_
        refine va_get (D := (dC, dI)) (ci := 4) (v := .int (iI (mH))) (C := R_M) (T := T_M) (N := 23) hx hb hts in_M hown hK hP 0 rfl rfl 4 (by decide) (hts _ kw_575) (fun _ h9 => h9) rfl d_M_heat_137 ?_
        refine lv_bipush (v := (iI (6))) hx hb d_M_heat_140 (by decide) ?_
        refine fw_icmp_ne (tgt := 149) hx hb d_M_heat_142 (by decide) ⟨by omega, by omega⟩ ⟨by omega, by omega⟩ (fun c_4 => ?_) (fun c_4 => ?_)
        · refine lv_iconst (v := (bI (false))) hx hb d_M_heat_149 (by decide) ?_
          refine lv_iload hx hb d_M_heat_150 (lv_at hl 1 rfl) ?_
          refine lv_iload hx hb d_M_heat_152 (lv_at hl 0 rfl) ?_
          refine fw_calliP [0] (va_runV (As := [.int (bI (true)), .int (bI (false)), .int (bI (true)), .int (bI (false))]) (rest := []) ⟨hx, hb, hml, hown, hts⟩ (c_M_throwing l dC dI  _ mm th mO mg md mH ml mu mp ud cs mS xu xf xt mW mF rn sp nd rd li pz lt true false true false ) (cwV 4 hts (gw_V kw_652 kw_654 ks_M_throwing kw_5 kw_655) rfl rfl rfl (by decide +kernel) ⟨Nat.le_of_ble_eq_true rfl, Nat.le_of_ble_eq_true rfl⟩) (fw_preV (ci := 4) (q0 := 0) hP hK hD hN [0] [] rfl rfl rfl rfl rfl) rfl rfl hl.1 rfl (lv_room (Nat.le_of_ble_eq_true rfl)) d_M_heat_154 ⟨Nat.le_of_ble_eq_true rfl, Nat.le_of_ble_eq_true rfl⟩) hP hD hS hA rfl rfl rfl (fun H locs hP hD hS => ?_)
          have hP : va_P (dC, dI) cls_ [(mm, .inr (4, [.int (iI (fc_thr true false true false)), .int (iI (mO)), .ref mg, .ref md, .int (iI (mH)), .ref ml, .ref mu, .ref mp, .int (bI (ud)), .int (iI (cs)), .int (iI (mS)), .ref xu, .ref xf, .ref xt, .int (iI (mW)), .int (iI (mF)), .int (bI (rn)), .int (bI (sp)), .int (iI (nd)), .int (iI (rd)), .int (iI (li)), .ref pz, .int (iI (lt))])), (ml, fw_a kI 6 (gL)), (mu, fw_a kI 6 (gU)), (mp, fw_a kI 144 (gP)), (xu, fw_a kI 10 (xU)), (xf, fw_a kI 10 (xF)), (xt, fw_a kI 10 (xT))] H := hP
          have hD : va_D A [(mm, .inr (4, [.int (iI (fc_thr true false true false)), .int (iI (mO)), .ref mg, .ref md, .int (iI (mH)), .ref ml, .ref mu, .ref mp, .int (bI (ud)), .int (iI (cs)), .int (iI (mS)), .ref xu, .ref xf, .ref xt, .int (iI (mW)), .int (iI (mF)), .int (bI (rn)), .int (bI (sp)), .int (iI (nd)), .int (iI (rd)), .int (iI (li)), .ref pz, .int (iI (lt))])), (ml, fw_a kI 6 (gL)), (mu, fw_a kI 6 (gU)), (mp, fw_a kI 144 (gP)), (xu, fw_a kI 10 (xU)), (xf, fw_a kI 10 (xF)), (xt, fw_a kI 10 (xT))] := hD
          refine fw_cast (show (.int (bI (decide (0 < fc_thr true false true false))) : Value) = .int (bI (true)) from congrArg (fun b => Value.int (bI b)) (by decide)) ?_
          refine fw_bif_eq (tgt := 162) hx hb d_M_heat_157 (by decide) (fun c_5 => ?_) (fun c_5 => ?_)
          · exact absurd c_5 (by decide)
          · refine lv_iconst (v := (iI (0))) hx hb d_M_heat_160 (by decide) ?_
            have e9 : km_heat mO mH o le us u mi gP gU gL xU xF xT mS.toNat = (fc_thr true false true false) := by simp [km_heat, fc_thr, c_1, c_2, c_4] <;> omega
            have e8 : ¬ km_heat mO mH o le us u mi gP gU gL xU xF xT mS.toNat = 0 := by rw [e9]; decide
            refine fw_iret hx hb hr hlocks hS ?_ ?_ d_M_heat_161
            · first | (exfalso; omega) | exact Or.inl ⟨e8, by rw [e9]; exact hP⟩
            · rw [if_neg e8]
        · refine lv_iconst (v := (bI (true))) hx hb d_M_heat_145 (by decide) ?_
          refine lv_goto (tgt := 150) hx hb d_M_heat_146 (by decide) ?_
          refine lv_iload hx hb d_M_heat_150 (lv_at hl 1 rfl) ?_
          refine lv_iload hx hb d_M_heat_152 (lv_at hl 0 rfl) ?_
          refine fw_calliP [0] (va_runV (As := [.int (bI (true)), .int (bI (true)), .int (bI (true)), .int (bI (false))]) (rest := []) ⟨hx, hb, hml, hown, hts⟩ (c_M_throwing l dC dI  _ mm th mO mg md mH ml mu mp ud cs mS xu xf xt mW mF rn sp nd rd li pz lt true true true false ) (cwV 4 hts (gw_V kw_652 kw_654 ks_M_throwing kw_5 kw_655) rfl rfl rfl (by decide +kernel) ⟨Nat.le_of_ble_eq_true rfl, Nat.le_of_ble_eq_true rfl⟩) (fw_preV (ci := 4) (q0 := 0) hP hK hD hN [0] [] rfl rfl rfl rfl rfl) rfl rfl hl.1 rfl (lv_room (Nat.le_of_ble_eq_true rfl)) d_M_heat_154 ⟨Nat.le_of_ble_eq_true rfl, Nat.le_of_ble_eq_true rfl⟩) hP hD hS hA rfl rfl rfl (fun H locs hP hD hS => ?_)
          have hP : va_P (dC, dI) cls_ [(mm, .inr (4, [.int (iI (fc_thr true true true false)), .int (iI (mO)), .ref mg, .ref md, .int (iI (mH)), .ref ml, .ref mu, .ref mp, .int (bI (ud)), .int (iI (cs)), .int (iI (mS)), .ref xu, .ref xf, .ref xt, .int (iI (mW)), .int (iI (mF)), .int (bI (rn)), .int (bI (sp)), .int (iI (nd)), .int (iI (rd)), .int (iI (li)), .ref pz, .int (iI (lt))])), (ml, fw_a kI 6 (gL)), (mu, fw_a kI 6 (gU)), (mp, fw_a kI 144 (gP)), (xu, fw_a kI 10 (xU)), (xf, fw_a kI 10 (xF)), (xt, fw_a kI 10 (xT))] H := hP
          have hD : va_D A [(mm, .inr (4, [.int (iI (fc_thr true true true false)), .int (iI (mO)), .ref mg, .ref md, .int (iI (mH)), .ref ml, .ref mu, .ref mp, .int (bI (ud)), .int (iI (cs)), .int (iI (mS)), .ref xu, .ref xf, .ref xt, .int (iI (mW)), .int (iI (mF)), .int (bI (rn)), .int (bI (sp)), .int (iI (nd)), .int (iI (rd)), .int (iI (li)), .ref pz, .int (iI (lt))])), (ml, fw_a kI 6 (gL)), (mu, fw_a kI 6 (gU)), (mp, fw_a kI 144 (gP)), (xu, fw_a kI 10 (xU)), (xf, fw_a kI 10 (xF)), (xt, fw_a kI 10 (xT))] := hD
          refine fw_cast (show (.int (bI (decide (0 < fc_thr true true true false))) : Value) = .int (bI (true)) from congrArg (fun b => Value.int (bI b)) (by decide)) ?_
          refine fw_bif_eq (tgt := 162) hx hb d_M_heat_157 (by decide) (fun c_6 => ?_) (fun c_6 => ?_)
          · exact absurd c_6 (by decide)
          · refine lv_iconst (v := (iI (0))) hx hb d_M_heat_160 (by decide) ?_
            have e9 : km_heat mO mH o le us u mi gP gU gL xU xF xT mS.toNat = (fc_thr true true true false) := by simp [km_heat, fc_thr, c_1, c_2, c_4] <;> omega
            have e8 : ¬ km_heat mO mH o le us u mi gP gU gL xU xF xT mS.toNat = 0 := by rw [e9]; decide
            refine fw_iret hx hb hr hlocks hS ?_ ?_ d_M_heat_161
            · first | (exfalso; omega) | exact Or.inl ⟨e8, by rw [e9]; exact hP⟩
            · rw [if_neg e8]
      · exact absurd c_3 (by decide)
    · refine lv_iload_n hx hb d_M_heat_41 rfl (lv_at hl 4 rfl) ?_
      refine lv_iconst (v := (iI (1))) hx hb d_M_heat_42 (by decide) ?_
      refine lv_bipush (v := (iI (7))) hx hb d_M_heat_43 (by decide) ?_
      refine fw_callR (va_runS (As := [.int (iI (us)), .int (iI (1)), .int (iI (7))]) (rest := []) ⟨hx, hb, hml, hown, hts⟩ (c_M_in l dC dI  us 1 7 ⟨by omega, by omega⟩ ⟨by omega, by omega⟩ ⟨by omega, by omega⟩) (cwS 3 hts (gw_S kw_649 kw_650 kw_5 kw_651) rfl rfl rfl (by decide +kernel) ⟨Nat.le_of_ble_eq_true rfl, Nat.le_of_ble_eq_true rfl⟩) (fw_preRS hP hK hN [] [] rfl rfl) rfl rfl hl.1 rfl (lv_room (Nat.le_of_ble_eq_true rfl)) d_M_heat_45 ⟨Nat.le_of_ble_eq_true rfl, Nat.le_of_ble_eq_true rfl⟩).run ?_
      refine fw_bif_eq (tgt := 62) hx hb d_M_heat_48 (by decide) (fun c_7 => ?_) (fun c_7 => ?_)
      · refine lv_iconst (v := (bI (true))) hx hb d_M_heat_62 (by decide) ?_
        refine lv_goto (tgt := 67) hx hb d_M_heat_63 (by decide) ?_
        refine lv_istore (lv' := [(7, .int (bI (true))), (6, .int (bI (true))), (0, .ref mm), (1, .int (iI (o))), (2, .int (iI (le))), (3, .int (iI (us))), (4, .int (iI (u))), (5, .int (iI (mi)))]) hx hb d_M_heat_67 hl (by decide) rfl (fun ls hl => ?_)
        refine lv_iconst (v := (bI (false))) hx hb d_M_heat_69 (by decide) ?_
        refine lv_istore (lv' := [(8, .int (bI (false))), (7, .int (bI (true))), (6, .int (bI (true))), (0, .ref mm), (1, .int (iI (o))), (2, .int (iI (le))), (3, .int (iI (us))), (4, .int (iI (u))), (5, .int (iI (mi)))]) hx hb d_M_heat_70 hl (by decide) rfl (fun ls hl => ?_)
        refine lv_iload hx hb d_M_heat_72 (lv_at hl 2 rfl) ?_
        refine fw_bif_ne (tgt := 133) hx hb d_M_heat_74 (by decide) (fun c_8 => ?_) (fun c_8 => ?_)
        · refine lv_aload_n hx hb d_M_heat_133 rfl (lv_at hl 3 rfl) ?_
          refine lv_iload hx hb d_M_heat_134 (lv_at hl 2 rfl) ?_
          refine lv_aload_n hx hb d_M_heat_136 rfl (lv_at hl 3 rfl) ?_
          refine va_get (D := (dC, dI)) (ci := 4) (v := .int (iI (mH))) (C := R_M) (T := T_M) (N := 23) hx hb hts in_M hown hK hP 0 rfl rfl 4 (by decide) (hts _ kw_575) (fun _ h9 => h9) rfl d_M_heat_137 ?_
          refine lv_bipush (v := (iI (6))) hx hb d_M_heat_140 (by decide) ?_
          refine fw_icmp_ne (tgt := 149) hx hb d_M_heat_142 (by decide) ⟨by omega, by omega⟩ ⟨by omega, by omega⟩ (fun c_9 => ?_) (fun c_9 => ?_)
          · refine lv_iconst (v := (bI (false))) hx hb d_M_heat_149 (by decide) ?_
            refine lv_iload hx hb d_M_heat_150 (lv_at hl 1 rfl) ?_
            refine lv_iload hx hb d_M_heat_152 (lv_at hl 0 rfl) ?_
            refine fw_calliP [0] (va_runV (As := [.int (bI (true)), .int (bI (false)), .int (bI (true)), .int (bI (false))]) (rest := []) ⟨hx, hb, hml, hown, hts⟩ (c_M_throwing l dC dI  _ mm th mO mg md mH ml mu mp ud cs mS xu xf xt mW mF rn sp nd rd li pz lt true false true false ) (cwV 4 hts (gw_V kw_652 kw_654 ks_M_throwing kw_5 kw_655) rfl rfl rfl (by decide +kernel) ⟨Nat.le_of_ble_eq_true rfl, Nat.le_of_ble_eq_true rfl⟩) (fw_preV (ci := 4) (q0 := 0) hP hK hD hN [0] [] rfl rfl rfl rfl rfl) rfl rfl hl.1 rfl (lv_room (Nat.le_of_ble_eq_true rfl)) d_M_heat_154 ⟨Nat.le_of_ble_eq_true rfl, Nat.le_of_ble_eq_true rfl⟩) hP hD hS hA rfl rfl rfl (fun H locs hP hD hS => ?_)
            have hP : va_P (dC, dI) cls_ [(mm, .inr (4, [.int (iI (fc_thr true false true false)), .int (iI (mO)), .ref mg, .ref md, .int (iI (mH)), .ref ml, .ref mu, .ref mp, .int (bI (ud)), .int (iI (cs)), .int (iI (mS)), .ref xu, .ref xf, .ref xt, .int (iI (mW)), .int (iI (mF)), .int (bI (rn)), .int (bI (sp)), .int (iI (nd)), .int (iI (rd)), .int (iI (li)), .ref pz, .int (iI (lt))])), (ml, fw_a kI 6 (gL)), (mu, fw_a kI 6 (gU)), (mp, fw_a kI 144 (gP)), (xu, fw_a kI 10 (xU)), (xf, fw_a kI 10 (xF)), (xt, fw_a kI 10 (xT))] H := hP
            have hD : va_D A [(mm, .inr (4, [.int (iI (fc_thr true false true false)), .int (iI (mO)), .ref mg, .ref md, .int (iI (mH)), .ref ml, .ref mu, .ref mp, .int (bI (ud)), .int (iI (cs)), .int (iI (mS)), .ref xu, .ref xf, .ref xt, .int (iI (mW)), .int (iI (mF)), .int (bI (rn)), .int (bI (sp)), .int (iI (nd)), .int (iI (rd)), .int (iI (li)), .ref pz, .int (iI (lt))])), (ml, fw_a kI 6 (gL)), (mu, fw_a kI 6 (gU)), (mp, fw_a kI 144 (gP)), (xu, fw_a kI 10 (xU)), (xf, fw_a kI 10 (xF)), (xt, fw_a kI 10 (xT))] := hD
            refine fw_cast (show (.int (bI (decide (0 < fc_thr true false true false))) : Value) = .int (bI (true)) from congrArg (fun b => Value.int (bI b)) (by decide)) ?_
            refine fw_bif_eq (tgt := 162) hx hb d_M_heat_157 (by decide) (fun c_10 => ?_) (fun c_10 => ?_)
            · exact absurd c_10 (by decide)
            · refine lv_iconst (v := (iI (0))) hx hb d_M_heat_160 (by decide) ?_
              have e9 : km_heat mO mH o le us u mi gP gU gL xU xF xT mS.toNat = (fc_thr true false true false) := by simp [km_heat, fc_thr, c_1, c_2, c_7, c_9] <;> omega
              have e8 : ¬ km_heat mO mH o le us u mi gP gU gL xU xF xT mS.toNat = 0 := by rw [e9]; decide
              refine fw_iret hx hb hr hlocks hS ?_ ?_ d_M_heat_161
              · first | (exfalso; omega) | exact Or.inl ⟨e8, by rw [e9]; exact hP⟩
              · rw [if_neg e8]
          · refine lv_iconst (v := (bI (true))) hx hb d_M_heat_145 (by decide) ?_
            refine lv_goto (tgt := 150) hx hb d_M_heat_146 (by decide) ?_
            refine lv_iload hx hb d_M_heat_150 (lv_at hl 1 rfl) ?_
            refine lv_iload hx hb d_M_heat_152 (lv_at hl 0 rfl) ?_
            refine fw_calliP [0] (va_runV (As := [.int (bI (true)), .int (bI (true)), .int (bI (true)), .int (bI (false))]) (rest := []) ⟨hx, hb, hml, hown, hts⟩ (c_M_throwing l dC dI  _ mm th mO mg md mH ml mu mp ud cs mS xu xf xt mW mF rn sp nd rd li pz lt true true true false ) (cwV 4 hts (gw_V kw_652 kw_654 ks_M_throwing kw_5 kw_655) rfl rfl rfl (by decide +kernel) ⟨Nat.le_of_ble_eq_true rfl, Nat.le_of_ble_eq_true rfl⟩) (fw_preV (ci := 4) (q0 := 0) hP hK hD hN [0] [] rfl rfl rfl rfl rfl) rfl rfl hl.1 rfl (lv_room (Nat.le_of_ble_eq_true rfl)) d_M_heat_154 ⟨Nat.le_of_ble_eq_true rfl, Nat.le_of_ble_eq_true rfl⟩) hP hD hS hA rfl rfl rfl (fun H locs hP hD hS => ?_)
            have hP : va_P (dC, dI) cls_ [(mm, .inr (4, [.int (iI (fc_thr true true true false)), .int (iI (mO)), .ref mg, .ref md, .int (iI (mH)), .ref ml, .ref mu, .ref mp, .int (bI (ud)), .int (iI (cs)), .int (iI (mS)), .ref xu, .ref xf, .ref xt, .int (iI (mW)), .int (iI (mF)), .int (bI (rn)), .int (bI (sp)), .int (iI (nd)), .int (iI (rd)), .int (iI (li)), .ref pz, .int (iI (lt))])), (ml, fw_a kI 6 (gL)), (mu, fw_a kI 6 (gU)), (mp, fw_a kI 144 (gP)), (xu, fw_a kI 10 (xU)), (xf, fw_a kI 10 (xF)), (xt, fw_a kI 10 (xT))] H := hP
            have hD : va_D A [(mm, .inr (4, [.int (iI (fc_thr true true true false)), .int (iI (mO)), .ref mg, .ref md, .int (iI (mH)), .ref ml, .ref mu, .ref mp, .int (bI (ud)), .int (iI (cs)), .int (iI (mS)), .ref xu, .ref xf, .ref xt, .int (iI (mW)), .int (iI (mF)), .int (bI (rn)), .int (bI (sp)), .int (iI (nd)), .int (iI (rd)), .int (iI (li)), .ref pz, .int (iI (lt))])), (ml, fw_a kI 6 (gL)), (mu, fw_a kI 6 (gU)), (mp, fw_a kI 144 (gP)), (xu, fw_a kI 10 (xU)), (xf, fw_a kI 10 (xF)), (xt, fw_a kI 10 (xT))] := hD
            refine fw_cast (show (.int (bI (decide (0 < fc_thr true true true false))) : Value) = .int (bI (true)) from congrArg (fun b => Value.int (bI b)) (by decide)) ?_
            refine fw_bif_eq (tgt := 162) hx hb d_M_heat_157 (by decide) (fun c_11 => ?_) (fun c_11 => ?_)
            · exact absurd c_11 (by decide)
            · refine lv_iconst (v := (iI (0))) hx hb d_M_heat_160 (by decide) ?_
              have e9 : km_heat mO mH o le us u mi gP gU gL xU xF xT mS.toNat = (fc_thr true true true false) := by simp [km_heat, fc_thr, c_1, c_2, c_7, c_9] <;> omega
              have e8 : ¬ km_heat mO mH o le us u mi gP gU gL xU xF xT mS.toNat = 0 := by rw [e9]; decide
              refine fw_iret hx hb hr hlocks hS ?_ ?_ d_M_heat_161
              · first | (exfalso; omega) | exact Or.inl ⟨e8, by rw [e9]; exact hP⟩
              · rw [if_neg e8]
        · exact absurd c_8 (by decide)
      · refine lv_iload hx hb d_M_heat_51 (lv_at hl 6 rfl) ?_
        refine lv_iconst (v := (iI (0))) hx hb d_M_heat_53 (by decide) ?_
        refine lv_bipush (v := (iI (59))) hx hb d_M_heat_54 (by decide) ?_
        refine fw_callR (va_runS (As := [.int (iI (mi)), .int (iI (0)), .int (iI (59))]) (rest := []) ⟨hx, hb, hml, hown, hts⟩ (c_M_in l dC dI  mi 0 59 ⟨by omega, by omega⟩ ⟨by omega, by omega⟩ ⟨by omega, by omega⟩) (cwS 3 hts (gw_S kw_649 kw_650 kw_5 kw_651) rfl rfl rfl (by decide +kernel) ⟨Nat.le_of_ble_eq_true rfl, Nat.le_of_ble_eq_true rfl⟩) (fw_preRS hP hK hN [] [] rfl rfl) rfl rfl hl.1 rfl (lv_room (Nat.le_of_ble_eq_true rfl)) d_M_heat_56 ⟨Nat.le_of_ble_eq_true rfl, Nat.le_of_ble_eq_true rfl⟩).run ?_
        refine fw_bif_ne (tgt := 66) hx hb d_M_heat_59 (by decide) (fun c_12 => ?_) (fun c_12 => ?_)
        · obtain ⟨g5, g6⟩ := fc_in_t c_2
          obtain ⟨g7, g8⟩ := fc_in_t c_7
          obtain ⟨g9, g10⟩ := fc_in_t c_12
          have hgL2 := fw_upb (k := mH.toNat) (v := le) hgL (by omega) (by omega)
          have hgU2 := fw_upb (k := mH.toNat) (v := us) hgU (by omega) (by omega)
          refine lv_iconst (v := (bI (false))) hx hb d_M_heat_66 (by decide) ?_
          refine lv_istore (lv' := [(7, .int (bI (false))), (6, .int (bI (true))), (0, .ref mm), (1, .int (iI (o))), (2, .int (iI (le))), (3, .int (iI (us))), (4, .int (iI (u))), (5, .int (iI (mi)))]) hx hb d_M_heat_67 hl (by decide) rfl (fun ls hl => ?_)
          refine lv_iconst (v := (bI (false))) hx hb d_M_heat_69 (by decide) ?_
          refine lv_istore (lv' := [(8, .int (bI (false))), (7, .int (bI (false))), (6, .int (bI (true))), (0, .ref mm), (1, .int (iI (o))), (2, .int (iI (le))), (3, .int (iI (us))), (4, .int (iI (u))), (5, .int (iI (mi)))]) hx hb d_M_heat_70 hl (by decide) rfl (fun ls hl => ?_)
          refine lv_iload hx hb d_M_heat_72 (lv_at hl 2 rfl) ?_
          refine fw_bif_ne (tgt := 133) hx hb d_M_heat_74 (by decide) (fun c_13 => ?_) (fun c_13 => ?_)
          · refine lv_aload_n hx hb d_M_heat_133 rfl (lv_at hl 3 rfl) ?_
            refine lv_iload hx hb d_M_heat_134 (lv_at hl 2 rfl) ?_
            refine lv_aload_n hx hb d_M_heat_136 rfl (lv_at hl 3 rfl) ?_
            refine va_get (D := (dC, dI)) (ci := 4) (v := .int (iI (mH))) (C := R_M) (T := T_M) (N := 23) hx hb hts in_M hown hK hP 0 rfl rfl 4 (by decide) (hts _ kw_575) (fun _ h9 => h9) rfl d_M_heat_137 ?_
            refine lv_bipush (v := (iI (6))) hx hb d_M_heat_140 (by decide) ?_
            refine fw_icmp_ne (tgt := 149) hx hb d_M_heat_142 (by decide) ⟨by omega, by omega⟩ ⟨by omega, by omega⟩ (fun c_14 => ?_) (fun c_14 => ?_)
            · refine lv_iconst (v := (bI (false))) hx hb d_M_heat_149 (by decide) ?_
              refine lv_iload hx hb d_M_heat_150 (lv_at hl 1 rfl) ?_
              refine lv_iload hx hb d_M_heat_152 (lv_at hl 0 rfl) ?_
              refine fw_calliP [0] (va_runV (As := [.int (bI (true)), .int (bI (false)), .int (bI (false)), .int (bI (false))]) (rest := []) ⟨hx, hb, hml, hown, hts⟩ (c_M_throwing l dC dI  _ mm th mO mg md mH ml mu mp ud cs mS xu xf xt mW mF rn sp nd rd li pz lt true false false false ) (cwV 4 hts (gw_V kw_652 kw_654 ks_M_throwing kw_5 kw_655) rfl rfl rfl (by decide +kernel) ⟨Nat.le_of_ble_eq_true rfl, Nat.le_of_ble_eq_true rfl⟩) (fw_preV (ci := 4) (q0 := 0) hP hK hD hN [0] [] rfl rfl rfl rfl rfl) rfl rfl hl.1 rfl (lv_room (Nat.le_of_ble_eq_true rfl)) d_M_heat_154 ⟨Nat.le_of_ble_eq_true rfl, Nat.le_of_ble_eq_true rfl⟩) hP hD hS hA rfl rfl rfl (fun H locs hP hD hS => ?_)
              have hP : va_P (dC, dI) cls_ [(mm, .inr (4, [.int (iI (fc_thr true false false false)), .int (iI (mO)), .ref mg, .ref md, .int (iI (mH)), .ref ml, .ref mu, .ref mp, .int (bI (ud)), .int (iI (cs)), .int (iI (mS)), .ref xu, .ref xf, .ref xt, .int (iI (mW)), .int (iI (mF)), .int (bI (rn)), .int (bI (sp)), .int (iI (nd)), .int (iI (rd)), .int (iI (li)), .ref pz, .int (iI (lt))])), (ml, fw_a kI 6 (gL)), (mu, fw_a kI 6 (gU)), (mp, fw_a kI 144 (gP)), (xu, fw_a kI 10 (xU)), (xf, fw_a kI 10 (xF)), (xt, fw_a kI 10 (xT))] H := hP
              have hD : va_D A [(mm, .inr (4, [.int (iI (fc_thr true false false false)), .int (iI (mO)), .ref mg, .ref md, .int (iI (mH)), .ref ml, .ref mu, .ref mp, .int (bI (ud)), .int (iI (cs)), .int (iI (mS)), .ref xu, .ref xf, .ref xt, .int (iI (mW)), .int (iI (mF)), .int (bI (rn)), .int (bI (sp)), .int (iI (nd)), .int (iI (rd)), .int (iI (li)), .ref pz, .int (iI (lt))])), (ml, fw_a kI 6 (gL)), (mu, fw_a kI 6 (gU)), (mp, fw_a kI 144 (gP)), (xu, fw_a kI 10 (xU)), (xf, fw_a kI 10 (xF)), (xt, fw_a kI 10 (xT))] := hD
              refine fw_cast (show (.int (bI (decide (0 < fc_thr true false false false))) : Value) = .int (bI (true)) from congrArg (fun b => Value.int (bI b)) (by decide)) ?_
              refine fw_bif_eq (tgt := 162) hx hb d_M_heat_157 (by decide) (fun c_15 => ?_) (fun c_15 => ?_)
              · exact absurd c_15 (by decide)
              · refine lv_iconst (v := (iI (0))) hx hb d_M_heat_160 (by decide) ?_
                have e9 : km_heat mO mH o le us u mi gP gU gL xU xF xT mS.toNat = (fc_thr true false false false) := by simp [km_heat, fc_thr, c_1, c_2, c_7, c_12, c_14] <;> omega
                have e8 : ¬ km_heat mO mH o le us u mi gP gU gL xU xF xT mS.toNat = 0 := by rw [e9]; decide
                refine fw_iret hx hb hr hlocks hS ?_ ?_ d_M_heat_161
                · first | (exfalso; omega) | exact Or.inl ⟨e8, by rw [e9]; exact hP⟩
                · rw [if_neg e8]
            · refine lv_iconst (v := (bI (true))) hx hb d_M_heat_145 (by decide) ?_
              refine lv_goto (tgt := 150) hx hb d_M_heat_146 (by decide) ?_
              refine lv_iload hx hb d_M_heat_150 (lv_at hl 1 rfl) ?_
              refine lv_iload hx hb d_M_heat_152 (lv_at hl 0 rfl) ?_
              refine fw_calliP [0] (va_runV (As := [.int (bI (true)), .int (bI (true)), .int (bI (false)), .int (bI (false))]) (rest := []) ⟨hx, hb, hml, hown, hts⟩ (c_M_throwing l dC dI  _ mm th mO mg md mH ml mu mp ud cs mS xu xf xt mW mF rn sp nd rd li pz lt true true false false ) (cwV 4 hts (gw_V kw_652 kw_654 ks_M_throwing kw_5 kw_655) rfl rfl rfl (by decide +kernel) ⟨Nat.le_of_ble_eq_true rfl, Nat.le_of_ble_eq_true rfl⟩) (fw_preV (ci := 4) (q0 := 0) hP hK hD hN [0] [] rfl rfl rfl rfl rfl) rfl rfl hl.1 rfl (lv_room (Nat.le_of_ble_eq_true rfl)) d_M_heat_154 ⟨Nat.le_of_ble_eq_true rfl, Nat.le_of_ble_eq_true rfl⟩) hP hD hS hA rfl rfl rfl (fun H locs hP hD hS => ?_)
              have hP : va_P (dC, dI) cls_ [(mm, .inr (4, [.int (iI (fc_thr true true false false)), .int (iI (mO)), .ref mg, .ref md, .int (iI (mH)), .ref ml, .ref mu, .ref mp, .int (bI (ud)), .int (iI (cs)), .int (iI (mS)), .ref xu, .ref xf, .ref xt, .int (iI (mW)), .int (iI (mF)), .int (bI (rn)), .int (bI (sp)), .int (iI (nd)), .int (iI (rd)), .int (iI (li)), .ref pz, .int (iI (lt))])), (ml, fw_a kI 6 (gL)), (mu, fw_a kI 6 (gU)), (mp, fw_a kI 144 (gP)), (xu, fw_a kI 10 (xU)), (xf, fw_a kI 10 (xF)), (xt, fw_a kI 10 (xT))] H := hP
              have hD : va_D A [(mm, .inr (4, [.int (iI (fc_thr true true false false)), .int (iI (mO)), .ref mg, .ref md, .int (iI (mH)), .ref ml, .ref mu, .ref mp, .int (bI (ud)), .int (iI (cs)), .int (iI (mS)), .ref xu, .ref xf, .ref xt, .int (iI (mW)), .int (iI (mF)), .int (bI (rn)), .int (bI (sp)), .int (iI (nd)), .int (iI (rd)), .int (iI (li)), .ref pz, .int (iI (lt))])), (ml, fw_a kI 6 (gL)), (mu, fw_a kI 6 (gU)), (mp, fw_a kI 144 (gP)), (xu, fw_a kI 10 (xU)), (xf, fw_a kI 10 (xF)), (xt, fw_a kI 10 (xT))] := hD
              refine fw_cast (show (.int (bI (decide (0 < fc_thr true true false false))) : Value) = .int (bI (true)) from congrArg (fun b => Value.int (bI b)) (by decide)) ?_
              refine fw_bif_eq (tgt := 162) hx hb d_M_heat_157 (by decide) (fun c_16 => ?_) (fun c_16 => ?_)
              · exact absurd c_16 (by decide)
              · refine lv_iconst (v := (iI (0))) hx hb d_M_heat_160 (by decide) ?_
                have e9 : km_heat mO mH o le us u mi gP gU gL xU xF xT mS.toNat = (fc_thr true true false false) := by simp [km_heat, fc_thr, c_1, c_2, c_7, c_12, c_14] <;> omega
                have e8 : ¬ km_heat mO mH o le us u mi gP gU gL xU xF xT mS.toNat = 0 := by rw [e9]; decide
                refine fw_iret hx hb hr hlocks hS ?_ ?_ d_M_heat_161
                · first | (exfalso; omega) | exact Or.inl ⟨e8, by rw [e9]; exact hP⟩
                · rw [if_neg e8]
          · exact absurd c_13 (by decide)
        · refine lv_iconst (v := (bI (true))) hx hb d_M_heat_62 (by decide) ?_
          refine lv_goto (tgt := 67) hx hb d_M_heat_63 (by decide) ?_
          refine lv_istore (lv' := [(7, .int (bI (true))), (6, .int (bI (true))), (0, .ref mm), (1, .int (iI (o))), (2, .int (iI (le))), (3, .int (iI (us))), (4, .int (iI (u))), (5, .int (iI (mi)))]) hx hb d_M_heat_67 hl (by decide) rfl (fun ls hl => ?_)
          refine lv_iconst (v := (bI (false))) hx hb d_M_heat_69 (by decide) ?_
          refine lv_istore (lv' := [(8, .int (bI (false))), (7, .int (bI (true))), (6, .int (bI (true))), (0, .ref mm), (1, .int (iI (o))), (2, .int (iI (le))), (3, .int (iI (us))), (4, .int (iI (u))), (5, .int (iI (mi)))]) hx hb d_M_heat_70 hl (by decide) rfl (fun ls hl => ?_)
          refine lv_iload hx hb d_M_heat_72 (lv_at hl 2 rfl) ?_
          refine fw_bif_ne (tgt := 133) hx hb d_M_heat_74 (by decide) (fun c_17 => ?_) (fun c_17 => ?_)
          · refine lv_aload_n hx hb d_M_heat_133 rfl (lv_at hl 3 rfl) ?_
            refine lv_iload hx hb d_M_heat_134 (lv_at hl 2 rfl) ?_
            refine lv_aload_n hx hb d_M_heat_136 rfl (lv_at hl 3 rfl) ?_
            refine va_get (D := (dC, dI)) (ci := 4) (v := .int (iI (mH))) (C := R_M) (T := T_M) (N := 23) hx hb hts in_M hown hK hP 0 rfl rfl 4 (by decide) (hts _ kw_575) (fun _ h9 => h9) rfl d_M_heat_137 ?_
            refine lv_bipush (v := (iI (6))) hx hb d_M_heat_140 (by decide) ?_
            refine fw_icmp_ne (tgt := 149) hx hb d_M_heat_142 (by decide) ⟨by omega, by omega⟩ ⟨by omega, by omega⟩ (fun c_18 => ?_) (fun c_18 => ?_)
            · refine lv_iconst (v := (bI (false))) hx hb d_M_heat_149 (by decide) ?_
              refine lv_iload hx hb d_M_heat_150 (lv_at hl 1 rfl) ?_
              refine lv_iload hx hb d_M_heat_152 (lv_at hl 0 rfl) ?_
              refine fw_calliP [0] (va_runV (As := [.int (bI (true)), .int (bI (false)), .int (bI (true)), .int (bI (false))]) (rest := []) ⟨hx, hb, hml, hown, hts⟩ (c_M_throwing l dC dI  _ mm th mO mg md mH ml mu mp ud cs mS xu xf xt mW mF rn sp nd rd li pz lt true false true false ) (cwV 4 hts (gw_V kw_652 kw_654 ks_M_throwing kw_5 kw_655) rfl rfl rfl (by decide +kernel) ⟨Nat.le_of_ble_eq_true rfl, Nat.le_of_ble_eq_true rfl⟩) (fw_preV (ci := 4) (q0 := 0) hP hK hD hN [0] [] rfl rfl rfl rfl rfl) rfl rfl hl.1 rfl (lv_room (Nat.le_of_ble_eq_true rfl)) d_M_heat_154 ⟨Nat.le_of_ble_eq_true rfl, Nat.le_of_ble_eq_true rfl⟩) hP hD hS hA rfl rfl rfl (fun H locs hP hD hS => ?_)
              have hP : va_P (dC, dI) cls_ [(mm, .inr (4, [.int (iI (fc_thr true false true false)), .int (iI (mO)), .ref mg, .ref md, .int (iI (mH)), .ref ml, .ref mu, .ref mp, .int (bI (ud)), .int (iI (cs)), .int (iI (mS)), .ref xu, .ref xf, .ref xt, .int (iI (mW)), .int (iI (mF)), .int (bI (rn)), .int (bI (sp)), .int (iI (nd)), .int (iI (rd)), .int (iI (li)), .ref pz, .int (iI (lt))])), (ml, fw_a kI 6 (gL)), (mu, fw_a kI 6 (gU)), (mp, fw_a kI 144 (gP)), (xu, fw_a kI 10 (xU)), (xf, fw_a kI 10 (xF)), (xt, fw_a kI 10 (xT))] H := hP
              have hD : va_D A [(mm, .inr (4, [.int (iI (fc_thr true false true false)), .int (iI (mO)), .ref mg, .ref md, .int (iI (mH)), .ref ml, .ref mu, .ref mp, .int (bI (ud)), .int (iI (cs)), .int (iI (mS)), .ref xu, .ref xf, .ref xt, .int (iI (mW)), .int (iI (mF)), .int (bI (rn)), .int (bI (sp)), .int (iI (nd)), .int (iI (rd)), .int (iI (li)), .ref pz, .int (iI (lt))])), (ml, fw_a kI 6 (gL)), (mu, fw_a kI 6 (gU)), (mp, fw_a kI 144 (gP)), (xu, fw_a kI 10 (xU)), (xf, fw_a kI 10 (xF)), (xt, fw_a kI 10 (xT))] := hD
              refine fw_cast (show (.int (bI (decide (0 < fc_thr true false true false))) : Value) = .int (bI (true)) from congrArg (fun b => Value.int (bI b)) (by decide)) ?_
              refine fw_bif_eq (tgt := 162) hx hb d_M_heat_157 (by decide) (fun c_19 => ?_) (fun c_19 => ?_)
              · exact absurd c_19 (by decide)
              · refine lv_iconst (v := (iI (0))) hx hb d_M_heat_160 (by decide) ?_
                have e9 : km_heat mO mH o le us u mi gP gU gL xU xF xT mS.toNat = (fc_thr true false true false) := by simp [km_heat, fc_thr, c_1, c_2, c_7, c_12, c_18] <;> omega
                have e8 : ¬ km_heat mO mH o le us u mi gP gU gL xU xF xT mS.toNat = 0 := by rw [e9]; decide
                refine fw_iret hx hb hr hlocks hS ?_ ?_ d_M_heat_161
                · first | (exfalso; omega) | exact Or.inl ⟨e8, by rw [e9]; exact hP⟩
                · rw [if_neg e8]
            · refine lv_iconst (v := (bI (true))) hx hb d_M_heat_145 (by decide) ?_
              refine lv_goto (tgt := 150) hx hb d_M_heat_146 (by decide) ?_
              refine lv_iload hx hb d_M_heat_150 (lv_at hl 1 rfl) ?_
              refine lv_iload hx hb d_M_heat_152 (lv_at hl 0 rfl) ?_
              refine fw_calliP [0] (va_runV (As := [.int (bI (true)), .int (bI (true)), .int (bI (true)), .int (bI (false))]) (rest := []) ⟨hx, hb, hml, hown, hts⟩ (c_M_throwing l dC dI  _ mm th mO mg md mH ml mu mp ud cs mS xu xf xt mW mF rn sp nd rd li pz lt true true true false ) (cwV 4 hts (gw_V kw_652 kw_654 ks_M_throwing kw_5 kw_655) rfl rfl rfl (by decide +kernel) ⟨Nat.le_of_ble_eq_true rfl, Nat.le_of_ble_eq_true rfl⟩) (fw_preV (ci := 4) (q0 := 0) hP hK hD hN [0] [] rfl rfl rfl rfl rfl) rfl rfl hl.1 rfl (lv_room (Nat.le_of_ble_eq_true rfl)) d_M_heat_154 ⟨Nat.le_of_ble_eq_true rfl, Nat.le_of_ble_eq_true rfl⟩) hP hD hS hA rfl rfl rfl (fun H locs hP hD hS => ?_)
              have hP : va_P (dC, dI) cls_ [(mm, .inr (4, [.int (iI (fc_thr true true true false)), .int (iI (mO)), .ref mg, .ref md, .int (iI (mH)), .ref ml, .ref mu, .ref mp, .int (bI (ud)), .int (iI (cs)), .int (iI (mS)), .ref xu, .ref xf, .ref xt, .int (iI (mW)), .int (iI (mF)), .int (bI (rn)), .int (bI (sp)), .int (iI (nd)), .int (iI (rd)), .int (iI (li)), .ref pz, .int (iI (lt))])), (ml, fw_a kI 6 (gL)), (mu, fw_a kI 6 (gU)), (mp, fw_a kI 144 (gP)), (xu, fw_a kI 10 (xU)), (xf, fw_a kI 10 (xF)), (xt, fw_a kI 10 (xT))] H := hP
              have hD : va_D A [(mm, .inr (4, [.int (iI (fc_thr true true true false)), .int (iI (mO)), .ref mg, .ref md, .int (iI (mH)), .ref ml, .ref mu, .ref mp, .int (bI (ud)), .int (iI (cs)), .int (iI (mS)), .ref xu, .ref xf, .ref xt, .int (iI (mW)), .int (iI (mF)), .int (bI (rn)), .int (bI (sp)), .int (iI (nd)), .int (iI (rd)), .int (iI (li)), .ref pz, .int (iI (lt))])), (ml, fw_a kI 6 (gL)), (mu, fw_a kI 6 (gU)), (mp, fw_a kI 144 (gP)), (xu, fw_a kI 10 (xU)), (xf, fw_a kI 10 (xF)), (xt, fw_a kI 10 (xT))] := hD
              refine fw_cast (show (.int (bI (decide (0 < fc_thr true true true false))) : Value) = .int (bI (true)) from congrArg (fun b => Value.int (bI b)) (by decide)) ?_
              refine fw_bif_eq (tgt := 162) hx hb d_M_heat_157 (by decide) (fun c_20 => ?_) (fun c_20 => ?_)
              · exact absurd c_20 (by decide)
              · refine lv_iconst (v := (iI (0))) hx hb d_M_heat_160 (by decide) ?_
                have e9 : km_heat mO mH o le us u mi gP gU gL xU xF xT mS.toNat = (fc_thr true true true false) := by simp [km_heat, fc_thr, c_1, c_2, c_7, c_12, c_18] <;> omega
                have e8 : ¬ km_heat mO mH o le us u mi gP gU gL xU xF xT mS.toNat = 0 := by rw [e9]; decide
                refine fw_iret hx hb hr hlocks hS ?_ ?_ d_M_heat_161
                · first | (exfalso; omega) | exact Or.inl ⟨e8, by rw [e9]; exact hP⟩
                · rw [if_neg e8]
          · exact absurd c_17 (by decide)
  · refine lv_iload hx hb d_M_heat_14 (lv_at hl 4 rfl) ?_
    refine lv_iconst (v := (iI (0))) hx hb d_M_heat_16 (by decide) ?_
    refine lv_iconst (v := (iI (2))) hx hb d_M_heat_17 (by decide) ?_
    refine fw_callR (va_runS (As := [.int (iI (u)), .int (iI (0)), .int (iI (2))]) (rest := []) ⟨hx, hb, hml, hown, hts⟩ (c_M_in l dC dI  u 0 2 ⟨by omega, by omega⟩ ⟨by omega, by omega⟩ ⟨by omega, by omega⟩) (cwS 3 hts (gw_S kw_649 kw_650 kw_5 kw_651) rfl rfl rfl (by decide +kernel) ⟨Nat.le_of_ble_eq_true rfl, Nat.le_of_ble_eq_true rfl⟩) (fw_preRS hP hK hN [] [] rfl rfl) rfl rfl hl.1 rfl (lv_room (Nat.le_of_ble_eq_true rfl)) d_M_heat_18 ⟨Nat.le_of_ble_eq_true rfl, Nat.le_of_ble_eq_true rfl⟩).run ?_
    refine fw_bif_ne (tgt := 28) hx hb d_M_heat_21 (by decide) (fun c_21 => ?_) (fun c_21 => ?_)
    · obtain ⟨g1, g2⟩ := fc_in_t c_1
      obtain ⟨g3, g4⟩ := fc_in_t c_21
      refine lv_iconst (v := (bI (false))) hx hb d_M_heat_28 (by decide) ?_
      refine lv_istore (lv' := [(6, .int (bI (false))), (0, .ref mm), (1, .int (iI (o))), (2, .int (iI (le))), (3, .int (iI (us))), (4, .int (iI (u))), (5, .int (iI (mi)))]) hx hb d_M_heat_29 hl (by decide) rfl (fun ls hl => ?_)
      refine lv_iload_n hx hb d_M_heat_31 rfl (lv_at hl 3 rfl) ?_
      refine lv_iconst (v := (iI (1))) hx hb d_M_heat_32 (by decide) ?_
      refine lv_bipush (v := (iI (20))) hx hb d_M_heat_33 (by decide) ?_
      refine fw_callR (va_runS (As := [.int (iI (le)), .int (iI (1)), .int (iI (20))]) (rest := []) ⟨hx, hb, hml, hown, hts⟩ (c_M_in l dC dI  le 1 20 ⟨by omega, by omega⟩ ⟨by omega, by omega⟩ ⟨by omega, by omega⟩) (cwS 3 hts (gw_S kw_649 kw_650 kw_5 kw_651) rfl rfl rfl (by decide +kernel) ⟨Nat.le_of_ble_eq_true rfl, Nat.le_of_ble_eq_true rfl⟩) (fw_preRS hP hK hN [] [] rfl rfl) rfl rfl hl.1 rfl (lv_room (Nat.le_of_ble_eq_true rfl)) d_M_heat_35 ⟨Nat.le_of_ble_eq_true rfl, Nat.le_of_ble_eq_true rfl⟩).run ?_
      refine fw_bif_eq (tgt := 62) hx hb d_M_heat_38 (by decide) (fun c_22 => ?_) (fun c_22 => ?_)
      · refine lv_iconst (v := (bI (true))) hx hb d_M_heat_62 (by decide) ?_
        refine lv_goto (tgt := 67) hx hb d_M_heat_63 (by decide) ?_
        refine lv_istore (lv' := [(7, .int (bI (true))), (6, .int (bI (false))), (0, .ref mm), (1, .int (iI (o))), (2, .int (iI (le))), (3, .int (iI (us))), (4, .int (iI (u))), (5, .int (iI (mi)))]) hx hb d_M_heat_67 hl (by decide) rfl (fun ls hl => ?_)
        refine lv_iconst (v := (bI (false))) hx hb d_M_heat_69 (by decide) ?_
        refine lv_istore (lv' := [(8, .int (bI (false))), (7, .int (bI (true))), (6, .int (bI (false))), (0, .ref mm), (1, .int (iI (o))), (2, .int (iI (le))), (3, .int (iI (us))), (4, .int (iI (u))), (5, .int (iI (mi)))]) hx hb d_M_heat_70 hl (by decide) rfl (fun ls hl => ?_)
        refine lv_iload hx hb d_M_heat_72 (lv_at hl 2 rfl) ?_
        refine fw_bif_ne (tgt := 133) hx hb d_M_heat_74 (by decide) (fun c_23 => ?_) (fun c_23 => ?_)
        · exact absurd c_23 (by decide)
        · refine lv_aload_n hx hb d_M_heat_77 rfl (lv_at hl 3 rfl) ?_
          refine va_get (D := (dC, dI)) (ci := 4) (v := .int (iI (mH))) (C := R_M) (T := T_M) (N := 23) hx hb hts in_M hown hK hP 0 rfl rfl 4 (by decide) (hts _ kw_575) (fun _ h9 => h9) rfl d_M_heat_78 ?_
          refine lv_bipush (v := (iI (6))) hx hb d_M_heat_81 (by decide) ?_
          refine fw_icmp_ge (tgt := 133) hx hb d_M_heat_83 (by decide) ⟨by omega, by omega⟩ ⟨by omega, by omega⟩ (fun c_24 => ?_) (fun c_24 => ?_)
          · refine lv_aload_n hx hb d_M_heat_133 rfl (lv_at hl 3 rfl) ?_
            refine lv_iload hx hb d_M_heat_134 (lv_at hl 2 rfl) ?_
            refine lv_aload_n hx hb d_M_heat_136 rfl (lv_at hl 3 rfl) ?_
            refine va_get (D := (dC, dI)) (ci := 4) (v := .int (iI (mH))) (C := R_M) (T := T_M) (N := 23) hx hb hts in_M hown hK hP 0 rfl rfl 4 (by decide) (hts _ kw_575) (fun _ h9 => h9) rfl d_M_heat_137 ?_
            refine lv_bipush (v := (iI (6))) hx hb d_M_heat_140 (by decide) ?_
            refine fw_icmp_ne (tgt := 149) hx hb d_M_heat_142 (by decide) ⟨by omega, by omega⟩ ⟨by omega, by omega⟩ (fun c_25 => ?_) (fun c_25 => ?_)
            · refine lv_iconst (v := (bI (false))) hx hb d_M_heat_149 (by decide) ?_
              refine lv_iload hx hb d_M_heat_150 (lv_at hl 1 rfl) ?_
              refine lv_iload hx hb d_M_heat_152 (lv_at hl 0 rfl) ?_
              refine fw_calliP [0] (va_runV (As := [.int (bI (false)), .int (bI (false)), .int (bI (true)), .int (bI (false))]) (rest := []) ⟨hx, hb, hml, hown, hts⟩ (c_M_throwing l dC dI  _ mm th mO mg md mH ml mu mp ud cs mS xu xf xt mW mF rn sp nd rd li pz lt false false true false ) (cwV 4 hts (gw_V kw_652 kw_654 ks_M_throwing kw_5 kw_655) rfl rfl rfl (by decide +kernel) ⟨Nat.le_of_ble_eq_true rfl, Nat.le_of_ble_eq_true rfl⟩) (fw_preV (ci := 4) (q0 := 0) hP hK hD hN [0] [] rfl rfl rfl rfl rfl) rfl rfl hl.1 rfl (lv_room (Nat.le_of_ble_eq_true rfl)) d_M_heat_154 ⟨Nat.le_of_ble_eq_true rfl, Nat.le_of_ble_eq_true rfl⟩) hP hD hS hA rfl rfl rfl (fun H locs hP hD hS => ?_)
              have hP : va_P (dC, dI) cls_ [(mm, .inr (4, [.int (iI (fc_thr false false true false)), .int (iI (mO)), .ref mg, .ref md, .int (iI (mH)), .ref ml, .ref mu, .ref mp, .int (bI (ud)), .int (iI (cs)), .int (iI (mS)), .ref xu, .ref xf, .ref xt, .int (iI (mW)), .int (iI (mF)), .int (bI (rn)), .int (bI (sp)), .int (iI (nd)), .int (iI (rd)), .int (iI (li)), .ref pz, .int (iI (lt))])), (ml, fw_a kI 6 (gL)), (mu, fw_a kI 6 (gU)), (mp, fw_a kI 144 (gP)), (xu, fw_a kI 10 (xU)), (xf, fw_a kI 10 (xF)), (xt, fw_a kI 10 (xT))] H := hP
              have hD : va_D A [(mm, .inr (4, [.int (iI (fc_thr false false true false)), .int (iI (mO)), .ref mg, .ref md, .int (iI (mH)), .ref ml, .ref mu, .ref mp, .int (bI (ud)), .int (iI (cs)), .int (iI (mS)), .ref xu, .ref xf, .ref xt, .int (iI (mW)), .int (iI (mF)), .int (bI (rn)), .int (bI (sp)), .int (iI (nd)), .int (iI (rd)), .int (iI (li)), .ref pz, .int (iI (lt))])), (ml, fw_a kI 6 (gL)), (mu, fw_a kI 6 (gU)), (mp, fw_a kI 144 (gP)), (xu, fw_a kI 10 (xU)), (xf, fw_a kI 10 (xF)), (xt, fw_a kI 10 (xT))] := hD
              refine fw_cast (show (.int (bI (decide (0 < fc_thr false false true false))) : Value) = .int (bI (true)) from congrArg (fun b => Value.int (bI b)) (by decide)) ?_
              refine fw_bif_eq (tgt := 162) hx hb d_M_heat_157 (by decide) (fun c_26 => ?_) (fun c_26 => ?_)
              · exact absurd c_26 (by decide)
              · refine lv_iconst (v := (iI (0))) hx hb d_M_heat_160 (by decide) ?_
                have e9 : km_heat mO mH o le us u mi gP gU gL xU xF xT mS.toNat = (fc_thr false false true false) := by simp [km_heat, fc_thr, c_1, c_21, c_22, c_24, c_25] <;> omega
                have e8 : ¬ km_heat mO mH o le us u mi gP gU gL xU xF xT mS.toNat = 0 := by rw [e9]; decide
                refine fw_iret hx hb hr hlocks hS ?_ ?_ d_M_heat_161
                · first | (exfalso; omega) | exact Or.inl ⟨e8, by rw [e9]; exact hP⟩
                · rw [if_neg e8]
            · refine lv_iconst (v := (bI (true))) hx hb d_M_heat_145 (by decide) ?_
              refine lv_goto (tgt := 150) hx hb d_M_heat_146 (by decide) ?_
              refine lv_iload hx hb d_M_heat_150 (lv_at hl 1 rfl) ?_
              refine lv_iload hx hb d_M_heat_152 (lv_at hl 0 rfl) ?_
              refine fw_calliP [0] (va_runV (As := [.int (bI (false)), .int (bI (true)), .int (bI (true)), .int (bI (false))]) (rest := []) ⟨hx, hb, hml, hown, hts⟩ (c_M_throwing l dC dI  _ mm th mO mg md mH ml mu mp ud cs mS xu xf xt mW mF rn sp nd rd li pz lt false true true false ) (cwV 4 hts (gw_V kw_652 kw_654 ks_M_throwing kw_5 kw_655) rfl rfl rfl (by decide +kernel) ⟨Nat.le_of_ble_eq_true rfl, Nat.le_of_ble_eq_true rfl⟩) (fw_preV (ci := 4) (q0 := 0) hP hK hD hN [0] [] rfl rfl rfl rfl rfl) rfl rfl hl.1 rfl (lv_room (Nat.le_of_ble_eq_true rfl)) d_M_heat_154 ⟨Nat.le_of_ble_eq_true rfl, Nat.le_of_ble_eq_true rfl⟩) hP hD hS hA rfl rfl rfl (fun H locs hP hD hS => ?_)
              have hP : va_P (dC, dI) cls_ [(mm, .inr (4, [.int (iI (fc_thr false true true false)), .int (iI (mO)), .ref mg, .ref md, .int (iI (mH)), .ref ml, .ref mu, .ref mp, .int (bI (ud)), .int (iI (cs)), .int (iI (mS)), .ref xu, .ref xf, .ref xt, .int (iI (mW)), .int (iI (mF)), .int (bI (rn)), .int (bI (sp)), .int (iI (nd)), .int (iI (rd)), .int (iI (li)), .ref pz, .int (iI (lt))])), (ml, fw_a kI 6 (gL)), (mu, fw_a kI 6 (gU)), (mp, fw_a kI 144 (gP)), (xu, fw_a kI 10 (xU)), (xf, fw_a kI 10 (xF)), (xt, fw_a kI 10 (xT))] H := hP
              have hD : va_D A [(mm, .inr (4, [.int (iI (fc_thr false true true false)), .int (iI (mO)), .ref mg, .ref md, .int (iI (mH)), .ref ml, .ref mu, .ref mp, .int (bI (ud)), .int (iI (cs)), .int (iI (mS)), .ref xu, .ref xf, .ref xt, .int (iI (mW)), .int (iI (mF)), .int (bI (rn)), .int (bI (sp)), .int (iI (nd)), .int (iI (rd)), .int (iI (li)), .ref pz, .int (iI (lt))])), (ml, fw_a kI 6 (gL)), (mu, fw_a kI 6 (gU)), (mp, fw_a kI 144 (gP)), (xu, fw_a kI 10 (xU)), (xf, fw_a kI 10 (xF)), (xt, fw_a kI 10 (xT))] := hD
              refine fw_cast (show (.int (bI (decide (0 < fc_thr false true true false))) : Value) = .int (bI (true)) from congrArg (fun b => Value.int (bI b)) (by decide)) ?_
              refine fw_bif_eq (tgt := 162) hx hb d_M_heat_157 (by decide) (fun c_27 => ?_) (fun c_27 => ?_)
              · exact absurd c_27 (by decide)
              · refine lv_iconst (v := (iI (0))) hx hb d_M_heat_160 (by decide) ?_
                have e9 : km_heat mO mH o le us u mi gP gU gL xU xF xT mS.toNat = (fc_thr false true true false) := by simp [km_heat, fc_thr, c_1, c_21, c_22, c_24, c_25] <;> omega
                have e8 : ¬ km_heat mO mH o le us u mi gP gU gL xU xF xT mS.toNat = 0 := by rw [e9]; decide
                refine fw_iret hx hb hr hlocks hS ?_ ?_ d_M_heat_161
                · first | (exfalso; omega) | exact Or.inl ⟨e8, by rw [e9]; exact hP⟩
                · rw [if_neg e8]
          · refine lv_iload hx hb d_M_heat_86 (lv_at hl 1 rfl) ?_
            refine fw_bif_ne (tgt := 133) hx hb d_M_heat_88 (by decide) (fun c_28 => ?_) (fun c_28 => ?_)
            · refine lv_aload_n hx hb d_M_heat_133 rfl (lv_at hl 3 rfl) ?_
              refine lv_iload hx hb d_M_heat_134 (lv_at hl 2 rfl) ?_
              refine lv_aload_n hx hb d_M_heat_136 rfl (lv_at hl 3 rfl) ?_
              refine va_get (D := (dC, dI)) (ci := 4) (v := .int (iI (mH))) (C := R_M) (T := T_M) (N := 23) hx hb hts in_M hown hK hP 0 rfl rfl 4 (by decide) (hts _ kw_575) (fun _ h9 => h9) rfl d_M_heat_137 ?_
              refine lv_bipush (v := (iI (6))) hx hb d_M_heat_140 (by decide) ?_
              refine fw_icmp_ne (tgt := 149) hx hb d_M_heat_142 (by decide) ⟨by omega, by omega⟩ ⟨by omega, by omega⟩ (fun c_29 => ?_) (fun c_29 => ?_)
              · refine lv_iconst (v := (bI (false))) hx hb d_M_heat_149 (by decide) ?_
                refine lv_iload hx hb d_M_heat_150 (lv_at hl 1 rfl) ?_
                refine lv_iload hx hb d_M_heat_152 (lv_at hl 0 rfl) ?_
                refine fw_calliP [0] (va_runV (As := [.int (bI (false)), .int (bI (false)), .int (bI (true)), .int (bI (false))]) (rest := []) ⟨hx, hb, hml, hown, hts⟩ (c_M_throwing l dC dI  _ mm th mO mg md mH ml mu mp ud cs mS xu xf xt mW mF rn sp nd rd li pz lt false false true false ) (cwV 4 hts (gw_V kw_652 kw_654 ks_M_throwing kw_5 kw_655) rfl rfl rfl (by decide +kernel) ⟨Nat.le_of_ble_eq_true rfl, Nat.le_of_ble_eq_true rfl⟩) (fw_preV (ci := 4) (q0 := 0) hP hK hD hN [0] [] rfl rfl rfl rfl rfl) rfl rfl hl.1 rfl (lv_room (Nat.le_of_ble_eq_true rfl)) d_M_heat_154 ⟨Nat.le_of_ble_eq_true rfl, Nat.le_of_ble_eq_true rfl⟩) hP hD hS hA rfl rfl rfl (fun H locs hP hD hS => ?_)
                have hP : va_P (dC, dI) cls_ [(mm, .inr (4, [.int (iI (fc_thr false false true false)), .int (iI (mO)), .ref mg, .ref md, .int (iI (mH)), .ref ml, .ref mu, .ref mp, .int (bI (ud)), .int (iI (cs)), .int (iI (mS)), .ref xu, .ref xf, .ref xt, .int (iI (mW)), .int (iI (mF)), .int (bI (rn)), .int (bI (sp)), .int (iI (nd)), .int (iI (rd)), .int (iI (li)), .ref pz, .int (iI (lt))])), (ml, fw_a kI 6 (gL)), (mu, fw_a kI 6 (gU)), (mp, fw_a kI 144 (gP)), (xu, fw_a kI 10 (xU)), (xf, fw_a kI 10 (xF)), (xt, fw_a kI 10 (xT))] H := hP
                have hD : va_D A [(mm, .inr (4, [.int (iI (fc_thr false false true false)), .int (iI (mO)), .ref mg, .ref md, .int (iI (mH)), .ref ml, .ref mu, .ref mp, .int (bI (ud)), .int (iI (cs)), .int (iI (mS)), .ref xu, .ref xf, .ref xt, .int (iI (mW)), .int (iI (mF)), .int (bI (rn)), .int (bI (sp)), .int (iI (nd)), .int (iI (rd)), .int (iI (li)), .ref pz, .int (iI (lt))])), (ml, fw_a kI 6 (gL)), (mu, fw_a kI 6 (gU)), (mp, fw_a kI 144 (gP)), (xu, fw_a kI 10 (xU)), (xf, fw_a kI 10 (xF)), (xt, fw_a kI 10 (xT))] := hD
                refine fw_cast (show (.int (bI (decide (0 < fc_thr false false true false))) : Value) = .int (bI (true)) from congrArg (fun b => Value.int (bI b)) (by decide)) ?_
                refine fw_bif_eq (tgt := 162) hx hb d_M_heat_157 (by decide) (fun c_30 => ?_) (fun c_30 => ?_)
                · exact absurd c_30 (by decide)
                · refine lv_iconst (v := (iI (0))) hx hb d_M_heat_160 (by decide) ?_
                  have e9 : km_heat mO mH o le us u mi gP gU gL xU xF xT mS.toNat = (fc_thr false false true false) := by simp [km_heat, fc_thr, c_1, c_21, c_22, c_24, c_29] <;> omega
                  have e8 : ¬ km_heat mO mH o le us u mi gP gU gL xU xF xT mS.toNat = 0 := by rw [e9]; decide
                  refine fw_iret hx hb hr hlocks hS ?_ ?_ d_M_heat_161
                  · first | (exfalso; omega) | exact Or.inl ⟨e8, by rw [e9]; exact hP⟩
                  · rw [if_neg e8]
              · refine lv_iconst (v := (bI (true))) hx hb d_M_heat_145 (by decide) ?_
                refine lv_goto (tgt := 150) hx hb d_M_heat_146 (by decide) ?_
                refine lv_iload hx hb d_M_heat_150 (lv_at hl 1 rfl) ?_
                refine lv_iload hx hb d_M_heat_152 (lv_at hl 0 rfl) ?_
                refine fw_calliP [0] (va_runV (As := [.int (bI (false)), .int (bI (true)), .int (bI (true)), .int (bI (false))]) (rest := []) ⟨hx, hb, hml, hown, hts⟩ (c_M_throwing l dC dI  _ mm th mO mg md mH ml mu mp ud cs mS xu xf xt mW mF rn sp nd rd li pz lt false true true false ) (cwV 4 hts (gw_V kw_652 kw_654 ks_M_throwing kw_5 kw_655) rfl rfl rfl (by decide +kernel) ⟨Nat.le_of_ble_eq_true rfl, Nat.le_of_ble_eq_true rfl⟩) (fw_preV (ci := 4) (q0 := 0) hP hK hD hN [0] [] rfl rfl rfl rfl rfl) rfl rfl hl.1 rfl (lv_room (Nat.le_of_ble_eq_true rfl)) d_M_heat_154 ⟨Nat.le_of_ble_eq_true rfl, Nat.le_of_ble_eq_true rfl⟩) hP hD hS hA rfl rfl rfl (fun H locs hP hD hS => ?_)
                have hP : va_P (dC, dI) cls_ [(mm, .inr (4, [.int (iI (fc_thr false true true false)), .int (iI (mO)), .ref mg, .ref md, .int (iI (mH)), .ref ml, .ref mu, .ref mp, .int (bI (ud)), .int (iI (cs)), .int (iI (mS)), .ref xu, .ref xf, .ref xt, .int (iI (mW)), .int (iI (mF)), .int (bI (rn)), .int (bI (sp)), .int (iI (nd)), .int (iI (rd)), .int (iI (li)), .ref pz, .int (iI (lt))])), (ml, fw_a kI 6 (gL)), (mu, fw_a kI 6 (gU)), (mp, fw_a kI 144 (gP)), (xu, fw_a kI 10 (xU)), (xf, fw_a kI 10 (xF)), (xt, fw_a kI 10 (xT))] H := hP
                have hD : va_D A [(mm, .inr (4, [.int (iI (fc_thr false true true false)), .int (iI (mO)), .ref mg, .ref md, .int (iI (mH)), .ref ml, .ref mu, .ref mp, .int (bI (ud)), .int (iI (cs)), .int (iI (mS)), .ref xu, .ref xf, .ref xt, .int (iI (mW)), .int (iI (mF)), .int (bI (rn)), .int (bI (sp)), .int (iI (nd)), .int (iI (rd)), .int (iI (li)), .ref pz, .int (iI (lt))])), (ml, fw_a kI 6 (gL)), (mu, fw_a kI 6 (gU)), (mp, fw_a kI 144 (gP)), (xu, fw_a kI 10 (xU)), (xf, fw_a kI 10 (xF)), (xt, fw_a kI 10 (xT))] := hD
                refine fw_cast (show (.int (bI (decide (0 < fc_thr false true true false))) : Value) = .int (bI (true)) from congrArg (fun b => Value.int (bI b)) (by decide)) ?_
                refine fw_bif_eq (tgt := 162) hx hb d_M_heat_157 (by decide) (fun c_31 => ?_) (fun c_31 => ?_)
                · exact absurd c_31 (by decide)
                · refine lv_iconst (v := (iI (0))) hx hb d_M_heat_160 (by decide) ?_
                  have e9 : km_heat mO mH o le us u mi gP gU gL xU xF xT mS.toNat = (fc_thr false true true false) := by simp [km_heat, fc_thr, c_1, c_21, c_22, c_24, c_29] <;> omega
                  have e8 : ¬ km_heat mO mH o le us u mi gP gU gL xU xF xT mS.toNat = 0 := by rw [e9]; decide
                  refine fw_iret hx hb hr hlocks hS ?_ ?_ d_M_heat_161
                  · first | (exfalso; omega) | exact Or.inl ⟨e8, by rw [e9]; exact hP⟩
                  · rw [if_neg e8]
            · exact absurd c_28 (by decide)
      · refine lv_iload_n hx hb d_M_heat_41 rfl (lv_at hl 4 rfl) ?_
        refine lv_iconst (v := (iI (1))) hx hb d_M_heat_42 (by decide) ?_
        refine lv_bipush (v := (iI (7))) hx hb d_M_heat_43 (by decide) ?_
        refine fw_callR (va_runS (As := [.int (iI (us)), .int (iI (1)), .int (iI (7))]) (rest := []) ⟨hx, hb, hml, hown, hts⟩ (c_M_in l dC dI  us 1 7 ⟨by omega, by omega⟩ ⟨by omega, by omega⟩ ⟨by omega, by omega⟩) (cwS 3 hts (gw_S kw_649 kw_650 kw_5 kw_651) rfl rfl rfl (by decide +kernel) ⟨Nat.le_of_ble_eq_true rfl, Nat.le_of_ble_eq_true rfl⟩) (fw_preRS hP hK hN [] [] rfl rfl) rfl rfl hl.1 rfl (lv_room (Nat.le_of_ble_eq_true rfl)) d_M_heat_45 ⟨Nat.le_of_ble_eq_true rfl, Nat.le_of_ble_eq_true rfl⟩).run ?_
        refine fw_bif_eq (tgt := 62) hx hb d_M_heat_48 (by decide) (fun c_32 => ?_) (fun c_32 => ?_)
        · refine lv_iconst (v := (bI (true))) hx hb d_M_heat_62 (by decide) ?_
          refine lv_goto (tgt := 67) hx hb d_M_heat_63 (by decide) ?_
          refine lv_istore (lv' := [(7, .int (bI (true))), (6, .int (bI (false))), (0, .ref mm), (1, .int (iI (o))), (2, .int (iI (le))), (3, .int (iI (us))), (4, .int (iI (u))), (5, .int (iI (mi)))]) hx hb d_M_heat_67 hl (by decide) rfl (fun ls hl => ?_)
          refine lv_iconst (v := (bI (false))) hx hb d_M_heat_69 (by decide) ?_
          refine lv_istore (lv' := [(8, .int (bI (false))), (7, .int (bI (true))), (6, .int (bI (false))), (0, .ref mm), (1, .int (iI (o))), (2, .int (iI (le))), (3, .int (iI (us))), (4, .int (iI (u))), (5, .int (iI (mi)))]) hx hb d_M_heat_70 hl (by decide) rfl (fun ls hl => ?_)
          refine lv_iload hx hb d_M_heat_72 (lv_at hl 2 rfl) ?_
          refine fw_bif_ne (tgt := 133) hx hb d_M_heat_74 (by decide) (fun c_33 => ?_) (fun c_33 => ?_)
          · exact absurd c_33 (by decide)
          · refine lv_aload_n hx hb d_M_heat_77 rfl (lv_at hl 3 rfl) ?_
            refine va_get (D := (dC, dI)) (ci := 4) (v := .int (iI (mH))) (C := R_M) (T := T_M) (N := 23) hx hb hts in_M hown hK hP 0 rfl rfl 4 (by decide) (hts _ kw_575) (fun _ h9 => h9) rfl d_M_heat_78 ?_
            refine lv_bipush (v := (iI (6))) hx hb d_M_heat_81 (by decide) ?_
            refine fw_icmp_ge (tgt := 133) hx hb d_M_heat_83 (by decide) ⟨by omega, by omega⟩ ⟨by omega, by omega⟩ (fun c_34 => ?_) (fun c_34 => ?_)
            · refine lv_aload_n hx hb d_M_heat_133 rfl (lv_at hl 3 rfl) ?_
              refine lv_iload hx hb d_M_heat_134 (lv_at hl 2 rfl) ?_
              refine lv_aload_n hx hb d_M_heat_136 rfl (lv_at hl 3 rfl) ?_
              refine va_get (D := (dC, dI)) (ci := 4) (v := .int (iI (mH))) (C := R_M) (T := T_M) (N := 23) hx hb hts in_M hown hK hP 0 rfl rfl 4 (by decide) (hts _ kw_575) (fun _ h9 => h9) rfl d_M_heat_137 ?_
              refine lv_bipush (v := (iI (6))) hx hb d_M_heat_140 (by decide) ?_
              refine fw_icmp_ne (tgt := 149) hx hb d_M_heat_142 (by decide) ⟨by omega, by omega⟩ ⟨by omega, by omega⟩ (fun c_35 => ?_) (fun c_35 => ?_)
              · refine lv_iconst (v := (bI (false))) hx hb d_M_heat_149 (by decide) ?_
                refine lv_iload hx hb d_M_heat_150 (lv_at hl 1 rfl) ?_
                refine lv_iload hx hb d_M_heat_152 (lv_at hl 0 rfl) ?_
                refine fw_calliP [0] (va_runV (As := [.int (bI (false)), .int (bI (false)), .int (bI (true)), .int (bI (false))]) (rest := []) ⟨hx, hb, hml, hown, hts⟩ (c_M_throwing l dC dI  _ mm th mO mg md mH ml mu mp ud cs mS xu xf xt mW mF rn sp nd rd li pz lt false false true false ) (cwV 4 hts (gw_V kw_652 kw_654 ks_M_throwing kw_5 kw_655) rfl rfl rfl (by decide +kernel) ⟨Nat.le_of_ble_eq_true rfl, Nat.le_of_ble_eq_true rfl⟩) (fw_preV (ci := 4) (q0 := 0) hP hK hD hN [0] [] rfl rfl rfl rfl rfl) rfl rfl hl.1 rfl (lv_room (Nat.le_of_ble_eq_true rfl)) d_M_heat_154 ⟨Nat.le_of_ble_eq_true rfl, Nat.le_of_ble_eq_true rfl⟩) hP hD hS hA rfl rfl rfl (fun H locs hP hD hS => ?_)
                have hP : va_P (dC, dI) cls_ [(mm, .inr (4, [.int (iI (fc_thr false false true false)), .int (iI (mO)), .ref mg, .ref md, .int (iI (mH)), .ref ml, .ref mu, .ref mp, .int (bI (ud)), .int (iI (cs)), .int (iI (mS)), .ref xu, .ref xf, .ref xt, .int (iI (mW)), .int (iI (mF)), .int (bI (rn)), .int (bI (sp)), .int (iI (nd)), .int (iI (rd)), .int (iI (li)), .ref pz, .int (iI (lt))])), (ml, fw_a kI 6 (gL)), (mu, fw_a kI 6 (gU)), (mp, fw_a kI 144 (gP)), (xu, fw_a kI 10 (xU)), (xf, fw_a kI 10 (xF)), (xt, fw_a kI 10 (xT))] H := hP
                have hD : va_D A [(mm, .inr (4, [.int (iI (fc_thr false false true false)), .int (iI (mO)), .ref mg, .ref md, .int (iI (mH)), .ref ml, .ref mu, .ref mp, .int (bI (ud)), .int (iI (cs)), .int (iI (mS)), .ref xu, .ref xf, .ref xt, .int (iI (mW)), .int (iI (mF)), .int (bI (rn)), .int (bI (sp)), .int (iI (nd)), .int (iI (rd)), .int (iI (li)), .ref pz, .int (iI (lt))])), (ml, fw_a kI 6 (gL)), (mu, fw_a kI 6 (gU)), (mp, fw_a kI 144 (gP)), (xu, fw_a kI 10 (xU)), (xf, fw_a kI 10 (xF)), (xt, fw_a kI 10 (xT))] := hD
                refine fw_cast (show (.int (bI (decide (0 < fc_thr false false true false))) : Value) = .int (bI (true)) from congrArg (fun b => Value.int (bI b)) (by decide)) ?_
                refine fw_bif_eq (tgt := 162) hx hb d_M_heat_157 (by decide) (fun c_36 => ?_) (fun c_36 => ?_)
                · exact absurd c_36 (by decide)
                · refine lv_iconst (v := (iI (0))) hx hb d_M_heat_160 (by decide) ?_
                  have e9 : km_heat mO mH o le us u mi gP gU gL xU xF xT mS.toNat = (fc_thr false false true false) := by simp [km_heat, fc_thr, c_1, c_21, c_22, c_32, c_34, c_35] <;> omega
                  have e8 : ¬ km_heat mO mH o le us u mi gP gU gL xU xF xT mS.toNat = 0 := by rw [e9]; decide
                  refine fw_iret hx hb hr hlocks hS ?_ ?_ d_M_heat_161
                  · first | (exfalso; omega) | exact Or.inl ⟨e8, by rw [e9]; exact hP⟩
                  · rw [if_neg e8]
              · refine lv_iconst (v := (bI (true))) hx hb d_M_heat_145 (by decide) ?_
                refine lv_goto (tgt := 150) hx hb d_M_heat_146 (by decide) ?_
                refine lv_iload hx hb d_M_heat_150 (lv_at hl 1 rfl) ?_
                refine lv_iload hx hb d_M_heat_152 (lv_at hl 0 rfl) ?_
                refine fw_calliP [0] (va_runV (As := [.int (bI (false)), .int (bI (true)), .int (bI (true)), .int (bI (false))]) (rest := []) ⟨hx, hb, hml, hown, hts⟩ (c_M_throwing l dC dI  _ mm th mO mg md mH ml mu mp ud cs mS xu xf xt mW mF rn sp nd rd li pz lt false true true false ) (cwV 4 hts (gw_V kw_652 kw_654 ks_M_throwing kw_5 kw_655) rfl rfl rfl (by decide +kernel) ⟨Nat.le_of_ble_eq_true rfl, Nat.le_of_ble_eq_true rfl⟩) (fw_preV (ci := 4) (q0 := 0) hP hK hD hN [0] [] rfl rfl rfl rfl rfl) rfl rfl hl.1 rfl (lv_room (Nat.le_of_ble_eq_true rfl)) d_M_heat_154 ⟨Nat.le_of_ble_eq_true rfl, Nat.le_of_ble_eq_true rfl⟩) hP hD hS hA rfl rfl rfl (fun H locs hP hD hS => ?_)
                have hP : va_P (dC, dI) cls_ [(mm, .inr (4, [.int (iI (fc_thr false true true false)), .int (iI (mO)), .ref mg, .ref md, .int (iI (mH)), .ref ml, .ref mu, .ref mp, .int (bI (ud)), .int (iI (cs)), .int (iI (mS)), .ref xu, .ref xf, .ref xt, .int (iI (mW)), .int (iI (mF)), .int (bI (rn)), .int (bI (sp)), .int (iI (nd)), .int (iI (rd)), .int (iI (li)), .ref pz, .int (iI (lt))])), (ml, fw_a kI 6 (gL)), (mu, fw_a kI 6 (gU)), (mp, fw_a kI 144 (gP)), (xu, fw_a kI 10 (xU)), (xf, fw_a kI 10 (xF)), (xt, fw_a kI 10 (xT))] H := hP
                have hD : va_D A [(mm, .inr (4, [.int (iI (fc_thr false true true false)), .int (iI (mO)), .ref mg, .ref md, .int (iI (mH)), .ref ml, .ref mu, .ref mp, .int (bI (ud)), .int (iI (cs)), .int (iI (mS)), .ref xu, .ref xf, .ref xt, .int (iI (mW)), .int (iI (mF)), .int (bI (rn)), .int (bI (sp)), .int (iI (nd)), .int (iI (rd)), .int (iI (li)), .ref pz, .int (iI (lt))])), (ml, fw_a kI 6 (gL)), (mu, fw_a kI 6 (gU)), (mp, fw_a kI 144 (gP)), (xu, fw_a kI 10 (xU)), (xf, fw_a kI 10 (xF)), (xt, fw_a kI 10 (xT))] := hD
                refine fw_cast (show (.int (bI (decide (0 < fc_thr false true true false))) : Value) = .int (bI (true)) from congrArg (fun b => Value.int (bI b)) (by decide)) ?_
                refine fw_bif_eq (tgt := 162) hx hb d_M_heat_157 (by decide) (fun c_37 => ?_) (fun c_37 => ?_)
                · exact absurd c_37 (by decide)
                · refine lv_iconst (v := (iI (0))) hx hb d_M_heat_160 (by decide) ?_
                  have e9 : km_heat mO mH o le us u mi gP gU gL xU xF xT mS.toNat = (fc_thr false true true false) := by simp [km_heat, fc_thr, c_1, c_21, c_22, c_32, c_34, c_35] <;> omega
                  have e8 : ¬ km_heat mO mH o le us u mi gP gU gL xU xF xT mS.toNat = 0 := by rw [e9]; decide
                  refine fw_iret hx hb hr hlocks hS ?_ ?_ d_M_heat_161
                  · first | (exfalso; omega) | exact Or.inl ⟨e8, by rw [e9]; exact hP⟩
                  · rw [if_neg e8]
            · refine lv_iload hx hb d_M_heat_86 (lv_at hl 1 rfl) ?_
              refine fw_bif_ne (tgt := 133) hx hb d_M_heat_88 (by decide) (fun c_38 => ?_) (fun c_38 => ?_)
              · refine lv_aload_n hx hb d_M_heat_133 rfl (lv_at hl 3 rfl) ?_
                refine lv_iload hx hb d_M_heat_134 (lv_at hl 2 rfl) ?_
                refine lv_aload_n hx hb d_M_heat_136 rfl (lv_at hl 3 rfl) ?_
                refine va_get (D := (dC, dI)) (ci := 4) (v := .int (iI (mH))) (C := R_M) (T := T_M) (N := 23) hx hb hts in_M hown hK hP 0 rfl rfl 4 (by decide) (hts _ kw_575) (fun _ h9 => h9) rfl d_M_heat_137 ?_
                refine lv_bipush (v := (iI (6))) hx hb d_M_heat_140 (by decide) ?_
                refine fw_icmp_ne (tgt := 149) hx hb d_M_heat_142 (by decide) ⟨by omega, by omega⟩ ⟨by omega, by omega⟩ (fun c_39 => ?_) (fun c_39 => ?_)
                · refine lv_iconst (v := (bI (false))) hx hb d_M_heat_149 (by decide) ?_
                  refine lv_iload hx hb d_M_heat_150 (lv_at hl 1 rfl) ?_
                  refine lv_iload hx hb d_M_heat_152 (lv_at hl 0 rfl) ?_
                  refine fw_calliP [0] (va_runV (As := [.int (bI (false)), .int (bI (false)), .int (bI (true)), .int (bI (false))]) (rest := []) ⟨hx, hb, hml, hown, hts⟩ (c_M_throwing l dC dI  _ mm th mO mg md mH ml mu mp ud cs mS xu xf xt mW mF rn sp nd rd li pz lt false false true false ) (cwV 4 hts (gw_V kw_652 kw_654 ks_M_throwing kw_5 kw_655) rfl rfl rfl (by decide +kernel) ⟨Nat.le_of_ble_eq_true rfl, Nat.le_of_ble_eq_true rfl⟩) (fw_preV (ci := 4) (q0 := 0) hP hK hD hN [0] [] rfl rfl rfl rfl rfl) rfl rfl hl.1 rfl (lv_room (Nat.le_of_ble_eq_true rfl)) d_M_heat_154 ⟨Nat.le_of_ble_eq_true rfl, Nat.le_of_ble_eq_true rfl⟩) hP hD hS hA rfl rfl rfl (fun H locs hP hD hS => ?_)
                  have hP : va_P (dC, dI) cls_ [(mm, .inr (4, [.int (iI (fc_thr false false true false)), .int (iI (mO)), .ref mg, .ref md, .int (iI (mH)), .ref ml, .ref mu, .ref mp, .int (bI (ud)), .int (iI (cs)), .int (iI (mS)), .ref xu, .ref xf, .ref xt, .int (iI (mW)), .int (iI (mF)), .int (bI (rn)), .int (bI (sp)), .int (iI (nd)), .int (iI (rd)), .int (iI (li)), .ref pz, .int (iI (lt))])), (ml, fw_a kI 6 (gL)), (mu, fw_a kI 6 (gU)), (mp, fw_a kI 144 (gP)), (xu, fw_a kI 10 (xU)), (xf, fw_a kI 10 (xF)), (xt, fw_a kI 10 (xT))] H := hP
                  have hD : va_D A [(mm, .inr (4, [.int (iI (fc_thr false false true false)), .int (iI (mO)), .ref mg, .ref md, .int (iI (mH)), .ref ml, .ref mu, .ref mp, .int (bI (ud)), .int (iI (cs)), .int (iI (mS)), .ref xu, .ref xf, .ref xt, .int (iI (mW)), .int (iI (mF)), .int (bI (rn)), .int (bI (sp)), .int (iI (nd)), .int (iI (rd)), .int (iI (li)), .ref pz, .int (iI (lt))])), (ml, fw_a kI 6 (gL)), (mu, fw_a kI 6 (gU)), (mp, fw_a kI 144 (gP)), (xu, fw_a kI 10 (xU)), (xf, fw_a kI 10 (xF)), (xt, fw_a kI 10 (xT))] := hD
                  refine fw_cast (show (.int (bI (decide (0 < fc_thr false false true false))) : Value) = .int (bI (true)) from congrArg (fun b => Value.int (bI b)) (by decide)) ?_
                  refine fw_bif_eq (tgt := 162) hx hb d_M_heat_157 (by decide) (fun c_40 => ?_) (fun c_40 => ?_)
                  · exact absurd c_40 (by decide)
                  · refine lv_iconst (v := (iI (0))) hx hb d_M_heat_160 (by decide) ?_
                    have e9 : km_heat mO mH o le us u mi gP gU gL xU xF xT mS.toNat = (fc_thr false false true false) := by simp [km_heat, fc_thr, c_1, c_21, c_22, c_32, c_34, c_39] <;> omega
                    have e8 : ¬ km_heat mO mH o le us u mi gP gU gL xU xF xT mS.toNat = 0 := by rw [e9]; decide
                    refine fw_iret hx hb hr hlocks hS ?_ ?_ d_M_heat_161
                    · first | (exfalso; omega) | exact Or.inl ⟨e8, by rw [e9]; exact hP⟩
                    · rw [if_neg e8]
                · refine lv_iconst (v := (bI (true))) hx hb d_M_heat_145 (by decide) ?_
                  refine lv_goto (tgt := 150) hx hb d_M_heat_146 (by decide) ?_
                  refine lv_iload hx hb d_M_heat_150 (lv_at hl 1 rfl) ?_
                  refine lv_iload hx hb d_M_heat_152 (lv_at hl 0 rfl) ?_
                  refine fw_calliP [0] (va_runV (As := [.int (bI (false)), .int (bI (true)), .int (bI (true)), .int (bI (false))]) (rest := []) ⟨hx, hb, hml, hown, hts⟩ (c_M_throwing l dC dI  _ mm th mO mg md mH ml mu mp ud cs mS xu xf xt mW mF rn sp nd rd li pz lt false true true false ) (cwV 4 hts (gw_V kw_652 kw_654 ks_M_throwing kw_5 kw_655) rfl rfl rfl (by decide +kernel) ⟨Nat.le_of_ble_eq_true rfl, Nat.le_of_ble_eq_true rfl⟩) (fw_preV (ci := 4) (q0 := 0) hP hK hD hN [0] [] rfl rfl rfl rfl rfl) rfl rfl hl.1 rfl (lv_room (Nat.le_of_ble_eq_true rfl)) d_M_heat_154 ⟨Nat.le_of_ble_eq_true rfl, Nat.le_of_ble_eq_true rfl⟩) hP hD hS hA rfl rfl rfl (fun H locs hP hD hS => ?_)
                  have hP : va_P (dC, dI) cls_ [(mm, .inr (4, [.int (iI (fc_thr false true true false)), .int (iI (mO)), .ref mg, .ref md, .int (iI (mH)), .ref ml, .ref mu, .ref mp, .int (bI (ud)), .int (iI (cs)), .int (iI (mS)), .ref xu, .ref xf, .ref xt, .int (iI (mW)), .int (iI (mF)), .int (bI (rn)), .int (bI (sp)), .int (iI (nd)), .int (iI (rd)), .int (iI (li)), .ref pz, .int (iI (lt))])), (ml, fw_a kI 6 (gL)), (mu, fw_a kI 6 (gU)), (mp, fw_a kI 144 (gP)), (xu, fw_a kI 10 (xU)), (xf, fw_a kI 10 (xF)), (xt, fw_a kI 10 (xT))] H := hP
                  have hD : va_D A [(mm, .inr (4, [.int (iI (fc_thr false true true false)), .int (iI (mO)), .ref mg, .ref md, .int (iI (mH)), .ref ml, .ref mu, .ref mp, .int (bI (ud)), .int (iI (cs)), .int (iI (mS)), .ref xu, .ref xf, .ref xt, .int (iI (mW)), .int (iI (mF)), .int (bI (rn)), .int (bI (sp)), .int (iI (nd)), .int (iI (rd)), .int (iI (li)), .ref pz, .int (iI (lt))])), (ml, fw_a kI 6 (gL)), (mu, fw_a kI 6 (gU)), (mp, fw_a kI 144 (gP)), (xu, fw_a kI 10 (xU)), (xf, fw_a kI 10 (xF)), (xt, fw_a kI 10 (xT))] := hD
                  refine fw_cast (show (.int (bI (decide (0 < fc_thr false true true false))) : Value) = .int (bI (true)) from congrArg (fun b => Value.int (bI b)) (by decide)) ?_
                  refine fw_bif_eq (tgt := 162) hx hb d_M_heat_157 (by decide) (fun c_41 => ?_) (fun c_41 => ?_)
                  · exact absurd c_41 (by decide)
                  · refine lv_iconst (v := (iI (0))) hx hb d_M_heat_160 (by decide) ?_
                    have e9 : km_heat mO mH o le us u mi gP gU gL xU xF xT mS.toNat = (fc_thr false true true false) := by simp [km_heat, fc_thr, c_1, c_21, c_22, c_32, c_34, c_39] <;> omega
                    have e8 : ¬ km_heat mO mH o le us u mi gP gU gL xU xF xT mS.toNat = 0 := by rw [e9]; decide
                    refine fw_iret hx hb hr hlocks hS ?_ ?_ d_M_heat_161
                    · first | (exfalso; omega) | exact Or.inl ⟨e8, by rw [e9]; exact hP⟩
                    · rw [if_neg e8]
              · exact absurd c_38 (by decide)
        · refine lv_iload hx hb d_M_heat_51 (lv_at hl 6 rfl) ?_
          refine lv_iconst (v := (iI (0))) hx hb d_M_heat_53 (by decide) ?_
          refine lv_bipush (v := (iI (59))) hx hb d_M_heat_54 (by decide) ?_
          refine fw_callR (va_runS (As := [.int (iI (mi)), .int (iI (0)), .int (iI (59))]) (rest := []) ⟨hx, hb, hml, hown, hts⟩ (c_M_in l dC dI  mi 0 59 ⟨by omega, by omega⟩ ⟨by omega, by omega⟩ ⟨by omega, by omega⟩) (cwS 3 hts (gw_S kw_649 kw_650 kw_5 kw_651) rfl rfl rfl (by decide +kernel) ⟨Nat.le_of_ble_eq_true rfl, Nat.le_of_ble_eq_true rfl⟩) (fw_preRS hP hK hN [] [] rfl rfl) rfl rfl hl.1 rfl (lv_room (Nat.le_of_ble_eq_true rfl)) d_M_heat_56 ⟨Nat.le_of_ble_eq_true rfl, Nat.le_of_ble_eq_true rfl⟩).run ?_
          refine fw_bif_ne (tgt := 66) hx hb d_M_heat_59 (by decide) (fun c_42 => ?_) (fun c_42 => ?_)
          · obtain ⟨g5, g6⟩ := fc_in_t c_22
            obtain ⟨g7, g8⟩ := fc_in_t c_32
            obtain ⟨g9, g10⟩ := fc_in_t c_42
            have hgL2 := fw_upb (k := mH.toNat) (v := le) hgL (by omega) (by omega)
            have hgU2 := fw_upb (k := mH.toNat) (v := us) hgU (by omega) (by omega)
            refine lv_iconst (v := (bI (false))) hx hb d_M_heat_66 (by decide) ?_
            refine lv_istore (lv' := [(7, .int (bI (false))), (6, .int (bI (false))), (0, .ref mm), (1, .int (iI (o))), (2, .int (iI (le))), (3, .int (iI (us))), (4, .int (iI (u))), (5, .int (iI (mi)))]) hx hb d_M_heat_67 hl (by decide) rfl (fun ls hl => ?_)
            refine lv_iconst (v := (bI (false))) hx hb d_M_heat_69 (by decide) ?_
            refine lv_istore (lv' := [(8, .int (bI (false))), (7, .int (bI (false))), (6, .int (bI (false))), (0, .ref mm), (1, .int (iI (o))), (2, .int (iI (le))), (3, .int (iI (us))), (4, .int (iI (u))), (5, .int (iI (mi)))]) hx hb d_M_heat_70 hl (by decide) rfl (fun ls hl => ?_)
            refine lv_iload hx hb d_M_heat_72 (lv_at hl 2 rfl) ?_
            refine fw_bif_ne (tgt := 133) hx hb d_M_heat_74 (by decide) (fun c_43 => ?_) (fun c_43 => ?_)
            · exact absurd c_43 (by decide)
            · refine lv_aload_n hx hb d_M_heat_77 rfl (lv_at hl 3 rfl) ?_
              refine va_get (D := (dC, dI)) (ci := 4) (v := .int (iI (mH))) (C := R_M) (T := T_M) (N := 23) hx hb hts in_M hown hK hP 0 rfl rfl 4 (by decide) (hts _ kw_575) (fun _ h9 => h9) rfl d_M_heat_78 ?_
              refine lv_bipush (v := (iI (6))) hx hb d_M_heat_81 (by decide) ?_
              refine fw_icmp_ge (tgt := 133) hx hb d_M_heat_83 (by decide) ⟨by omega, by omega⟩ ⟨by omega, by omega⟩ (fun c_44 => ?_) (fun c_44 => ?_)
              · refine lv_aload_n hx hb d_M_heat_133 rfl (lv_at hl 3 rfl) ?_
                refine lv_iload hx hb d_M_heat_134 (lv_at hl 2 rfl) ?_
                refine lv_aload_n hx hb d_M_heat_136 rfl (lv_at hl 3 rfl) ?_
                refine va_get (D := (dC, dI)) (ci := 4) (v := .int (iI (mH))) (C := R_M) (T := T_M) (N := 23) hx hb hts in_M hown hK hP 0 rfl rfl 4 (by decide) (hts _ kw_575) (fun _ h9 => h9) rfl d_M_heat_137 ?_
                refine lv_bipush (v := (iI (6))) hx hb d_M_heat_140 (by decide) ?_
                refine fw_icmp_ne (tgt := 149) hx hb d_M_heat_142 (by decide) ⟨by omega, by omega⟩ ⟨by omega, by omega⟩ (fun c_45 => ?_) (fun c_45 => ?_)
                · refine lv_iconst (v := (bI (false))) hx hb d_M_heat_149 (by decide) ?_
                  refine lv_iload hx hb d_M_heat_150 (lv_at hl 1 rfl) ?_
                  refine lv_iload hx hb d_M_heat_152 (lv_at hl 0 rfl) ?_
                  refine fw_calliP [0] (va_runV (As := [.int (bI (false)), .int (bI (false)), .int (bI (false)), .int (bI (false))]) (rest := []) ⟨hx, hb, hml, hown, hts⟩ (c_M_throwing l dC dI  _ mm th mO mg md mH ml mu mp ud cs mS xu xf xt mW mF rn sp nd rd li pz lt false false false false ) (cwV 4 hts (gw_V kw_652 kw_654 ks_M_throwing kw_5 kw_655) rfl rfl rfl (by decide +kernel) ⟨Nat.le_of_ble_eq_true rfl, Nat.le_of_ble_eq_true rfl⟩) (fw_preV (ci := 4) (q0 := 0) hP hK hD hN [0] [] rfl rfl rfl rfl rfl) rfl rfl hl.1 rfl (lv_room (Nat.le_of_ble_eq_true rfl)) d_M_heat_154 ⟨Nat.le_of_ble_eq_true rfl, Nat.le_of_ble_eq_true rfl⟩) hP hD hS hA rfl rfl rfl (fun H locs hP hD hS => ?_)
                  have hP : va_P (dC, dI) cls_ [(mm, .inr (4, [.int (iI (fc_thr false false false false)), .int (iI (mO)), .ref mg, .ref md, .int (iI (mH)), .ref ml, .ref mu, .ref mp, .int (bI (ud)), .int (iI (cs)), .int (iI (mS)), .ref xu, .ref xf, .ref xt, .int (iI (mW)), .int (iI (mF)), .int (bI (rn)), .int (bI (sp)), .int (iI (nd)), .int (iI (rd)), .int (iI (li)), .ref pz, .int (iI (lt))])), (ml, fw_a kI 6 (gL)), (mu, fw_a kI 6 (gU)), (mp, fw_a kI 144 (gP)), (xu, fw_a kI 10 (xU)), (xf, fw_a kI 10 (xF)), (xt, fw_a kI 10 (xT))] H := hP
                  have hD : va_D A [(mm, .inr (4, [.int (iI (fc_thr false false false false)), .int (iI (mO)), .ref mg, .ref md, .int (iI (mH)), .ref ml, .ref mu, .ref mp, .int (bI (ud)), .int (iI (cs)), .int (iI (mS)), .ref xu, .ref xf, .ref xt, .int (iI (mW)), .int (iI (mF)), .int (bI (rn)), .int (bI (sp)), .int (iI (nd)), .int (iI (rd)), .int (iI (li)), .ref pz, .int (iI (lt))])), (ml, fw_a kI 6 (gL)), (mu, fw_a kI 6 (gU)), (mp, fw_a kI 144 (gP)), (xu, fw_a kI 10 (xU)), (xf, fw_a kI 10 (xF)), (xt, fw_a kI 10 (xT))] := hD
                  refine fw_cast (show (.int (bI (decide (0 < fc_thr false false false false))) : Value) = .int (bI (false)) from congrArg (fun b => Value.int (bI b)) (by decide)) ?_
                  refine fw_bif_eq (tgt := 162) hx hb d_M_heat_157 (by decide) (fun c_46 => ?_) (fun c_46 => ?_)
                  · refine lv_aload_n hx hb d_M_heat_162 rfl (lv_at hl 3 rfl) ?_
                    refine va_get (D := (dC, dI)) (ci := 4) (v := .ref mp) (C := R_M) (T := T_M) (N := 23) hx hb hts in_M hown hK hP 0 rfl rfl 7 (by decide) (hts _ kw_578) (fun _ h9 => h9) rfl d_M_heat_163 ?_
                    refine lv_iconst (v := (iI (3))) hx hb d_M_heat_166 (by decide) ?_
                    refine lv_aload_n hx hb d_M_heat_167 rfl (lv_at hl 3 rfl) ?_
                    refine va_get (D := (dC, dI)) (ci := 4) (v := .int (iI (mH))) (C := R_M) (T := T_M) (N := 23) hx hb hts in_M hown hK hP 0 rfl rfl 4 (by decide) (hts _ kw_575) (fun _ h9 => h9) rfl d_M_heat_168 ?_
                    refine fw_imul hx hb d_M_heat_171 ?_
                    refine lv_iload hx hb d_M_heat_172 (lv_at hl 7 rfl) ?_
                    refine fw_iast hx hb hK hP hD hS 3 0 rfl rfl ((3 * mH.toNat)) (by omega) (by omega) (by omega) d_M_heat_174 (fun H locs hP hD hS => ?_)
                    have hP : va_P (dC, dI) cls_ [(mm, .inr (4, [.int (iI (fc_thr false false false false)), .int (iI (mO)), .ref mg, .ref md, .int (iI (mH)), .ref ml, .ref mu, .ref mp, .int (bI (ud)), .int (iI (cs)), .int (iI (mS)), .ref xu, .ref xf, .ref xt, .int (iI (mW)), .int (iI (mF)), .int (bI (rn)), .int (bI (sp)), .int (iI (nd)), .int (iI (rd)), .int (iI (li)), .ref pz, .int (iI (lt))])), (ml, fw_a kI 6 (gL)), (mu, fw_a kI 6 (gU)), (mp, fw_a kI 144 (fw_up gP (3 * mH.toNat) u)), (xu, fw_a kI 10 (xU)), (xf, fw_a kI 10 (xF)), (xt, fw_a kI 10 (xT))] H := hP
                    have hD : va_D A [(mm, .inr (4, [.int (iI (fc_thr false false false false)), .int (iI (mO)), .ref mg, .ref md, .int (iI (mH)), .ref ml, .ref mu, .ref mp, .int (bI (ud)), .int (iI (cs)), .int (iI (mS)), .ref xu, .ref xf, .ref xt, .int (iI (mW)), .int (iI (mF)), .int (bI (rn)), .int (bI (sp)), .int (iI (nd)), .int (iI (rd)), .int (iI (li)), .ref pz, .int (iI (lt))])), (ml, fw_a kI 6 (gL)), (mu, fw_a kI 6 (gU)), (mp, fw_a kI 144 (fw_up gP (3 * mH.toNat) u)), (xu, fw_a kI 10 (xU)), (xf, fw_a kI 10 (xF)), (xt, fw_a kI 10 (xT))] := hD
                    refine lv_aload_n hx hb d_M_heat_175 rfl (lv_at hl 3 rfl) ?_
                    refine va_get (D := (dC, dI)) (ci := 4) (v := .ref mp) (C := R_M) (T := T_M) (N := 23) hx hb hts in_M hown hK hP 0 rfl rfl 7 (by decide) (hts _ kw_578) (fun _ h9 => h9) rfl d_M_heat_176 ?_
                    refine lv_iconst (v := (iI (3))) hx hb d_M_heat_179 (by decide) ?_
                    refine lv_aload_n hx hb d_M_heat_180 rfl (lv_at hl 3 rfl) ?_
                    refine va_get (D := (dC, dI)) (ci := 4) (v := .int (iI (mH))) (C := R_M) (T := T_M) (N := 23) hx hb hts in_M hown hK hP 0 rfl rfl 4 (by decide) (hts _ kw_575) (fun _ h9 => h9) rfl d_M_heat_181 ?_
                    refine fw_imul hx hb d_M_heat_184 ?_
                    refine lv_iconst (v := (iI (1))) hx hb d_M_heat_185 (by decide) ?_
                    refine fw_iadd hx hb d_M_heat_186 ?_
                    refine lv_iload hx hb d_M_heat_187 (lv_at hl 8 rfl) ?_
                    refine fw_iast hx hb hK hP hD hS 3 0 rfl rfl (((3 * mH.toNat) + 1)) (by omega) (by omega) (by omega) d_M_heat_189 (fun H locs hP hD hS => ?_)
                    have hP : va_P (dC, dI) cls_ [(mm, .inr (4, [.int (iI (fc_thr false false false false)), .int (iI (mO)), .ref mg, .ref md, .int (iI (mH)), .ref ml, .ref mu, .ref mp, .int (bI (ud)), .int (iI (cs)), .int (iI (mS)), .ref xu, .ref xf, .ref xt, .int (iI (mW)), .int (iI (mF)), .int (bI (rn)), .int (bI (sp)), .int (iI (nd)), .int (iI (rd)), .int (iI (li)), .ref pz, .int (iI (lt))])), (ml, fw_a kI 6 (gL)), (mu, fw_a kI 6 (gU)), (mp, fw_a kI 144 (fw_up (fw_up gP (3 * mH.toNat) u) ((3 * mH.toNat) + 1) mi)), (xu, fw_a kI 10 (xU)), (xf, fw_a kI 10 (xF)), (xt, fw_a kI 10 (xT))] H := hP
                    have hD : va_D A [(mm, .inr (4, [.int (iI (fc_thr false false false false)), .int (iI (mO)), .ref mg, .ref md, .int (iI (mH)), .ref ml, .ref mu, .ref mp, .int (bI (ud)), .int (iI (cs)), .int (iI (mS)), .ref xu, .ref xf, .ref xt, .int (iI (mW)), .int (iI (mF)), .int (bI (rn)), .int (bI (sp)), .int (iI (nd)), .int (iI (rd)), .int (iI (li)), .ref pz, .int (iI (lt))])), (ml, fw_a kI 6 (gL)), (mu, fw_a kI 6 (gU)), (mp, fw_a kI 144 (fw_up (fw_up gP (3 * mH.toNat) u) ((3 * mH.toNat) + 1) mi)), (xu, fw_a kI 10 (xU)), (xf, fw_a kI 10 (xF)), (xt, fw_a kI 10 (xT))] := hD
                    refine lv_aload_n hx hb d_M_heat_190 rfl (lv_at hl 3 rfl) ?_
                    refine va_get (D := (dC, dI)) (ci := 4) (v := .ref mp) (C := R_M) (T := T_M) (N := 23) hx hb hts in_M hown hK hP 0 rfl rfl 7 (by decide) (hts _ kw_578) (fun _ h9 => h9) rfl d_M_heat_191 ?_
                    refine lv_iconst (v := (iI (3))) hx hb d_M_heat_194 (by decide) ?_
                    refine lv_aload_n hx hb d_M_heat_195 rfl (lv_at hl 3 rfl) ?_
                    refine va_get (D := (dC, dI)) (ci := 4) (v := .int (iI (mH))) (C := R_M) (T := T_M) (N := 23) hx hb hts in_M hown hK hP 0 rfl rfl 4 (by decide) (hts _ kw_575) (fun _ h9 => h9) rfl d_M_heat_196 ?_
                    refine fw_imul hx hb d_M_heat_199 ?_
                    refine lv_iconst (v := (iI (2))) hx hb d_M_heat_200 (by decide) ?_
                    refine fw_iadd hx hb d_M_heat_201 ?_
                    refine lv_iload_n hx hb d_M_heat_202 rfl (lv_at hl 4 rfl) ?_
                    refine fw_iast hx hb hK hP hD hS 3 0 rfl rfl (((3 * mH.toNat) + 2)) (by omega) (by omega) (by omega) d_M_heat_203 (fun H locs hP hD hS => ?_)
                    have hP : va_P (dC, dI) cls_ [(mm, .inr (4, [.int (iI (fc_thr false false false false)), .int (iI (mO)), .ref mg, .ref md, .int (iI (mH)), .ref ml, .ref mu, .ref mp, .int (bI (ud)), .int (iI (cs)), .int (iI (mS)), .ref xu, .ref xf, .ref xt, .int (iI (mW)), .int (iI (mF)), .int (bI (rn)), .int (bI (sp)), .int (iI (nd)), .int (iI (rd)), .int (iI (li)), .ref pz, .int (iI (lt))])), (ml, fw_a kI 6 (gL)), (mu, fw_a kI 6 (gU)), (mp, fw_a kI 144 (fw_up (fw_up (fw_up gP (3 * mH.toNat) u) ((3 * mH.toNat) + 1) mi) ((3 * mH.toNat) + 2) o)), (xu, fw_a kI 10 (xU)), (xf, fw_a kI 10 (xF)), (xt, fw_a kI 10 (xT))] H := hP
                    have hD : va_D A [(mm, .inr (4, [.int (iI (fc_thr false false false false)), .int (iI (mO)), .ref mg, .ref md, .int (iI (mH)), .ref ml, .ref mu, .ref mp, .int (bI (ud)), .int (iI (cs)), .int (iI (mS)), .ref xu, .ref xf, .ref xt, .int (iI (mW)), .int (iI (mF)), .int (bI (rn)), .int (bI (sp)), .int (iI (nd)), .int (iI (rd)), .int (iI (li)), .ref pz, .int (iI (lt))])), (ml, fw_a kI 6 (gL)), (mu, fw_a kI 6 (gU)), (mp, fw_a kI 144 (fw_up (fw_up (fw_up gP (3 * mH.toNat) u) ((3 * mH.toNat) + 1) mi) ((3 * mH.toNat) + 2) o)), (xu, fw_a kI 10 (xU)), (xf, fw_a kI 10 (xF)), (xt, fw_a kI 10 (xT))] := hD
                    refine lv_aload_n hx hb d_M_heat_204 rfl (lv_at hl 3 rfl) ?_
                    refine lv_dup hx hb d_M_heat_205 rfl ?_
                    refine va_get (D := (dC, dI)) (ci := 4) (v := .int (iI (mH))) (C := R_M) (T := T_M) (N := 23) hx hb hts in_M hown hK hP 0 rfl rfl 4 (by decide) (hts _ kw_575) (fun _ h9 => h9) rfl d_M_heat_206 ?_
                    refine lv_iconst (v := (iI (1))) hx hb d_M_heat_209 (by decide) ?_
                    refine fw_iadd hx hb d_M_heat_210 ?_
                    refine va_put (D := (dC, dI)) (ci := 4) (v := .int (iI (mH + 1))) (ty := .int) (C := R_M) (T := T_M) (N := 23) hx hb hts in_M t_M t_M_ok n_M hown hK hP hD hS 0 rfl rfl 4 (by decide) (hts _ kw_575) (fun _ h9 => h9) rfl (by decide +kernel) rfl rfl (Nat.le_of_ble_eq_true rfl) d_M_heat_211 (fun H locs hP hD hS => ?_)
                    have hP : va_P (dC, dI) cls_ [(mm, .inr (4, [.int (iI (fc_thr false false false false)), .int (iI (mO)), .ref mg, .ref md, .int (iI (mH + 1)), .ref ml, .ref mu, .ref mp, .int (bI (ud)), .int (iI (cs)), .int (iI (mS)), .ref xu, .ref xf, .ref xt, .int (iI (mW)), .int (iI (mF)), .int (bI (rn)), .int (bI (sp)), .int (iI (nd)), .int (iI (rd)), .int (iI (li)), .ref pz, .int (iI (lt))])), (ml, fw_a kI 6 (gL)), (mu, fw_a kI 6 (gU)), (mp, fw_a kI 144 (fw_up (fw_up (fw_up gP (3 * mH.toNat) u) ((3 * mH.toNat) + 1) mi) ((3 * mH.toNat) + 2) o)), (xu, fw_a kI 10 (xU)), (xf, fw_a kI 10 (xF)), (xt, fw_a kI 10 (xT))] H := hP
                    have hD : va_D A [(mm, .inr (4, [.int (iI (fc_thr false false false false)), .int (iI (mO)), .ref mg, .ref md, .int (iI (mH + 1)), .ref ml, .ref mu, .ref mp, .int (bI (ud)), .int (iI (cs)), .int (iI (mS)), .ref xu, .ref xf, .ref xt, .int (iI (mW)), .int (iI (mF)), .int (bI (rn)), .int (bI (sp)), .int (iI (nd)), .int (iI (rd)), .int (iI (li)), .ref pz, .int (iI (lt))])), (ml, fw_a kI 6 (gL)), (mu, fw_a kI 6 (gU)), (mp, fw_a kI 144 (fw_up (fw_up (fw_up gP (3 * mH.toNat) u) ((3 * mH.toNat) + 1) mi) ((3 * mH.toNat) + 2) o)), (xu, fw_a kI 10 (xU)), (xf, fw_a kI 10 (xF)), (xt, fw_a kI 10 (xT))] := hD
                    refine lv_aload_n hx hb d_M_heat_214 rfl (lv_at hl 3 rfl) ?_
                    refine lv_iconst (v := (bI (false))) hx hb d_M_heat_215 (by decide) ?_
                    refine va_put (D := (dC, dI)) (ci := 4) (v := .int (bI (false))) (ty := .boolean) (C := R_M) (T := T_M) (N := 23) hx hb hts in_M t_M t_M_ok n_M hown hK hP hD hS 0 rfl rfl 8 (by decide) (hts _ kw_579) (fun _ h9 => h9) rfl (by decide +kernel) (bI_nar _) (bI_fit _) (Nat.le_of_ble_eq_true rfl) d_M_heat_216 (fun H locs hP hD hS => ?_)
                    have hP : va_P (dC, dI) cls_ [(mm, .inr (4, [.int (iI (fc_thr false false false false)), .int (iI (mO)), .ref mg, .ref md, .int (iI (mH + 1)), .ref ml, .ref mu, .ref mp, .int (bI (false)), .int (iI (cs)), .int (iI (mS)), .ref xu, .ref xf, .ref xt, .int (iI (mW)), .int (iI (mF)), .int (bI (rn)), .int (bI (sp)), .int (iI (nd)), .int (iI (rd)), .int (iI (li)), .ref pz, .int (iI (lt))])), (ml, fw_a kI 6 (gL)), (mu, fw_a kI 6 (gU)), (mp, fw_a kI 144 (fw_up (fw_up (fw_up gP (3 * mH.toNat) u) ((3 * mH.toNat) + 1) mi) ((3 * mH.toNat) + 2) o)), (xu, fw_a kI 10 (xU)), (xf, fw_a kI 10 (xF)), (xt, fw_a kI 10 (xT))] H := hP
                    have hD : va_D A [(mm, .inr (4, [.int (iI (fc_thr false false false false)), .int (iI (mO)), .ref mg, .ref md, .int (iI (mH + 1)), .ref ml, .ref mu, .ref mp, .int (bI (false)), .int (iI (cs)), .int (iI (mS)), .ref xu, .ref xf, .ref xt, .int (iI (mW)), .int (iI (mF)), .int (bI (rn)), .int (bI (sp)), .int (iI (nd)), .int (iI (rd)), .int (iI (li)), .ref pz, .int (iI (lt))])), (ml, fw_a kI 6 (gL)), (mu, fw_a kI 6 (gU)), (mp, fw_a kI 144 (fw_up (fw_up (fw_up gP (3 * mH.toNat) u) ((3 * mH.toNat) + 1) mi) ((3 * mH.toNat) + 2) o)), (xu, fw_a kI 10 (xU)), (xf, fw_a kI 10 (xF)), (xt, fw_a kI 10 (xT))] := hD
                    refine lv_aload_n hx hb d_M_heat_219 rfl (lv_at hl 3 rfl) ?_
                    refine lv_iconst (v := (iI (0))) hx hb d_M_heat_220 (by decide) ?_
                    refine va_put (D := (dC, dI)) (ci := 4) (v := .int (iI (0))) (ty := .int) (C := R_M) (T := T_M) (N := 23) hx hb hts in_M t_M t_M_ok n_M hown hK hP hD hS 0 rfl rfl 9 (by decide) (hts _ kw_580) (fun _ h9 => h9) rfl (by decide +kernel) rfl rfl (Nat.le_of_ble_eq_true rfl) d_M_heat_221 (fun H locs hP hD hS => ?_)
                    have hP : va_P (dC, dI) cls_ [(mm, .inr (4, [.int (iI (fc_thr false false false false)), .int (iI (mO)), .ref mg, .ref md, .int (iI (mH + 1)), .ref ml, .ref mu, .ref mp, .int (bI (false)), .int (iI (0)), .int (iI (mS)), .ref xu, .ref xf, .ref xt, .int (iI (mW)), .int (iI (mF)), .int (bI (rn)), .int (bI (sp)), .int (iI (nd)), .int (iI (rd)), .int (iI (li)), .ref pz, .int (iI (lt))])), (ml, fw_a kI 6 (gL)), (mu, fw_a kI 6 (gU)), (mp, fw_a kI 144 (fw_up (fw_up (fw_up gP (3 * mH.toNat) u) ((3 * mH.toNat) + 1) mi) ((3 * mH.toNat) + 2) o)), (xu, fw_a kI 10 (xU)), (xf, fw_a kI 10 (xF)), (xt, fw_a kI 10 (xT))] H := hP
                    have hD : va_D A [(mm, .inr (4, [.int (iI (fc_thr false false false false)), .int (iI (mO)), .ref mg, .ref md, .int (iI (mH + 1)), .ref ml, .ref mu, .ref mp, .int (bI (false)), .int (iI (0)), .int (iI (mS)), .ref xu, .ref xf, .ref xt, .int (iI (mW)), .int (iI (mF)), .int (bI (rn)), .int (bI (sp)), .int (iI (nd)), .int (iI (rd)), .int (iI (li)), .ref pz, .int (iI (lt))])), (ml, fw_a kI 6 (gL)), (mu, fw_a kI 6 (gU)), (mp, fw_a kI 144 (fw_up (fw_up (fw_up gP (3 * mH.toNat) u) ((3 * mH.toNat) + 1) mi) ((3 * mH.toNat) + 2) o)), (xu, fw_a kI 10 (xU)), (xf, fw_a kI 10 (xF)), (xt, fw_a kI 10 (xT))] := hD
                    refine lv_aload_n hx hb d_M_heat_224 rfl (lv_at hl 3 rfl) ?_
                    refine va_get (D := (dC, dI)) (ci := 4) (v := .int (iI (mH + 1))) (C := R_M) (T := T_M) (N := 23) hx hb hts in_M hown hK hP 0 rfl rfl 4 (by decide) (hts _ kw_575) (fun _ h9 => h9) rfl d_M_heat_225 ?_
                    refine lv_iconst (v := (iI (1))) hx hb d_M_heat_228 (by decide) ?_
                    refine fw_isub hx hb d_M_heat_229 ?_
                    have e9 : km_heat mO mH o le us u mi gP gU gL xU xF xT mS.toNat = 0 := by simp [km_heat, c_1, c_21, c_22, c_32, c_42, c_44, c_45] <;> omega
                    refine fw_iret hx hb hr hlocks hS ?_ ?_ d_M_heat_230
                    · first | (exfalso; omega) | exact Or.inr ⟨e9, hP⟩
                    · rw [if_pos e9]
                  · exact absurd c_46 (by decide)
                · refine lv_iconst (v := (bI (true))) hx hb d_M_heat_145 (by decide) ?_
                  refine lv_goto (tgt := 150) hx hb d_M_heat_146 (by decide) ?_
                  refine lv_iload hx hb d_M_heat_150 (lv_at hl 1 rfl) ?_
                  refine lv_iload hx hb d_M_heat_152 (lv_at hl 0 rfl) ?_
                  refine fw_calliP [0] (va_runV (As := [.int (bI (false)), .int (bI (true)), .int (bI (false)), .int (bI (false))]) (rest := []) ⟨hx, hb, hml, hown, hts⟩ (c_M_throwing l dC dI  _ mm th mO mg md mH ml mu mp ud cs mS xu xf xt mW mF rn sp nd rd li pz lt false true false false ) (cwV 4 hts (gw_V kw_652 kw_654 ks_M_throwing kw_5 kw_655) rfl rfl rfl (by decide +kernel) ⟨Nat.le_of_ble_eq_true rfl, Nat.le_of_ble_eq_true rfl⟩) (fw_preV (ci := 4) (q0 := 0) hP hK hD hN [0] [] rfl rfl rfl rfl rfl) rfl rfl hl.1 rfl (lv_room (Nat.le_of_ble_eq_true rfl)) d_M_heat_154 ⟨Nat.le_of_ble_eq_true rfl, Nat.le_of_ble_eq_true rfl⟩) hP hD hS hA rfl rfl rfl (fun H locs hP hD hS => ?_)
                  have hP : va_P (dC, dI) cls_ [(mm, .inr (4, [.int (iI (fc_thr false true false false)), .int (iI (mO)), .ref mg, .ref md, .int (iI (mH)), .ref ml, .ref mu, .ref mp, .int (bI (ud)), .int (iI (cs)), .int (iI (mS)), .ref xu, .ref xf, .ref xt, .int (iI (mW)), .int (iI (mF)), .int (bI (rn)), .int (bI (sp)), .int (iI (nd)), .int (iI (rd)), .int (iI (li)), .ref pz, .int (iI (lt))])), (ml, fw_a kI 6 (gL)), (mu, fw_a kI 6 (gU)), (mp, fw_a kI 144 (gP)), (xu, fw_a kI 10 (xU)), (xf, fw_a kI 10 (xF)), (xt, fw_a kI 10 (xT))] H := hP
                  have hD : va_D A [(mm, .inr (4, [.int (iI (fc_thr false true false false)), .int (iI (mO)), .ref mg, .ref md, .int (iI (mH)), .ref ml, .ref mu, .ref mp, .int (bI (ud)), .int (iI (cs)), .int (iI (mS)), .ref xu, .ref xf, .ref xt, .int (iI (mW)), .int (iI (mF)), .int (bI (rn)), .int (bI (sp)), .int (iI (nd)), .int (iI (rd)), .int (iI (li)), .ref pz, .int (iI (lt))])), (ml, fw_a kI 6 (gL)), (mu, fw_a kI 6 (gU)), (mp, fw_a kI 144 (gP)), (xu, fw_a kI 10 (xU)), (xf, fw_a kI 10 (xF)), (xt, fw_a kI 10 (xT))] := hD
                  refine fw_cast (show (.int (bI (decide (0 < fc_thr false true false false))) : Value) = .int (bI (true)) from congrArg (fun b => Value.int (bI b)) (by decide)) ?_
                  refine fw_bif_eq (tgt := 162) hx hb d_M_heat_157 (by decide) (fun c_47 => ?_) (fun c_47 => ?_)
                  · exact absurd c_47 (by decide)
                  · refine lv_iconst (v := (iI (0))) hx hb d_M_heat_160 (by decide) ?_
                    have e9 : km_heat mO mH o le us u mi gP gU gL xU xF xT mS.toNat = (fc_thr false true false false) := by simp [km_heat, fc_thr, c_1, c_21, c_22, c_32, c_42, c_44, c_45] <;> omega
                    have e8 : ¬ km_heat mO mH o le us u mi gP gU gL xU xF xT mS.toNat = 0 := by rw [e9]; decide
                    refine fw_iret hx hb hr hlocks hS ?_ ?_ d_M_heat_161
                    · first | (exfalso; omega) | exact Or.inl ⟨e8, by rw [e9]; exact hP⟩
                    · rw [if_neg e8]
              · refine lv_iload hx hb d_M_heat_86 (lv_at hl 1 rfl) ?_
                refine fw_bif_ne (tgt := 133) hx hb d_M_heat_88 (by decide) (fun c_48 => ?_) (fun c_48 => ?_)
                · exact absurd c_48 (by decide)
                · refine lv_aload_n hx hb d_M_heat_91 rfl (lv_at hl 3 rfl) ?_
                  refine va_get (D := (dC, dI)) (ci := 4) (v := .ref ml) (C := R_M) (T := T_M) (N := 23) hx hb hts in_M hown hK hP 0 rfl rfl 5 (by decide) (hts _ kw_576) (fun _ h9 => h9) rfl d_M_heat_92 ?_
                  refine lv_aload_n hx hb d_M_heat_95 rfl (lv_at hl 3 rfl) ?_
                  refine va_get (D := (dC, dI)) (ci := 4) (v := .int (iI (mH))) (C := R_M) (T := T_M) (N := 23) hx hb hts in_M hown hK hP 0 rfl rfl 4 (by decide) (hts _ kw_575) (fun _ h9 => h9) rfl d_M_heat_96 ?_
                  refine lv_iload_n hx hb d_M_heat_99 rfl (lv_at hl 5 rfl) ?_
                  refine fw_iast hx hb hK hP hD hS 1 0 rfl rfl (mH.toNat) (by omega) (by omega) (by omega) d_M_heat_100 (fun H locs hP hD hS => ?_)
                  have hP : va_P (dC, dI) cls_ [(mm, .inr (4, [.int (iI (th)), .int (iI (mO)), .ref mg, .ref md, .int (iI (mH)), .ref ml, .ref mu, .ref mp, .int (bI (ud)), .int (iI (cs)), .int (iI (mS)), .ref xu, .ref xf, .ref xt, .int (iI (mW)), .int (iI (mF)), .int (bI (rn)), .int (bI (sp)), .int (iI (nd)), .int (iI (rd)), .int (iI (li)), .ref pz, .int (iI (lt))])), (ml, fw_a kI 6 (fw_up gL mH.toNat le)), (mu, fw_a kI 6 (gU)), (mp, fw_a kI 144 (gP)), (xu, fw_a kI 10 (xU)), (xf, fw_a kI 10 (xF)), (xt, fw_a kI 10 (xT))] H := hP
                  have hD : va_D A [(mm, .inr (4, [.int (iI (th)), .int (iI (mO)), .ref mg, .ref md, .int (iI (mH)), .ref ml, .ref mu, .ref mp, .int (bI (ud)), .int (iI (cs)), .int (iI (mS)), .ref xu, .ref xf, .ref xt, .int (iI (mW)), .int (iI (mF)), .int (bI (rn)), .int (bI (sp)), .int (iI (nd)), .int (iI (rd)), .int (iI (li)), .ref pz, .int (iI (lt))])), (ml, fw_a kI 6 (fw_up gL mH.toNat le)), (mu, fw_a kI 6 (gU)), (mp, fw_a kI 144 (gP)), (xu, fw_a kI 10 (xU)), (xf, fw_a kI 10 (xF)), (xt, fw_a kI 10 (xT))] := hD
                  refine lv_aload_n hx hb d_M_heat_101 rfl (lv_at hl 3 rfl) ?_
                  refine va_get (D := (dC, dI)) (ci := 4) (v := .ref mu) (C := R_M) (T := T_M) (N := 23) hx hb hts in_M hown hK hP 0 rfl rfl 6 (by decide) (hts _ kw_577) (fun _ h9 => h9) rfl d_M_heat_102 ?_
                  refine lv_aload_n hx hb d_M_heat_105 rfl (lv_at hl 3 rfl) ?_
                  refine va_get (D := (dC, dI)) (ci := 4) (v := .int (iI (mH))) (C := R_M) (T := T_M) (N := 23) hx hb hts in_M hown hK hP 0 rfl rfl 4 (by decide) (hts _ kw_575) (fun _ h9 => h9) rfl d_M_heat_106 ?_
                  refine lv_iload_n hx hb d_M_heat_109 rfl (lv_at hl 6 rfl) ?_
                  refine fw_iast hx hb hK hP hD hS 2 0 rfl rfl (mH.toNat) (by omega) (by omega) (by omega) d_M_heat_110 (fun H locs hP hD hS => ?_)
                  have hP : va_P (dC, dI) cls_ [(mm, .inr (4, [.int (iI (th)), .int (iI (mO)), .ref mg, .ref md, .int (iI (mH)), .ref ml, .ref mu, .ref mp, .int (bI (ud)), .int (iI (cs)), .int (iI (mS)), .ref xu, .ref xf, .ref xt, .int (iI (mW)), .int (iI (mF)), .int (bI (rn)), .int (bI (sp)), .int (iI (nd)), .int (iI (rd)), .int (iI (li)), .ref pz, .int (iI (lt))])), (ml, fw_a kI 6 (fw_up gL mH.toNat le)), (mu, fw_a kI 6 (fw_up gU mH.toNat us)), (mp, fw_a kI 144 (gP)), (xu, fw_a kI 10 (xU)), (xf, fw_a kI 10 (xF)), (xt, fw_a kI 10 (xT))] H := hP
                  have hD : va_D A [(mm, .inr (4, [.int (iI (th)), .int (iI (mO)), .ref mg, .ref md, .int (iI (mH)), .ref ml, .ref mu, .ref mp, .int (bI (ud)), .int (iI (cs)), .int (iI (mS)), .ref xu, .ref xf, .ref xt, .int (iI (mW)), .int (iI (mF)), .int (bI (rn)), .int (bI (sp)), .int (iI (nd)), .int (iI (rd)), .int (iI (li)), .ref pz, .int (iI (lt))])), (ml, fw_a kI 6 (fw_up gL mH.toNat le)), (mu, fw_a kI 6 (fw_up gU mH.toNat us)), (mp, fw_a kI 144 (gP)), (xu, fw_a kI 10 (xU)), (xf, fw_a kI 10 (xF)), (xt, fw_a kI 10 (xT))] := hD
                  refine lv_aload_n hx hb d_M_heat_111 rfl (lv_at hl 3 rfl) ?_
                  refine lv_aload_n hx hb d_M_heat_112 rfl (lv_at hl 3 rfl) ?_
                  refine va_get (D := (dC, dI)) (ci := 4) (v := .int (iI (mH))) (C := R_M) (T := T_M) (N := 23) hx hb hts in_M hown hK hP 0 rfl rfl 4 (by decide) (hts _ kw_575) (fun _ h9 => h9) rfl d_M_heat_113 ?_
                  refine lv_iload hx hb d_M_heat_116 (lv_at hl 7 rfl) ?_
                  refine lv_iload hx hb d_M_heat_118 (lv_at hl 8 rfl) ?_
                  refine fw_callR (va_runV (As := [.int (iI (mH)), .int (iI (u)), .int (iI (mi))]) (rest := []) ⟨hx, hb, hml, hown, hts⟩ (c_M_fits l dC dI  mm th mO mg md mH ml mu mp ud cs mS xu xf xt mW mF rn sp nd rd li pz lt (fw_up gL mH.toNat le) (fw_up gU mH.toNat us) gP xU xF xT kI mH u mi (by assumption) (by assumption) (by assumption) (by first | assumption | omega) (by first | assumption | omega) (by first | assumption | omega) (by first | assumption | omega) (by assumption) (by first | assumption | omega) (by first | assumption | omega) (by first | assumption | omega) (by first | assumption | omega) (by first | assumption | omega) (by first | assumption | omega)) (cwV 3 hts (gw_V kw_660 kw_662 ks_M_fits kw_5 kw_663) rfl rfl rfl (by decide +kernel) ⟨Nat.le_of_ble_eq_true rfl, Nat.le_of_ble_eq_true rfl⟩) (fw_preRV (ci := 4) (q0 := 0) hP hK hN [0, 1, 2, 3, 4, 5, 6] [0] rfl rfl rfl rfl) rfl rfl hl.1 rfl (lv_room (Nat.le_of_ble_eq_true rfl)) d_M_heat_120 ⟨Nat.le_of_ble_eq_true rfl, Nat.le_of_ble_eq_true rfl⟩).run ?_
                  refine fw_bif_ne (tgt := 130) hx hb d_M_heat_123 (by decide) (fun c_49 => ?_) (fun c_49 => ?_)
                  · refine lv_iconst (v := (bI (false))) hx hb d_M_heat_130 (by decide) ?_
                    refine lv_istore (lv' := [(8, .int (bI (false))), (7, .int (bI (false))), (6, .int (bI (false))), (0, .ref mm), (1, .int (iI (o))), (2, .int (iI (le))), (3, .int (iI (us))), (4, .int (iI (u))), (5, .int (iI (mi)))]) hx hb d_M_heat_131 hl (by decide) rfl (fun ls hl => ?_)
                    refine lv_aload_n hx hb d_M_heat_133 rfl (lv_at hl 3 rfl) ?_
                    refine lv_iload hx hb d_M_heat_134 (lv_at hl 2 rfl) ?_
                    refine lv_aload_n hx hb d_M_heat_136 rfl (lv_at hl 3 rfl) ?_
                    refine va_get (D := (dC, dI)) (ci := 4) (v := .int (iI (mH))) (C := R_M) (T := T_M) (N := 23) hx hb hts in_M hown hK hP 0 rfl rfl 4 (by decide) (hts _ kw_575) (fun _ h9 => h9) rfl d_M_heat_137 ?_
                    refine lv_bipush (v := (iI (6))) hx hb d_M_heat_140 (by decide) ?_
                    refine fw_icmp_ne (tgt := 149) hx hb d_M_heat_142 (by decide) ⟨by omega, by omega⟩ ⟨by omega, by omega⟩ (fun c_50 => ?_) (fun c_50 => ?_)
                    · refine lv_iconst (v := (bI (false))) hx hb d_M_heat_149 (by decide) ?_
                      refine lv_iload hx hb d_M_heat_150 (lv_at hl 1 rfl) ?_
                      refine lv_iload hx hb d_M_heat_152 (lv_at hl 0 rfl) ?_
                      refine fw_calliP [0] (va_runV (As := [.int (bI (false)), .int (bI (false)), .int (bI (false)), .int (bI (false))]) (rest := []) ⟨hx, hb, hml, hown, hts⟩ (c_M_throwing l dC dI  _ mm th mO mg md mH ml mu mp ud cs mS xu xf xt mW mF rn sp nd rd li pz lt false false false false ) (cwV 4 hts (gw_V kw_652 kw_654 ks_M_throwing kw_5 kw_655) rfl rfl rfl (by decide +kernel) ⟨Nat.le_of_ble_eq_true rfl, Nat.le_of_ble_eq_true rfl⟩) (fw_preV (ci := 4) (q0 := 0) hP hK hD hN [0] [] rfl rfl rfl rfl rfl) rfl rfl hl.1 rfl (lv_room (Nat.le_of_ble_eq_true rfl)) d_M_heat_154 ⟨Nat.le_of_ble_eq_true rfl, Nat.le_of_ble_eq_true rfl⟩) hP hD hS hA rfl rfl rfl (fun H locs hP hD hS => ?_)
                      have hP : va_P (dC, dI) cls_ [(mm, .inr (4, [.int (iI (fc_thr false false false false)), .int (iI (mO)), .ref mg, .ref md, .int (iI (mH)), .ref ml, .ref mu, .ref mp, .int (bI (ud)), .int (iI (cs)), .int (iI (mS)), .ref xu, .ref xf, .ref xt, .int (iI (mW)), .int (iI (mF)), .int (bI (rn)), .int (bI (sp)), .int (iI (nd)), .int (iI (rd)), .int (iI (li)), .ref pz, .int (iI (lt))])), (ml, fw_a kI 6 (fw_up gL mH.toNat le)), (mu, fw_a kI 6 (fw_up gU mH.toNat us)), (mp, fw_a kI 144 (gP)), (xu, fw_a kI 10 (xU)), (xf, fw_a kI 10 (xF)), (xt, fw_a kI 10 (xT))] H := hP
                      have hD : va_D A [(mm, .inr (4, [.int (iI (fc_thr false false false false)), .int (iI (mO)), .ref mg, .ref md, .int (iI (mH)), .ref ml, .ref mu, .ref mp, .int (bI (ud)), .int (iI (cs)), .int (iI (mS)), .ref xu, .ref xf, .ref xt, .int (iI (mW)), .int (iI (mF)), .int (bI (rn)), .int (bI (sp)), .int (iI (nd)), .int (iI (rd)), .int (iI (li)), .ref pz, .int (iI (lt))])), (ml, fw_a kI 6 (fw_up gL mH.toNat le)), (mu, fw_a kI 6 (fw_up gU mH.toNat us)), (mp, fw_a kI 144 (gP)), (xu, fw_a kI 10 (xU)), (xf, fw_a kI 10 (xF)), (xt, fw_a kI 10 (xT))] := hD
                      refine fw_cast (show (.int (bI (decide (0 < fc_thr false false false false))) : Value) = .int (bI (false)) from congrArg (fun b => Value.int (bI b)) (by decide)) ?_
                      refine fw_bif_eq (tgt := 162) hx hb d_M_heat_157 (by decide) (fun c_51 => ?_) (fun c_51 => ?_)
                      · refine lv_aload_n hx hb d_M_heat_162 rfl (lv_at hl 3 rfl) ?_
                        refine va_get (D := (dC, dI)) (ci := 4) (v := .ref mp) (C := R_M) (T := T_M) (N := 23) hx hb hts in_M hown hK hP 0 rfl rfl 7 (by decide) (hts _ kw_578) (fun _ h9 => h9) rfl d_M_heat_163 ?_
                        refine lv_iconst (v := (iI (3))) hx hb d_M_heat_166 (by decide) ?_
                        refine lv_aload_n hx hb d_M_heat_167 rfl (lv_at hl 3 rfl) ?_
                        refine va_get (D := (dC, dI)) (ci := 4) (v := .int (iI (mH))) (C := R_M) (T := T_M) (N := 23) hx hb hts in_M hown hK hP 0 rfl rfl 4 (by decide) (hts _ kw_575) (fun _ h9 => h9) rfl d_M_heat_168 ?_
                        refine fw_imul hx hb d_M_heat_171 ?_
                        refine lv_iload hx hb d_M_heat_172 (lv_at hl 7 rfl) ?_
                        refine fw_iast hx hb hK hP hD hS 3 0 rfl rfl ((3 * mH.toNat)) (by omega) (by omega) (by omega) d_M_heat_174 (fun H locs hP hD hS => ?_)
                        have hP : va_P (dC, dI) cls_ [(mm, .inr (4, [.int (iI (fc_thr false false false false)), .int (iI (mO)), .ref mg, .ref md, .int (iI (mH)), .ref ml, .ref mu, .ref mp, .int (bI (ud)), .int (iI (cs)), .int (iI (mS)), .ref xu, .ref xf, .ref xt, .int (iI (mW)), .int (iI (mF)), .int (bI (rn)), .int (bI (sp)), .int (iI (nd)), .int (iI (rd)), .int (iI (li)), .ref pz, .int (iI (lt))])), (ml, fw_a kI 6 (fw_up gL mH.toNat le)), (mu, fw_a kI 6 (fw_up gU mH.toNat us)), (mp, fw_a kI 144 (fw_up gP (3 * mH.toNat) u)), (xu, fw_a kI 10 (xU)), (xf, fw_a kI 10 (xF)), (xt, fw_a kI 10 (xT))] H := hP
                        have hD : va_D A [(mm, .inr (4, [.int (iI (fc_thr false false false false)), .int (iI (mO)), .ref mg, .ref md, .int (iI (mH)), .ref ml, .ref mu, .ref mp, .int (bI (ud)), .int (iI (cs)), .int (iI (mS)), .ref xu, .ref xf, .ref xt, .int (iI (mW)), .int (iI (mF)), .int (bI (rn)), .int (bI (sp)), .int (iI (nd)), .int (iI (rd)), .int (iI (li)), .ref pz, .int (iI (lt))])), (ml, fw_a kI 6 (fw_up gL mH.toNat le)), (mu, fw_a kI 6 (fw_up gU mH.toNat us)), (mp, fw_a kI 144 (fw_up gP (3 * mH.toNat) u)), (xu, fw_a kI 10 (xU)), (xf, fw_a kI 10 (xF)), (xt, fw_a kI 10 (xT))] := hD
                        refine lv_aload_n hx hb d_M_heat_175 rfl (lv_at hl 3 rfl) ?_
                        refine va_get (D := (dC, dI)) (ci := 4) (v := .ref mp) (C := R_M) (T := T_M) (N := 23) hx hb hts in_M hown hK hP 0 rfl rfl 7 (by decide) (hts _ kw_578) (fun _ h9 => h9) rfl d_M_heat_176 ?_
                        refine lv_iconst (v := (iI (3))) hx hb d_M_heat_179 (by decide) ?_
                        refine lv_aload_n hx hb d_M_heat_180 rfl (lv_at hl 3 rfl) ?_
                        refine va_get (D := (dC, dI)) (ci := 4) (v := .int (iI (mH))) (C := R_M) (T := T_M) (N := 23) hx hb hts in_M hown hK hP 0 rfl rfl 4 (by decide) (hts _ kw_575) (fun _ h9 => h9) rfl d_M_heat_181 ?_
                        refine fw_imul hx hb d_M_heat_184 ?_
                        refine lv_iconst (v := (iI (1))) hx hb d_M_heat_185 (by decide) ?_
                        refine fw_iadd hx hb d_M_heat_186 ?_
                        refine lv_iload hx hb d_M_heat_187 (lv_at hl 8 rfl) ?_
                        refine fw_iast hx hb hK hP hD hS 3 0 rfl rfl (((3 * mH.toNat) + 1)) (by omega) (by omega) (by omega) d_M_heat_189 (fun H locs hP hD hS => ?_)
                        have hP : va_P (dC, dI) cls_ [(mm, .inr (4, [.int (iI (fc_thr false false false false)), .int (iI (mO)), .ref mg, .ref md, .int (iI (mH)), .ref ml, .ref mu, .ref mp, .int (bI (ud)), .int (iI (cs)), .int (iI (mS)), .ref xu, .ref xf, .ref xt, .int (iI (mW)), .int (iI (mF)), .int (bI (rn)), .int (bI (sp)), .int (iI (nd)), .int (iI (rd)), .int (iI (li)), .ref pz, .int (iI (lt))])), (ml, fw_a kI 6 (fw_up gL mH.toNat le)), (mu, fw_a kI 6 (fw_up gU mH.toNat us)), (mp, fw_a kI 144 (fw_up (fw_up gP (3 * mH.toNat) u) ((3 * mH.toNat) + 1) mi)), (xu, fw_a kI 10 (xU)), (xf, fw_a kI 10 (xF)), (xt, fw_a kI 10 (xT))] H := hP
                        have hD : va_D A [(mm, .inr (4, [.int (iI (fc_thr false false false false)), .int (iI (mO)), .ref mg, .ref md, .int (iI (mH)), .ref ml, .ref mu, .ref mp, .int (bI (ud)), .int (iI (cs)), .int (iI (mS)), .ref xu, .ref xf, .ref xt, .int (iI (mW)), .int (iI (mF)), .int (bI (rn)), .int (bI (sp)), .int (iI (nd)), .int (iI (rd)), .int (iI (li)), .ref pz, .int (iI (lt))])), (ml, fw_a kI 6 (fw_up gL mH.toNat le)), (mu, fw_a kI 6 (fw_up gU mH.toNat us)), (mp, fw_a kI 144 (fw_up (fw_up gP (3 * mH.toNat) u) ((3 * mH.toNat) + 1) mi)), (xu, fw_a kI 10 (xU)), (xf, fw_a kI 10 (xF)), (xt, fw_a kI 10 (xT))] := hD
                        refine lv_aload_n hx hb d_M_heat_190 rfl (lv_at hl 3 rfl) ?_
                        refine va_get (D := (dC, dI)) (ci := 4) (v := .ref mp) (C := R_M) (T := T_M) (N := 23) hx hb hts in_M hown hK hP 0 rfl rfl 7 (by decide) (hts _ kw_578) (fun _ h9 => h9) rfl d_M_heat_191 ?_
                        refine lv_iconst (v := (iI (3))) hx hb d_M_heat_194 (by decide) ?_
                        refine lv_aload_n hx hb d_M_heat_195 rfl (lv_at hl 3 rfl) ?_
                        refine va_get (D := (dC, dI)) (ci := 4) (v := .int (iI (mH))) (C := R_M) (T := T_M) (N := 23) hx hb hts in_M hown hK hP 0 rfl rfl 4 (by decide) (hts _ kw_575) (fun _ h9 => h9) rfl d_M_heat_196 ?_
                        refine fw_imul hx hb d_M_heat_199 ?_
                        refine lv_iconst (v := (iI (2))) hx hb d_M_heat_200 (by decide) ?_
                        refine fw_iadd hx hb d_M_heat_201 ?_
                        refine lv_iload_n hx hb d_M_heat_202 rfl (lv_at hl 4 rfl) ?_
                        refine fw_iast hx hb hK hP hD hS 3 0 rfl rfl (((3 * mH.toNat) + 2)) (by omega) (by omega) (by omega) d_M_heat_203 (fun H locs hP hD hS => ?_)
                        have hP : va_P (dC, dI) cls_ [(mm, .inr (4, [.int (iI (fc_thr false false false false)), .int (iI (mO)), .ref mg, .ref md, .int (iI (mH)), .ref ml, .ref mu, .ref mp, .int (bI (ud)), .int (iI (cs)), .int (iI (mS)), .ref xu, .ref xf, .ref xt, .int (iI (mW)), .int (iI (mF)), .int (bI (rn)), .int (bI (sp)), .int (iI (nd)), .int (iI (rd)), .int (iI (li)), .ref pz, .int (iI (lt))])), (ml, fw_a kI 6 (fw_up gL mH.toNat le)), (mu, fw_a kI 6 (fw_up gU mH.toNat us)), (mp, fw_a kI 144 (fw_up (fw_up (fw_up gP (3 * mH.toNat) u) ((3 * mH.toNat) + 1) mi) ((3 * mH.toNat) + 2) o)), (xu, fw_a kI 10 (xU)), (xf, fw_a kI 10 (xF)), (xt, fw_a kI 10 (xT))] H := hP
                        have hD : va_D A [(mm, .inr (4, [.int (iI (fc_thr false false false false)), .int (iI (mO)), .ref mg, .ref md, .int (iI (mH)), .ref ml, .ref mu, .ref mp, .int (bI (ud)), .int (iI (cs)), .int (iI (mS)), .ref xu, .ref xf, .ref xt, .int (iI (mW)), .int (iI (mF)), .int (bI (rn)), .int (bI (sp)), .int (iI (nd)), .int (iI (rd)), .int (iI (li)), .ref pz, .int (iI (lt))])), (ml, fw_a kI 6 (fw_up gL mH.toNat le)), (mu, fw_a kI 6 (fw_up gU mH.toNat us)), (mp, fw_a kI 144 (fw_up (fw_up (fw_up gP (3 * mH.toNat) u) ((3 * mH.toNat) + 1) mi) ((3 * mH.toNat) + 2) o)), (xu, fw_a kI 10 (xU)), (xf, fw_a kI 10 (xF)), (xt, fw_a kI 10 (xT))] := hD
                        refine lv_aload_n hx hb d_M_heat_204 rfl (lv_at hl 3 rfl) ?_
                        refine lv_dup hx hb d_M_heat_205 rfl ?_
                        refine va_get (D := (dC, dI)) (ci := 4) (v := .int (iI (mH))) (C := R_M) (T := T_M) (N := 23) hx hb hts in_M hown hK hP 0 rfl rfl 4 (by decide) (hts _ kw_575) (fun _ h9 => h9) rfl d_M_heat_206 ?_
                        refine lv_iconst (v := (iI (1))) hx hb d_M_heat_209 (by decide) ?_
                        refine fw_iadd hx hb d_M_heat_210 ?_
                        refine va_put (D := (dC, dI)) (ci := 4) (v := .int (iI (mH + 1))) (ty := .int) (C := R_M) (T := T_M) (N := 23) hx hb hts in_M t_M t_M_ok n_M hown hK hP hD hS 0 rfl rfl 4 (by decide) (hts _ kw_575) (fun _ h9 => h9) rfl (by decide +kernel) rfl rfl (Nat.le_of_ble_eq_true rfl) d_M_heat_211 (fun H locs hP hD hS => ?_)
                        have hP : va_P (dC, dI) cls_ [(mm, .inr (4, [.int (iI (fc_thr false false false false)), .int (iI (mO)), .ref mg, .ref md, .int (iI (mH + 1)), .ref ml, .ref mu, .ref mp, .int (bI (ud)), .int (iI (cs)), .int (iI (mS)), .ref xu, .ref xf, .ref xt, .int (iI (mW)), .int (iI (mF)), .int (bI (rn)), .int (bI (sp)), .int (iI (nd)), .int (iI (rd)), .int (iI (li)), .ref pz, .int (iI (lt))])), (ml, fw_a kI 6 (fw_up gL mH.toNat le)), (mu, fw_a kI 6 (fw_up gU mH.toNat us)), (mp, fw_a kI 144 (fw_up (fw_up (fw_up gP (3 * mH.toNat) u) ((3 * mH.toNat) + 1) mi) ((3 * mH.toNat) + 2) o)), (xu, fw_a kI 10 (xU)), (xf, fw_a kI 10 (xF)), (xt, fw_a kI 10 (xT))] H := hP
                        have hD : va_D A [(mm, .inr (4, [.int (iI (fc_thr false false false false)), .int (iI (mO)), .ref mg, .ref md, .int (iI (mH + 1)), .ref ml, .ref mu, .ref mp, .int (bI (ud)), .int (iI (cs)), .int (iI (mS)), .ref xu, .ref xf, .ref xt, .int (iI (mW)), .int (iI (mF)), .int (bI (rn)), .int (bI (sp)), .int (iI (nd)), .int (iI (rd)), .int (iI (li)), .ref pz, .int (iI (lt))])), (ml, fw_a kI 6 (fw_up gL mH.toNat le)), (mu, fw_a kI 6 (fw_up gU mH.toNat us)), (mp, fw_a kI 144 (fw_up (fw_up (fw_up gP (3 * mH.toNat) u) ((3 * mH.toNat) + 1) mi) ((3 * mH.toNat) + 2) o)), (xu, fw_a kI 10 (xU)), (xf, fw_a kI 10 (xF)), (xt, fw_a kI 10 (xT))] := hD
                        refine lv_aload_n hx hb d_M_heat_214 rfl (lv_at hl 3 rfl) ?_
                        refine lv_iconst (v := (bI (false))) hx hb d_M_heat_215 (by decide) ?_
                        refine va_put (D := (dC, dI)) (ci := 4) (v := .int (bI (false))) (ty := .boolean) (C := R_M) (T := T_M) (N := 23) hx hb hts in_M t_M t_M_ok n_M hown hK hP hD hS 0 rfl rfl 8 (by decide) (hts _ kw_579) (fun _ h9 => h9) rfl (by decide +kernel) (bI_nar _) (bI_fit _) (Nat.le_of_ble_eq_true rfl) d_M_heat_216 (fun H locs hP hD hS => ?_)
                        have hP : va_P (dC, dI) cls_ [(mm, .inr (4, [.int (iI (fc_thr false false false false)), .int (iI (mO)), .ref mg, .ref md, .int (iI (mH + 1)), .ref ml, .ref mu, .ref mp, .int (bI (false)), .int (iI (cs)), .int (iI (mS)), .ref xu, .ref xf, .ref xt, .int (iI (mW)), .int (iI (mF)), .int (bI (rn)), .int (bI (sp)), .int (iI (nd)), .int (iI (rd)), .int (iI (li)), .ref pz, .int (iI (lt))])), (ml, fw_a kI 6 (fw_up gL mH.toNat le)), (mu, fw_a kI 6 (fw_up gU mH.toNat us)), (mp, fw_a kI 144 (fw_up (fw_up (fw_up gP (3 * mH.toNat) u) ((3 * mH.toNat) + 1) mi) ((3 * mH.toNat) + 2) o)), (xu, fw_a kI 10 (xU)), (xf, fw_a kI 10 (xF)), (xt, fw_a kI 10 (xT))] H := hP
                        have hD : va_D A [(mm, .inr (4, [.int (iI (fc_thr false false false false)), .int (iI (mO)), .ref mg, .ref md, .int (iI (mH + 1)), .ref ml, .ref mu, .ref mp, .int (bI (false)), .int (iI (cs)), .int (iI (mS)), .ref xu, .ref xf, .ref xt, .int (iI (mW)), .int (iI (mF)), .int (bI (rn)), .int (bI (sp)), .int (iI (nd)), .int (iI (rd)), .int (iI (li)), .ref pz, .int (iI (lt))])), (ml, fw_a kI 6 (fw_up gL mH.toNat le)), (mu, fw_a kI 6 (fw_up gU mH.toNat us)), (mp, fw_a kI 144 (fw_up (fw_up (fw_up gP (3 * mH.toNat) u) ((3 * mH.toNat) + 1) mi) ((3 * mH.toNat) + 2) o)), (xu, fw_a kI 10 (xU)), (xf, fw_a kI 10 (xF)), (xt, fw_a kI 10 (xT))] := hD
                        refine lv_aload_n hx hb d_M_heat_219 rfl (lv_at hl 3 rfl) ?_
                        refine lv_iconst (v := (iI (0))) hx hb d_M_heat_220 (by decide) ?_
                        refine va_put (D := (dC, dI)) (ci := 4) (v := .int (iI (0))) (ty := .int) (C := R_M) (T := T_M) (N := 23) hx hb hts in_M t_M t_M_ok n_M hown hK hP hD hS 0 rfl rfl 9 (by decide) (hts _ kw_580) (fun _ h9 => h9) rfl (by decide +kernel) rfl rfl (Nat.le_of_ble_eq_true rfl) d_M_heat_221 (fun H locs hP hD hS => ?_)
                        have hP : va_P (dC, dI) cls_ [(mm, .inr (4, [.int (iI (fc_thr false false false false)), .int (iI (mO)), .ref mg, .ref md, .int (iI (mH + 1)), .ref ml, .ref mu, .ref mp, .int (bI (false)), .int (iI (0)), .int (iI (mS)), .ref xu, .ref xf, .ref xt, .int (iI (mW)), .int (iI (mF)), .int (bI (rn)), .int (bI (sp)), .int (iI (nd)), .int (iI (rd)), .int (iI (li)), .ref pz, .int (iI (lt))])), (ml, fw_a kI 6 (fw_up gL mH.toNat le)), (mu, fw_a kI 6 (fw_up gU mH.toNat us)), (mp, fw_a kI 144 (fw_up (fw_up (fw_up gP (3 * mH.toNat) u) ((3 * mH.toNat) + 1) mi) ((3 * mH.toNat) + 2) o)), (xu, fw_a kI 10 (xU)), (xf, fw_a kI 10 (xF)), (xt, fw_a kI 10 (xT))] H := hP
                        have hD : va_D A [(mm, .inr (4, [.int (iI (fc_thr false false false false)), .int (iI (mO)), .ref mg, .ref md, .int (iI (mH + 1)), .ref ml, .ref mu, .ref mp, .int (bI (false)), .int (iI (0)), .int (iI (mS)), .ref xu, .ref xf, .ref xt, .int (iI (mW)), .int (iI (mF)), .int (bI (rn)), .int (bI (sp)), .int (iI (nd)), .int (iI (rd)), .int (iI (li)), .ref pz, .int (iI (lt))])), (ml, fw_a kI 6 (fw_up gL mH.toNat le)), (mu, fw_a kI 6 (fw_up gU mH.toNat us)), (mp, fw_a kI 144 (fw_up (fw_up (fw_up gP (3 * mH.toNat) u) ((3 * mH.toNat) + 1) mi) ((3 * mH.toNat) + 2) o)), (xu, fw_a kI 10 (xU)), (xf, fw_a kI 10 (xF)), (xt, fw_a kI 10 (xT))] := hD
                        refine lv_aload_n hx hb d_M_heat_224 rfl (lv_at hl 3 rfl) ?_
                        refine va_get (D := (dC, dI)) (ci := 4) (v := .int (iI (mH + 1))) (C := R_M) (T := T_M) (N := 23) hx hb hts in_M hown hK hP 0 rfl rfl 4 (by decide) (hts _ kw_575) (fun _ h9 => h9) rfl d_M_heat_225 ?_
                        refine lv_iconst (v := (iI (1))) hx hb d_M_heat_228 (by decide) ?_
                        refine fw_isub hx hb d_M_heat_229 ?_
                        have e9 : km_heat mO mH o le us u mi gP gU gL xU xF xT mS.toNat = 0 := by simp [km_heat, c_1, c_21, c_22, c_32, c_42, c_44, c_49, c_50] <;> omega
                        refine fw_iret hx hb hr hlocks hS ?_ ?_ d_M_heat_230
                        · first | (exfalso; omega) | exact Or.inr ⟨e9, hP⟩
                        · rw [if_pos e9]
                      · exact absurd c_51 (by decide)
                    · refine lv_iconst (v := (bI (true))) hx hb d_M_heat_145 (by decide) ?_
                      refine lv_goto (tgt := 150) hx hb d_M_heat_146 (by decide) ?_
                      refine lv_iload hx hb d_M_heat_150 (lv_at hl 1 rfl) ?_
                      refine lv_iload hx hb d_M_heat_152 (lv_at hl 0 rfl) ?_
                      refine fw_calliP [0] (va_runV (As := [.int (bI (false)), .int (bI (true)), .int (bI (false)), .int (bI (false))]) (rest := []) ⟨hx, hb, hml, hown, hts⟩ (c_M_throwing l dC dI  _ mm th mO mg md mH ml mu mp ud cs mS xu xf xt mW mF rn sp nd rd li pz lt false true false false ) (cwV 4 hts (gw_V kw_652 kw_654 ks_M_throwing kw_5 kw_655) rfl rfl rfl (by decide +kernel) ⟨Nat.le_of_ble_eq_true rfl, Nat.le_of_ble_eq_true rfl⟩) (fw_preV (ci := 4) (q0 := 0) hP hK hD hN [0] [] rfl rfl rfl rfl rfl) rfl rfl hl.1 rfl (lv_room (Nat.le_of_ble_eq_true rfl)) d_M_heat_154 ⟨Nat.le_of_ble_eq_true rfl, Nat.le_of_ble_eq_true rfl⟩) hP hD hS hA rfl rfl rfl (fun H locs hP hD hS => ?_)
                      have hP : va_P (dC, dI) cls_ [(mm, .inr (4, [.int (iI (fc_thr false true false false)), .int (iI (mO)), .ref mg, .ref md, .int (iI (mH)), .ref ml, .ref mu, .ref mp, .int (bI (ud)), .int (iI (cs)), .int (iI (mS)), .ref xu, .ref xf, .ref xt, .int (iI (mW)), .int (iI (mF)), .int (bI (rn)), .int (bI (sp)), .int (iI (nd)), .int (iI (rd)), .int (iI (li)), .ref pz, .int (iI (lt))])), (ml, fw_a kI 6 (fw_up gL mH.toNat le)), (mu, fw_a kI 6 (fw_up gU mH.toNat us)), (mp, fw_a kI 144 (gP)), (xu, fw_a kI 10 (xU)), (xf, fw_a kI 10 (xF)), (xt, fw_a kI 10 (xT))] H := hP
                      have hD : va_D A [(mm, .inr (4, [.int (iI (fc_thr false true false false)), .int (iI (mO)), .ref mg, .ref md, .int (iI (mH)), .ref ml, .ref mu, .ref mp, .int (bI (ud)), .int (iI (cs)), .int (iI (mS)), .ref xu, .ref xf, .ref xt, .int (iI (mW)), .int (iI (mF)), .int (bI (rn)), .int (bI (sp)), .int (iI (nd)), .int (iI (rd)), .int (iI (li)), .ref pz, .int (iI (lt))])), (ml, fw_a kI 6 (fw_up gL mH.toNat le)), (mu, fw_a kI 6 (fw_up gU mH.toNat us)), (mp, fw_a kI 144 (gP)), (xu, fw_a kI 10 (xU)), (xf, fw_a kI 10 (xF)), (xt, fw_a kI 10 (xT))] := hD
                      refine fw_cast (show (.int (bI (decide (0 < fc_thr false true false false))) : Value) = .int (bI (true)) from congrArg (fun b => Value.int (bI b)) (by decide)) ?_
                      refine fw_bif_eq (tgt := 162) hx hb d_M_heat_157 (by decide) (fun c_52 => ?_) (fun c_52 => ?_)
                      · exact absurd c_52 (by decide)
                      · refine lv_iconst (v := (iI (0))) hx hb d_M_heat_160 (by decide) ?_
                        have e9 : km_heat mO mH o le us u mi gP gU gL xU xF xT mS.toNat = (fc_thr false true false false) := by simp [km_heat, fc_thr, c_1, c_21, c_22, c_32, c_42, c_44, c_49, c_50] <;> omega
                        have e8 : ¬ km_heat mO mH o le us u mi gP gU gL xU xF xT mS.toNat = 0 := by rw [e9]; decide
                        refine fw_iret hx hb hr hlocks hS ?_ ?_ d_M_heat_161
                        · first | (exfalso; omega) | exact Or.inl ⟨e8, by rw [e9]; exact hP⟩
                        · rw [if_neg e8]
                  · refine lv_iconst (v := (bI (true))) hx hb d_M_heat_126 (by decide) ?_
                    refine lv_goto (tgt := 131) hx hb d_M_heat_127 (by decide) ?_
                    refine lv_istore (lv' := [(8, .int (bI (true))), (7, .int (bI (false))), (6, .int (bI (false))), (0, .ref mm), (1, .int (iI (o))), (2, .int (iI (le))), (3, .int (iI (us))), (4, .int (iI (u))), (5, .int (iI (mi)))]) hx hb d_M_heat_131 hl (by decide) rfl (fun ls hl => ?_)
                    refine lv_aload_n hx hb d_M_heat_133 rfl (lv_at hl 3 rfl) ?_
                    refine lv_iload hx hb d_M_heat_134 (lv_at hl 2 rfl) ?_
                    refine lv_aload_n hx hb d_M_heat_136 rfl (lv_at hl 3 rfl) ?_
                    refine va_get (D := (dC, dI)) (ci := 4) (v := .int (iI (mH))) (C := R_M) (T := T_M) (N := 23) hx hb hts in_M hown hK hP 0 rfl rfl 4 (by decide) (hts _ kw_575) (fun _ h9 => h9) rfl d_M_heat_137 ?_
                    refine lv_bipush (v := (iI (6))) hx hb d_M_heat_140 (by decide) ?_
                    refine fw_icmp_ne (tgt := 149) hx hb d_M_heat_142 (by decide) ⟨by omega, by omega⟩ ⟨by omega, by omega⟩ (fun c_53 => ?_) (fun c_53 => ?_)
                    · refine lv_iconst (v := (bI (false))) hx hb d_M_heat_149 (by decide) ?_
                      refine lv_iload hx hb d_M_heat_150 (lv_at hl 1 rfl) ?_
                      refine lv_iload hx hb d_M_heat_152 (lv_at hl 0 rfl) ?_
                      refine fw_calliP [0] (va_runV (As := [.int (bI (false)), .int (bI (false)), .int (bI (false)), .int (bI (true))]) (rest := []) ⟨hx, hb, hml, hown, hts⟩ (c_M_throwing l dC dI  _ mm th mO mg md mH ml mu mp ud cs mS xu xf xt mW mF rn sp nd rd li pz lt false false false true ) (cwV 4 hts (gw_V kw_652 kw_654 ks_M_throwing kw_5 kw_655) rfl rfl rfl (by decide +kernel) ⟨Nat.le_of_ble_eq_true rfl, Nat.le_of_ble_eq_true rfl⟩) (fw_preV (ci := 4) (q0 := 0) hP hK hD hN [0] [] rfl rfl rfl rfl rfl) rfl rfl hl.1 rfl (lv_room (Nat.le_of_ble_eq_true rfl)) d_M_heat_154 ⟨Nat.le_of_ble_eq_true rfl, Nat.le_of_ble_eq_true rfl⟩) hP hD hS hA rfl rfl rfl (fun H locs hP hD hS => ?_)
                      have hP : va_P (dC, dI) cls_ [(mm, .inr (4, [.int (iI (fc_thr false false false true)), .int (iI (mO)), .ref mg, .ref md, .int (iI (mH)), .ref ml, .ref mu, .ref mp, .int (bI (ud)), .int (iI (cs)), .int (iI (mS)), .ref xu, .ref xf, .ref xt, .int (iI (mW)), .int (iI (mF)), .int (bI (rn)), .int (bI (sp)), .int (iI (nd)), .int (iI (rd)), .int (iI (li)), .ref pz, .int (iI (lt))])), (ml, fw_a kI 6 (fw_up gL mH.toNat le)), (mu, fw_a kI 6 (fw_up gU mH.toNat us)), (mp, fw_a kI 144 (gP)), (xu, fw_a kI 10 (xU)), (xf, fw_a kI 10 (xF)), (xt, fw_a kI 10 (xT))] H := hP
                      have hD : va_D A [(mm, .inr (4, [.int (iI (fc_thr false false false true)), .int (iI (mO)), .ref mg, .ref md, .int (iI (mH)), .ref ml, .ref mu, .ref mp, .int (bI (ud)), .int (iI (cs)), .int (iI (mS)), .ref xu, .ref xf, .ref xt, .int (iI (mW)), .int (iI (mF)), .int (bI (rn)), .int (bI (sp)), .int (iI (nd)), .int (iI (rd)), .int (iI (li)), .ref pz, .int (iI (lt))])), (ml, fw_a kI 6 (fw_up gL mH.toNat le)), (mu, fw_a kI 6 (fw_up gU mH.toNat us)), (mp, fw_a kI 144 (gP)), (xu, fw_a kI 10 (xU)), (xf, fw_a kI 10 (xF)), (xt, fw_a kI 10 (xT))] := hD
                      refine fw_cast (show (.int (bI (decide (0 < fc_thr false false false true))) : Value) = .int (bI (true)) from congrArg (fun b => Value.int (bI b)) (by decide)) ?_
                      refine fw_bif_eq (tgt := 162) hx hb d_M_heat_157 (by decide) (fun c_54 => ?_) (fun c_54 => ?_)
                      · exact absurd c_54 (by decide)
                      · refine lv_iconst (v := (iI (0))) hx hb d_M_heat_160 (by decide) ?_
                        have e9 : km_heat mO mH o le us u mi gP gU gL xU xF xT mS.toNat = (fc_thr false false false true) := by simp [km_heat, fc_thr, c_1, c_21, c_22, c_32, c_42, c_44, c_49, c_53] <;> omega
                        have e8 : ¬ km_heat mO mH o le us u mi gP gU gL xU xF xT mS.toNat = 0 := by rw [e9]; decide
                        refine fw_iret hx hb hr hlocks hS ?_ ?_ d_M_heat_161
                        · first | (exfalso; omega) | exact Or.inl ⟨e8, by rw [e9]; exact hP⟩
                        · rw [if_neg e8]
                    · refine lv_iconst (v := (bI (true))) hx hb d_M_heat_145 (by decide) ?_
                      refine lv_goto (tgt := 150) hx hb d_M_heat_146 (by decide) ?_
                      refine lv_iload hx hb d_M_heat_150 (lv_at hl 1 rfl) ?_
                      refine lv_iload hx hb d_M_heat_152 (lv_at hl 0 rfl) ?_
                      refine fw_calliP [0] (va_runV (As := [.int (bI (false)), .int (bI (true)), .int (bI (false)), .int (bI (true))]) (rest := []) ⟨hx, hb, hml, hown, hts⟩ (c_M_throwing l dC dI  _ mm th mO mg md mH ml mu mp ud cs mS xu xf xt mW mF rn sp nd rd li pz lt false true false true ) (cwV 4 hts (gw_V kw_652 kw_654 ks_M_throwing kw_5 kw_655) rfl rfl rfl (by decide +kernel) ⟨Nat.le_of_ble_eq_true rfl, Nat.le_of_ble_eq_true rfl⟩) (fw_preV (ci := 4) (q0 := 0) hP hK hD hN [0] [] rfl rfl rfl rfl rfl) rfl rfl hl.1 rfl (lv_room (Nat.le_of_ble_eq_true rfl)) d_M_heat_154 ⟨Nat.le_of_ble_eq_true rfl, Nat.le_of_ble_eq_true rfl⟩) hP hD hS hA rfl rfl rfl (fun H locs hP hD hS => ?_)
                      have hP : va_P (dC, dI) cls_ [(mm, .inr (4, [.int (iI (fc_thr false true false true)), .int (iI (mO)), .ref mg, .ref md, .int (iI (mH)), .ref ml, .ref mu, .ref mp, .int (bI (ud)), .int (iI (cs)), .int (iI (mS)), .ref xu, .ref xf, .ref xt, .int (iI (mW)), .int (iI (mF)), .int (bI (rn)), .int (bI (sp)), .int (iI (nd)), .int (iI (rd)), .int (iI (li)), .ref pz, .int (iI (lt))])), (ml, fw_a kI 6 (fw_up gL mH.toNat le)), (mu, fw_a kI 6 (fw_up gU mH.toNat us)), (mp, fw_a kI 144 (gP)), (xu, fw_a kI 10 (xU)), (xf, fw_a kI 10 (xF)), (xt, fw_a kI 10 (xT))] H := hP
                      have hD : va_D A [(mm, .inr (4, [.int (iI (fc_thr false true false true)), .int (iI (mO)), .ref mg, .ref md, .int (iI (mH)), .ref ml, .ref mu, .ref mp, .int (bI (ud)), .int (iI (cs)), .int (iI (mS)), .ref xu, .ref xf, .ref xt, .int (iI (mW)), .int (iI (mF)), .int (bI (rn)), .int (bI (sp)), .int (iI (nd)), .int (iI (rd)), .int (iI (li)), .ref pz, .int (iI (lt))])), (ml, fw_a kI 6 (fw_up gL mH.toNat le)), (mu, fw_a kI 6 (fw_up gU mH.toNat us)), (mp, fw_a kI 144 (gP)), (xu, fw_a kI 10 (xU)), (xf, fw_a kI 10 (xF)), (xt, fw_a kI 10 (xT))] := hD
                      refine fw_cast (show (.int (bI (decide (0 < fc_thr false true false true))) : Value) = .int (bI (true)) from congrArg (fun b => Value.int (bI b)) (by decide)) ?_
                      refine fw_bif_eq (tgt := 162) hx hb d_M_heat_157 (by decide) (fun c_55 => ?_) (fun c_55 => ?_)
                      · exact absurd c_55 (by decide)
                      · refine lv_iconst (v := (iI (0))) hx hb d_M_heat_160 (by decide) ?_
                        have e9 : km_heat mO mH o le us u mi gP gU gL xU xF xT mS.toNat = (fc_thr false true false true) := by simp [km_heat, fc_thr, c_1, c_21, c_22, c_32, c_42, c_44, c_49, c_53] <;> omega
                        have e8 : ¬ km_heat mO mH o le us u mi gP gU gL xU xF xT mS.toNat = 0 := by rw [e9]; decide
                        refine fw_iret hx hb hr hlocks hS ?_ ?_ d_M_heat_161
                        · first | (exfalso; omega) | exact Or.inl ⟨e8, by rw [e9]; exact hP⟩
                        · rw [if_neg e8]
          · refine lv_iconst (v := (bI (true))) hx hb d_M_heat_62 (by decide) ?_
            refine lv_goto (tgt := 67) hx hb d_M_heat_63 (by decide) ?_
            refine lv_istore (lv' := [(7, .int (bI (true))), (6, .int (bI (false))), (0, .ref mm), (1, .int (iI (o))), (2, .int (iI (le))), (3, .int (iI (us))), (4, .int (iI (u))), (5, .int (iI (mi)))]) hx hb d_M_heat_67 hl (by decide) rfl (fun ls hl => ?_)
            refine lv_iconst (v := (bI (false))) hx hb d_M_heat_69 (by decide) ?_
            refine lv_istore (lv' := [(8, .int (bI (false))), (7, .int (bI (true))), (6, .int (bI (false))), (0, .ref mm), (1, .int (iI (o))), (2, .int (iI (le))), (3, .int (iI (us))), (4, .int (iI (u))), (5, .int (iI (mi)))]) hx hb d_M_heat_70 hl (by decide) rfl (fun ls hl => ?_)
            refine lv_iload hx hb d_M_heat_72 (lv_at hl 2 rfl) ?_
            refine fw_bif_ne (tgt := 133) hx hb d_M_heat_74 (by decide) (fun c_56 => ?_) (fun c_56 => ?_)
            · exact absurd c_56 (by decide)
            · refine lv_aload_n hx hb d_M_heat_77 rfl (lv_at hl 3 rfl) ?_
              refine va_get (D := (dC, dI)) (ci := 4) (v := .int (iI (mH))) (C := R_M) (T := T_M) (N := 23) hx hb hts in_M hown hK hP 0 rfl rfl 4 (by decide) (hts _ kw_575) (fun _ h9 => h9) rfl d_M_heat_78 ?_
              refine lv_bipush (v := (iI (6))) hx hb d_M_heat_81 (by decide) ?_
              refine fw_icmp_ge (tgt := 133) hx hb d_M_heat_83 (by decide) ⟨by omega, by omega⟩ ⟨by omega, by omega⟩ (fun c_57 => ?_) (fun c_57 => ?_)
              · refine lv_aload_n hx hb d_M_heat_133 rfl (lv_at hl 3 rfl) ?_
                refine lv_iload hx hb d_M_heat_134 (lv_at hl 2 rfl) ?_
                refine lv_aload_n hx hb d_M_heat_136 rfl (lv_at hl 3 rfl) ?_
                refine va_get (D := (dC, dI)) (ci := 4) (v := .int (iI (mH))) (C := R_M) (T := T_M) (N := 23) hx hb hts in_M hown hK hP 0 rfl rfl 4 (by decide) (hts _ kw_575) (fun _ h9 => h9) rfl d_M_heat_137 ?_
                refine lv_bipush (v := (iI (6))) hx hb d_M_heat_140 (by decide) ?_
                refine fw_icmp_ne (tgt := 149) hx hb d_M_heat_142 (by decide) ⟨by omega, by omega⟩ ⟨by omega, by omega⟩ (fun c_58 => ?_) (fun c_58 => ?_)
                · refine lv_iconst (v := (bI (false))) hx hb d_M_heat_149 (by decide) ?_
                  refine lv_iload hx hb d_M_heat_150 (lv_at hl 1 rfl) ?_
                  refine lv_iload hx hb d_M_heat_152 (lv_at hl 0 rfl) ?_
                  refine fw_calliP [0] (va_runV (As := [.int (bI (false)), .int (bI (false)), .int (bI (true)), .int (bI (false))]) (rest := []) ⟨hx, hb, hml, hown, hts⟩ (c_M_throwing l dC dI  _ mm th mO mg md mH ml mu mp ud cs mS xu xf xt mW mF rn sp nd rd li pz lt false false true false ) (cwV 4 hts (gw_V kw_652 kw_654 ks_M_throwing kw_5 kw_655) rfl rfl rfl (by decide +kernel) ⟨Nat.le_of_ble_eq_true rfl, Nat.le_of_ble_eq_true rfl⟩) (fw_preV (ci := 4) (q0 := 0) hP hK hD hN [0] [] rfl rfl rfl rfl rfl) rfl rfl hl.1 rfl (lv_room (Nat.le_of_ble_eq_true rfl)) d_M_heat_154 ⟨Nat.le_of_ble_eq_true rfl, Nat.le_of_ble_eq_true rfl⟩) hP hD hS hA rfl rfl rfl (fun H locs hP hD hS => ?_)
                  have hP : va_P (dC, dI) cls_ [(mm, .inr (4, [.int (iI (fc_thr false false true false)), .int (iI (mO)), .ref mg, .ref md, .int (iI (mH)), .ref ml, .ref mu, .ref mp, .int (bI (ud)), .int (iI (cs)), .int (iI (mS)), .ref xu, .ref xf, .ref xt, .int (iI (mW)), .int (iI (mF)), .int (bI (rn)), .int (bI (sp)), .int (iI (nd)), .int (iI (rd)), .int (iI (li)), .ref pz, .int (iI (lt))])), (ml, fw_a kI 6 (gL)), (mu, fw_a kI 6 (gU)), (mp, fw_a kI 144 (gP)), (xu, fw_a kI 10 (xU)), (xf, fw_a kI 10 (xF)), (xt, fw_a kI 10 (xT))] H := hP
                  have hD : va_D A [(mm, .inr (4, [.int (iI (fc_thr false false true false)), .int (iI (mO)), .ref mg, .ref md, .int (iI (mH)), .ref ml, .ref mu, .ref mp, .int (bI (ud)), .int (iI (cs)), .int (iI (mS)), .ref xu, .ref xf, .ref xt, .int (iI (mW)), .int (iI (mF)), .int (bI (rn)), .int (bI (sp)), .int (iI (nd)), .int (iI (rd)), .int (iI (li)), .ref pz, .int (iI (lt))])), (ml, fw_a kI 6 (gL)), (mu, fw_a kI 6 (gU)), (mp, fw_a kI 144 (gP)), (xu, fw_a kI 10 (xU)), (xf, fw_a kI 10 (xF)), (xt, fw_a kI 10 (xT))] := hD
                  refine fw_cast (show (.int (bI (decide (0 < fc_thr false false true false))) : Value) = .int (bI (true)) from congrArg (fun b => Value.int (bI b)) (by decide)) ?_
                  refine fw_bif_eq (tgt := 162) hx hb d_M_heat_157 (by decide) (fun c_59 => ?_) (fun c_59 => ?_)
                  · exact absurd c_59 (by decide)
                  · refine lv_iconst (v := (iI (0))) hx hb d_M_heat_160 (by decide) ?_
                    have e9 : km_heat mO mH o le us u mi gP gU gL xU xF xT mS.toNat = (fc_thr false false true false) := by simp [km_heat, fc_thr, c_1, c_21, c_22, c_32, c_42, c_57, c_58] <;> omega
                    have e8 : ¬ km_heat mO mH o le us u mi gP gU gL xU xF xT mS.toNat = 0 := by rw [e9]; decide
                    refine fw_iret hx hb hr hlocks hS ?_ ?_ d_M_heat_161
                    · first | (exfalso; omega) | exact Or.inl ⟨e8, by rw [e9]; exact hP⟩
                    · rw [if_neg e8]
                · refine lv_iconst (v := (bI (true))) hx hb d_M_heat_145 (by decide) ?_
                  refine lv_goto (tgt := 150) hx hb d_M_heat_146 (by decide) ?_
                  refine lv_iload hx hb d_M_heat_150 (lv_at hl 1 rfl) ?_
                  refine lv_iload hx hb d_M_heat_152 (lv_at hl 0 rfl) ?_
                  refine fw_calliP [0] (va_runV (As := [.int (bI (false)), .int (bI (true)), .int (bI (true)), .int (bI (false))]) (rest := []) ⟨hx, hb, hml, hown, hts⟩ (c_M_throwing l dC dI  _ mm th mO mg md mH ml mu mp ud cs mS xu xf xt mW mF rn sp nd rd li pz lt false true true false ) (cwV 4 hts (gw_V kw_652 kw_654 ks_M_throwing kw_5 kw_655) rfl rfl rfl (by decide +kernel) ⟨Nat.le_of_ble_eq_true rfl, Nat.le_of_ble_eq_true rfl⟩) (fw_preV (ci := 4) (q0 := 0) hP hK hD hN [0] [] rfl rfl rfl rfl rfl) rfl rfl hl.1 rfl (lv_room (Nat.le_of_ble_eq_true rfl)) d_M_heat_154 ⟨Nat.le_of_ble_eq_true rfl, Nat.le_of_ble_eq_true rfl⟩) hP hD hS hA rfl rfl rfl (fun H locs hP hD hS => ?_)
                  have hP : va_P (dC, dI) cls_ [(mm, .inr (4, [.int (iI (fc_thr false true true false)), .int (iI (mO)), .ref mg, .ref md, .int (iI (mH)), .ref ml, .ref mu, .ref mp, .int (bI (ud)), .int (iI (cs)), .int (iI (mS)), .ref xu, .ref xf, .ref xt, .int (iI (mW)), .int (iI (mF)), .int (bI (rn)), .int (bI (sp)), .int (iI (nd)), .int (iI (rd)), .int (iI (li)), .ref pz, .int (iI (lt))])), (ml, fw_a kI 6 (gL)), (mu, fw_a kI 6 (gU)), (mp, fw_a kI 144 (gP)), (xu, fw_a kI 10 (xU)), (xf, fw_a kI 10 (xF)), (xt, fw_a kI 10 (xT))] H := hP
                  have hD : va_D A [(mm, .inr (4, [.int (iI (fc_thr false true true false)), .int (iI (mO)), .ref mg, .ref md, .int (iI (mH)), .ref ml, .ref mu, .ref mp, .int (bI (ud)), .int (iI (cs)), .int (iI (mS)), .ref xu, .ref xf, .ref xt, .int (iI (mW)), .int (iI (mF)), .int (bI (rn)), .int (bI (sp)), .int (iI (nd)), .int (iI (rd)), .int (iI (li)), .ref pz, .int (iI (lt))])), (ml, fw_a kI 6 (gL)), (mu, fw_a kI 6 (gU)), (mp, fw_a kI 144 (gP)), (xu, fw_a kI 10 (xU)), (xf, fw_a kI 10 (xF)), (xt, fw_a kI 10 (xT))] := hD
                  refine fw_cast (show (.int (bI (decide (0 < fc_thr false true true false))) : Value) = .int (bI (true)) from congrArg (fun b => Value.int (bI b)) (by decide)) ?_
                  refine fw_bif_eq (tgt := 162) hx hb d_M_heat_157 (by decide) (fun c_60 => ?_) (fun c_60 => ?_)
                  · exact absurd c_60 (by decide)
                  · refine lv_iconst (v := (iI (0))) hx hb d_M_heat_160 (by decide) ?_
                    have e9 : km_heat mO mH o le us u mi gP gU gL xU xF xT mS.toNat = (fc_thr false true true false) := by simp [km_heat, fc_thr, c_1, c_21, c_22, c_32, c_42, c_57, c_58] <;> omega
                    have e8 : ¬ km_heat mO mH o le us u mi gP gU gL xU xF xT mS.toNat = 0 := by rw [e9]; decide
                    refine fw_iret hx hb hr hlocks hS ?_ ?_ d_M_heat_161
                    · first | (exfalso; omega) | exact Or.inl ⟨e8, by rw [e9]; exact hP⟩
                    · rw [if_neg e8]
              · refine lv_iload hx hb d_M_heat_86 (lv_at hl 1 rfl) ?_
                refine fw_bif_ne (tgt := 133) hx hb d_M_heat_88 (by decide) (fun c_61 => ?_) (fun c_61 => ?_)
                · refine lv_aload_n hx hb d_M_heat_133 rfl (lv_at hl 3 rfl) ?_
                  refine lv_iload hx hb d_M_heat_134 (lv_at hl 2 rfl) ?_
                  refine lv_aload_n hx hb d_M_heat_136 rfl (lv_at hl 3 rfl) ?_
                  refine va_get (D := (dC, dI)) (ci := 4) (v := .int (iI (mH))) (C := R_M) (T := T_M) (N := 23) hx hb hts in_M hown hK hP 0 rfl rfl 4 (by decide) (hts _ kw_575) (fun _ h9 => h9) rfl d_M_heat_137 ?_
                  refine lv_bipush (v := (iI (6))) hx hb d_M_heat_140 (by decide) ?_
                  refine fw_icmp_ne (tgt := 149) hx hb d_M_heat_142 (by decide) ⟨by omega, by omega⟩ ⟨by omega, by omega⟩ (fun c_62 => ?_) (fun c_62 => ?_)
                  · refine lv_iconst (v := (bI (false))) hx hb d_M_heat_149 (by decide) ?_
                    refine lv_iload hx hb d_M_heat_150 (lv_at hl 1 rfl) ?_
                    refine lv_iload hx hb d_M_heat_152 (lv_at hl 0 rfl) ?_
                    refine fw_calliP [0] (va_runV (As := [.int (bI (false)), .int (bI (false)), .int (bI (true)), .int (bI (false))]) (rest := []) ⟨hx, hb, hml, hown, hts⟩ (c_M_throwing l dC dI  _ mm th mO mg md mH ml mu mp ud cs mS xu xf xt mW mF rn sp nd rd li pz lt false false true false ) (cwV 4 hts (gw_V kw_652 kw_654 ks_M_throwing kw_5 kw_655) rfl rfl rfl (by decide +kernel) ⟨Nat.le_of_ble_eq_true rfl, Nat.le_of_ble_eq_true rfl⟩) (fw_preV (ci := 4) (q0 := 0) hP hK hD hN [0] [] rfl rfl rfl rfl rfl) rfl rfl hl.1 rfl (lv_room (Nat.le_of_ble_eq_true rfl)) d_M_heat_154 ⟨Nat.le_of_ble_eq_true rfl, Nat.le_of_ble_eq_true rfl⟩) hP hD hS hA rfl rfl rfl (fun H locs hP hD hS => ?_)
                    have hP : va_P (dC, dI) cls_ [(mm, .inr (4, [.int (iI (fc_thr false false true false)), .int (iI (mO)), .ref mg, .ref md, .int (iI (mH)), .ref ml, .ref mu, .ref mp, .int (bI (ud)), .int (iI (cs)), .int (iI (mS)), .ref xu, .ref xf, .ref xt, .int (iI (mW)), .int (iI (mF)), .int (bI (rn)), .int (bI (sp)), .int (iI (nd)), .int (iI (rd)), .int (iI (li)), .ref pz, .int (iI (lt))])), (ml, fw_a kI 6 (gL)), (mu, fw_a kI 6 (gU)), (mp, fw_a kI 144 (gP)), (xu, fw_a kI 10 (xU)), (xf, fw_a kI 10 (xF)), (xt, fw_a kI 10 (xT))] H := hP
                    have hD : va_D A [(mm, .inr (4, [.int (iI (fc_thr false false true false)), .int (iI (mO)), .ref mg, .ref md, .int (iI (mH)), .ref ml, .ref mu, .ref mp, .int (bI (ud)), .int (iI (cs)), .int (iI (mS)), .ref xu, .ref xf, .ref xt, .int (iI (mW)), .int (iI (mF)), .int (bI (rn)), .int (bI (sp)), .int (iI (nd)), .int (iI (rd)), .int (iI (li)), .ref pz, .int (iI (lt))])), (ml, fw_a kI 6 (gL)), (mu, fw_a kI 6 (gU)), (mp, fw_a kI 144 (gP)), (xu, fw_a kI 10 (xU)), (xf, fw_a kI 10 (xF)), (xt, fw_a kI 10 (xT))] := hD
                    refine fw_cast (show (.int (bI (decide (0 < fc_thr false false true false))) : Value) = .int (bI (true)) from congrArg (fun b => Value.int (bI b)) (by decide)) ?_
                    refine fw_bif_eq (tgt := 162) hx hb d_M_heat_157 (by decide) (fun c_63 => ?_) (fun c_63 => ?_)
                    · exact absurd c_63 (by decide)
                    · refine lv_iconst (v := (iI (0))) hx hb d_M_heat_160 (by decide) ?_
                      have e9 : km_heat mO mH o le us u mi gP gU gL xU xF xT mS.toNat = (fc_thr false false true false) := by simp [km_heat, fc_thr, c_1, c_21, c_22, c_32, c_42, c_57, c_62] <;> omega
                      have e8 : ¬ km_heat mO mH o le us u mi gP gU gL xU xF xT mS.toNat = 0 := by rw [e9]; decide
                      refine fw_iret hx hb hr hlocks hS ?_ ?_ d_M_heat_161
                      · first | (exfalso; omega) | exact Or.inl ⟨e8, by rw [e9]; exact hP⟩
                      · rw [if_neg e8]
                  · refine lv_iconst (v := (bI (true))) hx hb d_M_heat_145 (by decide) ?_
                    refine lv_goto (tgt := 150) hx hb d_M_heat_146 (by decide) ?_
                    refine lv_iload hx hb d_M_heat_150 (lv_at hl 1 rfl) ?_
                    refine lv_iload hx hb d_M_heat_152 (lv_at hl 0 rfl) ?_
                    refine fw_calliP [0] (va_runV (As := [.int (bI (false)), .int (bI (true)), .int (bI (true)), .int (bI (false))]) (rest := []) ⟨hx, hb, hml, hown, hts⟩ (c_M_throwing l dC dI  _ mm th mO mg md mH ml mu mp ud cs mS xu xf xt mW mF rn sp nd rd li pz lt false true true false ) (cwV 4 hts (gw_V kw_652 kw_654 ks_M_throwing kw_5 kw_655) rfl rfl rfl (by decide +kernel) ⟨Nat.le_of_ble_eq_true rfl, Nat.le_of_ble_eq_true rfl⟩) (fw_preV (ci := 4) (q0 := 0) hP hK hD hN [0] [] rfl rfl rfl rfl rfl) rfl rfl hl.1 rfl (lv_room (Nat.le_of_ble_eq_true rfl)) d_M_heat_154 ⟨Nat.le_of_ble_eq_true rfl, Nat.le_of_ble_eq_true rfl⟩) hP hD hS hA rfl rfl rfl (fun H locs hP hD hS => ?_)
                    have hP : va_P (dC, dI) cls_ [(mm, .inr (4, [.int (iI (fc_thr false true true false)), .int (iI (mO)), .ref mg, .ref md, .int (iI (mH)), .ref ml, .ref mu, .ref mp, .int (bI (ud)), .int (iI (cs)), .int (iI (mS)), .ref xu, .ref xf, .ref xt, .int (iI (mW)), .int (iI (mF)), .int (bI (rn)), .int (bI (sp)), .int (iI (nd)), .int (iI (rd)), .int (iI (li)), .ref pz, .int (iI (lt))])), (ml, fw_a kI 6 (gL)), (mu, fw_a kI 6 (gU)), (mp, fw_a kI 144 (gP)), (xu, fw_a kI 10 (xU)), (xf, fw_a kI 10 (xF)), (xt, fw_a kI 10 (xT))] H := hP
                    have hD : va_D A [(mm, .inr (4, [.int (iI (fc_thr false true true false)), .int (iI (mO)), .ref mg, .ref md, .int (iI (mH)), .ref ml, .ref mu, .ref mp, .int (bI (ud)), .int (iI (cs)), .int (iI (mS)), .ref xu, .ref xf, .ref xt, .int (iI (mW)), .int (iI (mF)), .int (bI (rn)), .int (bI (sp)), .int (iI (nd)), .int (iI (rd)), .int (iI (li)), .ref pz, .int (iI (lt))])), (ml, fw_a kI 6 (gL)), (mu, fw_a kI 6 (gU)), (mp, fw_a kI 144 (gP)), (xu, fw_a kI 10 (xU)), (xf, fw_a kI 10 (xF)), (xt, fw_a kI 10 (xT))] := hD
                    refine fw_cast (show (.int (bI (decide (0 < fc_thr false true true false))) : Value) = .int (bI (true)) from congrArg (fun b => Value.int (bI b)) (by decide)) ?_
                    refine fw_bif_eq (tgt := 162) hx hb d_M_heat_157 (by decide) (fun c_64 => ?_) (fun c_64 => ?_)
                    · exact absurd c_64 (by decide)
                    · refine lv_iconst (v := (iI (0))) hx hb d_M_heat_160 (by decide) ?_
                      have e9 : km_heat mO mH o le us u mi gP gU gL xU xF xT mS.toNat = (fc_thr false true true false) := by simp [km_heat, fc_thr, c_1, c_21, c_22, c_32, c_42, c_57, c_62] <;> omega
                      have e8 : ¬ km_heat mO mH o le us u mi gP gU gL xU xF xT mS.toNat = 0 := by rw [e9]; decide
                      refine fw_iret hx hb hr hlocks hS ?_ ?_ d_M_heat_161
                      · first | (exfalso; omega) | exact Or.inl ⟨e8, by rw [e9]; exact hP⟩
                      · rw [if_neg e8]
                · exact absurd c_61 (by decide)
    · refine lv_iconst (v := (bI (true))) hx hb d_M_heat_24 (by decide) ?_
      refine lv_goto (tgt := 29) hx hb d_M_heat_25 (by decide) ?_
      refine lv_istore (lv' := [(6, .int (bI (true))), (0, .ref mm), (1, .int (iI (o))), (2, .int (iI (le))), (3, .int (iI (us))), (4, .int (iI (u))), (5, .int (iI (mi)))]) hx hb d_M_heat_29 hl (by decide) rfl (fun ls hl => ?_)
      refine lv_iload_n hx hb d_M_heat_31 rfl (lv_at hl 3 rfl) ?_
      refine lv_iconst (v := (iI (1))) hx hb d_M_heat_32 (by decide) ?_
      refine lv_bipush (v := (iI (20))) hx hb d_M_heat_33 (by decide) ?_
      refine fw_callR (va_runS (As := [.int (iI (le)), .int (iI (1)), .int (iI (20))]) (rest := []) ⟨hx, hb, hml, hown, hts⟩ (c_M_in l dC dI  le 1 20 ⟨by omega, by omega⟩ ⟨by omega, by omega⟩ ⟨by omega, by omega⟩) (cwS 3 hts (gw_S kw_649 kw_650 kw_5 kw_651) rfl rfl rfl (by decide +kernel) ⟨Nat.le_of_ble_eq_true rfl, Nat.le_of_ble_eq_true rfl⟩) (fw_preRS hP hK hN [] [] rfl rfl) rfl rfl hl.1 rfl (lv_room (Nat.le_of_ble_eq_true rfl)) d_M_heat_35 ⟨Nat.le_of_ble_eq_true rfl, Nat.le_of_ble_eq_true rfl⟩).run ?_
      refine fw_bif_eq (tgt := 62) hx hb d_M_heat_38 (by decide) (fun c_65 => ?_) (fun c_65 => ?_)
      · refine lv_iconst (v := (bI (true))) hx hb d_M_heat_62 (by decide) ?_
        refine lv_goto (tgt := 67) hx hb d_M_heat_63 (by decide) ?_
        refine lv_istore (lv' := [(7, .int (bI (true))), (6, .int (bI (true))), (0, .ref mm), (1, .int (iI (o))), (2, .int (iI (le))), (3, .int (iI (us))), (4, .int (iI (u))), (5, .int (iI (mi)))]) hx hb d_M_heat_67 hl (by decide) rfl (fun ls hl => ?_)
        refine lv_iconst (v := (bI (false))) hx hb d_M_heat_69 (by decide) ?_
        refine lv_istore (lv' := [(8, .int (bI (false))), (7, .int (bI (true))), (6, .int (bI (true))), (0, .ref mm), (1, .int (iI (o))), (2, .int (iI (le))), (3, .int (iI (us))), (4, .int (iI (u))), (5, .int (iI (mi)))]) hx hb d_M_heat_70 hl (by decide) rfl (fun ls hl => ?_)
        refine lv_iload hx hb d_M_heat_72 (lv_at hl 2 rfl) ?_
        refine fw_bif_ne (tgt := 133) hx hb d_M_heat_74 (by decide) (fun c_66 => ?_) (fun c_66 => ?_)
        · refine lv_aload_n hx hb d_M_heat_133 rfl (lv_at hl 3 rfl) ?_
          refine lv_iload hx hb d_M_heat_134 (lv_at hl 2 rfl) ?_
          refine lv_aload_n hx hb d_M_heat_136 rfl (lv_at hl 3 rfl) ?_
          refine va_get (D := (dC, dI)) (ci := 4) (v := .int (iI (mH))) (C := R_M) (T := T_M) (N := 23) hx hb hts in_M hown hK hP 0 rfl rfl 4 (by decide) (hts _ kw_575) (fun _ h9 => h9) rfl d_M_heat_137 ?_
          refine lv_bipush (v := (iI (6))) hx hb d_M_heat_140 (by decide) ?_
          refine fw_icmp_ne (tgt := 149) hx hb d_M_heat_142 (by decide) ⟨by omega, by omega⟩ ⟨by omega, by omega⟩ (fun c_67 => ?_) (fun c_67 => ?_)
          · refine lv_iconst (v := (bI (false))) hx hb d_M_heat_149 (by decide) ?_
            refine lv_iload hx hb d_M_heat_150 (lv_at hl 1 rfl) ?_
            refine lv_iload hx hb d_M_heat_152 (lv_at hl 0 rfl) ?_
            refine fw_calliP [0] (va_runV (As := [.int (bI (true)), .int (bI (false)), .int (bI (true)), .int (bI (false))]) (rest := []) ⟨hx, hb, hml, hown, hts⟩ (c_M_throwing l dC dI  _ mm th mO mg md mH ml mu mp ud cs mS xu xf xt mW mF rn sp nd rd li pz lt true false true false ) (cwV 4 hts (gw_V kw_652 kw_654 ks_M_throwing kw_5 kw_655) rfl rfl rfl (by decide +kernel) ⟨Nat.le_of_ble_eq_true rfl, Nat.le_of_ble_eq_true rfl⟩) (fw_preV (ci := 4) (q0 := 0) hP hK hD hN [0] [] rfl rfl rfl rfl rfl) rfl rfl hl.1 rfl (lv_room (Nat.le_of_ble_eq_true rfl)) d_M_heat_154 ⟨Nat.le_of_ble_eq_true rfl, Nat.le_of_ble_eq_true rfl⟩) hP hD hS hA rfl rfl rfl (fun H locs hP hD hS => ?_)
            have hP : va_P (dC, dI) cls_ [(mm, .inr (4, [.int (iI (fc_thr true false true false)), .int (iI (mO)), .ref mg, .ref md, .int (iI (mH)), .ref ml, .ref mu, .ref mp, .int (bI (ud)), .int (iI (cs)), .int (iI (mS)), .ref xu, .ref xf, .ref xt, .int (iI (mW)), .int (iI (mF)), .int (bI (rn)), .int (bI (sp)), .int (iI (nd)), .int (iI (rd)), .int (iI (li)), .ref pz, .int (iI (lt))])), (ml, fw_a kI 6 (gL)), (mu, fw_a kI 6 (gU)), (mp, fw_a kI 144 (gP)), (xu, fw_a kI 10 (xU)), (xf, fw_a kI 10 (xF)), (xt, fw_a kI 10 (xT))] H := hP
            have hD : va_D A [(mm, .inr (4, [.int (iI (fc_thr true false true false)), .int (iI (mO)), .ref mg, .ref md, .int (iI (mH)), .ref ml, .ref mu, .ref mp, .int (bI (ud)), .int (iI (cs)), .int (iI (mS)), .ref xu, .ref xf, .ref xt, .int (iI (mW)), .int (iI (mF)), .int (bI (rn)), .int (bI (sp)), .int (iI (nd)), .int (iI (rd)), .int (iI (li)), .ref pz, .int (iI (lt))])), (ml, fw_a kI 6 (gL)), (mu, fw_a kI 6 (gU)), (mp, fw_a kI 144 (gP)), (xu, fw_a kI 10 (xU)), (xf, fw_a kI 10 (xF)), (xt, fw_a kI 10 (xT))] := hD
            refine fw_cast (show (.int (bI (decide (0 < fc_thr true false true false))) : Value) = .int (bI (true)) from congrArg (fun b => Value.int (bI b)) (by decide)) ?_
            refine fw_bif_eq (tgt := 162) hx hb d_M_heat_157 (by decide) (fun c_68 => ?_) (fun c_68 => ?_)
            · exact absurd c_68 (by decide)
            · refine lv_iconst (v := (iI (0))) hx hb d_M_heat_160 (by decide) ?_
              have e9 : km_heat mO mH o le us u mi gP gU gL xU xF xT mS.toNat = (fc_thr true false true false) := by simp [km_heat, fc_thr, c_1, c_21, c_65, c_67] <;> omega
              have e8 : ¬ km_heat mO mH o le us u mi gP gU gL xU xF xT mS.toNat = 0 := by rw [e9]; decide
              refine fw_iret hx hb hr hlocks hS ?_ ?_ d_M_heat_161
              · first | (exfalso; omega) | exact Or.inl ⟨e8, by rw [e9]; exact hP⟩
              · rw [if_neg e8]
          · refine lv_iconst (v := (bI (true))) hx hb d_M_heat_145 (by decide) ?_
            refine lv_goto (tgt := 150) hx hb d_M_heat_146 (by decide) ?_
            refine lv_iload hx hb d_M_heat_150 (lv_at hl 1 rfl) ?_
            refine lv_iload hx hb d_M_heat_152 (lv_at hl 0 rfl) ?_
            refine fw_calliP [0] (va_runV (As := [.int (bI (true)), .int (bI (true)), .int (bI (true)), .int (bI (false))]) (rest := []) ⟨hx, hb, hml, hown, hts⟩ (c_M_throwing l dC dI  _ mm th mO mg md mH ml mu mp ud cs mS xu xf xt mW mF rn sp nd rd li pz lt true true true false ) (cwV 4 hts (gw_V kw_652 kw_654 ks_M_throwing kw_5 kw_655) rfl rfl rfl (by decide +kernel) ⟨Nat.le_of_ble_eq_true rfl, Nat.le_of_ble_eq_true rfl⟩) (fw_preV (ci := 4) (q0 := 0) hP hK hD hN [0] [] rfl rfl rfl rfl rfl) rfl rfl hl.1 rfl (lv_room (Nat.le_of_ble_eq_true rfl)) d_M_heat_154 ⟨Nat.le_of_ble_eq_true rfl, Nat.le_of_ble_eq_true rfl⟩) hP hD hS hA rfl rfl rfl (fun H locs hP hD hS => ?_)
            have hP : va_P (dC, dI) cls_ [(mm, .inr (4, [.int (iI (fc_thr true true true false)), .int (iI (mO)), .ref mg, .ref md, .int (iI (mH)), .ref ml, .ref mu, .ref mp, .int (bI (ud)), .int (iI (cs)), .int (iI (mS)), .ref xu, .ref xf, .ref xt, .int (iI (mW)), .int (iI (mF)), .int (bI (rn)), .int (bI (sp)), .int (iI (nd)), .int (iI (rd)), .int (iI (li)), .ref pz, .int (iI (lt))])), (ml, fw_a kI 6 (gL)), (mu, fw_a kI 6 (gU)), (mp, fw_a kI 144 (gP)), (xu, fw_a kI 10 (xU)), (xf, fw_a kI 10 (xF)), (xt, fw_a kI 10 (xT))] H := hP
            have hD : va_D A [(mm, .inr (4, [.int (iI (fc_thr true true true false)), .int (iI (mO)), .ref mg, .ref md, .int (iI (mH)), .ref ml, .ref mu, .ref mp, .int (bI (ud)), .int (iI (cs)), .int (iI (mS)), .ref xu, .ref xf, .ref xt, .int (iI (mW)), .int (iI (mF)), .int (bI (rn)), .int (bI (sp)), .int (iI (nd)), .int (iI (rd)), .int (iI (li)), .ref pz, .int (iI (lt))])), (ml, fw_a kI 6 (gL)), (mu, fw_a kI 6 (gU)), (mp, fw_a kI 144 (gP)), (xu, fw_a kI 10 (xU)), (xf, fw_a kI 10 (xF)), (xt, fw_a kI 10 (xT))] := hD
            refine fw_cast (show (.int (bI (decide (0 < fc_thr true true true false))) : Value) = .int (bI (true)) from congrArg (fun b => Value.int (bI b)) (by decide)) ?_
            refine fw_bif_eq (tgt := 162) hx hb d_M_heat_157 (by decide) (fun c_69 => ?_) (fun c_69 => ?_)
            · exact absurd c_69 (by decide)
            · refine lv_iconst (v := (iI (0))) hx hb d_M_heat_160 (by decide) ?_
              have e9 : km_heat mO mH o le us u mi gP gU gL xU xF xT mS.toNat = (fc_thr true true true false) := by simp [km_heat, fc_thr, c_1, c_21, c_65, c_67] <;> omega
              have e8 : ¬ km_heat mO mH o le us u mi gP gU gL xU xF xT mS.toNat = 0 := by rw [e9]; decide
              refine fw_iret hx hb hr hlocks hS ?_ ?_ d_M_heat_161
              · first | (exfalso; omega) | exact Or.inl ⟨e8, by rw [e9]; exact hP⟩
              · rw [if_neg e8]
        · exact absurd c_66 (by decide)
      · refine lv_iload_n hx hb d_M_heat_41 rfl (lv_at hl 4 rfl) ?_
        refine lv_iconst (v := (iI (1))) hx hb d_M_heat_42 (by decide) ?_
        refine lv_bipush (v := (iI (7))) hx hb d_M_heat_43 (by decide) ?_
        refine fw_callR (va_runS (As := [.int (iI (us)), .int (iI (1)), .int (iI (7))]) (rest := []) ⟨hx, hb, hml, hown, hts⟩ (c_M_in l dC dI  us 1 7 ⟨by omega, by omega⟩ ⟨by omega, by omega⟩ ⟨by omega, by omega⟩) (cwS 3 hts (gw_S kw_649 kw_650 kw_5 kw_651) rfl rfl rfl (by decide +kernel) ⟨Nat.le_of_ble_eq_true rfl, Nat.le_of_ble_eq_true rfl⟩) (fw_preRS hP hK hN [] [] rfl rfl) rfl rfl hl.1 rfl (lv_room (Nat.le_of_ble_eq_true rfl)) d_M_heat_45 ⟨Nat.le_of_ble_eq_true rfl, Nat.le_of_ble_eq_true rfl⟩).run ?_
        refine fw_bif_eq (tgt := 62) hx hb d_M_heat_48 (by decide) (fun c_70 => ?_) (fun c_70 => ?_)
        · refine lv_iconst (v := (bI (true))) hx hb d_M_heat_62 (by decide) ?_
          refine lv_goto (tgt := 67) hx hb d_M_heat_63 (by decide) ?_
          refine lv_istore (lv' := [(7, .int (bI (true))), (6, .int (bI (true))), (0, .ref mm), (1, .int (iI (o))), (2, .int (iI (le))), (3, .int (iI (us))), (4, .int (iI (u))), (5, .int (iI (mi)))]) hx hb d_M_heat_67 hl (by decide) rfl (fun ls hl => ?_)
          refine lv_iconst (v := (bI (false))) hx hb d_M_heat_69 (by decide) ?_
          refine lv_istore (lv' := [(8, .int (bI (false))), (7, .int (bI (true))), (6, .int (bI (true))), (0, .ref mm), (1, .int (iI (o))), (2, .int (iI (le))), (3, .int (iI (us))), (4, .int (iI (u))), (5, .int (iI (mi)))]) hx hb d_M_heat_70 hl (by decide) rfl (fun ls hl => ?_)
          refine lv_iload hx hb d_M_heat_72 (lv_at hl 2 rfl) ?_
          refine fw_bif_ne (tgt := 133) hx hb d_M_heat_74 (by decide) (fun c_71 => ?_) (fun c_71 => ?_)
          · refine lv_aload_n hx hb d_M_heat_133 rfl (lv_at hl 3 rfl) ?_
            refine lv_iload hx hb d_M_heat_134 (lv_at hl 2 rfl) ?_
            refine lv_aload_n hx hb d_M_heat_136 rfl (lv_at hl 3 rfl) ?_
            refine va_get (D := (dC, dI)) (ci := 4) (v := .int (iI (mH))) (C := R_M) (T := T_M) (N := 23) hx hb hts in_M hown hK hP 0 rfl rfl 4 (by decide) (hts _ kw_575) (fun _ h9 => h9) rfl d_M_heat_137 ?_
            refine lv_bipush (v := (iI (6))) hx hb d_M_heat_140 (by decide) ?_
            refine fw_icmp_ne (tgt := 149) hx hb d_M_heat_142 (by decide) ⟨by omega, by omega⟩ ⟨by omega, by omega⟩ (fun c_72 => ?_) (fun c_72 => ?_)
            · refine lv_iconst (v := (bI (false))) hx hb d_M_heat_149 (by decide) ?_
              refine lv_iload hx hb d_M_heat_150 (lv_at hl 1 rfl) ?_
              refine lv_iload hx hb d_M_heat_152 (lv_at hl 0 rfl) ?_
              refine fw_calliP [0] (va_runV (As := [.int (bI (true)), .int (bI (false)), .int (bI (true)), .int (bI (false))]) (rest := []) ⟨hx, hb, hml, hown, hts⟩ (c_M_throwing l dC dI  _ mm th mO mg md mH ml mu mp ud cs mS xu xf xt mW mF rn sp nd rd li pz lt true false true false ) (cwV 4 hts (gw_V kw_652 kw_654 ks_M_throwing kw_5 kw_655) rfl rfl rfl (by decide +kernel) ⟨Nat.le_of_ble_eq_true rfl, Nat.le_of_ble_eq_true rfl⟩) (fw_preV (ci := 4) (q0 := 0) hP hK hD hN [0] [] rfl rfl rfl rfl rfl) rfl rfl hl.1 rfl (lv_room (Nat.le_of_ble_eq_true rfl)) d_M_heat_154 ⟨Nat.le_of_ble_eq_true rfl, Nat.le_of_ble_eq_true rfl⟩) hP hD hS hA rfl rfl rfl (fun H locs hP hD hS => ?_)
              have hP : va_P (dC, dI) cls_ [(mm, .inr (4, [.int (iI (fc_thr true false true false)), .int (iI (mO)), .ref mg, .ref md, .int (iI (mH)), .ref ml, .ref mu, .ref mp, .int (bI (ud)), .int (iI (cs)), .int (iI (mS)), .ref xu, .ref xf, .ref xt, .int (iI (mW)), .int (iI (mF)), .int (bI (rn)), .int (bI (sp)), .int (iI (nd)), .int (iI (rd)), .int (iI (li)), .ref pz, .int (iI (lt))])), (ml, fw_a kI 6 (gL)), (mu, fw_a kI 6 (gU)), (mp, fw_a kI 144 (gP)), (xu, fw_a kI 10 (xU)), (xf, fw_a kI 10 (xF)), (xt, fw_a kI 10 (xT))] H := hP
              have hD : va_D A [(mm, .inr (4, [.int (iI (fc_thr true false true false)), .int (iI (mO)), .ref mg, .ref md, .int (iI (mH)), .ref ml, .ref mu, .ref mp, .int (bI (ud)), .int (iI (cs)), .int (iI (mS)), .ref xu, .ref xf, .ref xt, .int (iI (mW)), .int (iI (mF)), .int (bI (rn)), .int (bI (sp)), .int (iI (nd)), .int (iI (rd)), .int (iI (li)), .ref pz, .int (iI (lt))])), (ml, fw_a kI 6 (gL)), (mu, fw_a kI 6 (gU)), (mp, fw_a kI 144 (gP)), (xu, fw_a kI 10 (xU)), (xf, fw_a kI 10 (xF)), (xt, fw_a kI 10 (xT))] := hD
              refine fw_cast (show (.int (bI (decide (0 < fc_thr true false true false))) : Value) = .int (bI (true)) from congrArg (fun b => Value.int (bI b)) (by decide)) ?_
              refine fw_bif_eq (tgt := 162) hx hb d_M_heat_157 (by decide) (fun c_73 => ?_) (fun c_73 => ?_)
              · exact absurd c_73 (by decide)
              · refine lv_iconst (v := (iI (0))) hx hb d_M_heat_160 (by decide) ?_
                have e9 : km_heat mO mH o le us u mi gP gU gL xU xF xT mS.toNat = (fc_thr true false true false) := by simp [km_heat, fc_thr, c_1, c_21, c_65, c_70, c_72] <;> omega
                have e8 : ¬ km_heat mO mH o le us u mi gP gU gL xU xF xT mS.toNat = 0 := by rw [e9]; decide
                refine fw_iret hx hb hr hlocks hS ?_ ?_ d_M_heat_161
                · first | (exfalso; omega) | exact Or.inl ⟨e8, by rw [e9]; exact hP⟩
                · rw [if_neg e8]
            · refine lv_iconst (v := (bI (true))) hx hb d_M_heat_145 (by decide) ?_
              refine lv_goto (tgt := 150) hx hb d_M_heat_146 (by decide) ?_
              refine lv_iload hx hb d_M_heat_150 (lv_at hl 1 rfl) ?_
              refine lv_iload hx hb d_M_heat_152 (lv_at hl 0 rfl) ?_
              refine fw_calliP [0] (va_runV (As := [.int (bI (true)), .int (bI (true)), .int (bI (true)), .int (bI (false))]) (rest := []) ⟨hx, hb, hml, hown, hts⟩ (c_M_throwing l dC dI  _ mm th mO mg md mH ml mu mp ud cs mS xu xf xt mW mF rn sp nd rd li pz lt true true true false ) (cwV 4 hts (gw_V kw_652 kw_654 ks_M_throwing kw_5 kw_655) rfl rfl rfl (by decide +kernel) ⟨Nat.le_of_ble_eq_true rfl, Nat.le_of_ble_eq_true rfl⟩) (fw_preV (ci := 4) (q0 := 0) hP hK hD hN [0] [] rfl rfl rfl rfl rfl) rfl rfl hl.1 rfl (lv_room (Nat.le_of_ble_eq_true rfl)) d_M_heat_154 ⟨Nat.le_of_ble_eq_true rfl, Nat.le_of_ble_eq_true rfl⟩) hP hD hS hA rfl rfl rfl (fun H locs hP hD hS => ?_)
              have hP : va_P (dC, dI) cls_ [(mm, .inr (4, [.int (iI (fc_thr true true true false)), .int (iI (mO)), .ref mg, .ref md, .int (iI (mH)), .ref ml, .ref mu, .ref mp, .int (bI (ud)), .int (iI (cs)), .int (iI (mS)), .ref xu, .ref xf, .ref xt, .int (iI (mW)), .int (iI (mF)), .int (bI (rn)), .int (bI (sp)), .int (iI (nd)), .int (iI (rd)), .int (iI (li)), .ref pz, .int (iI (lt))])), (ml, fw_a kI 6 (gL)), (mu, fw_a kI 6 (gU)), (mp, fw_a kI 144 (gP)), (xu, fw_a kI 10 (xU)), (xf, fw_a kI 10 (xF)), (xt, fw_a kI 10 (xT))] H := hP
              have hD : va_D A [(mm, .inr (4, [.int (iI (fc_thr true true true false)), .int (iI (mO)), .ref mg, .ref md, .int (iI (mH)), .ref ml, .ref mu, .ref mp, .int (bI (ud)), .int (iI (cs)), .int (iI (mS)), .ref xu, .ref xf, .ref xt, .int (iI (mW)), .int (iI (mF)), .int (bI (rn)), .int (bI (sp)), .int (iI (nd)), .int (iI (rd)), .int (iI (li)), .ref pz, .int (iI (lt))])), (ml, fw_a kI 6 (gL)), (mu, fw_a kI 6 (gU)), (mp, fw_a kI 144 (gP)), (xu, fw_a kI 10 (xU)), (xf, fw_a kI 10 (xF)), (xt, fw_a kI 10 (xT))] := hD
              refine fw_cast (show (.int (bI (decide (0 < fc_thr true true true false))) : Value) = .int (bI (true)) from congrArg (fun b => Value.int (bI b)) (by decide)) ?_
              refine fw_bif_eq (tgt := 162) hx hb d_M_heat_157 (by decide) (fun c_74 => ?_) (fun c_74 => ?_)
              · exact absurd c_74 (by decide)
              · refine lv_iconst (v := (iI (0))) hx hb d_M_heat_160 (by decide) ?_
                have e9 : km_heat mO mH o le us u mi gP gU gL xU xF xT mS.toNat = (fc_thr true true true false) := by simp [km_heat, fc_thr, c_1, c_21, c_65, c_70, c_72] <;> omega
                have e8 : ¬ km_heat mO mH o le us u mi gP gU gL xU xF xT mS.toNat = 0 := by rw [e9]; decide
                refine fw_iret hx hb hr hlocks hS ?_ ?_ d_M_heat_161
                · first | (exfalso; omega) | exact Or.inl ⟨e8, by rw [e9]; exact hP⟩
                · rw [if_neg e8]
          · exact absurd c_71 (by decide)
        · refine lv_iload hx hb d_M_heat_51 (lv_at hl 6 rfl) ?_
          refine lv_iconst (v := (iI (0))) hx hb d_M_heat_53 (by decide) ?_
          refine lv_bipush (v := (iI (59))) hx hb d_M_heat_54 (by decide) ?_
          refine fw_callR (va_runS (As := [.int (iI (mi)), .int (iI (0)), .int (iI (59))]) (rest := []) ⟨hx, hb, hml, hown, hts⟩ (c_M_in l dC dI  mi 0 59 ⟨by omega, by omega⟩ ⟨by omega, by omega⟩ ⟨by omega, by omega⟩) (cwS 3 hts (gw_S kw_649 kw_650 kw_5 kw_651) rfl rfl rfl (by decide +kernel) ⟨Nat.le_of_ble_eq_true rfl, Nat.le_of_ble_eq_true rfl⟩) (fw_preRS hP hK hN [] [] rfl rfl) rfl rfl hl.1 rfl (lv_room (Nat.le_of_ble_eq_true rfl)) d_M_heat_56 ⟨Nat.le_of_ble_eq_true rfl, Nat.le_of_ble_eq_true rfl⟩).run ?_
          refine fw_bif_ne (tgt := 66) hx hb d_M_heat_59 (by decide) (fun c_75 => ?_) (fun c_75 => ?_)
          · obtain ⟨g5, g6⟩ := fc_in_t c_65
            obtain ⟨g7, g8⟩ := fc_in_t c_70
            obtain ⟨g9, g10⟩ := fc_in_t c_75
            have hgL2 := fw_upb (k := mH.toNat) (v := le) hgL (by omega) (by omega)
            have hgU2 := fw_upb (k := mH.toNat) (v := us) hgU (by omega) (by omega)
            refine lv_iconst (v := (bI (false))) hx hb d_M_heat_66 (by decide) ?_
            refine lv_istore (lv' := [(7, .int (bI (false))), (6, .int (bI (true))), (0, .ref mm), (1, .int (iI (o))), (2, .int (iI (le))), (3, .int (iI (us))), (4, .int (iI (u))), (5, .int (iI (mi)))]) hx hb d_M_heat_67 hl (by decide) rfl (fun ls hl => ?_)
            refine lv_iconst (v := (bI (false))) hx hb d_M_heat_69 (by decide) ?_
            refine lv_istore (lv' := [(8, .int (bI (false))), (7, .int (bI (false))), (6, .int (bI (true))), (0, .ref mm), (1, .int (iI (o))), (2, .int (iI (le))), (3, .int (iI (us))), (4, .int (iI (u))), (5, .int (iI (mi)))]) hx hb d_M_heat_70 hl (by decide) rfl (fun ls hl => ?_)
            refine lv_iload hx hb d_M_heat_72 (lv_at hl 2 rfl) ?_
            refine fw_bif_ne (tgt := 133) hx hb d_M_heat_74 (by decide) (fun c_76 => ?_) (fun c_76 => ?_)
            · refine lv_aload_n hx hb d_M_heat_133 rfl (lv_at hl 3 rfl) ?_
              refine lv_iload hx hb d_M_heat_134 (lv_at hl 2 rfl) ?_
              refine lv_aload_n hx hb d_M_heat_136 rfl (lv_at hl 3 rfl) ?_
              refine va_get (D := (dC, dI)) (ci := 4) (v := .int (iI (mH))) (C := R_M) (T := T_M) (N := 23) hx hb hts in_M hown hK hP 0 rfl rfl 4 (by decide) (hts _ kw_575) (fun _ h9 => h9) rfl d_M_heat_137 ?_
              refine lv_bipush (v := (iI (6))) hx hb d_M_heat_140 (by decide) ?_
              refine fw_icmp_ne (tgt := 149) hx hb d_M_heat_142 (by decide) ⟨by omega, by omega⟩ ⟨by omega, by omega⟩ (fun c_77 => ?_) (fun c_77 => ?_)
              · refine lv_iconst (v := (bI (false))) hx hb d_M_heat_149 (by decide) ?_
                refine lv_iload hx hb d_M_heat_150 (lv_at hl 1 rfl) ?_
                refine lv_iload hx hb d_M_heat_152 (lv_at hl 0 rfl) ?_
                refine fw_calliP [0] (va_runV (As := [.int (bI (true)), .int (bI (false)), .int (bI (false)), .int (bI (false))]) (rest := []) ⟨hx, hb, hml, hown, hts⟩ (c_M_throwing l dC dI  _ mm th mO mg md mH ml mu mp ud cs mS xu xf xt mW mF rn sp nd rd li pz lt true false false false ) (cwV 4 hts (gw_V kw_652 kw_654 ks_M_throwing kw_5 kw_655) rfl rfl rfl (by decide +kernel) ⟨Nat.le_of_ble_eq_true rfl, Nat.le_of_ble_eq_true rfl⟩) (fw_preV (ci := 4) (q0 := 0) hP hK hD hN [0] [] rfl rfl rfl rfl rfl) rfl rfl hl.1 rfl (lv_room (Nat.le_of_ble_eq_true rfl)) d_M_heat_154 ⟨Nat.le_of_ble_eq_true rfl, Nat.le_of_ble_eq_true rfl⟩) hP hD hS hA rfl rfl rfl (fun H locs hP hD hS => ?_)
                have hP : va_P (dC, dI) cls_ [(mm, .inr (4, [.int (iI (fc_thr true false false false)), .int (iI (mO)), .ref mg, .ref md, .int (iI (mH)), .ref ml, .ref mu, .ref mp, .int (bI (ud)), .int (iI (cs)), .int (iI (mS)), .ref xu, .ref xf, .ref xt, .int (iI (mW)), .int (iI (mF)), .int (bI (rn)), .int (bI (sp)), .int (iI (nd)), .int (iI (rd)), .int (iI (li)), .ref pz, .int (iI (lt))])), (ml, fw_a kI 6 (gL)), (mu, fw_a kI 6 (gU)), (mp, fw_a kI 144 (gP)), (xu, fw_a kI 10 (xU)), (xf, fw_a kI 10 (xF)), (xt, fw_a kI 10 (xT))] H := hP
                have hD : va_D A [(mm, .inr (4, [.int (iI (fc_thr true false false false)), .int (iI (mO)), .ref mg, .ref md, .int (iI (mH)), .ref ml, .ref mu, .ref mp, .int (bI (ud)), .int (iI (cs)), .int (iI (mS)), .ref xu, .ref xf, .ref xt, .int (iI (mW)), .int (iI (mF)), .int (bI (rn)), .int (bI (sp)), .int (iI (nd)), .int (iI (rd)), .int (iI (li)), .ref pz, .int (iI (lt))])), (ml, fw_a kI 6 (gL)), (mu, fw_a kI 6 (gU)), (mp, fw_a kI 144 (gP)), (xu, fw_a kI 10 (xU)), (xf, fw_a kI 10 (xF)), (xt, fw_a kI 10 (xT))] := hD
                refine fw_cast (show (.int (bI (decide (0 < fc_thr true false false false))) : Value) = .int (bI (true)) from congrArg (fun b => Value.int (bI b)) (by decide)) ?_
                refine fw_bif_eq (tgt := 162) hx hb d_M_heat_157 (by decide) (fun c_78 => ?_) (fun c_78 => ?_)
                · exact absurd c_78 (by decide)
                · refine lv_iconst (v := (iI (0))) hx hb d_M_heat_160 (by decide) ?_
                  have e9 : km_heat mO mH o le us u mi gP gU gL xU xF xT mS.toNat = (fc_thr true false false false) := by simp [km_heat, fc_thr, c_1, c_21, c_65, c_70, c_75, c_77] <;> omega
                  have e8 : ¬ km_heat mO mH o le us u mi gP gU gL xU xF xT mS.toNat = 0 := by rw [e9]; decide
                  refine fw_iret hx hb hr hlocks hS ?_ ?_ d_M_heat_161
                  · first | (exfalso; omega) | exact Or.inl ⟨e8, by rw [e9]; exact hP⟩
                  · rw [if_neg e8]
              · refine lv_iconst (v := (bI (true))) hx hb d_M_heat_145 (by decide) ?_
                refine lv_goto (tgt := 150) hx hb d_M_heat_146 (by decide) ?_
                refine lv_iload hx hb d_M_heat_150 (lv_at hl 1 rfl) ?_
                refine lv_iload hx hb d_M_heat_152 (lv_at hl 0 rfl) ?_
                refine fw_calliP [0] (va_runV (As := [.int (bI (true)), .int (bI (true)), .int (bI (false)), .int (bI (false))]) (rest := []) ⟨hx, hb, hml, hown, hts⟩ (c_M_throwing l dC dI  _ mm th mO mg md mH ml mu mp ud cs mS xu xf xt mW mF rn sp nd rd li pz lt true true false false ) (cwV 4 hts (gw_V kw_652 kw_654 ks_M_throwing kw_5 kw_655) rfl rfl rfl (by decide +kernel) ⟨Nat.le_of_ble_eq_true rfl, Nat.le_of_ble_eq_true rfl⟩) (fw_preV (ci := 4) (q0 := 0) hP hK hD hN [0] [] rfl rfl rfl rfl rfl) rfl rfl hl.1 rfl (lv_room (Nat.le_of_ble_eq_true rfl)) d_M_heat_154 ⟨Nat.le_of_ble_eq_true rfl, Nat.le_of_ble_eq_true rfl⟩) hP hD hS hA rfl rfl rfl (fun H locs hP hD hS => ?_)
                have hP : va_P (dC, dI) cls_ [(mm, .inr (4, [.int (iI (fc_thr true true false false)), .int (iI (mO)), .ref mg, .ref md, .int (iI (mH)), .ref ml, .ref mu, .ref mp, .int (bI (ud)), .int (iI (cs)), .int (iI (mS)), .ref xu, .ref xf, .ref xt, .int (iI (mW)), .int (iI (mF)), .int (bI (rn)), .int (bI (sp)), .int (iI (nd)), .int (iI (rd)), .int (iI (li)), .ref pz, .int (iI (lt))])), (ml, fw_a kI 6 (gL)), (mu, fw_a kI 6 (gU)), (mp, fw_a kI 144 (gP)), (xu, fw_a kI 10 (xU)), (xf, fw_a kI 10 (xF)), (xt, fw_a kI 10 (xT))] H := hP
                have hD : va_D A [(mm, .inr (4, [.int (iI (fc_thr true true false false)), .int (iI (mO)), .ref mg, .ref md, .int (iI (mH)), .ref ml, .ref mu, .ref mp, .int (bI (ud)), .int (iI (cs)), .int (iI (mS)), .ref xu, .ref xf, .ref xt, .int (iI (mW)), .int (iI (mF)), .int (bI (rn)), .int (bI (sp)), .int (iI (nd)), .int (iI (rd)), .int (iI (li)), .ref pz, .int (iI (lt))])), (ml, fw_a kI 6 (gL)), (mu, fw_a kI 6 (gU)), (mp, fw_a kI 144 (gP)), (xu, fw_a kI 10 (xU)), (xf, fw_a kI 10 (xF)), (xt, fw_a kI 10 (xT))] := hD
                refine fw_cast (show (.int (bI (decide (0 < fc_thr true true false false))) : Value) = .int (bI (true)) from congrArg (fun b => Value.int (bI b)) (by decide)) ?_
                refine fw_bif_eq (tgt := 162) hx hb d_M_heat_157 (by decide) (fun c_79 => ?_) (fun c_79 => ?_)
                · exact absurd c_79 (by decide)
                · refine lv_iconst (v := (iI (0))) hx hb d_M_heat_160 (by decide) ?_
                  have e9 : km_heat mO mH o le us u mi gP gU gL xU xF xT mS.toNat = (fc_thr true true false false) := by simp [km_heat, fc_thr, c_1, c_21, c_65, c_70, c_75, c_77] <;> omega
                  have e8 : ¬ km_heat mO mH o le us u mi gP gU gL xU xF xT mS.toNat = 0 := by rw [e9]; decide
                  refine fw_iret hx hb hr hlocks hS ?_ ?_ d_M_heat_161
                  · first | (exfalso; omega) | exact Or.inl ⟨e8, by rw [e9]; exact hP⟩
                  · rw [if_neg e8]
            · exact absurd c_76 (by decide)
          · refine lv_iconst (v := (bI (true))) hx hb d_M_heat_62 (by decide) ?_
            refine lv_goto (tgt := 67) hx hb d_M_heat_63 (by decide) ?_
            refine lv_istore (lv' := [(7, .int (bI (true))), (6, .int (bI (true))), (0, .ref mm), (1, .int (iI (o))), (2, .int (iI (le))), (3, .int (iI (us))), (4, .int (iI (u))), (5, .int (iI (mi)))]) hx hb d_M_heat_67 hl (by decide) rfl (fun ls hl => ?_)
            refine lv_iconst (v := (bI (false))) hx hb d_M_heat_69 (by decide) ?_
            refine lv_istore (lv' := [(8, .int (bI (false))), (7, .int (bI (true))), (6, .int (bI (true))), (0, .ref mm), (1, .int (iI (o))), (2, .int (iI (le))), (3, .int (iI (us))), (4, .int (iI (u))), (5, .int (iI (mi)))]) hx hb d_M_heat_70 hl (by decide) rfl (fun ls hl => ?_)
            refine lv_iload hx hb d_M_heat_72 (lv_at hl 2 rfl) ?_
            refine fw_bif_ne (tgt := 133) hx hb d_M_heat_74 (by decide) (fun c_80 => ?_) (fun c_80 => ?_)
            · refine lv_aload_n hx hb d_M_heat_133 rfl (lv_at hl 3 rfl) ?_
              refine lv_iload hx hb d_M_heat_134 (lv_at hl 2 rfl) ?_
              refine lv_aload_n hx hb d_M_heat_136 rfl (lv_at hl 3 rfl) ?_
              refine va_get (D := (dC, dI)) (ci := 4) (v := .int (iI (mH))) (C := R_M) (T := T_M) (N := 23) hx hb hts in_M hown hK hP 0 rfl rfl 4 (by decide) (hts _ kw_575) (fun _ h9 => h9) rfl d_M_heat_137 ?_
              refine lv_bipush (v := (iI (6))) hx hb d_M_heat_140 (by decide) ?_
              refine fw_icmp_ne (tgt := 149) hx hb d_M_heat_142 (by decide) ⟨by omega, by omega⟩ ⟨by omega, by omega⟩ (fun c_81 => ?_) (fun c_81 => ?_)
              · refine lv_iconst (v := (bI (false))) hx hb d_M_heat_149 (by decide) ?_
                refine lv_iload hx hb d_M_heat_150 (lv_at hl 1 rfl) ?_
                refine lv_iload hx hb d_M_heat_152 (lv_at hl 0 rfl) ?_
                refine fw_calliP [0] (va_runV (As := [.int (bI (true)), .int (bI (false)), .int (bI (true)), .int (bI (false))]) (rest := []) ⟨hx, hb, hml, hown, hts⟩ (c_M_throwing l dC dI  _ mm th mO mg md mH ml mu mp ud cs mS xu xf xt mW mF rn sp nd rd li pz lt true false true false ) (cwV 4 hts (gw_V kw_652 kw_654 ks_M_throwing kw_5 kw_655) rfl rfl rfl (by decide +kernel) ⟨Nat.le_of_ble_eq_true rfl, Nat.le_of_ble_eq_true rfl⟩) (fw_preV (ci := 4) (q0 := 0) hP hK hD hN [0] [] rfl rfl rfl rfl rfl) rfl rfl hl.1 rfl (lv_room (Nat.le_of_ble_eq_true rfl)) d_M_heat_154 ⟨Nat.le_of_ble_eq_true rfl, Nat.le_of_ble_eq_true rfl⟩) hP hD hS hA rfl rfl rfl (fun H locs hP hD hS => ?_)
                have hP : va_P (dC, dI) cls_ [(mm, .inr (4, [.int (iI (fc_thr true false true false)), .int (iI (mO)), .ref mg, .ref md, .int (iI (mH)), .ref ml, .ref mu, .ref mp, .int (bI (ud)), .int (iI (cs)), .int (iI (mS)), .ref xu, .ref xf, .ref xt, .int (iI (mW)), .int (iI (mF)), .int (bI (rn)), .int (bI (sp)), .int (iI (nd)), .int (iI (rd)), .int (iI (li)), .ref pz, .int (iI (lt))])), (ml, fw_a kI 6 (gL)), (mu, fw_a kI 6 (gU)), (mp, fw_a kI 144 (gP)), (xu, fw_a kI 10 (xU)), (xf, fw_a kI 10 (xF)), (xt, fw_a kI 10 (xT))] H := hP
                have hD : va_D A [(mm, .inr (4, [.int (iI (fc_thr true false true false)), .int (iI (mO)), .ref mg, .ref md, .int (iI (mH)), .ref ml, .ref mu, .ref mp, .int (bI (ud)), .int (iI (cs)), .int (iI (mS)), .ref xu, .ref xf, .ref xt, .int (iI (mW)), .int (iI (mF)), .int (bI (rn)), .int (bI (sp)), .int (iI (nd)), .int (iI (rd)), .int (iI (li)), .ref pz, .int (iI (lt))])), (ml, fw_a kI 6 (gL)), (mu, fw_a kI 6 (gU)), (mp, fw_a kI 144 (gP)), (xu, fw_a kI 10 (xU)), (xf, fw_a kI 10 (xF)), (xt, fw_a kI 10 (xT))] := hD
                refine fw_cast (show (.int (bI (decide (0 < fc_thr true false true false))) : Value) = .int (bI (true)) from congrArg (fun b => Value.int (bI b)) (by decide)) ?_
                refine fw_bif_eq (tgt := 162) hx hb d_M_heat_157 (by decide) (fun c_82 => ?_) (fun c_82 => ?_)
                · exact absurd c_82 (by decide)
                · refine lv_iconst (v := (iI (0))) hx hb d_M_heat_160 (by decide) ?_
                  have e9 : km_heat mO mH o le us u mi gP gU gL xU xF xT mS.toNat = (fc_thr true false true false) := by simp [km_heat, fc_thr, c_1, c_21, c_65, c_70, c_75, c_81] <;> omega
                  have e8 : ¬ km_heat mO mH o le us u mi gP gU gL xU xF xT mS.toNat = 0 := by rw [e9]; decide
                  refine fw_iret hx hb hr hlocks hS ?_ ?_ d_M_heat_161
                  · first | (exfalso; omega) | exact Or.inl ⟨e8, by rw [e9]; exact hP⟩
                  · rw [if_neg e8]
              · refine lv_iconst (v := (bI (true))) hx hb d_M_heat_145 (by decide) ?_
                refine lv_goto (tgt := 150) hx hb d_M_heat_146 (by decide) ?_
                refine lv_iload hx hb d_M_heat_150 (lv_at hl 1 rfl) ?_
                refine lv_iload hx hb d_M_heat_152 (lv_at hl 0 rfl) ?_
                refine fw_calliP [0] (va_runV (As := [.int (bI (true)), .int (bI (true)), .int (bI (true)), .int (bI (false))]) (rest := []) ⟨hx, hb, hml, hown, hts⟩ (c_M_throwing l dC dI  _ mm th mO mg md mH ml mu mp ud cs mS xu xf xt mW mF rn sp nd rd li pz lt true true true false ) (cwV 4 hts (gw_V kw_652 kw_654 ks_M_throwing kw_5 kw_655) rfl rfl rfl (by decide +kernel) ⟨Nat.le_of_ble_eq_true rfl, Nat.le_of_ble_eq_true rfl⟩) (fw_preV (ci := 4) (q0 := 0) hP hK hD hN [0] [] rfl rfl rfl rfl rfl) rfl rfl hl.1 rfl (lv_room (Nat.le_of_ble_eq_true rfl)) d_M_heat_154 ⟨Nat.le_of_ble_eq_true rfl, Nat.le_of_ble_eq_true rfl⟩) hP hD hS hA rfl rfl rfl (fun H locs hP hD hS => ?_)
                have hP : va_P (dC, dI) cls_ [(mm, .inr (4, [.int (iI (fc_thr true true true false)), .int (iI (mO)), .ref mg, .ref md, .int (iI (mH)), .ref ml, .ref mu, .ref mp, .int (bI (ud)), .int (iI (cs)), .int (iI (mS)), .ref xu, .ref xf, .ref xt, .int (iI (mW)), .int (iI (mF)), .int (bI (rn)), .int (bI (sp)), .int (iI (nd)), .int (iI (rd)), .int (iI (li)), .ref pz, .int (iI (lt))])), (ml, fw_a kI 6 (gL)), (mu, fw_a kI 6 (gU)), (mp, fw_a kI 144 (gP)), (xu, fw_a kI 10 (xU)), (xf, fw_a kI 10 (xF)), (xt, fw_a kI 10 (xT))] H := hP
                have hD : va_D A [(mm, .inr (4, [.int (iI (fc_thr true true true false)), .int (iI (mO)), .ref mg, .ref md, .int (iI (mH)), .ref ml, .ref mu, .ref mp, .int (bI (ud)), .int (iI (cs)), .int (iI (mS)), .ref xu, .ref xf, .ref xt, .int (iI (mW)), .int (iI (mF)), .int (bI (rn)), .int (bI (sp)), .int (iI (nd)), .int (iI (rd)), .int (iI (li)), .ref pz, .int (iI (lt))])), (ml, fw_a kI 6 (gL)), (mu, fw_a kI 6 (gU)), (mp, fw_a kI 144 (gP)), (xu, fw_a kI 10 (xU)), (xf, fw_a kI 10 (xF)), (xt, fw_a kI 10 (xT))] := hD
                refine fw_cast (show (.int (bI (decide (0 < fc_thr true true true false))) : Value) = .int (bI (true)) from congrArg (fun b => Value.int (bI b)) (by decide)) ?_
                refine fw_bif_eq (tgt := 162) hx hb d_M_heat_157 (by decide) (fun c_83 => ?_) (fun c_83 => ?_)
                · exact absurd c_83 (by decide)
                · refine lv_iconst (v := (iI (0))) hx hb d_M_heat_160 (by decide) ?_
                  have e9 : km_heat mO mH o le us u mi gP gU gL xU xF xT mS.toNat = (fc_thr true true true false) := by simp [km_heat, fc_thr, c_1, c_21, c_65, c_70, c_75, c_81] <;> omega
                  have e8 : ¬ km_heat mO mH o le us u mi gP gU gL xU xF xT mS.toNat = 0 := by rw [e9]; decide
                  refine fw_iret hx hb hr hlocks hS ?_ ?_ d_M_heat_161
                  · first | (exfalso; omega) | exact Or.inl ⟨e8, by rw [e9]; exact hP⟩
                  · rw [if_neg e8]
            · exact absurd c_80 (by decide)
