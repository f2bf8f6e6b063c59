def fc_thr (a b c d : Bool) : Int := if a = true then 1 else if b = true then 2 else if c = true then 3 else if d = true then 4 else 0
def fm_cp (f t : Nat) (g : Nat → Int) : Nat → Int := fun j => if t ≤ j ∧ j < t + 18 then g (f + (j - t)) else g j
theorem fm_cpb {f t i : Nat} {g x : Nat → Int} (hd : f + 18 ≤ t ∨ t + 18 ≤ f) (hi : i < 18) (hx : ∀ j, x j = if t ≤ j ∧ j < t + i then g (f + (j - t)) else g j) : ∀ j, fw_up x (t + i) (x (f + i)) j = if t ≤ j ∧ j < t + (i + 1) then g (f + (j - t)) else g j := by
  intro j
  unfold fw_up
  by_cases h : j = t + i
  · rw [if_pos h, if_pos (by omega), hx (f + i), if_neg (by omega)]
    congr 1
    omega
  · rw [if_neg h, hx j]
    by_cases h2 : t ≤ j ∧ j < t + i
    · rw [if_pos h2, if_pos (by omega)]
    · rw [if_neg h2, if_neg (by omega)]
def fm_st (xU xF xT : Nat → Int) (u mi le : Int) : Nat → Bool
  | 0 => true
  | i + 1 => fm_st xU xF xT u mi le i && (decide (¬ xU i = u) || decide (xT i ≤ mi) || decide (mi + le ≤ xF i))
def fm_free (gU gL xU xF xT : Nat → Int) (n : Nat) (h u mi : Int) : Bool := fc_bit (gU h.toNat) u.toNat && decide (mi + gL h.toNat ≤ 60) && fm_st xU xF xT u mi (gL h.toNat) n
def fm_meet (gP gL : Nat → Int) (zp h g u mi : Int) : Bool := decide (¬ g = h) && decide (gP (zp.toNat + 3 * g.toNat) = u) && decide (gP (zp.toNat + 3 * g.toNat + 1) < mi + gL h.toNat) && decide (mi < gP (zp.toNat + 3 * g.toNat + 1) + gL g.toNat)
def fm_all (P : Nat → Bool) : Nat → Bool
  | 0 => true
  | i + 1 => fm_all P i && P i
def fm_fits (gP gU gL xU xF xT : Nat → Int) (nH nS : Nat) (h u mi : Int) : Bool := fm_free gU gL xU xF xT nS h u mi && fm_all (fun g => !fm_meet gP gL 0 h g u mi) nH
def fm_fitsT (gP gU gL xU xF xT : Nat → Int) (gZ : Nat → Bool) (nH nS : Nat) (h u mi : Int) : Bool := fm_free gU gL xU xF xT nS h u mi && fm_all (fun g => !gZ g || !fm_meet gP gL 18 h g u mi) nH
def fm_late (gP gL gD : Nat → Int) (p h : Nat) : Int := max 0 (gP (p + 3 * h + 1) + gL h - gD (gP (p + 3 * h + 2)).toNat)
def fm_cP (gP gL gD : Nat → Int) (gZ : Nat → Bool) (j : Nat) : Int := if gZ j = true then fm_late gP gL gD 18 j else 0
def fm_prev (P : Nat → Bool) : Nat → Int
  | 0 => -1
  | k + 1 => if P k = true then (k : Int) else fm_prev P k
set_option maxHeartbeats 4000000 in
set_option maxRecDepth 100000 in
theorem c_M_thrown (l : Launch) (dC : Nat → ClassId) (dI : Nat → Nat → Nat) (mm : Nat) (th : Int) (mO : Int) (mg : Nat) (md : Nat) (mH : Int) (ml : Nat) (mu : Nat) (mp : Nat) (ud : Bool) (cs : Int) (mS : Int) (xu : Nat) (xf : Nat) (xt : Nat) (mW : Int) (mF : Int) (rn : Bool) (sp : Bool) (nd : Int) (rd : Int) (li : Int) (pz : Nat) (lt : Int)  : Met l y_M_thrown (Cond.code y_M_thrown b_M_thrown 1 (some .int) :: gw) ({ frames := 0, locals := 0, cells := 0, slots := 0 }) (fw_Pr (dC, dI) [.ref mm] [(mm, .inr (4, [.int (iI (th)), .int (iI (mO)), .ref mg, .ref md, .int (iI (mH)), .ref ml, .ref mu, .ref mp, .int (bI (ud)), .int (iI (cs)), .int (iI (mS)), .ref xu, .ref xf, .ref xt, .int (iI (mW)), .int (iI (mF)), .int (bI (rn)), .int (bI (sp)), .int (iI (nd)), .int (iI (rd)), .int (iI (li)), .ref pz, .int (iI (lt))]))] []) (fw_Rv (.int (iI (th)))) 0 0 (fun _ => False) := by
  refine fw_ofR (by decide) (Nat.le_of_ble_eq_true rfl) ?_
  intro p e s m below meth c ls hx hb hr hts hown hlocks hml hP hK hN hl
  have hl : lv_has ls 1 [(0, .ref mm)] := hl
  refine lv_aload_n hx hb d_M_thrown_0 rfl (lv_at hl 0 rfl) ?_
  refine va_get (D := (dC, dI)) (ci := 4) (v := .int (iI (th))) (C := R_M) (T := T_M) (N := 23) hx hb hts in_M hown hK hP 0 rfl rfl 0 (by decide) (hts _ kw_571) (fun _ h9 => h9) rfl d_M_thrown_1 ?_
  refine fw_Riret hx hb hr hlocks ?_ d_M_thrown_4
  · rfl

set_option maxHeartbeats 4000000 in
set_option maxRecDepth 100000 in
theorem c_M_throwing (l : Launch) (dC : Nat → ClassId) (dI : Nat → Nat → Nat) (sz : Nat) (mm : Nat) (th : Int) (mO : Int) (mg : Nat) (md : Nat) (mH : Int) (ml : Nat) (mu : Nat) (mp : Nat) (ud : Bool) (cs : Int) (mS : Int) (xu : Nat) (xf : Nat) (xt : Nat) (mW : Int) (mF : Int) (rn : Bool) (sp : Bool) (nd : Int) (rd : Int) (li : Int) (pz : Nat) (lt : Int) (a1 : Bool) (a2 : Bool) (a3 : Bool) (a4 : Bool)  : Met l y_M_throwing (Cond.code y_M_throwing b_M_throwing 5 (some .boolean) :: gw) ({ frames := 0, locals := 0, cells := 0, slots := 0 }) (fw_Pc (dC, dI) [.ref mm, .int (bI (a1)), .int (bI (a2)), .int (bI (a3)), .int (bI (a4))] [(mm, .inr (4, [.int (iI (th)), .int (iI (mO)), .ref mg, .ref md, .int (iI (mH)), .ref ml, .ref mu, .ref mp, .int (bI (ud)), .int (iI (cs)), .int (iI (mS)), .ref xu, .ref xf, .ref xt, .int (iI (mW)), .int (iI (mF)), .int (bI (rn)), .int (bI (sp)), .int (iI (nd)), .int (iI (rd)), .int (iI (li)), .ref pz, .int (iI (lt))]))] [] sz) (fw_Qi (bI (decide (0 < fc_thr a1 a2 a3 a4))) (va_P (dC, dI) cls_ [(mm, .inr (4, [.int (iI (fc_thr a1 a2 a3 a4)), .int (iI (mO)), .ref mg, .ref md, .int (iI (mH)), .ref ml, .ref mu, .ref mp, .int (bI (ud)), .int (iI (cs)), .int (iI (mS)), .ref xu, .ref xf, .ref xt, .int (iI (mW)), .int (iI (mF)), .int (bI (rn)), .int (bI (sp)), .int (iI (nd)), .int (iI (rd)), .int (iI (li)), .ref pz, .int (iI (lt))]))]) (va_A [(mm, .inr (4, [.int (iI (th)), .int (iI (mO)), .ref mg, .ref md, .int (iI (mH)), .ref ml, .ref mu, .ref mp, .int (bI (ud)), .int (iI (cs)), .int (iI (mS)), .ref xu, .ref xf, .ref xt, .int (iI (mW)), .int (iI (mF)), .int (bI (rn)), .int (bI (sp)), .int (iI (nd)), .int (iI (rd)), .int (iI (li)), .ref pz, .int (iI (lt))]))] sz)) 0 0 (va_A [(mm, .inr (4, [.int (iI (th)), .int (iI (mO)), .ref mg, .ref md, .int (iI (mH)), .ref ml, .ref mu, .ref mp, .int (bI (ud)), .int (iI (cs)), .int (iI (mS)), .ref xu, .ref xf, .ref xt, .int (iI (mW)), .int (iI (mF)), .int (bI (rn)), .int (bI (sp)), .int (iI (nd)), .int (iI (rd)), .int (iI (li)), .ref pz, .int (iI (lt))]))] sz) := by
  refine fw_ofW (Qc := fun A => fw_Qi (bI (decide (0 < fc_thr a1 a2 a3 a4))) (va_P (dC, dI) cls_ [(mm, .inr (4, [.int (iI (fc_thr a1 a2 a3 a4)), .int (iI (mO)), .ref mg, .ref md, .int (iI (mH)), .ref ml, .ref mu, .ref mp, .int (bI (ud)), .int (iI (cs)), .int (iI (mS)), .ref xu, .ref xf, .ref xt, .int (iI (mW)), .int (iI (mF)), .int (bI (rn)), .int (bI (sp)), .int (iI (nd)), .int (iI (rd)), .int (iI (li)), .ref pz, .int (iI (lt))]))]) A) (by decide) (Nat.le_of_ble_eq_true rfl) ?_
  intro p e s m below meth c A ls hx hb hr hts hown hlocks hnm hml hsz hP hK hD hN hA hS hl
  have hl : lv_has ls 5 [(0, .ref mm), (1, .int (bI (a1))), (2, .int (bI (a2))), (3, .int (bI (a3))), (4, .int (bI (a4)))] := hl
  refine lv_aload_n hx hb d_M_throwing_0 rfl (lv_at hl 0 rfl) ?_
  refine lv_iload_n hx hb d_M_throwing_1 rfl (lv_at hl 1 rfl) ?_
  refine fw_bif_eq (tgt := 9) hx hb d_M_throwing_2 (by decide) (fun c_1 => ?_) (fun c_1 => ?_)
  · refine lv_iload_n hx hb d_M_throwing_9 rfl (lv_at hl 2 rfl) ?_
    refine fw_bif_eq (tgt := 17) hx hb d_M_throwing_10 (by decide) (fun c_2 => ?_) (fun c_2 => ?_)
    · refine lv_iload_n hx hb d_M_throwing_17 rfl (lv_at hl 3 rfl) ?_
      refine fw_bif_eq (tgt := 25) hx hb d_M_throwing_18 (by decide) (fun c_3 => ?_) (fun c_3 => ?_)
      · refine lv_iload hx hb d_M_throwing_25 (lv_at hl 4 rfl) ?_
        refine fw_bif_eq (tgt := 34) hx hb d_M_throwing_27 (by decide) (fun c_4 => ?_) (fun c_4 => ?_)
        · refine lv_iconst (v := (iI (0))) hx hb d_M_throwing_34 (by decide) ?_
          refine va_put (D := (dC, dI)) (ci := 4) (v := .int (iI (0))) (ty := .int) (C := R_M) (T := T_M) (N := 23) hx hb hts in_M t_M t_M_ok n_M hown hK hP hD hS 0 rfl rfl 0 (by decide) (hts _ kw_571) (fun _ h9 => h9) rfl (by decide +kernel) rfl rfl (Nat.le_of_ble_eq_true rfl) d_M_throwing_35 (fun H locs hP hD hS => ?_)
          have hP : va_P (dC, dI) cls_ [(mm, .inr (4, [.int (iI (0)), .int (iI (mO)), .ref mg, .ref md, .int (iI (mH)), .ref ml, .ref mu, .ref mp, .int (bI (ud)), .int (iI (cs)), .int (iI (mS)), .ref xu, .ref xf, .ref xt, .int (iI (mW)), .int (iI (mF)), .int (bI (rn)), .int (bI (sp)), .int (iI (nd)), .int (iI (rd)), .int (iI (li)), .ref pz, .int (iI (lt))]))] H := hP
          have hD : va_D A [(mm, .inr (4, [.int (iI (0)), .int (iI (mO)), .ref mg, .ref md, .int (iI (mH)), .ref ml, .ref mu, .ref mp, .int (bI (ud)), .int (iI (cs)), .int (iI (mS)), .ref xu, .ref xf, .ref xt, .int (iI (mW)), .int (iI (mF)), .int (bI (rn)), .int (bI (sp)), .int (iI (nd)), .int (iI (rd)), .int (iI (li)), .ref pz, .int (iI (lt))]))] := hD
          refine lv_aload_n hx hb d_M_throwing_38 rfl (lv_at hl 0 rfl) ?_
          refine va_get (D := (dC, dI)) (ci := 4) (v := .int (iI (0))) (C := R_M) (T := T_M) (N := 23) hx hb hts in_M hown hK hP 0 rfl rfl 0 (by decide) (hts _ kw_571) (fun _ h9 => h9) rfl d_M_throwing_39 ?_
          refine fw_if_le (tgt := 49) hx hb d_M_throwing_42 (by decide) ⟨by omega, by omega⟩ (fun c_5 => ?_) (fun c_5 => ?_)
          · refine lv_iconst (v := (bI (false))) hx hb d_M_throwing_49 (by decide) ?_
            refine fw_zret hx hb hr hlocks hS ?_ ?_ d_M_throwing_50
            · rw [show fc_thr a1 a2 a3 a4 = 0 from by simp [fc_thr, c_1, c_2, c_3, c_4, c_5]]; exact hP
            · first | (exfalso; omega) | simp [fc_thr, c_1, c_2, c_3, c_4, c_5]
          · refine lv_iconst (v := (bI (true))) hx hb d_M_throwing_45 (by decide) ?_
            refine lv_goto (tgt := 50) hx hb d_M_throwing_46 (by decide) ?_
            refine fw_zret hx hb hr hlocks hS ?_ ?_ d_M_throwing_50
            · rw [show fc_thr a1 a2 a3 a4 = 0 from by simp [fc_thr, c_1, c_2, c_3, c_4, c_5]]; exact hP
            · first | (exfalso; omega) | simp [fc_thr, c_1, c_2, c_3, c_4, c_5]
        · refine lv_iconst (v := (iI (4))) hx hb d_M_throwing_30 (by decide) ?_
          refine lv_goto (tgt := 35) hx hb d_M_throwing_31 (by decide) ?_
          refine va_put (D := (dC, dI)) (ci := 4) (v := .int (iI (4))) (ty := .int) (C := R_M) (T := T_M) (N := 23) hx hb hts in_M t_M t_M_ok n_M hown hK hP hD hS 0 rfl rfl 0 (by decide) (hts _ kw_571) (fun _ h9 => h9) rfl (by decide +kernel) rfl rfl (Nat.le_of_ble_eq_true rfl) d_M_throwing_35 (fun H locs hP hD hS => ?_)
          have hP : va_P (dC, dI) cls_ [(mm, .inr (4, [.int (iI (4)), .int (iI (mO)), .ref mg, .ref md, .int (iI (mH)), .ref ml, .ref mu, .ref mp, .int (bI (ud)), .int (iI (cs)), .int (iI (mS)), .ref xu, .ref xf, .ref xt, .int (iI (mW)), .int (iI (mF)), .int (bI (rn)), .int (bI (sp)), .int (iI (nd)), .int (iI (rd)), .int (iI (li)), .ref pz, .int (iI (lt))]))] H := hP
          have hD : va_D A [(mm, .inr (4, [.int (iI (4)), .int (iI (mO)), .ref mg, .ref md, .int (iI (mH)), .ref ml, .ref mu, .ref mp, .int (bI (ud)), .int (iI (cs)), .int (iI (mS)), .ref xu, .ref xf, .ref xt, .int (iI (mW)), .int (iI (mF)), .int (bI (rn)), .int (bI (sp)), .int (iI (nd)), .int (iI (rd)), .int (iI (li)), .ref pz, .int (iI (lt))]))] := hD
          refine lv_aload_n hx hb d_M_throwing_38 rfl (lv_at hl 0 rfl) ?_
          refine va_get (D := (dC, dI)) (ci := 4) (v := .int (iI (4))) (C := R_M) (T := T_M) (N := 23) hx hb hts in_M hown hK hP 0 rfl rfl 0 (by decide) (hts _ kw_571) (fun _ h9 => h9) rfl d_M_throwing_39 ?_
          refine fw_if_le (tgt := 49) hx hb d_M_throwing_42 (by decide) ⟨by omega, by omega⟩ (fun c_6 => ?_) (fun c_6 => ?_)
          · refine lv_iconst (v := (bI (false))) hx hb d_M_throwing_49 (by decide) ?_
            refine fw_zret hx hb hr hlocks hS ?_ ?_ d_M_throwing_50
            · rw [show fc_thr a1 a2 a3 a4 = 4 from by simp [fc_thr, c_1, c_2, c_3, c_4, c_6]]; exact hP
            · first | (exfalso; omega) | simp [fc_thr, c_1, c_2, c_3, c_4, c_6]
          · refine lv_iconst (v := (bI (true))) hx hb d_M_throwing_45 (by decide) ?_
            refine lv_goto (tgt := 50) hx hb d_M_throwing_46 (by decide) ?_
            refine fw_zret hx hb hr hlocks hS ?_ ?_ d_M_throwing_50
            · rw [show fc_thr a1 a2 a3 a4 = 4 from by simp [fc_thr, c_1, c_2, c_3, c_4, c_6]]; exact hP
            · first | (exfalso; omega) | simp [fc_thr, c_1, c_2, c_3, c_4, c_6]
      · refine lv_iconst (v := (iI (3))) hx hb d_M_throwing_21 (by decide) ?_
        refine lv_goto (tgt := 35) hx hb d_M_throwing_22 (by decide) ?_
        refine va_put (D := (dC, dI)) (ci := 4) (v := .int (iI (3))) (ty := .int) (C := R_M) (T := T_M) (N := 23) hx hb hts in_M t_M t_M_ok n_M hown hK hP hD hS 0 rfl rfl 0 (by decide) (hts _ kw_571) (fun _ h9 => h9) rfl (by decide +kernel) rfl rfl (Nat.le_of_ble_eq_true rfl) d_M_throwing_35 (fun H locs hP hD hS => ?_)
        have hP : va_P (dC, dI) cls_ [(mm, .inr (4, [.int (iI (3)), .int (iI (mO)), .ref mg, .ref md, .int (iI (mH)), .ref ml, .ref mu, .ref mp, .int (bI (ud)), .int (iI (cs)), .int (iI (mS)), .ref xu, .ref xf, .ref xt, .int (iI (mW)), .int (iI (mF)), .int (bI (rn)), .int (bI (sp)), .int (iI (nd)), .int (iI (rd)), .int (iI (li)), .ref pz, .int (iI (lt))]))] H := hP
        have hD : va_D A [(mm, .inr (4, [.int (iI (3)), .int (iI (mO)), .ref mg, .ref md, .int (iI (mH)), .ref ml, .ref mu, .ref mp, .int (bI (ud)), .int (iI (cs)), .int (iI (mS)), .ref xu, .ref xf, .ref xt, .int (iI (mW)), .int (iI (mF)), .int (bI (rn)), .int (bI (sp)), .int (iI (nd)), .int (iI (rd)), .int (iI (li)), .ref pz, .int (iI (lt))]))] := hD
        refine lv_aload_n hx hb d_M_throwing_38 rfl (lv_at hl 0 rfl) ?_
        refine va_get (D := (dC, dI)) (ci := 4) (v := .int (iI (3))) (C := R_M) (T := T_M) (N := 23) hx hb hts in_M hown hK hP 0 rfl rfl 0 (by decide) (hts _ kw_571) (fun _ h9 => h9) rfl d_M_throwing_39 ?_
        refine fw_if_le (tgt := 49) hx hb d_M_throwing_42 (by decide) ⟨by omega, by omega⟩ (fun c_7 => ?_) (fun c_7 => ?_)
        · refine lv_iconst (v := (bI (false))) hx hb d_M_throwing_49 (by decide) ?_
          refine fw_zret hx hb hr hlocks hS ?_ ?_ d_M_throwing_50
          · rw [show fc_thr a1 a2 a3 a4 = 3 from by simp [fc_thr, c_1, c_2, c_3, c_7]]; exact hP
          · first | (exfalso; omega) | simp [fc_thr, c_1, c_2, c_3, c_7]
        · refine lv_iconst (v := (bI (true))) hx hb d_M_throwing_45 (by decide) ?_
          refine lv_goto (tgt := 50) hx hb d_M_throwing_46 (by decide) ?_
          refine fw_zret hx hb hr hlocks hS ?_ ?_ d_M_throwing_50
          · rw [show fc_thr a1 a2 a3 a4 = 3 from by simp [fc_thr, c_1, c_2, c_3, c_7]]; exact hP
          · first | (exfalso; omega) | simp [fc_thr, c_1, c_2, c_3, c_7]
    · refine lv_iconst (v := (iI (2))) hx hb d_M_throwing_13 (by decide) ?_
      refine lv_goto (tgt := 35) hx hb d_M_throwing_14 (by decide) ?_
      refine va_put (D := (dC, dI)) (ci := 4) (v := .int (iI (2))) (ty := .int) (C := R_M) (T := T_M) (N := 23) hx hb hts in_M t_M t_M_ok n_M hown hK hP hD hS 0 rfl rfl 0 (by decide) (hts _ kw_571) (fun _ h9 => h9) rfl (by decide +kernel) rfl rfl (Nat.le_of_ble_eq_true rfl) d_M_throwing_35 (fun H locs hP hD hS => ?_)
      have hP : va_P (dC, dI) cls_ [(mm, .inr (4, [.int (iI (2)), .int (iI (mO)), .ref mg, .ref md, .int (iI (mH)), .ref ml, .ref mu, .ref mp, .int (bI (ud)), .int (iI (cs)), .int (iI (mS)), .ref xu, .ref xf, .ref xt, .int (iI (mW)), .int (iI (mF)), .int (bI (rn)), .int (bI (sp)), .int (iI (nd)), .int (iI (rd)), .int (iI (li)), .ref pz, .int (iI (lt))]))] H := hP
      have hD : va_D A [(mm, .inr (4, [.int (iI (2)), .int (iI (mO)), .ref mg, .ref md, .int (iI (mH)), .ref ml, .ref mu, .ref mp, .int (bI (ud)), .int (iI (cs)), .int (iI (mS)), .ref xu, .ref xf, .ref xt, .int (iI (mW)), .int (iI (mF)), .int (bI (rn)), .int (bI (sp)), .int (iI (nd)), .int (iI (rd)), .int (iI (li)), .ref pz, .int (iI (lt))]))] := hD
      refine lv_aload_n hx hb d_M_throwing_38 rfl (lv_at hl 0 rfl) ?_
      refine va_get (D := (dC, dI)) (ci := 4) (v := .int (iI (2))) (C := R_M) (T := T_M) (N := 23) hx hb hts in_M hown hK hP 0 rfl rfl 0 (by decide) (hts _ kw_571) (fun _ h9 => h9) rfl d_M_throwing_39 ?_
      refine fw_if_le (tgt := 49) hx hb d_M_throwing_42 (by decide) ⟨by omega, by omega⟩ (fun c_8 => ?_) (fun c_8 => ?_)
      · refine lv_iconst (v := (bI (false))) hx hb d_M_throwing_49 (by decide) ?_
        refine fw_zret hx hb hr hlocks hS ?_ ?_ d_M_throwing_50
        · rw [show fc_thr a1 a2 a3 a4 = 2 from by simp [fc_thr, c_1, c_2, c_8]]; exact hP
        · first | (exfalso; omega) | simp [fc_thr, c_1, c_2, c_8]
      · refine lv_iconst (v := (bI (true))) hx hb d_M_throwing_45 (by decide) ?_
        refine lv_goto (tgt := 50) hx hb d_M_throwing_46 (by decide) ?_
        refine fw_zret hx hb hr hlocks hS ?_ ?_ d_M_throwing_50
        · rw [show fc_thr a1 a2 a3 a4 = 2 from by simp [fc_thr, c_1, c_2, c_8]]; exact hP
        · first | (exfalso; omega) | simp [fc_thr, c_1, c_2, c_8]
  · refine lv_iconst (v := (iI (1))) hx hb d_M_throwing_5 (by decide) ?_
    refine lv_goto (tgt := 35) hx hb d_M_throwing_6 (by decide) ?_
    refine va_put (D := (dC, dI)) (ci := 4) (v := .int (iI (1))) (ty := .int) (C := R_M) (T := T_M) (N := 23) hx hb hts in_M t_M t_M_ok n_M hown hK hP hD hS 0 rfl rfl 0 (by decide) (hts _ kw_571) (fun _ h9 => h9) rfl (by decide +kernel) rfl rfl (Nat.le_of_ble_eq_true rfl) d_M_throwing_35 (fun H locs hP hD hS => ?_)
    have hP : va_P (dC, dI) cls_ [(mm, .inr (4, [.int (iI (1)), .int (iI (mO)), .ref mg, .ref md, .int (iI (mH)), .ref ml, .ref mu, .ref mp, .int (bI (ud)), .int (iI (cs)), .int (iI (mS)), .ref xu, .ref xf, .ref xt, .int (iI (mW)), .int (iI (mF)), .int (bI (rn)), .int (bI (sp)), .int (iI (nd)), .int (iI (rd)), .int (iI (li)), .ref pz, .int (iI (lt))]))] H := hP
    have hD : va_D A [(mm, .inr (4, [.int (iI (1)), .int (iI (mO)), .ref mg, .ref md, .int (iI (mH)), .ref ml, .ref mu, .ref mp, .int (bI (ud)), .int (iI (cs)), .int (iI (mS)), .ref xu, .ref xf, .ref xt, .int (iI (mW)), .int (iI (mF)), .int (bI (rn)), .int (bI (sp)), .int (iI (nd)), .int (iI (rd)), .int (iI (li)), .ref pz, .int (iI (lt))]))] := hD
    refine lv_aload_n hx hb d_M_throwing_38 rfl (lv_at hl 0 rfl) ?_
    refine va_get (D := (dC, dI)) (ci := 4) (v := .int (iI (1))) (C := R_M) (T := T_M) (N := 23) hx hb hts in_M hown hK hP 0 rfl rfl 0 (by decide) (hts _ kw_571) (fun _ h9 => h9) rfl d_M_throwing_39 ?_
    refine fw_if_le (tgt := 49) hx hb d_M_throwing_42 (by decide) ⟨by omega, by omega⟩ (fun c_9 => ?_) (fun c_9 => ?_)
    · refine lv_iconst (v := (bI (false))) hx hb d_M_throwing_49 (by decide) ?_
      refine fw_zret hx hb hr hlocks hS ?_ ?_ d_M_throwing_50
      · rw [show fc_thr a1 a2 a3 a4 = 1 from by simp [fc_thr, c_1, c_9]]; exact hP
      · first | (exfalso; omega) | simp [fc_thr, c_1, c_9]
    · refine lv_iconst (v := (bI (true))) hx hb d_M_throwing_45 (by decide) ?_
      refine lv_goto (tgt := 50) hx hb d_M_throwing_46 (by decide) ?_
      refine fw_zret hx hb hr hlocks hS ?_ ?_ d_M_throwing_50
      · rw [show fc_thr a1 a2 a3 a4 = 1 from by simp [fc_thr, c_1, c_9]]; exact hP
      · first | (exfalso; omega) | simp [fc_thr, c_1, c_9]

set_option maxHeartbeats 4000000 in
set_option maxRecDepth 100000 in
theorem c_M_in (l : Launch) (dC : Nat → ClassId) (dI : Nat → Nat → Nat) (x : Int) (y : Int) (z : Int) (hx0 : fw_b x) (hy0 : fw_b y) (hz0 : fw_b z) : Met l y_M_in (Cond.code y_M_in b_M_in 3 (some .boolean) :: gw) ({ frames := 0, locals := 0, cells := 0, slots := 0 }) (fw_Pr (dC, dI) [.int (iI (x)), .int (iI (y)), .int (iI (z))] [] []) (fw_Rv (.int (bI (fc_in x y z)))) 0 0 (fun _ => False) := by
  refine fw_ofR (by decide) (Nat.le_of_ble_eq_true rfl) ?_
  intro p e s m below meth c ls hx hb hr hts hown hlocks hml hP hK hN hl
  have hl : lv_has ls 3 [(0, .int (iI (x))), (1, .int (iI (y))), (2, .int (iI (z)))] := hl
  refine lv_iload_n hx hb d_M_in_0 rfl (lv_at hl 0 rfl) ?_
  refine lv_iload_n hx hb d_M_in_1 rfl (lv_at hl 1 rfl) ?_
  refine fw_icmp_lt (tgt := 14) hx hb d_M_in_2 (by decide) ⟨by omega, by omega⟩ ⟨by omega, by omega⟩ (fun c_1 => ?_) (fun c_1 => ?_)
  · refine lv_iconst (v := (bI (false))) hx hb d_M_in_14 (by decide) ?_
    refine fw_Rzret hx hb hr hlocks ?_ d_M_in_15
    · simp only [fc_in]; simp; omega
  · refine lv_iload_n hx hb d_M_in_5 rfl (lv_at hl 0 rfl) ?_
    refine lv_iload_n hx hb d_M_in_6 rfl (lv_at hl 2 rfl) ?_
    refine fw_icmp_gt (tgt := 14) hx hb d_M_in_7 (by decide) ⟨by omega, by omega⟩ ⟨by omega, by omega⟩ (fun c_2 => ?_) (fun c_2 => ?_)
    · refine lv_iconst (v := (bI (false))) hx hb d_M_in_14 (by decide) ?_
      refine fw_Rzret hx hb hr hlocks ?_ d_M_in_15
      · simp only [fc_in]; simp; omega
    · refine lv_iconst (v := (bI (true))) hx hb d_M_in_10 (by decide) ?_
      refine lv_goto (tgt := 15) hx hb d_M_in_11 (by decide) ?_
      refine fw_Rzret hx hb hr hlocks ?_ d_M_in_15
      · simp only [fc_in]; simp; omega

set_option maxHeartbeats 4000000 in
set_option maxRecDepth 100000 in
theorem c_M_isHeat (l : Launch) (dC : Nat → ClassId) (dI : Nat → Nat → Nat) (mm : Nat) (th : Int) (mO : Int) (mg : Nat) (md : Nat) (mH : Int) (ml : Nat) (mu : Nat) (mp : Nat) (ud : Bool) (cs : Int) (mS : Int) (xu : Nat) (xf : Nat) (xt : Nat) (mW : Int) (mF : Int) (rn : Bool) (sp : Bool) (nd : Int) (rd : Int) (li : Int) (pz : Nat) (lt : Int) (x : Int) (hb_x : fw_b x) (hn : fw_b (mH - 1)) : Met l y_M_isHeat (Cond.code y_M_isHeat b_M_isHeat 2 (some .boolean) :: gw) ({ frames := 1, locals := 22, cells := 0, slots := 0 }) (fw_Pr (dC, dI) [.ref mm, .int (iI (x))] [(mm, .inr (4, [.int (iI (th)), .int (iI (mO)), .ref mg, .ref md, .int (iI (mH)), .ref ml, .ref mu, .ref mp, .int (bI (ud)), .int (iI (cs)), .int (iI (mS)), .ref xu, .ref xf, .ref xt, .int (iI (mW)), .int (iI (mF)), .int (bI (rn)), .int (bI (sp)), .int (iI (nd)), .int (iI (rd)), .int (iI (li)), .ref pz, .int (iI (lt))]))] []) (fw_Rv (.int (bI (fc_in x 0 (mH - 1))))) 0 0 (fun _ => False) := by
  refine fw_ofR (by decide) (Nat.le_of_ble_eq_true rfl) ?_
  intro p e s m below meth c ls hx hb hr hts hown hlocks hml hP hK hN hl
  have hl : lv_has ls 2 [(0, .ref mm), (1, .int (iI (x)))] := hl
  refine lv_iload_n hx hb d_M_isHeat_0 rfl (lv_at hl 1 rfl) ?_
  refine lv_iconst (v := (iI (0))) hx hb d_M_isHeat_1 (by decide) ?_
  refine lv_aload_n hx hb d_M_isHeat_2 rfl (lv_at hl 0 rfl) ?_
  refine va_get (D := (dC, dI)) (ci := 4) (v := .int (iI (mH))) (C := R_M) (T := T_M) (N := 23) hx hb hts in_M hown hK hP 0 rfl rfl 4 (by decide) (hts _ kw_575) (fun _ h9 => h9) rfl d_M_isHeat_3 ?_
  refine lv_iconst (v := (iI (1))) hx hb d_M_isHeat_6 (by decide) ?_
  refine fw_isub hx hb d_M_isHeat_7 ?_
  refine fw_callR (va_runS (As := [.int (iI (x)), .int (iI (0)), .int (iI (mH - 1))]) (rest := []) ⟨hx, hb, hml, hown, hts⟩ (c_M_in l dC dI  x 0 (mH - 1) ⟨by omega, by omega⟩ ⟨by omega, by omega⟩ ⟨by omega, by omega⟩) (cwS 3 hts (gw_S kw_649 kw_650 kw_5 kw_651) rfl rfl rfl (by decide +kernel) ⟨Nat.le_of_ble_eq_true rfl, Nat.le_of_ble_eq_true rfl⟩) (fw_preRS hP hK hN [] [] rfl rfl) rfl rfl hl.1 rfl (lv_room (Nat.le_of_ble_eq_true rfl)) d_M_isHeat_8 ⟨Nat.le_of_ble_eq_true rfl, Nat.le_of_ble_eq_true rfl⟩).run ?_
  refine fw_Rzret hx hb hr hlocks ?_ d_M_isHeat_11
  · rfl

set_option maxHeartbeats 4000000 in
set_option maxRecDepth 100000 in
theorem c_M_copy (l : Launch) (dC : Nat → ClassId) (dI : Nat → Nat → Nat) (sz : Nat) (mm : Nat) (th : Int) (mO : Int) (mg : Nat) (md : Nat) (mH : Int) (ml : Nat) (mu : Nat) (mp : Nat) (ud : Bool) (cs : Int) (mS : Int) (xu : Nat) (xf : Nat) (xt : Nat) (mW : Int) (mF : Int) (rn : Bool) (sp : Bool) (nd : Int) (rd : Int) (li : Int) (pz : Nat) (lt : Int) (gP : Nat → Int) (kI : ClassId) (zf : Int) (zt : Int) (h1 : 0 ≤ zf) (h2 : zf ≤ 126) (h3 : 0 ≤ zt) (h4 : zt ≤ 126) (h5 : zf + 18 ≤ zt ∨ zt + 18 ≤ zf) : Met l y_M_copy (Cond.code y_M_copy b_M_copy 4 none :: gw) ({ frames := 0, locals := 0, cells := 0, slots := 0 }) (fw_Pc (dC, dI) [.ref mm, .int (iI (zf)), .int (iI (zt))] [(mm, .inr (4, [.int (iI (th)), .int (iI (mO)), .ref mg, .ref md, .int (iI (mH)), .ref ml, .ref mu, .ref mp, .int (bI (ud)), .int (iI (cs)), .int (iI (mS)), .ref xu, .ref xf, .ref xt, .int (iI (mW)), .int (iI (mF)), .int (bI (rn)), .int (bI (sp)), .int (iI (nd)), .int (iI (rd)), .int (iI (li)), .ref pz, .int (iI (lt))])), (mp, fw_a kI 144 (gP))] [(kI, .int)] sz) (fw_Qv (va_P (dC, dI) cls_ [(mm, .inr (4, [.int (iI (th)), .int (iI (mO)), .ref mg, .ref md, .int (iI (mH)), .ref ml, .ref mu, .ref mp, .int (bI (ud)), .int (iI (cs)), .int (iI (mS)), .ref xu, .ref xf, .ref xt, .int (iI (mW)), .int (iI (mF)), .int (bI (rn)), .int (bI (sp)), .int (iI (nd)), .int (iI (rd)), .int (iI (li)), .ref pz, .int (iI (lt))])), (mp, fw_a kI 144 (fm_cp zf.toNat zt.toNat gP))]) (va_A [(mm, .inr (4, [.int (iI (th)), .int (iI (mO)), .ref mg, .ref md, .int (iI (mH)), .ref ml, .ref mu, .ref mp, .int (bI (ud)), .int (iI (cs)), .int (iI (mS)), .ref xu, .ref xf, .ref xt, .int (iI (mW)), .int (iI (mF)), .int (bI (rn)), .int (bI (sp)), .int (iI (nd)), .int (iI (rd)), .int (iI (li)), .ref pz, .int (iI (lt))])), (mp, fw_a kI 144 (gP))] sz)) 0 0 (va_A [(mm, .inr (4, [.int (iI (th)), .int (iI (mO)), .ref mg, .ref md, .int (iI (mH)), .ref ml, .ref mu, .ref mp, .int (bI (ud)), .int (iI (cs)), .int (iI (mS)), .ref xu, .ref xf, .ref xt, .int (iI (mW)), .int (iI (mF)), .int (bI (rn)), .int (bI (sp)), .int (iI (nd)), .int (iI (rd)), .int (iI (li)), .ref pz, .int (iI (lt))])), (mp, fw_a kI 144 (gP))] sz) := by
  refine fw_ofW (Qc := fun A => fw_Qv (va_P (dC, dI) cls_ [(mm, .inr (4, [.int (iI (th)), .int (iI (mO)), .ref mg, .ref md, .int (iI (mH)), .ref ml, .ref mu, .ref mp, .int (bI (ud)), .int (iI (cs)), .int (iI (mS)), .ref xu, .ref xf, .ref xt, .int (iI (mW)), .int (iI (mF)), .int (bI (rn)), .int (bI (sp)), .int (iI (nd)), .int (iI (rd)), .int (iI (li)), .ref pz, .int (iI (lt))])), (mp, fw_a kI 144 (fm_cp zf.toNat zt.toNat gP))]) A) (by decide) (Nat.le_of_ble_eq_true rfl) ?_
  intro p e s m below meth c A ls hx hb hr hts hown hlocks hnm hml hsz hP hK hD hN hA hS hl
  have hl : lv_has ls 4 [(0, .ref mm), (1, .int (iI (zf))), (2, .int (iI (zt)))] := hl
  refine lv_iconst (v := (iI (0))) hx hb d_M_copy_0 (by decide) ?_
  refine lv_istore_n (lv' := [(3, .int (iI (0))), (0, .ref mm), (1, .int (iI (zf))), (2, .int (iI (zt)))]) hx hb d_M_copy_1 rfl hl (by decide) rfl (fun ls hl => ?_)
  have hlp_2 : ∀ (n : Nat) (i : Nat) (z3 : Int) (xx : Nat → Int) (H : Heap) (locs : List Loc) (ls : Array Slot), (18 - i) < n → (z3 = (i : Int)) → (i ≤ 18) → (∀ j, xx j = if zt.toNat ≤ j ∧ j < zt.toNat + i then gP (zf.toNat + (j - zt.toNat)) else gP j) → va_P (dC, dI) cls_ [(mm, .inr (4, [.int (iI (th)), .int (iI (mO)), .ref mg, .ref md, .int (iI (mH)), .ref ml, .ref mu, .ref mp, .int (bI (ud)), .int (iI (cs)), .int (iI (mS)), .ref xu, .ref xf, .ref xt, .int (iI (mW)), .int (iI (mF)), .int (bI (rn)), .int (bI (sp)), .int (iI (nd)), .int (iI (rd)), .int (iI (li)), .ref pz, .int (iI (lt))])), (mp, fw_a kI 144 (xx))] H → va_D A [(mm, .inr (4, [.int (iI (th)), .int (iI (mO)), .ref mg, .ref md, .int (iI (mH)), .ref ml, .ref mu, .ref mp, .int (bI (ud)), .int (iI (cs)), .int (iI (mS)), .ref xu, .ref xf, .ref xt, .int (iI (mW)), .int (iI (mF)), .int (bI (rn)), .int (bI (sp)), .int (iI (nd)), .int (iI (rd)), .int (iI (li)), .ref pz, .int (iI (lt))])), (mp, fw_a kI 144 (xx))] → va_S A s.heap H locs → lv_has ls 4 [(3, .int (iI (z3))), (0, .ref mm), (1, .int (iI (zf))), (2, .int (iI (zt)))] → W p l e ({ frames := 0, locals := 0, cells := 0, slots := 0 }) s m ([.ref mm, .int (iI (zf)), .int (iI (zt))] : List Value).toArray below meth c H locs 0 0 (MQ below (fw_Qv (va_P (dC, dI) cls_ [(mm, .inr (4, [.int (iI (th)), .int (iI (mO)), .ref mg, .ref md, .int (iI (mH)), .ref ml, .ref mu, .ref mp, .int (bI (ud)), .int (iI (cs)), .int (iI (mS)), .ref xu, .ref xf, .ref xt, .int (iI (mW)), .int (iI (mF)), .int (bI (rn)), .int (bI (sp)), .int (iI (nd)), .int (iI (rd)), .int (iI (li)), .ref pz, .int (iI (lt))])), (mp, fw_a kI 144 (fm_cp zf.toNat zt.toNat gP))]) A) ([.ref mm, .int (iI (zf)), .int (iI (zt))] : List Value).toArray s 0 0 A) (F0 m 2 ls []) := by
    intro n_2
    induction n_2 with
    | zero => intro i z3 xx H locs ls hms; exact absurd hms (Nat.not_lt_zero _)
    | succ n_2 ih_2 =>
      intro i z3 xx H locs ls hms_2 hz hi hq hP hD hS hl
      refine lv_iload_n hx hb d_M_copy_2 rfl (lv_at hl 0 rfl) ?_
      refine lv_bipush (v := (iI (18))) hx hb d_M_copy_3 (by decide) ?_
      refine fw_icmp_ge (tgt := 30) hx hb d_M_copy_5 (by decide) ⟨by omega, by omega⟩ ⟨by omega, by omega⟩ (fun c_1 => ?_) (fun c_1 => ?_)
      · refine fw_vret hx hb hr hlocks hS ?_ d_M_copy_30
        · exact va_P.fn hP 1 rfl (fun j h => by rw [hq j, show i = 18 by omega]; rfl)
      · refine lv_aload_n hx hb d_M_copy_8 rfl (lv_at hl 1 rfl) ?_
        refine va_get (D := (dC, dI)) (ci := 4) (v := .ref mp) (C := R_M) (T := T_M) (N := 23) hx hb hts in_M hown hK hP 0 rfl rfl 7 (by decide) (hts _ kw_578) (fun _ h9 => h9) rfl d_M_copy_9 ?_
        refine lv_iload_n hx hb d_M_copy_12 rfl (lv_at hl 3 rfl) ?_
        refine lv_iload_n hx hb d_M_copy_13 rfl (lv_at hl 0 rfl) ?_
        refine fw_iadd hx hb d_M_copy_14 ?_
        refine lv_aload_n hx hb d_M_copy_15 rfl (lv_at hl 1 rfl) ?_
        refine va_get (D := (dC, dI)) (ci := 4) (v := .ref mp) (C := R_M) (T := T_M) (N := 23) hx hb hts in_M hown hK hP 0 rfl rfl 7 (by decide) (hts _ kw_578) (fun _ h9 => h9) rfl d_M_copy_16 ?_
        refine lv_iload_n hx hb d_M_copy_19 rfl (lv_at hl 2 rfl) ?_
        refine lv_iload_n hx hb d_M_copy_20 rfl (lv_at hl 0 rfl) ?_
        refine fw_iadd hx hb d_M_copy_21 ?_
        refine fw_iald hx hb hK hP 1 0 rfl rfl ((zf.toNat + i)) (by omega) (by omega) (by omega) d_M_copy_22 ?_
        refine fw_iast hx hb hK hP hD hS 1 0 rfl rfl ((zt.toNat + i)) (by omega) (by omega) (by omega) d_M_copy_23 (fun H locs hP hD hS => ?_)
        have hP : va_P (dC, dI) cls_ [(mm, .inr (4, [.int (iI (th)), .int (iI (mO)), .ref mg, .ref md, .int (iI (mH)), .ref ml, .ref mu, .ref mp, .int (bI (ud)), .int (iI (cs)), .int (iI (mS)), .ref xu, .ref xf, .ref xt, .int (iI (mW)), .int (iI (mF)), .int (bI (rn)), .int (bI (sp)), .int (iI (nd)), .int (iI (rd)), .int (iI (li)), .ref pz, .int (iI (lt))])), (mp, fw_a kI 144 (fw_up xx (zt.toNat + i) (xx (zf.toNat + i))))] H := hP
        have hD : va_D A [(mm, .inr (4, [.int (iI (th)), .int (iI (mO)), .ref mg, .ref md, .int (iI (mH)), .ref ml, .ref mu, .ref mp, .int (bI (ud)), .int (iI (cs)), .int (iI (mS)), .ref xu, .ref xf, .ref xt, .int (iI (mW)), .int (iI (mF)), .int (bI (rn)), .int (bI (sp)), .int (iI (nd)), .int (iI (rd)), .int (iI (li)), .ref pz, .int (iI (lt))])), (mp, fw_a kI 144 (fw_up xx (zt.toNat + i) (xx (zf.toNat + i))))] := hD
        refine lv_iinc (v := iI (z3 + 1)) (lv' := [(3, .int (iI (z3 + 1))), (0, .ref mm), (1, .int (iI (zf))), (2, .int (iI (zt)))]) hx hb d_M_copy_24 hl (k := 0) rfl (by rw [show Int32.ofInt 1 = iI 1 from rfl, iI_add]) (by decide) rfl (fun ls hl => ?_)
        refine lv_goto (tgt := 2) hx hb d_M_copy_27 (by decide) ?_
        exact ih_2 (i + 1) (z3 + 1) (fw_up xx (zt.toNat + i) (xx (zf.toNat + i))) _ _ ls (by omega) (by omega) (by omega) (fm_cpb (by omega) (by omega) hq) hP hD hS (lv_sub hl [0, 1, 2, 3] rfl)
  exact hlp_2 ((18 - 0) + 1) 0 0 gP _ _ ls (Nat.lt_succ_self _) rfl (by omega) (fun j => by rw [if_neg (by omega)]) hP hD hS (lv_sub hl [0, 1, 2, 3] rfl)

set_option maxHeartbeats 4000000 in
set_option maxRecDepth 100000 in
theorem c_M_isFree (l : Launch) (dC : Nat → ClassId) (dI : Nat → Nat → Nat) (mm : Nat) (th : Int) (mO : Int) (mg : Nat) (md : Nat) (mH : Int) (ml : Nat) (mu : Nat) (mp : Nat) (ud : Bool) (cs : Int) (mS : Int) (xu : Nat) (xf : Nat) (xt : Nat) (mW : Int) (mF : Int) (rn : Bool) (sp : Bool) (nd : Int) (rd : Int) (li : Int) (pz : Nat) (lt : Int) (gL : Nat → Int) (gU : Nat → Int) (xU : Nat → Int) (xF : Nat → Int) (xT : Nat → Int) (kI : ClassId) (h : Int) (u : Int) (mi : Int) (g1 : 0 ≤ h) (g2 : h < 6) (g3 : 0 ≤ u) (g4 : u < 3) (g5 : 0 ≤ gU h.toNat) (g6 : gU h.toNat < 2147483648) (g7 : fw_b (mi + gL h.toNat)) (hb_mi : fw_b mi) (g8 : 0 ≤ mS) (g9 : mS ≤ 10) (g10 : ∀ j : Nat, (j : Int) < mS → fw_b (xU j) ∧ fw_b (xF j) ∧ fw_b (xT j)) : Met l y_M_isFree (Cond.code y_M_isFree b_M_isFree 6 (some .boolean) :: gw) ({ frames := 0, locals := 0, cells := 0, slots := 0 }) (fw_Pr (dC, dI) [.ref mm, .int (iI (h)), .int (iI (u)), .int (iI (mi))] [(mm, .inr (4, [.int (iI (th)), .int (iI (mO)), .ref mg, .ref md, .int (iI (mH)), .ref ml, .ref mu, .ref mp, .int (bI (ud)), .int (iI (cs)), .int (iI (mS)), .ref xu, .ref xf, .ref xt, .int (iI (mW)), .int (iI (mF)), .int (bI (rn)), .int (bI (sp)), .int (iI (nd)), .int (iI (rd)), .int (iI (li)), .ref pz, .int (iI (lt))])), (ml, fw_a kI 6 (gL)), (mu, fw_a kI 6 (gU)), (xu, fw_a kI 10 (xU)), (xf, fw_a kI 10 (xF)), (xt, fw_a kI 10 (xT))] [(kI, .int)]) (fw_Rv (.int (bI (fm_free gU gL xU xF xT mS.toNat h u mi)))) 0 0 (fun _ => False) := by
  refine fw_ofR (by decide) (Nat.le_of_ble_eq_true rfl) ?_
  intro p e s m below meth c ls hx hb hr hts hown hlocks hml hP hK hN hl
  have hl : lv_has ls 6 [(0, .ref mm), (1, .int (iI (h))), (2, .int (iI (u))), (3, .int (iI (mi)))] := hl
  refine lv_aload_n hx hb d_M_isFree_0 rfl (lv_at hl 0 rfl) ?_
  refine va_get (D := (dC, dI)) (ci := 4) (v := .ref mu) (C := R_M) (T := T_M) (N := 23) hx hb hts in_M hown hK hP 0 rfl rfl 6 (by decide) (hts _ kw_577) (fun _ h9 => h9) rfl d_M_isFree_1 ?_
  refine lv_iload_n hx hb d_M_isFree_4 rfl (lv_at hl 1 rfl) ?_
  refine fw_iald hx hb hK hP 2 0 rfl rfl ((h).toNat) (by omega) (by omega) (by omega) d_M_isFree_5 ?_
  refine lv_iload_n hx hb d_M_isFree_6 rfl (lv_at hl 2 rfl) ?_
  refine lv_ishr hx hb d_M_isFree_7 ?_
  refine fw_cast (show (.int ((iI (gU ((h).toNat))) >>> ((iI (u)) &&& 31)) : Value) = .int (iI (gU h.toNat / 2 ^ u.toNat)) from congrArg Value.int (iI_shr g5 g6 (by omega) (by omega))) ?_
  refine lv_iconst (v := (iI (1))) hx hb d_M_isFree_8 (by decide) ?_
  refine lv_iand hx hb d_M_isFree_9 ?_
  refine fw_cast (show (.int ((iI (gU h.toNat / 2 ^ u.toNat)) &&& (iI (1))) : Value) = .int (iI (gU h.toNat / 2 ^ u.toNat % 2)) from congrArg Value.int (iI_and1 (fw_divb (k := u.toNat) g5 g6).1 (fw_divb (k := u.toNat) g5 g6).2)) ?_
  have hdv := fw_divb (k := u.toNat) g5 g6
  refine lv_iconst (v := (iI (1))) hx hb d_M_isFree_10 (by decide) ?_
  refine fw_icmp_ne (tgt := 31) hx hb d_M_isFree_11 (by decide) ⟨by omega, by omega⟩ ⟨by omega, by omega⟩ (fun c_1 => ?_) (fun c_1 => ?_)
  · refine lv_iconst (v := (bI (false))) hx hb d_M_isFree_31 (by decide) ?_
    refine lv_istore (lv' := [(4, .int (bI (false))), (0, .ref mm), (1, .int (iI (h))), (2, .int (iI (u))), (3, .int (iI (mi)))]) hx hb d_M_isFree_32 hl (by decide) rfl (fun ls hl => ?_)
    refine lv_iconst (v := (iI (0))) hx hb d_M_isFree_34 (by decide) ?_
    refine lv_istore (lv' := [(5, .int (iI (0))), (4, .int (bI (false))), (0, .ref mm), (1, .int (iI (h))), (2, .int (iI (u))), (3, .int (iI (mi)))]) hx hb d_M_isFree_35 hl (by decide) rfl (fun ls hl => ?_)
    have hlp_37 : ∀ (n : Nat) (i : Nat) (fr : Bool) (z5 : Int) (ls : Array Slot), (mS.toNat - i) < n → (z5 = (i : Int)) → ((i : Int) ≤ mS) → (fr = ((fc_bit (gU h.toNat) u.toNat && decide (mi + gL h.toNat ≤ 60)) && fm_st xU xF xT u mi (gL h.toNat) i)) → lv_has ls 6 [(4, .int (bI (fr))), (5, .int (iI (z5))), (0, .ref mm), (1, .int (iI (h))), (2, .int (iI (u))), (3, .int (iI (mi)))] → W p l e ({ frames := 0, locals := 0, cells := 0, slots := 0 }) s m ([.ref mm, .int (iI (h)), .int (iI (u)), .int (iI (mi))] : List Value).toArray below meth c s.heap [] 0 0 (MQ below (fw_Rv (.int (bI (fm_free gU gL xU xF xT mS.toNat h u mi)))) ([.ref mm, .int (iI (h)), .int (iI (u)), .int (iI (mi))] : List Value).toArray s 0 0 (fun _ => False)) (F0 m 37 ls []) := by
      intro n_37
      induction n_37 with
      | zero => intro i fr z5 ls hms; exact absurd hms (Nat.not_lt_zero _)
      | succ n_37 ih_37 =>
        intro i fr z5 ls hms_37 hz hi hf hl
        refine lv_iload hx hb d_M_isFree_37 (lv_at hl 1 rfl) ?_
        refine lv_aload_n hx hb d_M_isFree_39 rfl (lv_at hl 2 rfl) ?_
        refine va_get (D := (dC, dI)) (ci := 4) (v := .int (iI (mS))) (C := R_M) (T := T_M) (N := 23) hx hb hts in_M hown hK hP 0 rfl rfl 10 (by decide) (hts _ kw_581) (fun _ h9 => h9) rfl d_M_isFree_40 ?_
        refine fw_icmp_ge (tgt := 104) hx hb d_M_isFree_43 (by decide) ⟨by omega, by omega⟩ ⟨by omega, by omega⟩ (fun c_2 => ?_) (fun c_2 => ?_)
        · refine lv_iload hx hb d_M_isFree_104 (lv_at hl 0 rfl) ?_
          refine fw_Rzret hx hb hr hlocks ?_ d_M_isFree_106
          · rw [hf, show i = mS.toNat by omega]; rfl
        · refine lv_iload hx hb d_M_isFree_46 (lv_at hl 0 rfl) ?_
          refine fw_bif_eq (tgt := 95) hx hb d_M_isFree_48 (by decide) (fun c_3 => ?_) (fun c_3 => ?_)
          · refine lv_iconst (v := (bI (false))) hx hb d_M_isFree_95 (by decide) ?_
            refine lv_istore (lv' := [(4, .int (bI (false))), (5, .int (iI (z5))), (0, .ref mm), (1, .int (iI (h))), (2, .int (iI (u))), (3, .int (iI (mi)))]) hx hb d_M_isFree_96 hl (by decide) rfl (fun ls hl => ?_)
            refine lv_iinc (v := iI (z5 + 1)) (lv' := [(5, .int (iI (z5 + 1))), (4, .int (bI (false))), (0, .ref mm), (1, .int (iI (h))), (2, .int (iI (u))), (3, .int (iI (mi)))]) hx hb d_M_isFree_98 hl (k := 1) rfl (by rw [show Int32.ofInt 1 = iI 1 from rfl, iI_add]) (by decide) rfl (fun ls hl => ?_)
            refine lv_goto (tgt := 37) hx hb d_M_isFree_101 (by decide) ?_
            exact ih_37 (i + 1) false (z5 + 1) ls (by omega) (by omega) (by omega) (by simp only [fm_st]; rw [← Bool.and_assoc, ← hf]; simp [c_1, c_2, c_3] <;> omega) (lv_sub hl [1, 0, 2, 3, 4, 5] rfl)
          · have q1 := g10 i (by omega)
            refine lv_aload_n hx hb d_M_isFree_51 rfl (lv_at hl 2 rfl) ?_
            refine va_get (D := (dC, dI)) (ci := 4) (v := .ref xu) (C := R_M) (T := T_M) (N := 23) hx hb hts in_M hown hK hP 0 rfl rfl 11 (by decide) (hts _ kw_582) (fun _ h9 => h9) rfl d_M_isFree_52 ?_
            refine lv_iload hx hb d_M_isFree_55 (lv_at hl 1 rfl) ?_
            refine fw_iald hx hb hK hP 3 0 rfl rfl (i) (by omega) (by omega) (by omega) d_M_isFree_57 ?_
            refine lv_iload_n hx hb d_M_isFree_58 rfl (lv_at hl 4 rfl) ?_
            refine fw_icmp_ne (tgt := 91) hx hb d_M_isFree_59 (by decide) ⟨by omega, by omega⟩ ⟨by omega, by omega⟩ (fun c_4 => ?_) (fun c_4 => ?_)
            · refine lv_iconst (v := (bI (true))) hx hb d_M_isFree_91 (by decide) ?_
              refine lv_goto (tgt := 96) hx hb d_M_isFree_92 (by decide) ?_
              refine lv_istore (lv' := [(4, .int (bI (true))), (5, .int (iI (z5))), (0, .ref mm), (1, .int (iI (h))), (2, .int (iI (u))), (3, .int (iI (mi)))]) hx hb d_M_isFree_96 hl (by decide) rfl (fun ls hl => ?_)
              refine lv_iinc (v := iI (z5 + 1)) (lv' := [(5, .int (iI (z5 + 1))), (4, .int (bI (true))), (0, .ref mm), (1, .int (iI (h))), (2, .int (iI (u))), (3, .int (iI (mi)))]) hx hb d_M_isFree_98 hl (k := 1) rfl (by rw [show Int32.ofInt 1 = iI 1 from rfl, iI_add]) (by decide) rfl (fun ls hl => ?_)
              refine lv_goto (tgt := 37) hx hb d_M_isFree_101 (by decide) ?_
              exact ih_37 (i + 1) true (z5 + 1) ls (by omega) (by omega) (by omega) (by simp only [fm_st]; rw [← Bool.and_assoc, ← hf]; simp [c_1, c_2, c_3, c_4] <;> omega) (lv_sub hl [1, 0, 2, 3, 4, 5] rfl)
            · refine lv_iload_n hx hb d_M_isFree_62 rfl (lv_at hl 5 rfl) ?_
              refine lv_aload_n hx hb d_M_isFree_63 rfl (lv_at hl 2 rfl) ?_
              refine va_get (D := (dC, dI)) (ci := 4) (v := .ref xt) (C := R_M) (T := T_M) (N := 23) hx hb hts in_M hown hK hP 0 rfl rfl 13 (by decide) (hts _ kw_584) (fun _ h9 => h9) rfl d_M_isFree_64 ?_
              refine lv_iload hx hb d_M_isFree_67 (lv_at hl 1 rfl) ?_
              refine fw_iald hx hb hK hP 5 0 rfl rfl (i) (by omega) (by omega) (by omega) d_M_isFree_69 ?_
              refine fw_icmp_ge (tgt := 91) hx hb d_M_isFree_70 (by decide) ⟨by omega, by omega⟩ ⟨by omega, by omega⟩ (fun c_5 => ?_) (fun c_5 => ?_)
              · refine lv_iconst (v := (bI (true))) hx hb d_M_isFree_91 (by decide) ?_
                refine lv_goto (tgt := 96) hx hb d_M_isFree_92 (by decide) ?_
                refine lv_istore (lv' := [(4, .int (bI (true))), (5, .int (iI (z5))), (0, .ref mm), (1, .int (iI (h))), (2, .int (iI (u))), (3, .int (iI (mi)))]) hx hb d_M_isFree_96 hl (by decide) rfl (fun ls hl => ?_)
                refine lv_iinc (v := iI (z5 + 1)) (lv' := [(5, .int (iI (z5 + 1))), (4, .int (bI (true))), (0, .ref mm), (1, .int (iI (h))), (2, .int (iI (u))), (3, .int (iI (mi)))]) hx hb d_M_isFree_98 hl (k := 1) rfl (by rw [show Int32.ofInt 1 = iI 1 from rfl, iI_add]) (by decide) rfl (fun ls hl => ?_)
                refine lv_goto (tgt := 37) hx hb d_M_isFree_101 (by decide) ?_
                exact ih_37 (i + 1) true (z5 + 1) ls (by omega) (by omega) (by omega) (by simp only [fm_st]; rw [← Bool.and_assoc, ← hf]; simp [c_1, c_2, c_3, c_4, c_5] <;> omega) (lv_sub hl [1, 0, 2, 3, 4, 5] rfl)
              · refine lv_iload_n hx hb d_M_isFree_73 rfl (lv_at hl 5 rfl) ?_
                refine lv_aload_n hx hb d_M_isFree_74 rfl (lv_at hl 2 rfl) ?_
                refine va_get (D := (dC, dI)) (ci := 4) (v := .ref ml) (C := R_M) (T := T_M) (N := 23) hx hb hts in_M hown hK hP 0 rfl rfl 5 (by decide) (hts _ kw_576) (fun _ h9 => h9) rfl d_M_isFree_75 ?_
                refine lv_iload_n hx hb d_M_isFree_78 rfl (lv_at hl 3 rfl) ?_
                refine fw_iald hx hb hK hP 1 0 rfl rfl ((h).toNat) (by omega) (by omega) (by omega) d_M_isFree_79 ?_
                refine fw_iadd hx hb d_M_isFree_80 ?_
                refine lv_aload_n hx hb d_M_isFree_81 rfl (lv_at hl 2 rfl) ?_
                refine va_get (D := (dC, dI)) (ci := 4) (v := .ref xf) (C := R_M) (T := T_M) (N := 23) hx hb hts in_M hown hK hP 0 rfl rfl 12 (by decide) (hts _ kw_583) (fun _ h9 => h9) rfl d_M_isFree_82 ?_
                refine lv_iload hx hb d_M_isFree_85 (lv_at hl 1 rfl) ?_
                refine fw_iald hx hb hK hP 4 0 rfl rfl (i) (by omega) (by omega) (by omega) d_M_isFree_87 ?_
                refine fw_icmp_gt (tgt := 95) hx hb d_M_isFree_88 (by decide) ⟨by omega, by omega⟩ ⟨by omega, by omega⟩ (fun c_6 => ?_) (fun c_6 => ?_)
                · refine lv_iconst (v := (bI (false))) hx hb d_M_isFree_95 (by decide) ?_
                  refine lv_istore (lv' := [(4, .int (bI (false))), (5, .int (iI (z5))), (0, .ref mm), (1, .int (iI (h))), (2, .int (iI (u))), (3, .int (iI (mi)))]) hx hb d_M_isFree_96 hl (by decide) rfl (fun ls hl => ?_)
                  refine lv_iinc (v := iI (z5 + 1)) (lv' := [(5, .int (iI (z5 + 1))), (4, .int (bI (false))), (0, .ref mm), (1, .int (iI (h))), (2, .int (iI (u))), (3, .int (iI (mi)))]) hx hb d_M_isFree_98 hl (k := 1) rfl (by rw [show Int32.ofInt 1 = iI 1 from rfl, iI_add]) (by decide) rfl (fun ls hl => ?_)
                  refine lv_goto (tgt := 37) hx hb d_M_isFree_101 (by decide) ?_
                  exact ih_37 (i + 1) false (z5 + 1) ls (by omega) (by omega) (by omega) (by simp only [fm_st]; rw [← Bool.and_assoc, ← hf]; simp [c_1, c_2, c_3, c_4, c_5, c_6] <;> omega) (lv_sub hl [1, 0, 2, 3, 4, 5] rfl)
                · refine lv_iconst (v := (bI (true))) hx hb d_M_isFree_91 (by decide) ?_
                  refine lv_goto (tgt := 96) hx hb d_M_isFree_92 (by decide) ?_
                  refine lv_istore (lv' := [(4, .int (bI (true))), (5, .int (iI (z5))), (0, .ref mm), (1, .int (iI (h))), (2, .int (iI (u))), (3, .int (iI (mi)))]) hx hb d_M_isFree_96 hl (by decide) rfl (fun ls hl => ?_)
                  refine lv_iinc (v := iI (z5 + 1)) (lv' := [(5, .int (iI (z5 + 1))), (4, .int (bI (true))), (0, .ref mm), (1, .int (iI (h))), (2, .int (iI (u))), (3, .int (iI (mi)))]) hx hb d_M_isFree_98 hl (k := 1) rfl (by rw [show Int32.ofInt 1 = iI 1 from rfl, iI_add]) (by decide) rfl (fun ls hl => ?_)
                  refine lv_goto (tgt := 37) hx hb d_M_isFree_101 (by decide) ?_
                  exact ih_37 (i + 1) true (z5 + 1) ls (by omega) (by omega) (by omega) (by simp only [fm_st]; rw [← Bool.and_assoc, ← hf]; simp [c_1, c_2, c_3, c_4, c_5, c_6] <;> omega) (lv_sub hl [1, 0, 2, 3, 4, 5] rfl)
    exact hlp_37 ((mS.toNat - 0) + 1) 0 false 0 ls (Nat.lt_succ_self _) rfl (by omega) (by simp [fm_st, fc_bit, c_1] <;> omega) (lv_sub hl [1, 0, 2, 3, 4, 5] rfl)
  · refine lv_iload_n hx hb d_M_isFree_14 rfl (lv_at hl 3 rfl) ?_
    refine lv_aload_n hx hb d_M_isFree_15 rfl (lv_at hl 0 rfl) ?_
    refine va_get (D := (dC, dI)) (ci := 4) (v := .ref ml) (C := R_M) (T := T_M) (N := 23) hx hb hts in_M hown hK hP 0 rfl rfl 5 (by decide) (hts _ kw_576) (fun _ h9 => h9) rfl d_M_isFree_16 ?_
    refine lv_iload_n hx hb d_M_isFree_19 rfl (lv_at hl 1 rfl) ?_
    refine fw_iald hx hb hK hP 1 0 rfl rfl ((h).toNat) (by omega) (by omega) (by omega) d_M_isFree_20 ?_
    refine fw_iadd hx hb d_M_isFree_21 ?_
    refine lv_bipush (v := (iI (60))) hx hb d_M_isFree_22 (by decide) ?_
    refine fw_icmp_gt (tgt := 31) hx hb d_M_isFree_24 (by decide) ⟨by omega, by omega⟩ ⟨by omega, by omega⟩ (fun c_7 => ?_) (fun c_7 => ?_)
    · refine lv_iconst (v := (bI (false))) hx hb d_M_isFree_31 (by decide) ?_
      refine lv_istore (lv' := [(4, .int (bI (false))), (0, .ref mm), (1, .int (iI (h))), (2, .int (iI (u))), (3, .int (iI (mi)))]) hx hb d_M_isFree_32 hl (by decide) rfl (fun ls hl => ?_)
      refine lv_iconst (v := (iI (0))) hx hb d_M_isFree_34 (by decide) ?_
      refine lv_istore (lv' := [(5, .int (iI (0))), (4, .int (bI (false))), (0, .ref mm), (1, .int (iI (h))), (2, .int (iI (u))), (3, .int (iI (mi)))]) hx hb d_M_isFree_35 hl (by decide) rfl (fun ls hl => ?_)
      have hlp_37 : ∀ (n : Nat) (i : Nat) (fr : Bool) (z5 : Int) (ls : Array Slot), (mS.toNat - i) < n → (z5 = (i : Int)) → ((i : Int) ≤ mS) → (fr = ((fc_bit (gU h.toNat) u.toNat && decide (mi + gL h.toNat ≤ 60)) && fm_st xU xF xT u mi (gL h.toNat) i)) → lv_has ls 6 [(4, .int (bI (fr))), (5, .int (iI (z5))), (0, .ref mm), (1, .int (iI (h))), (2, .int (iI (u))), (3, .int (iI (mi)))] → W p l e ({ frames := 0, locals := 0, cells := 0, slots := 0 }) s m ([.ref mm, .int (iI (h)), .int (iI (u)), .int (iI (mi))] : List Value).toArray below meth c s.heap [] 0 0 (MQ below (fw_Rv (.int (bI (fm_free gU gL xU xF xT mS.toNat h u mi)))) ([.ref mm, .int (iI (h)), .int (iI (u)), .int (iI (mi))] : List Value).toArray s 0 0 (fun _ => False)) (F0 m 37 ls []) := by
        intro n_37
        induction n_37 with
        | zero => intro i fr z5 ls hms; exact absurd hms (Nat.not_lt_zero _)
        | succ n_37 ih_37 =>
          intro i fr z5 ls hms_37 hz hi hf hl
          refine lv_iload hx hb d_M_isFree_37 (lv_at hl 1 rfl) ?_
          refine lv_aload_n hx hb d_M_isFree_39 rfl (lv_at hl 2 rfl) ?_
          refine va_get (D := (dC, dI)) (ci := 4) (v := .int (iI (mS))) (C := R_M) (T := T_M) (N := 23) hx hb hts in_M hown hK hP 0 rfl rfl 10 (by decide) (hts _ kw_581) (fun _ h9 => h9) rfl d_M_isFree_40 ?_
          refine fw_icmp_ge (tgt := 104) hx hb d_M_isFree_43 (by decide) ⟨by omega, by omega⟩ ⟨by omega, by omega⟩ (fun c_8 => ?_) (fun c_8 => ?_)
          · refine lv_iload hx hb d_M_isFree_104 (lv_at hl 0 rfl) ?_
            refine fw_Rzret hx hb hr hlocks ?_ d_M_isFree_106
            · rw [hf, show i = mS.toNat by omega]; rfl
          · refine lv_iload hx hb d_M_isFree_46 (lv_at hl 0 rfl) ?_
            refine fw_bif_eq (tgt := 95) hx hb d_M_isFree_48 (by decide) (fun c_9 => ?_) (fun c_9 => ?_)
            · refine lv_iconst (v := (bI (false))) hx hb d_M_isFree_95 (by decide) ?_
              refine lv_istore (lv' := [(4, .int (bI (false))), (5, .int (iI (z5))), (0, .ref mm), (1, .int (iI (h))), (2, .int (iI (u))), (3, .int (iI (mi)))]) hx hb d_M_isFree_96 hl (by decide) rfl (fun ls hl => ?_)
              refine lv_iinc (v := iI (z5 + 1)) (lv' := [(5, .int (iI (z5 + 1))), (4, .int (bI (false))), (0, .ref mm), (1, .int (iI (h))), (2, .int (iI (u))), (3, .int (iI (mi)))]) hx hb d_M_isFree_98 hl (k := 1) rfl (by rw [show Int32.ofInt 1 = iI 1 from rfl, iI_add]) (by decide) rfl (fun ls hl => ?_)
              refine lv_goto (tgt := 37) hx hb d_M_isFree_101 (by decide) ?_
              exact ih_37 (i + 1) false (z5 + 1) ls (by omega) (by omega) (by omega) (by simp only [fm_st]; rw [← Bool.and_assoc, ← hf]; simp [c_1, c_7, c_8, c_9] <;> omega) (lv_sub hl [1, 0, 2, 3, 4, 5] rfl)
            · have q1 := g10 i (by omega)
              refine lv_aload_n hx hb d_M_isFree_51 rfl (lv_at hl 2 rfl) ?_
              refine va_get (D := (dC, dI)) (ci := 4) (v := .ref xu) (C := R_M) (T := T_M) (N := 23) hx hb hts in_M hown hK hP 0 rfl rfl 11 (by decide) (hts _ kw_582) (fun _ h9 => h9) rfl d_M_isFree_52 ?_
              refine lv_iload hx hb d_M_isFree_55 (lv_at hl 1 rfl) ?_
              refine fw_iald hx hb hK hP 3 0 rfl rfl (i) (by omega) (by omega) (by omega) d_M_isFree_57 ?_
              refine lv_iload_n hx hb d_M_isFree_58 rfl (lv_at hl 4 rfl) ?_
              refine fw_icmp_ne (tgt := 91) hx hb d_M_isFree_59 (by decide) ⟨by omega, by omega⟩ ⟨by omega, by omega⟩ (fun c_10 => ?_) (fun c_10 => ?_)
              · refine lv_iconst (v := (bI (true))) hx hb d_M_isFree_91 (by decide) ?_
                refine lv_goto (tgt := 96) hx hb d_M_isFree_92 (by decide) ?_
                refine lv_istore (lv' := [(4, .int (bI (true))), (5, .int (iI (z5))), (0, .ref mm), (1, .int (iI (h))), (2, .int (iI (u))), (3, .int (iI (mi)))]) hx hb d_M_isFree_96 hl (by decide) rfl (fun ls hl => ?_)
                refine lv_iinc (v := iI (z5 + 1)) (lv' := [(5, .int (iI (z5 + 1))), (4, .int (bI (true))), (0, .ref mm), (1, .int (iI (h))), (2, .int (iI (u))), (3, .int (iI (mi)))]) hx hb d_M_isFree_98 hl (k := 1) rfl (by rw [show Int32.ofInt 1 = iI 1 from rfl, iI_add]) (by decide) rfl (fun ls hl => ?_)
                refine lv_goto (tgt := 37) hx hb d_M_isFree_101 (by decide) ?_
                exact ih_37 (i + 1) true (z5 + 1) ls (by omega) (by omega) (by omega) (by simp only [fm_st]; rw [← Bool.and_assoc, ← hf]; simp [c_1, c_7, c_8, c_9, c_10] <;> omega) (lv_sub hl [1, 0, 2, 3, 4, 5] rfl)
              · refine lv_iload_n hx hb d_M_isFree_62 rfl (lv_at hl 5 rfl) ?_
                refine lv_aload_n hx hb d_M_isFree_63 rfl (lv_at hl 2 rfl) ?_
                refine va_get (D := (dC, dI)) (ci := 4) (v := .ref xt) (C := R_M) (T := T_M) (N := 23) hx hb hts in_M hown hK hP 0 rfl rfl 13 (by decide) (hts _ kw_584) (fun _ h9 => h9) rfl d_M_isFree_64 ?_
                refine lv_iload hx hb d_M_isFree_67 (lv_at hl 1 rfl) ?_
                refine fw_iald hx hb hK hP 5 0 rfl rfl (i) (by omega) (by omega) (by omega) d_M_isFree_69 ?_
                refine fw_icmp_ge (tgt := 91) hx hb d_M_isFree_70 (by decide) ⟨by omega, by omega⟩ ⟨by omega, by omega⟩ (fun c_11 => ?_) (fun c_11 => ?_)
                · refine lv_iconst (v := (bI (true))) hx hb d_M_isFree_91 (by decide) ?_
                  refine lv_goto (tgt := 96) hx hb d_M_isFree_92 (by decide) ?_
                  refine lv_istore (lv' := [(4, .int (bI (true))), (5, .int (iI (z5))), (0, .ref mm), (1, .int (iI (h))), (2, .int (iI (u))), (3, .int (iI (mi)))]) hx hb d_M_isFree_96 hl (by decide) rfl (fun ls hl => ?_)
                  refine lv_iinc (v := iI (z5 + 1)) (lv' := [(5, .int (iI (z5 + 1))), (4, .int (bI (true))), (0, .ref mm), (1, .int (iI (h))), (2, .int (iI (u))), (3, .int (iI (mi)))]) hx hb d_M_isFree_98 hl (k := 1) rfl (by rw [show Int32.ofInt 1 = iI 1 from rfl, iI_add]) (by decide) rfl (fun ls hl => ?_)
                  refine lv_goto (tgt := 37) hx hb d_M_isFree_101 (by decide) ?_
                  exact ih_37 (i + 1) true (z5 + 1) ls (by omega) (by omega) (by omega) (by simp only [fm_st]; rw [← Bool.and_assoc, ← hf]; simp [c_1, c_7, c_8, c_9, c_10, c_11] <;> omega) (lv_sub hl [1, 0, 2, 3, 4, 5] rfl)
                · refine lv_iload_n hx hb d_M_isFree_73 rfl (lv_at hl 5 rfl) ?_
                  refine lv_aload_n hx hb d_M_isFree_74 rfl (lv_at hl 2 rfl) ?_
                  refine va_get (D := (dC, dI)) (ci := 4) (v := .ref ml) (C := R_M) (T := T_M) (N := 23) hx hb hts in_M hown hK hP 0 rfl rfl 5 (by decide) (hts _ kw_576) (fun _ h9 => h9) rfl d_M_isFree_75 ?_
                  refine lv_iload_n hx hb d_M_isFree_78 rfl (lv_at hl 3 rfl) ?_
                  refine fw_iald hx hb hK hP 1 0 rfl rfl ((h).toNat) (by omega) (by omega) (by omega) d_M_isFree_79 ?_
                  refine fw_iadd hx hb d_M_isFree_80 ?_
                  refine lv_aload_n hx hb d_M_isFree_81 rfl (lv_at hl 2 rfl) ?_
                  refine va_get (D := (dC, dI)) (ci := 4) (v := .ref xf) (C := R_M) (T := T_M) (N := 23) hx hb hts in_M hown hK hP 0 rfl rfl 12 (by decide) (hts _ kw_583) (fun _ h9 => h9) rfl d_M_isFree_82 ?_
                  refine lv_iload hx hb d_M_isFree_85 (lv_at hl 1 rfl) ?_
                  refine fw_iald hx hb hK hP 4 0 rfl rfl (i) (by omega) (by omega) (by omega) d_M_isFree_87 ?_
                  refine fw_icmp_gt (tgt := 95) hx hb d_M_isFree_88 (by decide) ⟨by omega, by omega⟩ ⟨by omega, by omega⟩ (fun c_12 => ?_) (fun c_12 => ?_)
                  · refine lv_iconst (v := (bI (false))) hx hb d_M_isFree_95 (by decide) ?_
                    refine lv_istore (lv' := [(4, .int (bI (false))), (5, .int (iI (z5))), (0, .ref mm), (1, .int (iI (h))), (2, .int (iI (u))), (3, .int (iI (mi)))]) hx hb d_M_isFree_96 hl (by decide) rfl (fun ls hl => ?_)
                    refine lv_iinc (v := iI (z5 + 1)) (lv' := [(5, .int (iI (z5 + 1))), (4, .int (bI (false))), (0, .ref mm), (1, .int (iI (h))), (2, .int (iI (u))), (3, .int (iI (mi)))]) hx hb d_M_isFree_98 hl (k := 1) rfl (by rw [show Int32.ofInt 1 = iI 1 from rfl, iI_add]) (by decide) rfl (fun ls hl => ?_)
                    refine lv_goto (tgt := 37) hx hb d_M_isFree_101 (by decide) ?_
                    exact ih_37 (i + 1) false (z5 + 1) ls (by omega) (by omega) (by omega) (by simp only [fm_st]; rw [← Bool.and_assoc, ← hf]; simp [c_1, c_7, c_8, c_9, c_10, c_11, c_12] <;> omega) (lv_sub hl [1, 0, 2, 3, 4, 5] rfl)
                  · refine lv_iconst (v := (bI (true))) hx hb d_M_isFree_91 (by decide) ?_
                    refine lv_goto (tgt := 96) hx hb d_M_isFree_92 (by decide) ?_
                    refine lv_istore (lv' := [(4, .int (bI (true))), (5, .int (iI (z5))), (0, .ref mm), (1, .int (iI (h))), (2, .int (iI (u))), (3, .int (iI (mi)))]) hx hb d_M_isFree_96 hl (by decide) rfl (fun ls hl => ?_)
                    refine lv_iinc (v := iI (z5 + 1)) (lv' := [(5, .int (iI (z5 + 1))), (4, .int (bI (true))), (0, .ref mm), (1, .int (iI (h))), (2, .int (iI (u))), (3, .int (iI (mi)))]) hx hb d_M_isFree_98 hl (k := 1) rfl (by rw [show Int32.ofInt 1 = iI 1 from rfl, iI_add]) (by decide) rfl (fun ls hl => ?_)
                    refine lv_goto (tgt := 37) hx hb d_M_isFree_101 (by decide) ?_
                    exact ih_37 (i + 1) true (z5 + 1) ls (by omega) (by omega) (by omega) (by simp only [fm_st]; rw [← Bool.and_assoc, ← hf]; simp [c_1, c_7, c_8, c_9, c_10, c_11, c_12] <;> omega) (lv_sub hl [1, 0, 2, 3, 4, 5] rfl)
      exact hlp_37 ((mS.toNat - 0) + 1) 0 false 0 ls (Nat.lt_succ_self _) rfl (by omega) (by simp [fm_st, fc_bit, c_1, c_7] <;> omega) (lv_sub hl [1, 0, 2, 3, 4, 5] rfl)
    · refine lv_iconst (v := (bI (true))) hx hb d_M_isFree_27 (by decide) ?_
      refine lv_goto (tgt := 32) hx hb d_M_isFree_28 (by decide) ?_
      refine lv_istore (lv' := [(4, .int (bI (true))), (0, .ref mm), (1, .int (iI (h))), (2, .int (iI (u))), (3, .int (iI (mi)))]) hx hb d_M_isFree_32 hl (by decide) rfl (fun ls hl => ?_)
      refine lv_iconst (v := (iI (0))) hx hb d_M_isFree_34 (by decide) ?_
      refine lv_istore (lv' := [(5, .int (iI (0))), (4, .int (bI (true))), (0, .ref mm), (1, .int (iI (h))), (2, .int (iI (u))), (3, .int (iI (mi)))]) hx hb d_M_isFree_35 hl (by decide) rfl (fun ls hl => ?_)
      have hlp_37 : ∀ (n : Nat) (i : Nat) (fr : Bool) (z5 : Int) (ls : Array Slot), (mS.toNat - i) < n → (z5 = (i : Int)) → ((i : Int) ≤ mS) → (fr = ((fc_bit (gU h.toNat) u.toNat && decide (mi + gL h.toNat ≤ 60)) && fm_st xU xF xT u mi (gL h.toNat) i)) → lv_has ls 6 [(4, .int (bI (fr))), (5, .int (iI (z5))), (0, .ref mm), (1, .int (iI (h))), (2, .int (iI (u))), (3, .int (iI (mi)))] → W p l e ({ frames := 0, locals := 0, cells := 0, slots := 0 }) s m ([.ref mm, .int (iI (h)), .int (iI (u)), .int (iI (mi))] : List Value).toArray below meth c s.heap [] 0 0 (MQ below (fw_Rv (.int (bI (fm_free gU gL xU xF xT mS.toNat h u mi)))) ([.ref mm, .int (iI (h)), .int (iI (u)), .int (iI (mi))] : List Value).toArray s 0 0 (fun _ => False)) (F0 m 37 ls []) := by
        intro n_37
        induction n_37 with
        | zero => intro i fr z5 ls hms; exact absurd hms (Nat.not_lt_zero _)
        | succ n_37 ih_37 =>
          intro i fr z5 ls hms_37 hz hi hf hl
          refine lv_iload hx hb d_M_isFree_37 (lv_at hl 1 rfl) ?_
          refine lv_aload_n hx hb d_M_isFree_39 rfl (lv_at hl 2 rfl) ?_
          refine va_get (D := (dC, dI)) (ci := 4) (v := .int (iI (mS))) (C := R_M) (T := T_M) (N := 23) hx hb hts in_M hown hK hP 0 rfl rfl 10 (by decide) (hts _ kw_581) (fun _ h9 => h9) rfl d_M_isFree_40 ?_
          refine fw_icmp_ge (tgt := 104) hx hb d_M_isFree_43 (by decide) ⟨by omega, by omega⟩ ⟨by omega, by omega⟩ (fun c_13 => ?_) (fun c_13 => ?_)
          · refine lv_iload hx hb d_M_isFree_104 (lv_at hl 0 rfl) ?_
            refine fw_Rzret hx hb hr hlocks ?_ d_M_isFree_106
            · rw [hf, show i = mS.toNat by omega]; rfl
          · refine lv_iload hx hb d_M_isFree_46 (lv_at hl 0 rfl) ?_
            refine fw_bif_eq (tgt := 95) hx hb d_M_isFree_48 (by decide) (fun c_14 => ?_) (fun c_14 => ?_)
            · refine lv_iconst (v := (bI (false))) hx hb d_M_isFree_95 (by decide) ?_
              refine lv_istore (lv' := [(4, .int (bI (false))), (5, .int (iI (z5))), (0, .ref mm), (1, .int (iI (h))), (2, .int (iI (u))), (3, .int (iI (mi)))]) hx hb d_M_isFree_96 hl (by decide) rfl (fun ls hl => ?_)
              refine lv_iinc (v := iI (z5 + 1)) (lv' := [(5, .int (iI (z5 + 1))), (4, .int (bI (false))), (0, .ref mm), (1, .int (iI (h))), (2, .int (iI (u))), (3, .int (iI (mi)))]) hx hb d_M_isFree_98 hl (k := 1) rfl (by rw [show Int32.ofInt 1 = iI 1 from rfl, iI_add]) (by decide) rfl (fun ls hl => ?_)
              refine lv_goto (tgt := 37) hx hb d_M_isFree_101 (by decide) ?_
              exact ih_37 (i + 1) false (z5 + 1) ls (by omega) (by omega) (by omega) (by simp only [fm_st]; rw [← Bool.and_assoc, ← hf]; simp [c_1, c_7, c_13, c_14] <;> omega) (lv_sub hl [1, 0, 2, 3, 4, 5] rfl)
            · have q1 := g10 i (by omega)
              refine lv_aload_n hx hb d_M_isFree_51 rfl (lv_at hl 2 rfl) ?_
              refine va_get (D := (dC, dI)) (ci := 4) (v := .ref xu) (C := R_M) (T := T_M) (N := 23) hx hb hts in_M hown hK hP 0 rfl rfl 11 (by decide) (hts _ kw_582) (fun _ h9 => h9) rfl d_M_isFree_52 ?_
              refine lv_iload hx hb d_M_isFree_55 (lv_at hl 1 rfl) ?_
              refine fw_iald hx hb hK hP 3 0 rfl rfl (i) (by omega) (by omega) (by omega) d_M_isFree_57 ?_
              refine lv_iload_n hx hb d_M_isFree_58 rfl (lv_at hl 4 rfl) ?_
              refine fw_icmp_ne (tgt := 91) hx hb d_M_isFree_59 (by decide) ⟨by omega, by omega⟩ ⟨by omega, by omega⟩ (fun c_15 => ?_) (fun c_15 => ?_)
              · refine lv_iconst (v := (bI (true))) hx hb d_M_isFree_91 (by decide) ?_
                refine lv_goto (tgt := 96) hx hb d_M_isFree_92 (by decide) ?_
                refine lv_istore (lv' := [(4, .int (bI (true))), (5, .int (iI (z5))), (0, .ref mm), (1, .int (iI (h))), (2, .int (iI (u))), (3, .int (iI (mi)))]) hx hb d_M_isFree_96 hl (by decide) rfl (fun ls hl => ?_)
                refine lv_iinc (v := iI (z5 + 1)) (lv' := [(5, .int (iI (z5 + 1))), (4, .int (bI (true))), (0, .ref mm), (1, .int (iI (h))), (2, .int (iI (u))), (3, .int (iI (mi)))]) hx hb d_M_isFree_98 hl (k := 1) rfl (by rw [show Int32.ofInt 1 = iI 1 from rfl, iI_add]) (by decide) rfl (fun ls hl => ?_)
                refine lv_goto (tgt := 37) hx hb d_M_isFree_101 (by decide) ?_
                exact ih_37 (i + 1) true (z5 + 1) ls (by omega) (by omega) (by omega) (by simp only [fm_st]; rw [← Bool.and_assoc, ← hf]; simp [c_1, c_7, c_13, c_14, c_15] <;> omega) (lv_sub hl [1, 0, 2, 3, 4, 5] rfl)
              · refine lv_iload_n hx hb d_M_isFree_62 rfl (lv_at hl 5 rfl) ?_
                refine lv_aload_n hx hb d_M_isFree_63 rfl (lv_at hl 2 rfl) ?_
                refine va_get (D := (dC, dI)) (ci := 4) (v := .ref xt) (C := R_M) (T := T_M) (N := 23) hx hb hts in_M hown hK hP 0 rfl rfl 13 (by decide) (hts _ kw_584) (fun _ h9 => h9) rfl d_M_isFree_64 ?_
                refine lv_iload hx hb d_M_isFree_67 (lv_at hl 1 rfl) ?_
                refine fw_iald hx hb hK hP 5 0 rfl rfl (i) (by omega) (by omega) (by omega) d_M_isFree_69 ?_
                refine fw_icmp_ge (tgt := 91) hx hb d_M_isFree_70 (by decide) ⟨by omega, by omega⟩ ⟨by omega, by omega⟩ (fun c_16 => ?_) (fun c_16 => ?_)
                · refine lv_iconst (v := (bI (true))) hx hb d_M_isFree_91 (by decide) ?_
                  refine lv_goto (tgt := 96) hx hb d_M_isFree_92 (by decide) ?_
                  refine lv_istore (lv' := [(4, .int (bI (true))), (5, .int (iI (z5))), (0, .ref mm), (1, .int (iI (h))), (2, .int (iI (u))), (3, .int (iI (mi)))]) hx hb d_M_isFree_96 hl (by decide) rfl (fun ls hl => ?_)
                  refine lv_iinc (v := iI (z5 + 1)) (lv' := [(5, .int (iI (z5 + 1))), (4, .int (bI (true))), (0, .ref mm), (1, .int (iI (h))), (2, .int (iI (u))), (3, .int (iI (mi)))]) hx hb d_M_isFree_98 hl (k := 1) rfl (by rw [show Int32.ofInt 1 = iI 1 from rfl, iI_add]) (by decide) rfl (fun ls hl => ?_)
                  refine lv_goto (tgt := 37) hx hb d_M_isFree_101 (by decide) ?_
                  exact ih_37 (i + 1) true (z5 + 1) ls (by omega) (by omega) (by omega) (by simp only [fm_st]; rw [← Bool.and_assoc, ← hf]; simp [c_1, c_7, c_13, c_14, c_15, c_16] <;> omega) (lv_sub hl [1, 0, 2, 3, 4, 5] rfl)
                · refine lv_iload_n hx hb d_M_isFree_73 rfl (lv_at hl 5 rfl) ?_
                  refine lv_aload_n hx hb d_M_isFree_74 rfl (lv_at hl 2 rfl) ?_
                  refine va_get (D := (dC, dI)) (ci := 4) (v := .ref ml) (C := R_M) (T := T_M) (N := 23) hx hb hts in_M hown hK hP 0 rfl rfl 5 (by decide) (hts _ kw_576) (fun _ h9 => h9) rfl d_M_isFree_75 ?_
                  refine lv_iload_n hx hb d_M_isFree_78 rfl (lv_at hl 3 rfl) ?_
                  refine fw_iald hx hb hK hP 1 0 rfl rfl ((h).toNat) (by omega) (by omega) (by omega) d_M_isFree_79 ?_
                  refine fw_iadd hx hb d_M_isFree_80 ?_
                  refine lv_aload_n hx hb d_M_isFree_81 rfl (lv_at hl 2 rfl) ?_
                  refine va_get (D := (dC, dI)) (ci := 4) (v := .ref xf) (C := R_M) (T := T_M) (N := 23) hx hb hts in_M hown hK hP 0 rfl rfl 12 (by decide) (hts _ kw_583) (fun _ h9 => h9) rfl d_M_isFree_82 ?_
                  refine lv_iload hx hb d_M_isFree_85 (lv_at hl 1 rfl) ?_
                  refine fw_iald hx hb hK hP 4 0 rfl rfl (i) (by omega) (by omega) (by omega) d_M_isFree_87 ?_
                  refine fw_icmp_gt (tgt := 95) hx hb d_M_isFree_88 (by decide) ⟨by omega, by omega⟩ ⟨by omega, by omega⟩ (fun c_17 => ?_) (fun c_17 => ?_)
                  · refine lv_iconst (v := (bI (false))) hx hb d_M_isFree_95 (by decide) ?_
                    refine lv_istore (lv' := [(4, .int (bI (false))), (5, .int (iI (z5))), (0, .ref mm), (1, .int (iI (h))), (2, .int (iI (u))), (3, .int (iI (mi)))]) hx hb d_M_isFree_96 hl (by decide) rfl (fun ls hl => ?_)
                    refine lv_iinc (v := iI (z5 + 1)) (lv' := [(5, .int (iI (z5 + 1))), (4, .int (bI (false))), (0, .ref mm), (1, .int (iI (h))), (2, .int (iI (u))), (3, .int (iI (mi)))]) hx hb d_M_isFree_98 hl (k := 1) rfl (by rw [show Int32.ofInt 1 = iI 1 from rfl, iI_add]) (by decide) rfl (fun ls hl => ?_)
                    refine lv_goto (tgt := 37) hx hb d_M_isFree_101 (by decide) ?_
                    exact ih_37 (i + 1) false (z5 + 1) ls (by omega) (by omega) (by omega) (by simp only [fm_st]; rw [← Bool.and_assoc, ← hf]; simp [c_1, c_7, c_13, c_14, c_15, c_16, c_17] <;> omega) (lv_sub hl [1, 0, 2, 3, 4, 5] rfl)
                  · refine lv_iconst (v := (bI (true))) hx hb d_M_isFree_91 (by decide) ?_
                    refine lv_goto (tgt := 96) hx hb d_M_isFree_92 (by decide) ?_
                    refine lv_istore (lv' := [(4, .int (bI (true))), (5, .int (iI (z5))), (0, .ref mm), (1, .int (iI (h))), (2, .int (iI (u))), (3, .int (iI (mi)))]) hx hb d_M_isFree_96 hl (by decide) rfl (fun ls hl => ?_)
                    refine lv_iinc (v := iI (z5 + 1)) (lv' := [(5, .int (iI (z5 + 1))), (4, .int (bI (true))), (0, .ref mm), (1, .int (iI (h))), (2, .int (iI (u))), (3, .int (iI (mi)))]) hx hb d_M_isFree_98 hl (k := 1) rfl (by rw [show Int32.ofInt 1 = iI 1 from rfl, iI_add]) (by decide) rfl (fun ls hl => ?_)
                    refine lv_goto (tgt := 37) hx hb d_M_isFree_101 (by decide) ?_
                    exact ih_37 (i + 1) true (z5 + 1) ls (by omega) (by omega) (by omega) (by simp only [fm_st]; rw [← Bool.and_assoc, ← hf]; simp [c_1, c_7, c_13, c_14, c_15, c_16, c_17] <;> omega) (lv_sub hl [1, 0, 2, 3, 4, 5] rfl)
      exact hlp_37 ((mS.toNat - 0) + 1) 0 true 0 ls (Nat.lt_succ_self _) rfl (by omega) (by simp [fm_st, fc_bit, c_1, c_7] <;> omega) (lv_sub hl [1, 0, 2, 3, 4, 5] rfl)

set_option maxHeartbeats 4000000 in
set_option maxRecDepth 100000 in
theorem c_M_meets (l : Launch) (dC : Nat → ClassId) (dI : Nat → Nat → Nat) (mm : Nat) (th : Int) (mO : Int) (mg : Nat) (md : Nat) (mH : Int) (ml : Nat) (mu : Nat) (mp : Nat) (ud : Bool) (cs : Int) (mS : Int) (xu : Nat) (xf : Nat) (xt : Nat) (mW : Int) (mF : Int) (rn : Bool) (sp : Bool) (nd : Int) (rd : Int) (li : Int) (pz : Nat) (lt : Int) (gL : Nat → Int) (gP : Nat → Int) (kI : ClassId) (zp : Int) (h : Int) (g : Int) (u : Int) (mi : Int) (hgP : ∀ j, -1 ≤ gP j ∧ gP j ≤ 60) (hgL : ∀ j, 0 ≤ gL j ∧ gL j ≤ 20) (g1 : 0 ≤ h) (g2 : h < 6) (g3 : 0 ≤ g) (g4 : g < 6) (g5 : 0 ≤ zp) (g6 : zp ≤ 126) (g7 : -100 ≤ mi) (g8 : mi ≤ 1000) (hb_u : fw_b u) : Met l y_M_meets (Cond.code y_M_meets b_M_meets 7 (some .boolean) :: gw) ({ frames := 0, locals := 0, cells := 0, slots := 0 }) (fw_Pr (dC, dI) [.ref mm, .int (iI (zp)), .int (iI (h)), .int (iI (g)), .int (iI (u)), .int (iI (mi))] [(mm, .inr (4, [.int (iI (th)), .int (iI (mO)), .ref mg, .ref md, .int (iI (mH)), .ref ml, .ref mu, .ref mp, .int (bI (ud)), .int (iI (cs)), .int (iI (mS)), .ref xu, .ref xf, .ref xt, .int (iI (mW)), .int (iI (mF)), .int (bI (rn)), .int (bI (sp)), .int (iI (nd)), .int (iI (rd)), .int (iI (li)), .ref pz, .int (iI (lt))])), (ml, fw_a kI 6 (gL)), (mp, fw_a kI 144 (gP))] [(kI, .int)]) (fw_Rv (.int (bI (fm_meet gP gL zp h g u mi)))) 0 0 (fun _ => False) := by
  refine fw_ofR (by decide) (Nat.le_of_ble_eq_true rfl) ?_
  intro p e s m below meth c ls hx hb hr hts hown hlocks hml hP hK hN hl
  have hl : lv_has ls 7 [(0, .ref mm), (1, .int (iI (zp))), (2, .int (iI (h))), (3, .int (iI (g))), (4, .int (iI (u))), (5, .int (iI (mi)))] := hl
  refine lv_iload_n hx hb d_M_meets_0 rfl (lv_at hl 1 rfl) ?_
  refine lv_iconst (v := (iI (3))) hx hb d_M_meets_1 (by decide) ?_
  refine lv_iload_n hx hb d_M_meets_2 rfl (lv_at hl 3 rfl) ?_
  refine fw_imul hx hb d_M_meets_3 ?_
  refine fw_iadd hx hb d_M_meets_4 ?_
  refine lv_istore (lv' := [(6, .int (iI (zp + (3 * g)))), (0, .ref mm), (1, .int (iI (zp))), (2, .int (iI (h))), (3, .int (iI (g))), (4, .int (iI (u))), (5, .int (iI (mi)))]) hx hb d_M_meets_5 hl (by decide) rfl (fun ls hl => ?_)
  have e1 := hgP (zp.toNat + 3 * g.toNat)
  have e2 := hgP (zp.toNat + 3 * g.toNat + 1)
  have e3 := hgL h.toNat
  have e4 := hgL g.toNat
  refine lv_iload_n hx hb d_M_meets_7 rfl (lv_at hl 4 rfl) ?_
  refine lv_iload_n hx hb d_M_meets_8 rfl (lv_at hl 3 rfl) ?_
  refine fw_icmp_eq (tgt := 70) hx hb d_M_meets_9 (by decide) ⟨by omega, by omega⟩ ⟨by omega, by omega⟩ (fun c_1 => ?_) (fun c_1 => ?_)
  · refine lv_iconst (v := (bI (false))) hx hb d_M_meets_70 (by decide) ?_
    refine fw_Rzret hx hb hr hlocks ?_ d_M_meets_71
    · simp only [fm_meet]; simp [c_1] <;> omega
  · refine lv_aload_n hx hb d_M_meets_12 rfl (lv_at hl 1 rfl) ?_
    refine va_get (D := (dC, dI)) (ci := 4) (v := .ref mp) (C := R_M) (T := T_M) (N := 23) hx hb hts in_M hown hK hP 0 rfl rfl 7 (by decide) (hts _ kw_578) (fun _ h9 => h9) rfl d_M_meets_13 ?_
    refine lv_iload hx hb d_M_meets_16 (lv_at hl 0 rfl) ?_
    refine fw_iald hx hb hK hP 2 0 rfl rfl ((zp.toNat + (3 * g.toNat))) (by omega) (by omega) (by omega) d_M_meets_18 ?_
    refine lv_iload hx hb d_M_meets_19 (lv_at hl 5 rfl) ?_
    refine fw_icmp_ne (tgt := 70) hx hb d_M_meets_21 (by decide) ⟨by omega, by omega⟩ ⟨by omega, by omega⟩ (fun c_2 => ?_) (fun c_2 => ?_)
    · refine lv_iconst (v := (bI (false))) hx hb d_M_meets_70 (by decide) ?_
      refine fw_Rzret hx hb hr hlocks ?_ d_M_meets_71
      · simp only [fm_meet]; simp [c_1, c_2] <;> omega
    · refine lv_aload_n hx hb d_M_meets_24 rfl (lv_at hl 1 rfl) ?_
      refine va_get (D := (dC, dI)) (ci := 4) (v := .ref mp) (C := R_M) (T := T_M) (N := 23) hx hb hts in_M hown hK hP 0 rfl rfl 7 (by decide) (hts _ kw_578) (fun _ h9 => h9) rfl d_M_meets_25 ?_
      refine lv_iload hx hb d_M_meets_28 (lv_at hl 0 rfl) ?_
      refine lv_iconst (v := (iI (1))) hx hb d_M_meets_30 (by decide) ?_
      refine fw_iadd hx hb d_M_meets_31 ?_
      refine fw_iald hx hb hK hP 2 0 rfl rfl (((zp.toNat + (3 * g.toNat)) + 1)) (by omega) (by omega) (by omega) d_M_meets_32 ?_
      refine lv_iload hx hb d_M_meets_33 (lv_at hl 6 rfl) ?_
      refine lv_aload_n hx hb d_M_meets_35 rfl (lv_at hl 1 rfl) ?_
      refine va_get (D := (dC, dI)) (ci := 4) (v := .ref ml) (C := R_M) (T := T_M) (N := 23) hx hb hts in_M hown hK hP 0 rfl rfl 5 (by decide) (hts _ kw_576) (fun _ h9 => h9) rfl d_M_meets_36 ?_
      refine lv_iload_n hx hb d_M_meets_39 rfl (lv_at hl 3 rfl) ?_
      refine fw_iald hx hb hK hP 1 0 rfl rfl (h.toNat) (by omega) (by omega) (by omega) d_M_meets_40 ?_
      refine fw_iadd hx hb d_M_meets_41 ?_
      refine fw_icmp_ge (tgt := 70) hx hb d_M_meets_42 (by decide) ⟨by omega, by omega⟩ ⟨by omega, by omega⟩ (fun c_3 => ?_) (fun c_3 => ?_)
      · refine lv_iconst (v := (bI (false))) hx hb d_M_meets_70 (by decide) ?_
        refine fw_Rzret hx hb hr hlocks ?_ d_M_meets_71
        · simp only [fm_meet]; simp [c_1, c_2, c_3] <;> omega
      · refine lv_iload hx hb d_M_meets_45 (lv_at hl 6 rfl) ?_
        refine lv_aload_n hx hb d_M_meets_47 rfl (lv_at hl 1 rfl) ?_
        refine va_get (D := (dC, dI)) (ci := 4) (v := .ref mp) (C := R_M) (T := T_M) (N := 23) hx hb hts in_M hown hK hP 0 rfl rfl 7 (by decide) (hts _ kw_578) (fun _ h9 => h9) rfl d_M_meets_48 ?_
        refine lv_iload hx hb d_M_meets_51 (lv_at hl 0 rfl) ?_
        refine lv_iconst (v := (iI (1))) hx hb d_M_meets_53 (by decide) ?_
        refine fw_iadd hx hb d_M_meets_54 ?_
        refine fw_iald hx hb hK hP 2 0 rfl rfl (((zp.toNat + (3 * g.toNat)) + 1)) (by omega) (by omega) (by omega) d_M_meets_55 ?_
        refine lv_aload_n hx hb d_M_meets_56 rfl (lv_at hl 1 rfl) ?_
        refine va_get (D := (dC, dI)) (ci := 4) (v := .ref ml) (C := R_M) (T := T_M) (N := 23) hx hb hts in_M hown hK hP 0 rfl rfl 5 (by decide) (hts _ kw_576) (fun _ h9 => h9) rfl d_M_meets_57 ?_
        refine lv_iload_n hx hb d_M_meets_60 rfl (lv_at hl 4 rfl) ?_
        refine fw_iald hx hb hK hP 1 0 rfl rfl (g.toNat) (by omega) (by omega) (by omega) d_M_meets_61 ?_
        refine fw_iadd hx hb d_M_meets_62 ?_
        refine fw_icmp_ge (tgt := 70) hx hb d_M_meets_63 (by decide) ⟨by omega, by omega⟩ ⟨by omega, by omega⟩ (fun c_4 => ?_) (fun c_4 => ?_)
        · refine lv_iconst (v := (bI (false))) hx hb d_M_meets_70 (by decide) ?_
          refine fw_Rzret hx hb hr hlocks ?_ d_M_meets_71
          · simp only [fm_meet]; simp [c_1, c_2, c_3, c_4] <;> omega
        · refine lv_iconst (v := (bI (true))) hx hb d_M_meets_66 (by decide) ?_
          refine lv_goto (tgt := 71) hx hb d_M_meets_67 (by decide) ?_
          refine fw_Rzret hx hb hr hlocks ?_ d_M_meets_71
          · simp only [fm_meet]; simp [c_1, c_2, c_3, c_4] <;> omega

set_option maxHeartbeats 4000000 in
set_option maxRecDepth 100000 in
theorem c_M_fits (l : Launch) (dC : Nat → ClassId) (dI : Nat → Nat → Nat) (mm : Nat) (th : Int) (mO : Int) (mg : Nat) (md : Nat) (mH : Int) (ml : Nat) (mu : Nat) (mp : Nat) (ud : Bool) (cs : Int) (mS : Int) (xu : Nat) (xf : Nat) (xt : Nat) (mW : Int) (mF : Int) (rn : Bool) (sp : Bool) (nd : Int) (rd : Int) (li : Int) (pz : Nat) (lt : Int) (gL : Nat → Int) (gU : Nat → Int) (gP : Nat → Int) (xU : Nat → Int) (xF : Nat → Int) (xT : Nat → Int) (kI : ClassId) (h : Int) (u : Int) (mi : Int) (hgP : ∀ j, -1 ≤ gP j ∧ gP j ≤ 60) (hgL : ∀ j, 0 ≤ gL j ∧ gL j ≤ 20) (hgU : ∀ j, 0 ≤ gU j ∧ gU j ≤ 7) (m1 : 0 ≤ mH) (m2 : mH ≤ 6) (m3 : 0 ≤ mS) (m4 : mS ≤ 10) (m5 : ∀ j : Nat, (j : Int) < mS → fw_b (xU j) ∧ fw_b (xF j) ∧ fw_b (xT j)) (g1 : 0 ≤ h) (g2 : h < 6) (g3 : 0 ≤ u) (g4 : u < 3) (g5 : -1 ≤ mi) (g6 : mi ≤ 60) : Met l y_M_fits (Cond.code y_M_fits b_M_fits 6 (some .boolean) :: gw) ({ frames := 1, locals := 26, cells := 0, slots := 0 }) (fw_Pr (dC, dI) [.ref mm, .int (iI (h)), .int (iI (u)), .int (iI (mi))] [(mm, .inr (4, [.int (iI (th)), .int (iI (mO)), .ref mg, .ref md, .int (iI (mH)), .ref ml, .ref mu, .ref mp, .int (bI (ud)), .int (iI (cs)), .int (iI (mS)), .ref xu, .ref xf, .ref xt, .int (iI (mW)), .int (iI (mF)), .int (bI (rn)), .int (bI (sp)), .int (iI (nd)), .int (iI (rd)), .int (iI (li)), .ref pz, .int (iI (lt))])), (ml, fw_a kI 6 (gL)), (mu, fw_a kI 6 (gU)), (mp, fw_a kI 144 (gP)), (xu, fw_a kI 10 (xU)), (xf, fw_a kI 10 (xF)), (xt, fw_a kI 10 (xT))] [(kI, .int)]) (fw_Rv (.int (bI (fm_fits gP gU gL xU xF xT mH.toNat mS.toNat h u mi)))) 0 0 (fun _ => False) := by
  refine fw_ofR (by decide) (Nat.le_of_ble_eq_true rfl) ?_
  intro p e s m below meth c ls hx hb hr hts hown hlocks hml hP hK hN hl
  have hl : lv_has ls 6 [(0, .ref mm), (1, .int (iI (h))), (2, .int (iI (u))), (3, .int (iI (mi)))] := hl
  have e0 := hgU h.toNat
  have e3 := hgL h.toNat
  refine lv_aload_n hx hb d_M_fits_0 rfl (lv_at hl 0 rfl) ?_
  refine lv_iload_n hx hb d_M_fits_1 rfl (lv_at hl 1 rfl) ?_
  refine lv_iload_n hx hb d_M_fits_2 rfl (lv_at hl 2 rfl) ?_
  refine lv_iload_n hx hb d_M_fits_3 rfl (lv_at hl 3 rfl) ?_
  refine fw_callR (va_runV (As := [.int (iI (h)), .int (iI (u)), .int (iI (mi))]) (rest := []) ⟨hx, hb, hml, hown, hts⟩ (c_M_isFree l dC dI  mm th mO mg md mH ml mu mp ud cs mS xu xf xt mW mF rn sp nd rd li pz lt gL gU xU xF xT kI h u mi (by first | assumption | omega) (by first | assumption | omega) (by first | assumption | omega) (by first | assumption | omega) (by first | assumption | omega) (by first | assumption | omega) ⟨by omega, by omega⟩ ⟨by omega, by omega⟩ (by first | assumption | omega) (by first | assumption | omega) (by assumption)) (cwV 3 hts (gw_V kw_664 kw_666 ks_M_isFree kw_5 kw_667) rfl rfl rfl (by decide +kernel) ⟨Nat.le_of_ble_eq_true rfl, Nat.le_of_ble_eq_true rfl⟩) (fw_preRV (ci := 4) (q0 := 0) hP hK hN [0, 1, 2, 4, 5, 6] [0] rfl rfl rfl rfl) rfl rfl hl.1 rfl (lv_room (Nat.le_of_ble_eq_true rfl)) d_M_fits_4 ⟨Nat.le_of_ble_eq_true rfl, Nat.le_of_ble_eq_true rfl⟩).run ?_
  refine lv_istore (lv' := [(4, .int (bI (fm_free gU gL xU xF xT mS.toNat h u mi))), (0, .ref mm), (1, .int (iI (h))), (2, .int (iI (u))), (3, .int (iI (mi)))]) hx hb d_M_fits_7 hl (by decide) rfl (fun ls hl => ?_)
  refine lv_iconst (v := (iI (0))) hx hb d_M_fits_9 (by decide) ?_
  refine lv_istore (lv' := [(5, .int (iI (0))), (4, .int (bI (fm_free gU gL xU xF xT mS.toNat h u mi))), (0, .ref mm), (1, .int (iI (h))), (2, .int (iI (u))), (3, .int (iI (mi)))]) hx hb d_M_fits_10 hl (by decide) rfl (fun ls hl => ?_)
  have hlp_12 : ∀ (n : Nat) (i : Nat) (fr : Bool) (z5 : Int) (ls : Array Slot), (mH.toNat - i) < n → (z5 = (i : Int)) → ((i : Int) ≤ mH) → (fr = (fm_free gU gL xU xF xT mS.toNat h u mi && fm_all (fun g => !fm_meet gP gL 0 h g u mi) i)) → lv_has ls 6 [(4, .int (bI (fr))), (5, .int (iI (z5))), (0, .ref mm), (1, .int (iI (h))), (2, .int (iI (u))), (3, .int (iI (mi)))] → W p l e ({ frames := 1, locals := 26, cells := 0, slots := 0 }) s m ([.ref mm, .int (iI (h)), .int (iI (u)), .int (iI (mi))] : List Value).toArray below meth c s.heap [] 0 0 (MQ below (fw_Rv (.int (bI (fm_fits gP gU gL xU xF xT mH.toNat mS.toNat h u mi)))) ([.ref mm, .int (iI (h)), .int (iI (u)), .int (iI (mi))] : List Value).toArray s 0 0 (fun _ => False)) (F0 m 12 ls []) := by
    intro n_12
    induction n_12 with
    | zero => intro i fr z5 ls hms; exact absurd hms (Nat.not_lt_zero _)
    | succ n_12 ih_12 =>
      intro i fr z5 ls hms_12 hz hi hf hl
      refine lv_iload hx hb d_M_fits_12 (lv_at hl 1 rfl) ?_
      refine lv_aload_n hx hb d_M_fits_14 rfl (lv_at hl 2 rfl) ?_
      refine va_get (D := (dC, dI)) (ci := 4) (v := .int (iI (mH))) (C := R_M) (T := T_M) (N := 23) hx hb hts in_M hown hK hP 0 rfl rfl 4 (by decide) (hts _ kw_575) (fun _ h9 => h9) rfl d_M_fits_15 ?_
      refine fw_icmp_ge (tgt := 52) hx hb d_M_fits_18 (by decide) ⟨by omega, by omega⟩ ⟨by omega, by omega⟩ (fun c_1 => ?_) (fun c_1 => ?_)
      · refine lv_iload hx hb d_M_fits_52 (lv_at hl 0 rfl) ?_
        refine fw_Rzret hx hb hr hlocks ?_ d_M_fits_54
        · rw [hf, show i = mH.toNat by omega]; rfl
      · refine lv_iload hx hb d_M_fits_21 (lv_at hl 0 rfl) ?_
        refine fw_bif_eq (tgt := 43) hx hb d_M_fits_23 (by decide) (fun c_2 => ?_) (fun c_2 => ?_)
        · refine lv_iconst (v := (bI (false))) hx hb d_M_fits_43 (by decide) ?_
          refine lv_istore (lv' := [(4, .int (bI (false))), (5, .int (iI (z5))), (0, .ref mm), (1, .int (iI (h))), (2, .int (iI (u))), (3, .int (iI (mi)))]) hx hb d_M_fits_44 hl (by decide) rfl (fun ls hl => ?_)
          refine lv_iinc (v := iI (z5 + 1)) (lv' := [(5, .int (iI (z5 + 1))), (4, .int (bI (false))), (0, .ref mm), (1, .int (iI (h))), (2, .int (iI (u))), (3, .int (iI (mi)))]) hx hb d_M_fits_46 hl (k := 1) rfl (by rw [show Int32.ofInt 1 = iI 1 from rfl, iI_add]) (by decide) rfl (fun ls hl => ?_)
          refine lv_goto (tgt := 12) hx hb d_M_fits_49 (by decide) ?_
          exact ih_12 (i + 1) false (z5 + 1) ls (by omega) (by omega) (by omega) (by subst hz; simp only [fm_all]; rw [← Bool.and_assoc, ← hf]; simp [c_1, c_2]) (lv_sub hl [1, 0, 2, 3, 4, 5] rfl)
        · refine lv_aload_n hx hb d_M_fits_26 rfl (lv_at hl 2 rfl) ?_
          refine lv_iconst (v := (iI (0))) hx hb d_M_fits_27 (by decide) ?_
          refine lv_iload_n hx hb d_M_fits_28 rfl (lv_at hl 3 rfl) ?_
          refine lv_iload hx hb d_M_fits_29 (lv_at hl 1 rfl) ?_
          refine lv_iload_n hx hb d_M_fits_31 rfl (lv_at hl 4 rfl) ?_
          refine lv_iload_n hx hb d_M_fits_32 rfl (lv_at hl 5 rfl) ?_
          refine fw_callR (va_runV (As := [.int (iI (0)), .int (iI (h)), .int (iI (z5)), .int (iI (u)), .int (iI (mi))]) (rest := []) ⟨hx, hb, hml, hown, hts⟩ (c_M_meets l dC dI  mm th mO mg md mH ml mu mp ud cs mS xu xf xt mW mF rn sp nd rd li pz lt gL gP kI 0 h z5 u mi (by assumption) (by assumption) (by first | assumption | omega) (by first | assumption | omega) (by first | assumption | omega) (by first | assumption | omega) (by first | assumption | omega) (by first | assumption | omega) (by first | assumption | omega) (by first | assumption | omega) ⟨by omega, by omega⟩) (cwV 5 hts (gw_V kw_668 kw_670 ks_M_meets kw_5 kw_671) rfl rfl rfl (by decide +kernel) ⟨Nat.le_of_ble_eq_true rfl, Nat.le_of_ble_eq_true rfl⟩) (fw_preRV (ci := 4) (q0 := 0) hP hK hN [0, 1, 3] [0] rfl rfl rfl rfl) rfl rfl hl.1 rfl (lv_room (Nat.le_of_ble_eq_true rfl)) d_M_fits_33 ⟨Nat.le_of_ble_eq_true rfl, Nat.le_of_ble_eq_true rfl⟩).run ?_
          refine fw_bif_ne (tgt := 43) hx hb d_M_fits_36 (by decide) (fun c_3 => ?_) (fun c_3 => ?_)
          · refine lv_iconst (v := (bI (false))) hx hb d_M_fits_43 (by decide) ?_
            refine lv_istore (lv' := [(4, .int (bI (false))), (5, .int (iI (z5))), (0, .ref mm), (1, .int (iI (h))), (2, .int (iI (u))), (3, .int (iI (mi)))]) hx hb d_M_fits_44 hl (by decide) rfl (fun ls hl => ?_)
            refine lv_iinc (v := iI (z5 + 1)) (lv' := [(5, .int (iI (z5 + 1))), (4, .int (bI (false))), (0, .ref mm), (1, .int (iI (h))), (2, .int (iI (u))), (3, .int (iI (mi)))]) hx hb d_M_fits_46 hl (k := 1) rfl (by rw [show Int32.ofInt 1 = iI 1 from rfl, iI_add]) (by decide) rfl (fun ls hl => ?_)
            refine lv_goto (tgt := 12) hx hb d_M_fits_49 (by decide) ?_
            exact ih_12 (i + 1) false (z5 + 1) ls (by omega) (by omega) (by omega) (by subst hz; simp only [fm_all]; rw [← Bool.and_assoc, ← hf]; simp [c_1, c_2, c_3]) (lv_sub hl [1, 0, 2, 3, 4, 5] rfl)
          · refine lv_iconst (v := (bI (true))) hx hb d_M_fits_39 (by decide) ?_
            refine lv_goto (tgt := 44) hx hb d_M_fits_40 (by decide) ?_
            refine lv_istore (lv' := [(4, .int (bI (true))), (5, .int (iI (z5))), (0, .ref mm), (1, .int (iI (h))), (2, .int (iI (u))), (3, .int (iI (mi)))]) hx hb d_M_fits_44 hl (by decide) rfl (fun ls hl => ?_)
            refine lv_iinc (v := iI (z5 + 1)) (lv' := [(5, .int (iI (z5 + 1))), (4, .int (bI (true))), (0, .ref mm), (1, .int (iI (h))), (2, .int (iI (u))), (3, .int (iI (mi)))]) hx hb d_M_fits_46 hl (k := 1) rfl (by rw [show Int32.ofInt 1 = iI 1 from rfl, iI_add]) (by decide) rfl (fun ls hl => ?_)
            refine lv_goto (tgt := 12) hx hb d_M_fits_49 (by decide) ?_
            exact ih_12 (i + 1) true (z5 + 1) ls (by omega) (by omega) (by omega) (by subst hz; simp only [fm_all]; rw [← Bool.and_assoc, ← hf]; simp [c_1, c_2, c_3]) (lv_sub hl [1, 0, 2, 3, 4, 5] rfl)
  exact hlp_12 ((mH.toNat - 0) + 1) 0 (fm_free gU gL xU xF xT mS.toNat h u mi) 0 ls (Nat.lt_succ_self _) rfl (by omega) (by simp [fm_all]) (lv_sub hl [1, 0, 2, 3, 4, 5] rfl)

set_option maxHeartbeats 4000000 in
set_option maxRecDepth 100000 in
theorem c_M_fitsTried (l : Launch) (dC : Nat → ClassId) (dI : Nat → Nat → Nat) (mm : Nat) (th : Int) (mO : Int) (mg : Nat) (md : Nat) (mH : Int) (ml : Nat) (mu : Nat) (mp : Nat) (ud : Bool) (cs : Int) (mS : Int) (xu : Nat) (xf : Nat) (xt : Nat) (mW : Int) (mF : Int) (rn : Bool) (sp : Bool) (nd : Int) (rd : Int) (li : Int) (pz : Nat) (lt : Int) (gL : Nat → Int) (gU : Nat → Int) (gP : Nat → Int) (xU : Nat → Int) (xF : Nat → Int) (xT : Nat → Int) (gZ : Nat → Bool) (kI : ClassId) (kZ : ClassId) (h : Int) (u : Int) (mi : Int) (hgP : ∀ j, -1 ≤ gP j ∧ gP j ≤ 60) (hgL : ∀ j, 0 ≤ gL j ∧ gL j ≤ 20) (hgU : ∀ j, 0 ≤ gU j ∧ gU j ≤ 7) (m1 : 0 ≤ mH) (m2 : mH ≤ 6) (m3 : 0 ≤ mS) (m4 : mS ≤ 10) (m5 : ∀ j : Nat, (j : Int) < mS → fw_b (xU j) ∧ fw_b (xF j) ∧ fw_b (xT j)) (g1 : 0 ≤ h) (g2 : h < 6) (g3 : 0 ≤ u) (g4 : u < 3) (g5 : -1 ≤ mi) (g6 : mi ≤ 60) : Met l y_M_fitsTried (Cond.code y_M_fitsTried b_M_fitsTried 6 (some .boolean) :: gw) ({ frames := 1, locals := 26, cells := 0, slots := 0 }) (fw_Pr (dC, dI) [.ref mm, .int (iI (h)), .int (iI (u)), .int (iI (mi))] [(mm, .inr (4, [.int (iI (th)), .int (iI (mO)), .ref mg, .ref md, .int (iI (mH)), .ref ml, .ref mu, .ref mp, .int (bI (ud)), .int (iI (cs)), .int (iI (mS)), .ref xu, .ref xf, .ref xt, .int (iI (mW)), .int (iI (mF)), .int (bI (rn)), .int (bI (sp)), .int (iI (nd)), .int (iI (rd)), .int (iI (li)), .ref pz, .int (iI (lt))])), (ml, fw_a kI 6 (gL)), (mu, fw_a kI 6 (gU)), (mp, fw_a kI 144 (gP)), (xu, fw_a kI 10 (xU)), (xf, fw_a kI 10 (xF)), (xt, fw_a kI 10 (xT)), (pz, fw_z kZ 6 (gZ))] [(kI, .int), (kZ, .boolean)]) (fw_Rv (.int (bI (fm_fitsT gP gU gL xU xF xT gZ mH.toNat mS.toNat h u mi)))) 0 0 (fun _ => False) := by
  refine fw_ofR (by decide) (Nat.le_of_ble_eq_true rfl) ?_
  intro p e s m below meth c ls hx hb hr hts hown hlocks hml hP hK hN hl
  have hl : lv_has ls 6 [(0, .ref mm), (1, .int (iI (h))), (2, .int (iI (u))), (3, .int (iI (mi)))] := hl
  have e0 := hgU h.toNat
  have e3 := hgL h.toNat
  refine lv_aload_n hx hb d_M_fitsTried_0 rfl (lv_at hl 0 rfl) ?_
  refine lv_iload_n hx hb d_M_fitsTried_1 rfl (lv_at hl 1 rfl) ?_
  refine lv_iload_n hx hb d_M_fitsTried_2 rfl (lv_at hl 2 rfl) ?_
  refine lv_iload_n hx hb d_M_fitsTried_3 rfl (lv_at hl 3 rfl) ?_
  refine fw_callR (va_runV (As := [.int (iI (h)), .int (iI (u)), .int (iI (mi))]) (rest := []) ⟨hx, hb, hml, hown, hts⟩ (c_M_isFree l dC dI  mm th mO mg md mH ml mu mp ud cs mS xu xf xt mW mF rn sp nd rd li pz lt gL gU xU xF xT kI h u mi (by first | assumption | omega) (by first | assumption | omega) (by first | assumption | omega) (by first | assumption | omega) (by first | assumption | omega) (by first | assumption | omega) ⟨by omega, by omega⟩ ⟨by omega, by omega⟩ (by first | assumption | omega) (by first | assumption | omega) (by assumption)) (cwV 3 hts (gw_V kw_664 kw_666 ks_M_isFree kw_5 kw_667) rfl rfl rfl (by decide +kernel) ⟨Nat.le_of_ble_eq_true rfl, Nat.le_of_ble_eq_true rfl⟩) (fw_preRV (ci := 4) (q0 := 0) hP hK hN [0, 1, 2, 4, 5, 6] [0] rfl rfl rfl rfl) rfl rfl hl.1 rfl (lv_room (Nat.le_of_ble_eq_true rfl)) d_M_fitsTried_4 ⟨Nat.le_of_ble_eq_true rfl, Nat.le_of_ble_eq_true rfl⟩).run ?_
  refine lv_istore (lv' := [(4, .int (bI (fm_free gU gL xU xF xT mS.toNat h u mi))), (0, .ref mm), (1, .int (iI (h))), (2, .int (iI (u))), (3, .int (iI (mi)))]) hx hb d_M_fitsTried_7 hl (by decide) rfl (fun ls hl => ?_)
  refine lv_iconst (v := (iI (0))) hx hb d_M_fitsTried_9 (by decide) ?_
  refine lv_istore (lv' := [(5, .int (iI (0))), (4, .int (bI (fm_free gU gL xU xF xT mS.toNat h u mi))), (0, .ref mm), (1, .int (iI (h))), (2, .int (iI (u))), (3, .int (iI (mi)))]) hx hb d_M_fitsTried_10 hl (by decide) rfl (fun ls hl => ?_)
  have hlp_12 : ∀ (n : Nat) (i : Nat) (fr : Bool) (z5 : Int) (ls : Array Slot), (mH.toNat - i) < n → (z5 = (i : Int)) → ((i : Int) ≤ mH) → (fr = (fm_free gU gL xU xF xT mS.toNat h u mi && fm_all (fun g => !gZ g || !fm_meet gP gL 18 h g u mi) i)) → lv_has ls 6 [(4, .int (bI (fr))), (5, .int (iI (z5))), (0, .ref mm), (1, .int (iI (h))), (2, .int (iI (u))), (3, .int (iI (mi)))] → W p l e ({ frames := 1, locals := 26, cells := 0, slots := 0 }) s m ([.ref mm, .int (iI (h)), .int (iI (u)), .int (iI (mi))] : List Value).toArray below meth c s.heap [] 0 0 (MQ below (fw_Rv (.int (bI (fm_fitsT gP gU gL xU xF xT gZ mH.toNat mS.toNat h u mi)))) ([.ref mm, .int (iI (h)), .int (iI (u)), .int (iI (mi))] : List Value).toArray s 0 0 (fun _ => False)) (F0 m 12 ls []) := by
    intro n_12
    induction n_12 with
    | zero => intro i fr z5 ls hms; exact absurd hms (Nat.not_lt_zero _)
    | succ n_12 ih_12 =>
      intro i fr z5 ls hms_12 hz hi hf hl
      refine lv_iload hx hb d_M_fitsTried_12 (lv_at hl 1 rfl) ?_
      refine lv_aload_n hx hb d_M_fitsTried_14 rfl (lv_at hl 2 rfl) ?_
      refine va_get (D := (dC, dI)) (ci := 4) (v := .int (iI (mH))) (C := R_M) (T := T_M) (N := 23) hx hb hts in_M hown hK hP 0 rfl rfl 4 (by decide) (hts _ kw_575) (fun _ h9 => h9) rfl d_M_fitsTried_15 ?_
      refine fw_icmp_ge (tgt := 63) hx hb d_M_fitsTried_18 (by decide) ⟨by omega, by omega⟩ ⟨by omega, by omega⟩ (fun c_1 => ?_) (fun c_1 => ?_)
      · refine lv_iload hx hb d_M_fitsTried_63 (lv_at hl 0 rfl) ?_
        refine fw_Rzret hx hb hr hlocks ?_ d_M_fitsTried_65
        · rw [hf, show i = mH.toNat by omega]; rfl
      · refine lv_iload hx hb d_M_fitsTried_21 (lv_at hl 0 rfl) ?_
        refine fw_bif_eq (tgt := 54) hx hb d_M_fitsTried_23 (by decide) (fun c_2 => ?_) (fun c_2 => ?_)
        · refine lv_iconst (v := (bI (false))) hx hb d_M_fitsTried_54 (by decide) ?_
          refine lv_istore (lv' := [(4, .int (bI (false))), (5, .int (iI (z5))), (0, .ref mm), (1, .int (iI (h))), (2, .int (iI (u))), (3, .int (iI (mi)))]) hx hb d_M_fitsTried_55 hl (by decide) rfl (fun ls hl => ?_)
          refine lv_iinc (v := iI (z5 + 1)) (lv' := [(5, .int (iI (z5 + 1))), (4, .int (bI (false))), (0, .ref mm), (1, .int (iI (h))), (2, .int (iI (u))), (3, .int (iI (mi)))]) hx hb d_M_fitsTried_57 hl (k := 1) rfl (by rw [show Int32.ofInt 1 = iI 1 from rfl, iI_add]) (by decide) rfl (fun ls hl => ?_)
          refine lv_goto (tgt := 12) hx hb d_M_fitsTried_60 (by decide) ?_
          exact ih_12 (i + 1) false (z5 + 1) ls (by omega) (by omega) (by omega) (by subst hz; simp only [fm_all]; rw [← Bool.and_assoc, ← hf]; simp [c_1, c_2]) (lv_sub hl [1, 0, 2, 3, 4, 5] rfl)
        · refine lv_aload_n hx hb d_M_fitsTried_26 rfl (lv_at hl 2 rfl) ?_
          refine va_get (D := (dC, dI)) (ci := 4) (v := .ref pz) (C := R_M) (T := T_M) (N := 23) hx hb hts in_M hown hK hP 0 rfl rfl 21 (by decide) (hts _ kw_592) (fun _ h9 => h9) rfl d_M_fitsTried_27 ?_
          refine lv_iload hx hb d_M_fitsTried_30 (lv_at hl 1 rfl) ?_
          refine fw_zald hx hb hK hP 7 1 rfl rfl (i) (by omega) (by omega) (by omega) d_M_fitsTried_32 ?_
          refine fw_bif_eq (tgt := 50) hx hb d_M_fitsTried_33 (by decide) (fun c_3 => ?_) (fun c_3 => ?_)
          · refine lv_iconst (v := (bI (true))) hx hb d_M_fitsTried_50 (by decide) ?_
            refine lv_goto (tgt := 55) hx hb d_M_fitsTried_51 (by decide) ?_
            refine lv_istore (lv' := [(4, .int (bI (true))), (5, .int (iI (z5))), (0, .ref mm), (1, .int (iI (h))), (2, .int (iI (u))), (3, .int (iI (mi)))]) hx hb d_M_fitsTried_55 hl (by decide) rfl (fun ls hl => ?_)
            refine lv_iinc (v := iI (z5 + 1)) (lv' := [(5, .int (iI (z5 + 1))), (4, .int (bI (true))), (0, .ref mm), (1, .int (iI (h))), (2, .int (iI (u))), (3, .int (iI (mi)))]) hx hb d_M_fitsTried_57 hl (k := 1) rfl (by rw [show Int32.ofInt 1 = iI 1 from rfl, iI_add]) (by decide) rfl (fun ls hl => ?_)
            refine lv_goto (tgt := 12) hx hb d_M_fitsTried_60 (by decide) ?_
            exact ih_12 (i + 1) true (z5 + 1) ls (by omega) (by omega) (by omega) (by subst hz; simp only [fm_all]; rw [← Bool.and_assoc, ← hf]; simp [c_1, c_2, c_3]) (lv_sub hl [1, 0, 2, 3, 4, 5] rfl)
          · refine lv_aload_n hx hb d_M_fitsTried_36 rfl (lv_at hl 2 rfl) ?_
            refine lv_bipush (v := (iI (18))) hx hb d_M_fitsTried_37 (by decide) ?_
            refine lv_iload_n hx hb d_M_fitsTried_39 rfl (lv_at hl 3 rfl) ?_
            refine lv_iload hx hb d_M_fitsTried_40 (lv_at hl 1 rfl) ?_
            refine lv_iload_n hx hb d_M_fitsTried_42 rfl (lv_at hl 4 rfl) ?_
            refine lv_iload_n hx hb d_M_fitsTried_43 rfl (lv_at hl 5 rfl) ?_
            refine fw_callR (va_runV (As := [.int (iI (18)), .int (iI (h)), .int (iI (z5)), .int (iI (u)), .int (iI (mi))]) (rest := []) ⟨hx, hb, hml, hown, hts⟩ (c_M_meets l dC dI  mm th mO mg md mH ml mu mp ud cs mS xu xf xt mW mF rn sp nd rd li pz lt gL gP kI 18 h z5 u mi (by assumption) (by assumption) (by first | assumption | omega) (by first | assumption | omega) (by first | assumption | omega) (by first | assumption | omega) (by first | assumption | omega) (by first | assumption | omega) (by first | assumption | omega) (by first | assumption | omega) ⟨by omega, by omega⟩) (cwV 5 hts (gw_V kw_668 kw_670 ks_M_meets kw_5 kw_671) rfl rfl rfl (by decide +kernel) ⟨Nat.le_of_ble_eq_true rfl, Nat.le_of_ble_eq_true rfl⟩) (fw_preRV (ci := 4) (q0 := 0) hP hK hN [0, 1, 3] [0] rfl rfl rfl rfl) rfl rfl hl.1 rfl (lv_room (Nat.le_of_ble_eq_true rfl)) d_M_fitsTried_44 ⟨Nat.le_of_ble_eq_true rfl, Nat.le_of_ble_eq_true rfl⟩).run ?_
            refine fw_bif_ne (tgt := 54) hx hb d_M_fitsTried_47 (by decide) (fun c_4 => ?_) (fun c_4 => ?_)
            · refine lv_iconst (v := (bI (false))) hx hb d_M_fitsTried_54 (by decide) ?_
              refine lv_istore (lv' := [(4, .int (bI (false))), (5, .int (iI (z5))), (0, .ref mm), (1, .int (iI (h))), (2, .int (iI (u))), (3, .int (iI (mi)))]) hx hb d_M_fitsTried_55 hl (by decide) rfl (fun ls hl => ?_)
              refine lv_iinc (v := iI (z5 + 1)) (lv' := [(5, .int (iI (z5 + 1))), (4, .int (bI (false))), (0, .ref mm), (1, .int (iI (h))), (2, .int (iI (u))), (3, .int (iI (mi)))]) hx hb d_M_fitsTried_57 hl (k := 1) rfl (by rw [show Int32.ofInt 1 = iI 1 from rfl, iI_add]) (by decide) rfl (fun ls hl => ?_)
              refine lv_goto (tgt := 12) hx hb d_M_fitsTried_60 (by decide) ?_
              exact ih_12 (i + 1) false (z5 + 1) ls (by omega) (by omega) (by omega) (by subst hz; simp only [fm_all]; rw [← Bool.and_assoc, ← hf]; simp [c_1, c_2, c_3, c_4]) (lv_sub hl [1, 0, 2, 3, 4, 5] rfl)
            · refine lv_iconst (v := (bI (true))) hx hb d_M_fitsTried_50 (by decide) ?_
              refine lv_goto (tgt := 55) hx hb d_M_fitsTried_51 (by decide) ?_
              refine lv_istore (lv' := [(4, .int (bI (true))), (5, .int (iI (z5))), (0, .ref mm), (1, .int (iI (h))), (2, .int (iI (u))), (3, .int (iI (mi)))]) hx hb d_M_fitsTried_55 hl (by decide) rfl (fun ls hl => ?_)
              refine lv_iinc (v := iI (z5 + 1)) (lv' := [(5, .int (iI (z5 + 1))), (4, .int (bI (true))), (0, .ref mm), (1, .int (iI (h))), (2, .int (iI (u))), (3, .int (iI (mi)))]) hx hb d_M_fitsTried_57 hl (k := 1) rfl (by rw [show Int32.ofInt 1 = iI 1 from rfl, iI_add]) (by decide) rfl (fun ls hl => ?_)
              refine lv_goto (tgt := 12) hx hb d_M_fitsTried_60 (by decide) ?_
              exact ih_12 (i + 1) true (z5 + 1) ls (by omega) (by omega) (by omega) (by subst hz; simp only [fm_all]; rw [← Bool.and_assoc, ← hf]; simp [c_1, c_2, c_3, c_4]) (lv_sub hl [1, 0, 2, 3, 4, 5] rfl)
  exact hlp_12 ((mH.toNat - 0) + 1) 0 (fm_free gU gL xU xF xT mS.toNat h u mi) 0 ls (Nat.lt_succ_self _) rfl (by omega) (by simp [fm_all]) (lv_sub hl [1, 0, 2, 3, 4, 5] rfl)

set_option maxHeartbeats 4000000 in
set_option maxRecDepth 100000 in
theorem c_M_isFrozen (l : Launch) (dC : Nat → ClassId) (dI : Nat → Nat → Nat) (mm : Nat) (th : Int) (mO : Int) (mg : Nat) (md : Nat) (mH : Int) (ml : Nat) (mu : Nat) (mp : Nat) (ud : Bool) (cs : Int) (mS : Int) (xu : Nat) (xf : Nat) (xt : Nat) (mW : Int) (mF : Int) (rn : Bool) (sp : Bool) (nd : Int) (rd : Int) (li : Int) (pz : Nat) (lt : Int) (gP : Nat → Int) (kI : ClassId) (h : Int) (hgP : ∀ j, -1 ≤ gP j ∧ gP j ≤ 60) (g1 : 0 ≤ h) (g2 : h < 6) (g3 : 0 ≤ mW) (g4 : mW ≤ 60) (g5 : 0 ≤ mF) (g6 : mF ≤ 60) : Met l y_M_isFrozen (Cond.code y_M_isFrozen b_M_isFrozen 2 (some .boolean) :: gw) ({ frames := 0, locals := 0, cells := 0, slots := 0 }) (fw_Pr (dC, dI) [.ref mm, .int (iI (h))] [(mm, .inr (4, [.int (iI (th)), .int (iI (mO)), .ref mg, .ref md, .int (iI (mH)), .ref ml, .ref mu, .ref mp, .int (bI (ud)), .int (iI (cs)), .int (iI (mS)), .ref xu, .ref xf, .ref xt, .int (iI (mW)), .int (iI (mF)), .int (bI (rn)), .int (bI (sp)), .int (iI (nd)), .int (iI (rd)), .int (iI (li)), .ref pz, .int (iI (lt))])), (mp, fw_a kI 144 (gP))] [(kI, .int)]) (fw_Rv (.int (bI (decide (gP (3 * h.toNat + 1) < mW + mF))))) 0 0 (fun _ => False) := by
  refine fw_ofR (by decide) (Nat.le_of_ble_eq_true rfl) ?_
  intro p e s m below meth c ls hx hb hr hts hown hlocks hml hP hK hN hl
  have hl : lv_has ls 2 [(0, .ref mm), (1, .int (iI (h)))] := hl
  have e1 := hgP (3 * h.toNat + 1)
  refine lv_aload_n hx hb d_M_isFrozen_0 rfl (lv_at hl 0 rfl) ?_
  refine va_get (D := (dC, dI)) (ci := 4) (v := .ref mp) (C := R_M) (T := T_M) (N := 23) hx hb hts in_M hown hK hP 0 rfl rfl 7 (by decide) (hts _ kw_578) (fun _ h9 => h9) rfl d_M_isFrozen_1 ?_
  refine lv_iconst (v := (iI (3))) hx hb d_M_isFrozen_4 (by decide) ?_
  refine lv_iload_n hx hb d_M_isFrozen_5 rfl (lv_at hl 1 rfl) ?_
  refine fw_imul hx hb d_M_isFrozen_6 ?_
  refine lv_iconst (v := (iI (1))) hx hb d_M_isFrozen_7 (by decide) ?_
  refine fw_iadd hx hb d_M_isFrozen_8 ?_
  refine fw_iald hx hb hK hP 1 0 rfl rfl (((3 * h.toNat) + 1)) (by omega) (by omega) (by omega) d_M_isFrozen_9 ?_
  refine lv_aload_n hx hb d_M_isFrozen_10 rfl (lv_at hl 0 rfl) ?_
  refine va_get (D := (dC, dI)) (ci := 4) (v := .int (iI (mW))) (C := R_M) (T := T_M) (N := 23) hx hb hts in_M hown hK hP 0 rfl rfl 14 (by decide) (hts _ kw_585) (fun _ h9 => h9) rfl d_M_isFrozen_11 ?_
  refine lv_aload_n hx hb d_M_isFrozen_14 rfl (lv_at hl 0 rfl) ?_
  refine va_get (D := (dC, dI)) (ci := 4) (v := .int (iI (mF))) (C := R_M) (T := T_M) (N := 23) hx hb hts in_M hown hK hP 0 rfl rfl 15 (by decide) (hts _ kw_586) (fun _ h9 => h9) rfl d_M_isFrozen_15 ?_
  refine fw_iadd hx hb d_M_isFrozen_18 ?_
  refine fw_icmp_ge (tgt := 26) hx hb d_M_isFrozen_19 (by decide) ⟨by omega, by omega⟩ ⟨by omega, by omega⟩ (fun c_1 => ?_) (fun c_1 => ?_)
  · refine lv_iconst (v := (bI (false))) hx hb d_M_isFrozen_26 (by decide) ?_
    refine fw_Rzret hx hb hr hlocks ?_ d_M_isFrozen_27
    · simp [c_1] <;> omega
  · refine lv_iconst (v := (bI (true))) hx hb d_M_isFrozen_22 (by decide) ?_
    refine lv_goto (tgt := 27) hx hb d_M_isFrozen_23 (by decide) ?_
    refine fw_Rzret hx hb hr hlocks ?_ d_M_isFrozen_27
    · simp [c_1] <;> omega

set_option maxHeartbeats 4000000 in
set_option maxRecDepth 100000 in
theorem c_M_costOf (l : Launch) (dC : Nat → ClassId) (dI : Nat → Nat → Nat) (mm : Nat) (th : Int) (mO : Int) (mg : Nat) (md : Nat) (mH : Int) (ml : Nat) (mu : Nat) (mp : Nat) (ud : Bool) (cs : Int) (mS : Int) (xu : Nat) (xf : Nat) (xt : Nat) (mW : Int) (mF : Int) (rn : Bool) (sp : Bool) (nd : Int) (rd : Int) (li : Int) (pz : Nat) (lt : Int) (gD : Nat → Int) (gL : Nat → Int) (gP : Nat → Int) (kI : ClassId) (zp : Int) (h : Int) (hgP : ∀ j, -1 ≤ gP j ∧ gP j ≤ 60) (hgL : ∀ j, 0 ≤ gL j ∧ gL j ≤ 20) (g1 : 0 ≤ h) (g2 : h < 6) (g3 : 0 ≤ zp) (g4 : zp ≤ 126) (g5 : 0 ≤ gP (zp.toNat + 3 * h.toNat + 2)) (g6 : gP (zp.toNat + 3 * h.toNat + 2) < 8) (g7 : ∀ j, -1000 ≤ gD j ∧ gD j ≤ 1000) : Met l y_M_costOf (Cond.code y_M_costOf b_M_costOf 4 (some .int) :: gw) ({ frames := 0, locals := 0, cells := 0, slots := 0 }) (fw_Pr (dC, dI) [.ref mm, .int (iI (zp)), .int (iI (h))] [(mm, .inr (4, [.int (iI (th)), .int (iI (mO)), .ref mg, .ref md, .int (iI (mH)), .ref ml, .ref mu, .ref mp, .int (bI (ud)), .int (iI (cs)), .int (iI (mS)), .ref xu, .ref xf, .ref xt, .int (iI (mW)), .int (iI (mF)), .int (bI (rn)), .int (bI (sp)), .int (iI (nd)), .int (iI (rd)), .int (iI (li)), .ref pz, .int (iI (lt))])), (ml, fw_a kI 6 (gL)), (md, fw_a kI 8 (gD)), (mp, fw_a kI 144 (gP))] [(kI, .int)]) (fw_Rv (.int (iI (fm_late gP gL gD zp.toNat h.toNat)))) 0 0 (fun _ => False) := by
  refine fw_ofR (by decide) (Nat.le_of_ble_eq_true rfl) ?_
  intro p e s m below meth c ls hx hb hr hts hown hlocks hml hP hK hN hl
  have hl : lv_has ls 4 [(0, .ref mm), (1, .int (iI (zp))), (2, .int (iI (h)))] := hl
  have e1 := hgP (zp.toNat + 3 * h.toNat + 1)
  have e2 := hgL h.toNat
  have e3 := g7 (gP (zp.toNat + 3 * h.toNat + 2)).toNat
  refine lv_aload_n hx hb d_M_costOf_0 rfl (lv_at hl 0 rfl) ?_
  refine va_get (D := (dC, dI)) (ci := 4) (v := .ref mp) (C := R_M) (T := T_M) (N := 23) hx hb hts in_M hown hK hP 0 rfl rfl 7 (by decide) (hts _ kw_578) (fun _ h9 => h9) rfl d_M_costOf_1 ?_
  refine lv_iload_n hx hb d_M_costOf_4 rfl (lv_at hl 1 rfl) ?_
  refine lv_iconst (v := (iI (3))) hx hb d_M_costOf_5 (by decide) ?_
  refine lv_iload_n hx hb d_M_costOf_6 rfl (lv_at hl 2 rfl) ?_
  refine fw_imul hx hb d_M_costOf_7 ?_
  refine fw_iadd hx hb d_M_costOf_8 ?_
  refine lv_iconst (v := (iI (1))) hx hb d_M_costOf_9 (by decide) ?_
  refine fw_iadd hx hb d_M_costOf_10 ?_
  refine fw_iald hx hb hK hP 3 0 rfl rfl (((zp.toNat + (3 * h.toNat)) + 1)) (by omega) (by omega) (by omega) d_M_costOf_11 ?_
  refine lv_aload_n hx hb d_M_costOf_12 rfl (lv_at hl 0 rfl) ?_
  refine va_get (D := (dC, dI)) (ci := 4) (v := .ref ml) (C := R_M) (T := T_M) (N := 23) hx hb hts in_M hown hK hP 0 rfl rfl 5 (by decide) (hts _ kw_576) (fun _ h9 => h9) rfl d_M_costOf_13 ?_
  refine lv_iload_n hx hb d_M_costOf_16 rfl (lv_at hl 2 rfl) ?_
  refine fw_iald hx hb hK hP 1 0 rfl rfl (h.toNat) (by omega) (by omega) (by omega) d_M_costOf_17 ?_
  refine fw_iadd hx hb d_M_costOf_18 ?_
  refine lv_aload_n hx hb d_M_costOf_19 rfl (lv_at hl 0 rfl) ?_
  refine va_get (D := (dC, dI)) (ci := 4) (v := .ref md) (C := R_M) (T := T_M) (N := 23) hx hb hts in_M hown hK hP 0 rfl rfl 3 (by decide) (hts _ kw_574) (fun _ h9 => h9) rfl d_M_costOf_20 ?_
  refine lv_aload_n hx hb d_M_costOf_23 rfl (lv_at hl 0 rfl) ?_
  refine va_get (D := (dC, dI)) (ci := 4) (v := .ref mp) (C := R_M) (T := T_M) (N := 23) hx hb hts in_M hown hK hP 0 rfl rfl 7 (by decide) (hts _ kw_578) (fun _ h9 => h9) rfl d_M_costOf_24 ?_
  refine lv_iload_n hx hb d_M_costOf_27 rfl (lv_at hl 1 rfl) ?_
  refine lv_iconst (v := (iI (3))) hx hb d_M_costOf_28 (by decide) ?_
  refine lv_iload_n hx hb d_M_costOf_29 rfl (lv_at hl 2 rfl) ?_
  refine fw_imul hx hb d_M_costOf_30 ?_
  refine fw_iadd hx hb d_M_costOf_31 ?_
  refine lv_iconst (v := (iI (2))) hx hb d_M_costOf_32 (by decide) ?_
  refine fw_iadd hx hb d_M_costOf_33 ?_
  refine fw_iald hx hb hK hP 3 0 rfl rfl (((zp.toNat + (3 * h.toNat)) + 2)) (by omega) (by omega) (by omega) d_M_costOf_34 ?_
  refine fw_iald hx hb hK hP 2 0 rfl rfl ((gP ((zp.toNat + (3 * h.toNat)) + 2)).toNat) (by omega) (by omega) (by omega) d_M_costOf_35 ?_
  refine fw_isub hx hb d_M_costOf_36 ?_
  refine lv_istore_n (lv' := [(3, .int (iI (((gP ((zp.toNat + (3 * h.toNat)) + 1)) + (gL h.toNat)) - (gD ((gP ((zp.toNat + (3 * h.toNat)) + 2)).toNat))))), (0, .ref mm), (1, .int (iI (zp))), (2, .int (iI (h)))]) hx hb d_M_costOf_37 rfl hl (by decide) rfl (fun ls hl => ?_)
  refine lv_iload_n hx hb d_M_costOf_38 rfl (lv_at hl 0 rfl) ?_
  refine fw_if_le (tgt := 46) hx hb d_M_costOf_39 (by decide) ⟨by omega, by omega⟩ (fun c_1 => ?_) (fun c_1 => ?_)
  · refine lv_iconst (v := (iI (0))) hx hb d_M_costOf_46 (by decide) ?_
    refine fw_Riret hx hb hr hlocks ?_ d_M_costOf_47
    · unfold fm_late; congr 1; omega
  · refine lv_iload_n hx hb d_M_costOf_42 rfl (lv_at hl 0 rfl) ?_
    refine lv_goto (tgt := 47) hx hb d_M_costOf_43 (by decide) ?_
    refine fw_Riret hx hb hr hlocks ?_ d_M_costOf_47
    · unfold fm_late; congr 1; omega

set_option maxHeartbeats 4000000 in
set_option maxRecDepth 100000 in
theorem c_M_costPlaced (l : Launch) (dC : Nat → ClassId) (dI : Nat → Nat → Nat) (mm : Nat) (th : Int) (mO : Int) (mg : Nat) (md : Nat) (mH : Int) (ml : Nat) (mu : Nat) (mp : Nat) (ud : Bool) (cs : Int) (mS : Int) (xu : Nat) (xf : Nat) (xt : Nat) (mW : Int) (mF : Int) (rn : Bool) (sp : Bool) (nd : Int) (rd : Int) (li : Int) (pz : Nat) (lt : Int) (gD : Nat → Int) (gL : Nat → Int) (gP : Nat → Int) (gZ : Nat → Bool) (kI : ClassId) (kZ : ClassId) (hgP : ∀ j, -1 ≤ gP j ∧ gP j ≤ 60) (hgL : ∀ j, 0 ≤ gL j ∧ gL j ≤ 20) (hgD : ∀ j, -1000 ≤ gD j ∧ gD j ≤ 1000) (ht2 : ∀ j : Nat, (j : Int) < mH → 0 ≤ gP (18 + 3 * j + 2) ∧ gP (18 + 3 * j + 2) < 8) (m1 : 0 ≤ mH) (m2 : mH ≤ 6) : Met l y_M_costPlaced (Cond.code y_M_costPlaced b_M_costPlaced 3 (some .int) :: gw) ({ frames := 1, locals := 23, cells := 0, slots := 0 }) (fw_Pr (dC, dI) [.ref mm] [(mm, .inr (4, [.int (iI (th)), .int (iI (mO)), .ref mg, .ref md, .int (iI (mH)), .ref ml, .ref mu, .ref mp, .int (bI (ud)), .int (iI (cs)), .int (iI (mS)), .ref xu, .ref xf, .ref xt, .int (iI (mW)), .int (iI (mF)), .int (bI (rn)), .int (bI (sp)), .int (iI (nd)), .int (iI (rd)), .int (iI (li)), .ref pz, .int (iI (lt))])), (ml, fw_a kI 6 (gL)), (md, fw_a kI 8 (gD)), (mp, fw_a kI 144 (gP)), (pz, fw_z kZ 6 (gZ))] [(kI, .int), (kZ, .boolean)]) (fw_Rv (.int (iI (fc_sum (fm_cP gP gL gD gZ) mH.toNat)))) 0 0 (fun _ => False) := by
  refine fw_ofR (by decide) (Nat.le_of_ble_eq_true rfl) ?_
  intro p e s m below meth c ls hx hb hr hts hown hlocks hml hP hK hN hl
  have hl : lv_has ls 3 [(0, .ref mm)] := hl
  refine lv_iconst (v := (iI (0))) hx hb d_M_costPlaced_0 (by decide) ?_
  refine lv_istore_n (lv' := [(1, .int (iI (0))), (0, .ref mm)]) hx hb d_M_costPlaced_1 rfl hl (by decide) rfl (fun ls hl => ?_)
  refine lv_iconst (v := (iI (0))) hx hb d_M_costPlaced_2 (by decide) ?_
  refine lv_istore_n (lv' := [(2, .int (iI (0))), (1, .int (iI (0))), (0, .ref mm)]) hx hb d_M_costPlaced_3 rfl hl (by decide) rfl (fun ls hl => ?_)
  have hlp_4 : ∀ (n : Nat) (i : Nat) (z1 : Int) (z2 : Int) (ls : Array Slot), (mH.toNat - i) < n → (z2 = (i : Int)) → ((i : Int) ≤ mH) → (z1 = fc_sum (fm_cP gP gL gD gZ) i) → lv_has ls 3 [(1, .int (iI (z1))), (2, .int (iI (z2))), (0, .ref mm)] → W p l e ({ frames := 1, locals := 23, cells := 0, slots := 0 }) s m ([.ref mm] : List Value).toArray below meth c s.heap [] 0 0 (MQ below (fw_Rv (.int (iI (fc_sum (fm_cP gP gL gD gZ) mH.toNat)))) ([.ref mm] : List Value).toArray s 0 0 (fun _ => False)) (F0 m 4 ls []) := by
    intro n_4
    induction n_4 with
    | zero => intro i z1 z2 ls hms; exact absurd hms (Nat.not_lt_zero _)
    | succ n_4 ih_4 =>
      intro i z1 z2 ls hms_4 hz hi hs hl
      refine lv_iload_n hx hb d_M_costPlaced_4 rfl (lv_at hl 1 rfl) ?_
      refine lv_aload_n hx hb d_M_costPlaced_5 rfl (lv_at hl 2 rfl) ?_
      refine va_get (D := (dC, dI)) (ci := 4) (v := .int (iI (mH))) (C := R_M) (T := T_M) (N := 23) hx hb hts in_M hown hK hP 0 rfl rfl 4 (by decide) (hts _ kw_575) (fun _ h9 => h9) rfl d_M_costPlaced_6 ?_
      refine fw_icmp_ge (tgt := 41) hx hb d_M_costPlaced_9 (by decide) ⟨by omega, by omega⟩ ⟨by omega, by omega⟩ (fun c_1 => ?_) (fun c_1 => ?_)
      · refine lv_iload_n hx hb d_M_costPlaced_41 rfl (lv_at hl 0 rfl) ?_
        refine fw_Riret hx hb hr hlocks ?_ d_M_costPlaced_42
        · rw [hs, show i = mH.toNat by omega]
      · have q3 : z2.toNat = i := by omega
        have q4 := ht2 i (by omega)
        refine lv_iload_n hx hb d_M_costPlaced_12 rfl (lv_at hl 0 rfl) ?_
        refine lv_aload_n hx hb d_M_costPlaced_13 rfl (lv_at hl 2 rfl) ?_
        refine va_get (D := (dC, dI)) (ci := 4) (v := .ref pz) (C := R_M) (T := T_M) (N := 23) hx hb hts in_M hown hK hP 0 rfl rfl 21 (by decide) (hts _ kw_592) (fun _ h9 => h9) rfl d_M_costPlaced_14 ?_
        refine lv_iload_n hx hb d_M_costPlaced_17 rfl (lv_at hl 1 rfl) ?_
        refine fw_zald hx hb hK hP 4 1 rfl rfl (i) (by omega) (by omega) (by omega) d_M_costPlaced_18 ?_
        refine fw_bif_eq (tgt := 32) hx hb d_M_costPlaced_19 (by decide) (fun c_2 => ?_) (fun c_2 => ?_)
        · refine lv_iconst (v := (iI (0))) hx hb d_M_costPlaced_32 (by decide) ?_
          refine fw_iadd hx hb d_M_costPlaced_33 ?_
          refine lv_istore_n (lv' := [(1, .int (iI (z1 + 0))), (2, .int (iI (z2))), (0, .ref mm)]) hx hb d_M_costPlaced_34 rfl hl (by decide) rfl (fun ls hl => ?_)
          refine lv_iinc (v := iI (z2 + 1)) (lv' := [(2, .int (iI (z2 + 1))), (1, .int (iI (z1 + 0))), (0, .ref mm)]) hx hb d_M_costPlaced_35 hl (k := 1) rfl (by rw [show Int32.ofInt 1 = iI 1 from rfl, iI_add]) (by decide) rfl (fun ls hl => ?_)
          refine lv_goto (tgt := 4) hx hb d_M_costPlaced_38 (by decide) ?_
          exact ih_4 (i + 1) (z1 + 0) (z2 + 1) ls (by omega) (by omega) (by omega) (by subst hz; rw [hs]; show _ = fc_sum _ i + fm_cP gP gL gD gZ i; unfold fm_cP; simp only [c_2]; rfl) (lv_sub hl [1, 0, 2] rfl)
        · refine lv_aload_n hx hb d_M_costPlaced_22 rfl (lv_at hl 2 rfl) ?_
          refine lv_bipush (v := (iI (18))) hx hb d_M_costPlaced_23 (by decide) ?_
          refine lv_iload_n hx hb d_M_costPlaced_25 rfl (lv_at hl 1 rfl) ?_
          refine fw_callR (va_runV (As := [.int (iI (18)), .int (iI (z2))]) (rest := [.int (iI (z1))]) ⟨hx, hb, hml, hown, hts⟩ (c_M_costOf l dC dI  mm th mO mg md mH ml mu mp ud cs mS xu xf xt mW mF rn sp nd rd li pz lt gD gL gP kI 18 z2 hgP hgL (by omega) (by omega) (by omega) (by omega) (by rw [q3]; exact q4.1) (by rw [q3]; exact q4.2) hgD) (cwV 2 hts (gw_V kw_728 kw_730 ks_M_costOf kw_5 kw_731) rfl rfl rfl (by decide +kernel) ⟨Nat.le_of_ble_eq_true rfl, Nat.le_of_ble_eq_true rfl⟩) (fw_preRV (ci := 4) (q0 := 0) hP hK hN [0, 1, 2, 3] [0] rfl rfl rfl rfl) rfl rfl hl.1 rfl (lv_room (Nat.le_of_ble_eq_true rfl)) d_M_costPlaced_26 ⟨Nat.le_of_ble_eq_true rfl, Nat.le_of_ble_eq_true rfl⟩).run ?_
          refine lv_goto (tgt := 33) hx hb d_M_costPlaced_29 (by decide) ?_
          refine fw_iadd hx hb d_M_costPlaced_33 ?_
          refine lv_istore_n (lv' := [(1, .int (iI (z1 + (fm_late gP gL gD (18 : Int).toNat z2.toNat)))), (2, .int (iI (z2))), (0, .ref mm)]) hx hb d_M_costPlaced_34 rfl hl (by decide) rfl (fun ls hl => ?_)
          refine lv_iinc (v := iI (z2 + 1)) (lv' := [(2, .int (iI (z2 + 1))), (1, .int (iI (z1 + (fm_late gP gL gD (18 : Int).toNat z2.toNat)))), (0, .ref mm)]) hx hb d_M_costPlaced_35 hl (k := 1) rfl (by rw [show Int32.ofInt 1 = iI 1 from rfl, iI_add]) (by decide) rfl (fun ls hl => ?_)
          refine lv_goto (tgt := 4) hx hb d_M_costPlaced_38 (by decide) ?_
          exact ih_4 (i + 1) (z1 + (fm_late gP gL gD (18 : Int).toNat z2.toNat)) (z2 + 1) ls (by omega) (by omega) (by omega) (by subst hz; rw [hs]; show _ = fc_sum _ i + fm_cP gP gL gD gZ i; unfold fm_cP; simp only [c_2]; rfl) (lv_sub hl [1, 0, 2] rfl)
  exact hlp_4 ((mH.toNat - 0) + 1) 0 0 0 ls (Nat.lt_succ_self _) rfl (by omega) rfl (lv_sub hl [1, 0, 2] rfl)

set_option maxHeartbeats 4000000 in
set_option maxRecDepth 100000 in
theorem c_M_after (l : Launch) (dC : Nat → ClassId) (dI : Nat → Nat → Nat) (se : Int) (h : Int) (g1 : 0 ≤ se) (g2 : se < 64) (g3 : -1 ≤ h) (g4 : h < 6) : Met l y_M_after (Cond.code y_M_after b_M_after 3 (some .int) :: gw) ({ frames := 0, locals := 0, cells := 0, slots := 0 }) (fw_Pr (dC, dI) [.int (iI (se)), .int (iI (h))] [] []) (fw_Rv (.int (iI (fc_find (fc_bit se) (6 - (h + 1).toNat) (h + 1).toNat)))) 0 0 (fun _ => False) := by
  refine fw_ofR (by decide) (Nat.le_of_ble_eq_true rfl) ?_
  intro p e s m below meth c ls hx hb hr hts hown hlocks hml hP hK hN hl
  have hl : lv_has ls 3 [(0, .int (iI (se))), (1, .int (iI (h)))] := hl
  refine lv_iload_n hx hb d_M_after_0 rfl (lv_at hl 1 rfl) ?_
  refine lv_iconst (v := (iI (1))) hx hb d_M_after_1 (by decide) ?_
  refine fw_iadd hx hb d_M_after_2 ?_
  refine lv_istore_n (lv' := [(2, .int (iI (h + 1))), (0, .int (iI (se))), (1, .int (iI (h)))]) hx hb d_M_after_3 rfl hl (by decide) rfl (fun ls hl => ?_)
  have hlp_4 : ∀ (n : Nat) (i : Nat) (z2 : Int) (ls : Array Slot), (6 - i) < n → (z2 = (i : Int)) → (i ≤ 6) → (fc_find (fc_bit se) (6 - (h + 1).toNat) (h + 1).toNat = fc_find (fc_bit se) (6 - i) i) → lv_has ls 3 [(2, .int (iI (z2))), (0, .int (iI (se))), (1, .int (iI (h)))] → W p l e ({ frames := 0, locals := 0, cells := 0, slots := 0 }) s m ([.int (iI (se)), .int (iI (h))] : List Value).toArray below meth c s.heap [] 0 0 (MQ below (fw_Rv (.int (iI (fc_find (fc_bit se) (6 - (h + 1).toNat) (h + 1).toNat)))) ([.int (iI (se)), .int (iI (h))] : List Value).toArray s 0 0 (fun _ => False)) (F0 m 4 ls []) := by
    intro n_4
    induction n_4 with
    | zero => intro i z2 ls hms; exact absurd hms (Nat.not_lt_zero _)
    | succ n_4 ih_4 =>
      intro i z2 ls hms_4 hz hi hf hl
      refine lv_iload_n hx hb d_M_after_4 rfl (lv_at hl 0 rfl) ?_
      refine lv_bipush (v := (iI (6))) hx hb d_M_after_5 (by decide) ?_
      refine fw_icmp_ge (tgt := 24) hx hb d_M_after_7 (by decide) ⟨by omega, by omega⟩ ⟨by omega, by omega⟩ (fun c_1 => ?_) (fun c_1 => ?_)
      · refine lv_iload_n hx hb d_M_after_24 rfl (lv_at hl 0 rfl) ?_
        refine lv_bipush (v := (iI (6))) hx hb d_M_after_25 (by decide) ?_
        refine fw_icmp_ge (tgt := 34) hx hb d_M_after_27 (by decide) ⟨by omega, by omega⟩ ⟨by omega, by omega⟩ (fun c_2 => ?_) (fun c_2 => ?_)
        · refine lv_iconst (v := (iI (-1))) hx hb d_M_after_34 (by decide) ?_
          refine fw_Riret hx hb hr hlocks ?_ d_M_after_35
          · first | (rw [hf, show 6 - i = 0 by omega]; rfl) | (rw [hf, show 6 - i = (6 - (i + 1)) + 1 by omega]; simp only [fc_find]; rw [if_pos (by simp only [fc_bit, decide_eq_true_eq]; omega), hz]) | (exfalso; omega)
        · refine lv_iload_n hx hb d_M_after_30 rfl (lv_at hl 0 rfl) ?_
          refine lv_goto (tgt := 35) hx hb d_M_after_31 (by decide) ?_
          refine fw_Riret hx hb hr hlocks ?_ d_M_after_35
          · first | (rw [hf, show 6 - i = 0 by omega]; rfl) | (rw [hf, show 6 - i = (6 - (i + 1)) + 1 by omega]; simp only [fc_find]; rw [if_pos (by simp only [fc_bit, decide_eq_true_eq]; omega), hz]) | (exfalso; omega)
      · refine lv_iload_n hx hb d_M_after_10 rfl (lv_at hl 1 rfl) ?_
        refine lv_iload_n hx hb d_M_after_11 rfl (lv_at hl 0 rfl) ?_
        refine lv_ishr hx hb d_M_after_12 ?_
        refine fw_cast (show (.int ((iI (se)) >>> ((iI (z2)) &&& 31)) : Value) = .int (iI (se / 2 ^ i)) from congrArg Value.int (iI_shr g1 (by omega) hz (by omega))) ?_
        refine lv_iconst (v := (iI (1))) hx hb d_M_after_13 (by decide) ?_
        refine lv_iand hx hb d_M_after_14 ?_
        refine fw_cast (show (.int ((iI (se / 2 ^ i)) &&& (iI (1))) : Value) = .int (iI (se / 2 ^ i % 2)) from congrArg Value.int (iI_and1 (fw_divb (k := i) g1 (by omega)).1 (fw_divb (k := i) g1 (by omega)).2)) ?_
        have hdv := fw_divb (k := i) g1 (show se < 2147483648 by omega)
        refine fw_if_ne (tgt := 24) hx hb d_M_after_15 (by decide) ⟨by omega, by omega⟩ (fun c_3 => ?_) (fun c_3 => ?_)
        · refine lv_iload_n hx hb d_M_after_24 rfl (lv_at hl 0 rfl) ?_
          refine lv_bipush (v := (iI (6))) hx hb d_M_after_25 (by decide) ?_
          refine fw_icmp_ge (tgt := 34) hx hb d_M_after_27 (by decide) ⟨by omega, by omega⟩ ⟨by omega, by omega⟩ (fun c_4 => ?_) (fun c_4 => ?_)
          · refine lv_iconst (v := (iI (-1))) hx hb d_M_after_34 (by decide) ?_
            refine fw_Riret hx hb hr hlocks ?_ d_M_after_35
            · first | (rw [hf, show 6 - i = 0 by omega]; rfl) | (rw [hf, show 6 - i = (6 - (i + 1)) + 1 by omega]; simp only [fc_find]; rw [if_pos (by simp only [fc_bit, decide_eq_true_eq]; omega), hz]) | (exfalso; omega)
          · refine lv_iload_n hx hb d_M_after_30 rfl (lv_at hl 0 rfl) ?_
            refine lv_goto (tgt := 35) hx hb d_M_after_31 (by decide) ?_
            refine fw_Riret hx hb hr hlocks ?_ d_M_after_35
            · first | (rw [hf, show 6 - i = 0 by omega]; rfl) | (rw [hf, show 6 - i = (6 - (i + 1)) + 1 by omega]; simp only [fc_find]; rw [if_pos (by simp only [fc_bit, decide_eq_true_eq]; omega), hz]) | (exfalso; omega)
        · refine lv_iinc (v := iI (z2 + 1)) (lv' := [(2, .int (iI (z2 + 1))), (0, .int (iI (se))), (1, .int (iI (h)))]) hx hb d_M_after_18 hl (k := 0) rfl (by rw [show Int32.ofInt 1 = iI 1 from rfl, iI_add]) (by decide) rfl (fun ls hl => ?_)
          refine lv_goto (tgt := 4) hx hb d_M_after_21 (by decide) ?_
          exact ih_4 (i + 1) (z2 + 1) ls (by omega) (by omega) (by omega) (by rw [hf, show 6 - i = (6 - (i + 1)) + 1 by omega]; simp only [fc_find]; rw [if_neg]; simp only [fc_bit, decide_eq_true_eq]; omega) (lv_sub hl [0, 1, 2] rfl)
  exact hlp_4 ((6 - ((h + 1).toNat)) + 1) ((h + 1).toNat) (h + 1) ls (Nat.lt_succ_self _) (by omega) (by omega) rfl (lv_sub hl [0, 1, 2] rfl)

set_option maxHeartbeats 4000000 in
set_option maxRecDepth 100000 in
theorem c_M_ahead (l : Launch) (dC : Nat → ClassId) (dI : Nat → Nat → Nat) (se : Int) (h : Int) (g1 : 0 ≤ se) (g2 : se < 64) (g3 : 0 ≤ h) (g4 : h < 6) : Met l y_M_ahead (Cond.code y_M_ahead b_M_ahead 3 (some .int) :: gw) ({ frames := 0, locals := 0, cells := 0, slots := 0 }) (fw_Pr (dC, dI) [.int (iI (se)), .int (iI (h))] [] []) (fw_Rv (.int (iI (fm_prev (fc_bit se) h.toNat)))) 0 0 (fun _ => False) := by
  refine fw_ofR (by decide) (Nat.le_of_ble_eq_true rfl) ?_
  intro p e s m below meth c ls hx hb hr hts hown hlocks hml hP hK hN hl
  have hl : lv_has ls 3 [(0, .int (iI (se))), (1, .int (iI (h)))] := hl
  refine lv_iload_n hx hb d_M_ahead_0 rfl (lv_at hl 1 rfl) ?_
  refine lv_iconst (v := (iI (1))) hx hb d_M_ahead_1 (by decide) ?_
  refine fw_isub hx hb d_M_ahead_2 ?_
  refine lv_istore_n (lv' := [(2, .int (iI (h - 1))), (0, .int (iI (se))), (1, .int (iI (h)))]) hx hb d_M_ahead_3 rfl hl (by decide) rfl (fun ls hl => ?_)
  have hlp_4 : ∀ (n : Nat) (i : Nat) (z2 : Int) (ls : Array Slot), i < n → (z2 = (i : Int) - 1) → (i ≤ 6) → (fm_prev (fc_bit se) h.toNat = fm_prev (fc_bit se) i) → lv_has ls 3 [(2, .int (iI (z2))), (0, .int (iI (se))), (1, .int (iI (h)))] → W p l e ({ frames := 0, locals := 0, cells := 0, slots := 0 }) s m ([.int (iI (se)), .int (iI (h))] : List Value).toArray below meth c s.heap [] 0 0 (MQ below (fw_Rv (.int (iI (fm_prev (fc_bit se) h.toNat)))) ([.int (iI (se)), .int (iI (h))] : List Value).toArray s 0 0 (fun _ => False)) (F0 m 4 ls []) := by
    intro n_4
    induction n_4 with
    | zero => intro i z2 ls hms; exact absurd hms (Nat.not_lt_zero _)
    | succ n_4 ih_4 =>
      intro i z2 ls hms_4 hz hi hf hl
      refine lv_iload_n hx hb d_M_ahead_4 rfl (lv_at hl 0 rfl) ?_
      refine fw_if_lt (tgt := 22) hx hb d_M_ahead_5 (by decide) ⟨by omega, by omega⟩ (fun c_1 => ?_) (fun c_1 => ?_)
      · refine lv_iload_n hx hb d_M_ahead_22 rfl (lv_at hl 0 rfl) ?_
        refine fw_Riret hx hb hr hlocks ?_ d_M_ahead_23
        · first | (rw [hf, show i = 0 by omega, hz]; show iI _ = iI (-1); congr 1; omega) | (rw [hf]; obtain ⟨k, rfl⟩ : ∃ k, i = k + 1 := ⟨i - 1, by omega⟩; have e8 : k + 1 - 1 = k := rfl; rw [e8] at c_1; simp only [fm_prev]; rw [if_pos (by simp only [fc_bit, decide_eq_true_eq]; omega), hz]; congr 1; omega)
      · refine lv_iload_n hx hb d_M_ahead_8 rfl (lv_at hl 1 rfl) ?_
        refine lv_iload_n hx hb d_M_ahead_9 rfl (lv_at hl 0 rfl) ?_
        refine lv_ishr hx hb d_M_ahead_10 ?_
        refine fw_cast (show (.int ((iI (se)) >>> ((iI (z2)) &&& 31)) : Value) = .int (iI (se / 2 ^ (i - 1))) from congrArg Value.int (iI_shr g1 (by omega) (by omega) (by omega))) ?_
        refine lv_iconst (v := (iI (1))) hx hb d_M_ahead_11 (by decide) ?_
        refine lv_iand hx hb d_M_ahead_12 ?_
        refine fw_cast (show (.int ((iI (se / 2 ^ (i - 1))) &&& (iI (1))) : Value) = .int (iI (se / 2 ^ (i - 1) % 2)) from congrArg Value.int (iI_and1 (fw_divb (k := i - 1) g1 (by omega)).1 (fw_divb (k := i - 1) g1 (by omega)).2)) ?_
        have hdv := fw_divb (k := i - 1) g1 (show se < 2147483648 by omega)
        refine fw_if_ne (tgt := 22) hx hb d_M_ahead_13 (by decide) ⟨by omega, by omega⟩ (fun c_2 => ?_) (fun c_2 => ?_)
        · refine lv_iload_n hx hb d_M_ahead_22 rfl (lv_at hl 0 rfl) ?_
          refine fw_Riret hx hb hr hlocks ?_ d_M_ahead_23
          · first | (rw [hf, show i = 0 by omega, hz]; show iI _ = iI (-1); congr 1; omega) | (rw [hf]; obtain ⟨k, rfl⟩ : ∃ k, i = k + 1 := ⟨i - 1, by omega⟩; have e8 : k + 1 - 1 = k := rfl; rw [e8] at c_2; simp only [fm_prev]; rw [if_pos (by simp only [fc_bit, decide_eq_true_eq]; omega), hz]; congr 1; omega)
        · refine lv_iinc (v := iI (z2 - 1)) (lv' := [(2, .int (iI (z2 - 1))), (0, .int (iI (se))), (1, .int (iI (h)))]) hx hb d_M_ahead_16 hl (k := 0) rfl (by rw [show Int32.ofInt (-1) = iI (-1) from rfl, iI_add]; rfl) (by decide) rfl (fun ls hl => ?_)
          refine lv_goto (tgt := 4) hx hb d_M_ahead_19 (by decide) ?_
          exact ih_4 (i - 1) (z2 - 1) ls (by omega) (by omega) (by omega) (by rw [hf]; obtain ⟨k, rfl⟩ : ∃ k, i = k + 1 := ⟨i - 1, by omega⟩; have e8 : k + 1 - 1 = k := rfl; rw [e8] at c_2 ⊢; simp only [fm_prev]; rw [if_neg (by simp only [fc_bit, decide_eq_true_eq]; omega)]) (lv_sub hl [0, 1, 2] rfl)
  exact hlp_4 (h.toNat + 1) h.toNat (h - 1) ls (Nat.lt_succ_self _) (by omega) (by omega) rfl (lv_sub hl [0, 1, 2] rfl)

set_option maxHeartbeats 4000000 in
set_option maxRecDepth 100000 in
theorem c_M_isOld (l : Launch) (dC : Nat → ClassId) (dI : Nat → Nat → Nat) (mm : Nat) (th : Int) (mO : Int) (mg : Nat) (md : Nat) (mH : Int) (ml : Nat) (mu : Nat) (mp : Nat) (ud : Bool) (cs : Int) (mS : Int) (xu : Nat) (xf : Nat) (xt : Nat) (mW : Int) (mF : Int) (rn : Bool) (sp : Bool) (nd : Int) (rd : Int) (li : Int) (pz : Nat) (lt : Int) (gP : Nat → Int) (kI : ClassId) (h : Int) (zq : Int) (hgP : ∀ j, -1 ≤ gP j ∧ gP j ≤ 60) (g1 : 0 ≤ h) (g2 : h < 6) (hb_zq : fw_b zq) : Met l y_M_isOld (Cond.code y_M_isOld b_M_isOld 3 (some .boolean) :: gw) ({ frames := 0, locals := 0, cells := 0, slots := 0 }) (fw_Pr (dC, dI) [.ref mm, .int (iI (h)), .int (iI (zq))] [(mm, .inr (4, [.int (iI (th)), .int (iI (mO)), .ref mg, .ref md, .int (iI (mH)), .ref ml, .ref mu, .ref mp, .int (bI (ud)), .int (iI (cs)), .int (iI (mS)), .ref xu, .ref xf, .ref xt, .int (iI (mW)), .int (iI (mF)), .int (bI (rn)), .int (bI (sp)), .int (iI (nd)), .int (iI (rd)), .int (iI (li)), .ref pz, .int (iI (lt))])), (mp, fw_a kI 144 (gP))] [(kI, .int)]) (fw_Rv (.int (bI (decide (zq = 60 * gP (3 * h.toNat) + gP (3 * h.toNat + 1)))))) 0 0 (fun _ => False) := by
  refine fw_ofR (by decide) (Nat.le_of_ble_eq_true rfl) ?_
  intro p e s m below meth c ls hx hb hr hts hown hlocks hml hP hK hN hl
  have hl : lv_has ls 3 [(0, .ref mm), (1, .int (iI (h))), (2, .int (iI (zq)))] := hl
  have e1 := hgP (3 * h.toNat)
  have e2 := hgP (3 * h.toNat + 1)
  refine lv_iload_n hx hb d_M_isOld_0 rfl (lv_at hl 2 rfl) ?_
  refine lv_bipush (v := (iI (60))) hx hb d_M_isOld_1 (by decide) ?_
  refine lv_aload_n hx hb d_M_isOld_3 rfl (lv_at hl 0 rfl) ?_
  refine va_get (D := (dC, dI)) (ci := 4) (v := .ref mp) (C := R_M) (T := T_M) (N := 23) hx hb hts in_M hown hK hP 0 rfl rfl 7 (by decide) (hts _ kw_578) (fun _ h9 => h9) rfl d_M_isOld_4 ?_
  refine lv_iconst (v := (iI (3))) hx hb d_M_isOld_7 (by decide) ?_
  refine lv_iload_n hx hb d_M_isOld_8 rfl (lv_at hl 1 rfl) ?_
  refine fw_imul hx hb d_M_isOld_9 ?_
  refine fw_iald hx hb hK hP 1 0 rfl rfl ((3 * h.toNat)) (by omega) (by omega) (by omega) d_M_isOld_10 ?_
  refine fw_imul hx hb d_M_isOld_11 ?_
  refine lv_aload_n hx hb d_M_isOld_12 rfl (lv_at hl 0 rfl) ?_
  refine va_get (D := (dC, dI)) (ci := 4) (v := .ref mp) (C := R_M) (T := T_M) (N := 23) hx hb hts in_M hown hK hP 0 rfl rfl 7 (by decide) (hts _ kw_578) (fun _ h9 => h9) rfl d_M_isOld_13 ?_
  refine lv_iconst (v := (iI (3))) hx hb d_M_isOld_16 (by decide) ?_
  refine lv_iload_n hx hb d_M_isOld_17 rfl (lv_at hl 1 rfl) ?_
  refine fw_imul hx hb d_M_isOld_18 ?_
  refine lv_iconst (v := (iI (1))) hx hb d_M_isOld_19 (by decide) ?_
  refine fw_iadd hx hb d_M_isOld_20 ?_
  refine fw_iald hx hb hK hP 1 0 rfl rfl (((3 * h.toNat) + 1)) (by omega) (by omega) (by omega) d_M_isOld_21 ?_
  refine fw_iadd hx hb d_M_isOld_22 ?_
  refine fw_icmp_ne (tgt := 30) hx hb d_M_isOld_23 (by decide) ⟨by omega, by omega⟩ ⟨by omega, by omega⟩ (fun c_1 => ?_) (fun c_1 => ?_)
  · refine lv_iconst (v := (bI (false))) hx hb d_M_isOld_30 (by decide) ?_
    refine fw_Rzret hx hb hr hlocks ?_ d_M_isOld_31
    · simp [c_1]
  · refine lv_iconst (v := (bI (true))) hx hb d_M_isOld_26 (by decide) ?_
    refine lv_goto (tgt := 31) hx hb d_M_isOld_27 (by decide) ?_
    refine fw_Rzret hx hb hr hlocks ?_ d_M_isOld_31
    · simp [c_1]

set_option maxHeartbeats 4000000 in
set_option maxRecDepth 100000 in
theorem c_M_bits (l : Launch) (dC : Nat → ClassId) (dI : Nat → Nat → Nat) (se : Int) (g1 : 0 ≤ se) (g2 : se < 64) : Met l y_M_bits (Cond.code y_M_bits b_M_bits 3 (some .int) :: gw) ({ frames := 0, locals := 0, cells := 0, slots := 0 }) (fw_Pr (dC, dI) [.int (iI (se))] [] []) (fw_Rv (.int (iI (fc_sum (fun k => se / 2 ^ k % 2) 6)))) 0 0 (fun _ => False) := by
  refine fw_ofR (by decide) (Nat.le_of_ble_eq_true rfl) ?_
  intro p e s m below meth c ls hx hb hr hts hown hlocks hml hP hK hN hl
  have hl : lv_has ls 3 [(0, .int (iI (se)))] := hl
  refine lv_iconst (v := (iI (0))) hx hb d_M_bits_0 (by decide) ?_
  refine lv_istore_n (lv' := [(1, .int (iI (0))), (0, .int (iI (se)))]) hx hb d_M_bits_1 rfl hl (by decide) rfl (fun ls hl => ?_)
  refine lv_iconst (v := (iI (0))) hx hb d_M_bits_2 (by decide) ?_
  refine lv_istore_n (lv' := [(2, .int (iI (0))), (1, .int (iI (0))), (0, .int (iI (se)))]) hx hb d_M_bits_3 rfl hl (by decide) rfl (fun ls hl => ?_)
  have hlp_4 : ∀ (n : Nat) (i : Nat) (z1 : Int) (z2 : Int) (ls : Array Slot), (6 - i) < n → (z2 = (i : Int)) → (i ≤ 6) → (z1 = fc_sum (fun k => se / 2 ^ k % 2) i) → lv_has ls 3 [(1, .int (iI (z1))), (2, .int (iI (z2))), (0, .int (iI (se)))] → W p l e ({ frames := 0, locals := 0, cells := 0, slots := 0 }) s m ([.int (iI (se))] : List Value).toArray below meth c s.heap [] 0 0 (MQ below (fw_Rv (.int (iI (fc_sum (fun k => se / 2 ^ k % 2) 6)))) ([.int (iI (se))] : List Value).toArray s 0 0 (fun _ => False)) (F0 m 4 ls []) := by
    intro n_4
    induction n_4 with
    | zero => intro i z1 z2 ls hms; exact absurd hms (Nat.not_lt_zero _)
    | succ n_4 ih_4 =>
      intro i z1 z2 ls hms_4 hz hi hs hl
      refine lv_iload_n hx hb d_M_bits_4 rfl (lv_at hl 1 rfl) ?_
      refine lv_bipush (v := (iI (6))) hx hb d_M_bits_5 (by decide) ?_
      refine fw_icmp_ge (tgt := 24) hx hb d_M_bits_7 (by decide) ⟨by omega, by omega⟩ ⟨by omega, by omega⟩ (fun c_1 => ?_) (fun c_1 => ?_)
      · refine lv_iload_n hx hb d_M_bits_24 rfl (lv_at hl 0 rfl) ?_
        refine fw_Riret hx hb hr hlocks ?_ d_M_bits_25
        · rw [hs, show i = 6 by omega]
      · refine lv_iload_n hx hb d_M_bits_10 rfl (lv_at hl 0 rfl) ?_
        refine lv_iload_n hx hb d_M_bits_11 rfl (lv_at hl 2 rfl) ?_
        refine lv_iload_n hx hb d_M_bits_12 rfl (lv_at hl 1 rfl) ?_
        refine lv_ishr hx hb d_M_bits_13 ?_
        refine fw_cast (show (.int ((iI (se)) >>> ((iI (z2)) &&& 31)) : Value) = .int (iI (se / 2 ^ i)) from congrArg Value.int (iI_shr g1 (by omega) hz (by omega))) ?_
        refine lv_iconst (v := (iI (1))) hx hb d_M_bits_14 (by decide) ?_
        refine lv_iand hx hb d_M_bits_15 ?_
        refine fw_cast (show (.int ((iI (se / 2 ^ i)) &&& (iI (1))) : Value) = .int (iI (se / 2 ^ i % 2)) from congrArg Value.int (iI_and1 (fw_divb (k := i) g1 (by omega)).1 (fw_divb (k := i) g1 (by omega)).2)) ?_
        refine fw_iadd hx hb d_M_bits_16 ?_
        refine lv_istore_n (lv' := [(1, .int (iI (z1 + (se / 2 ^ i % 2)))), (2, .int (iI (z2))), (0, .int (iI (se)))]) hx hb d_M_bits_17 rfl hl (by decide) rfl (fun ls hl => ?_)
        refine lv_iinc (v := iI (z2 + 1)) (lv' := [(2, .int (iI (z2 + 1))), (1, .int (iI (z1 + (se / 2 ^ i % 2)))), (0, .int (iI (se)))]) hx hb d_M_bits_18 hl (k := 1) rfl (by rw [show Int32.ofInt 1 = iI 1 from rfl, iI_add]) (by decide) rfl (fun ls hl => ?_)
        refine lv_goto (tgt := 4) hx hb d_M_bits_21 (by decide) ?_
        exact ih_4 (i + 1) (z1 + (se / 2 ^ i % 2)) (z2 + 1) ls (by omega) (by omega) (by omega) (by rw [hs]; rfl) (lv_sub hl [1, 0, 2] rfl)
  exact hlp_4 ((6 - 0) + 1) 0 0 0 ls (Nat.lt_succ_self _) rfl (by omega) rfl (lv_sub hl [1, 0, 2] rfl)

set_option maxHeartbeats 4000000 in
set_option maxRecDepth 100000 in
theorem c_M_isKept (l : Launch) (dC : Nat → ClassId) (dI : Nat → Nat → Nat) (mm : Nat) (th : Int) (mO : Int) (mg : Nat) (md : Nat) (mH : Int) (ml : Nat) (mu : Nat) (mp : Nat) (ud : Bool) (cs : Int) (mS : Int) (xu : Nat) (xf : Nat) (xt : Nat) (mW : Int) (mF : Int) (rn : Bool) (sp : Bool) (nd : Int) (rd : Int) (li : Int) (pz : Nat) (lt : Int) (x : Int) (hb_x : fw_b x) (g1 : 0 ≤ cs) (g2 : cs < 16) : Met l y_M_isKept (Cond.code y_M_isKept b_M_isKept 2 (some .boolean) :: gw) ({ frames := 1, locals := 22, cells := 0, slots := 0 }) (fw_Pr (dC, dI) [.ref mm, .int (iI (x))] [(mm, .inr (4, [.int (iI (th)), .int (iI (mO)), .ref mg, .ref md, .int (iI (mH)), .ref ml, .ref mu, .ref mp, .int (bI (ud)), .int (iI (cs)), .int (iI (mS)), .ref xu, .ref xf, .ref xt, .int (iI (mW)), .int (iI (mF)), .int (bI (rn)), .int (bI (sp)), .int (iI (nd)), .int (iI (rd)), .int (iI (li)), .ref pz, .int (iI (lt))]))] []) (fw_Rv (.int (bI (fc_in x 0 3 && fc_bit cs x.toNat)))) 0 0 (fun _ => False) := by
  refine fw_ofR (by decide) (Nat.le_of_ble_eq_true rfl) ?_
  intro p e s m below meth c ls hx hb hr hts hown hlocks hml hP hK hN hl
  have hl : lv_has ls 2 [(0, .ref mm), (1, .int (iI (x)))] := hl
  refine lv_iload_n hx hb d_M_isKept_0 rfl (lv_at hl 1 rfl) ?_
  refine lv_iconst (v := (iI (0))) hx hb d_M_isKept_1 (by decide) ?_
  refine lv_iconst (v := (iI (3))) hx hb d_M_isKept_2 (by decide) ?_
  refine fw_callR (va_runS (As := [.int (iI (x)), .int (iI (0)), .int (iI (3))]) (rest := []) ⟨hx, hb, hml, hown, hts⟩ (c_M_in l dC dI  x 0 3 ⟨by omega, by omega⟩ ⟨by omega, by omega⟩ ⟨by omega, by omega⟩) (cwS 3 hts (gw_S kw_649 kw_650 kw_5 kw_651) rfl rfl rfl (by decide +kernel) ⟨Nat.le_of_ble_eq_true rfl, Nat.le_of_ble_eq_true rfl⟩) (fw_preRS hP hK hN [] [] rfl rfl) rfl rfl hl.1 rfl (lv_room (Nat.le_of_ble_eq_true rfl)) d_M_isKept_3 ⟨Nat.le_of_ble_eq_true rfl, Nat.le_of_ble_eq_true rfl⟩).run ?_
  refine fw_bif_eq (tgt := 25) hx hb d_M_isKept_6 (by decide) (fun c_1 => ?_) (fun c_1 => ?_)
  · refine lv_iconst (v := (bI (false))) hx hb d_M_isKept_25 (by decide) ?_
    refine fw_Rzret hx hb hr hlocks ?_ d_M_isKept_26
    · simp [fc_bit, c_1]
  · have g3 := fc_in_t c_1
    refine lv_aload_n hx hb d_M_isKept_9 rfl (lv_at hl 0 rfl) ?_
    refine va_get (D := (dC, dI)) (ci := 4) (v := .int (iI (cs))) (C := R_M) (T := T_M) (N := 23) hx hb hts in_M hown hK hP 0 rfl rfl 9 (by decide) (hts _ kw_580) (fun _ h9 => h9) rfl d_M_isKept_10 ?_
    refine lv_iload_n hx hb d_M_isKept_13 rfl (lv_at hl 1 rfl) ?_
    refine lv_ishr hx hb d_M_isKept_14 ?_
    refine fw_cast (show (.int ((iI (cs)) >>> ((iI (x)) &&& 31)) : Value) = .int (iI (cs / 2 ^ x.toNat)) from congrArg Value.int (iI_shr g1 (by omega) (by omega) (by omega))) ?_
    refine lv_iconst (v := (iI (1))) hx hb d_M_isKept_15 (by decide) ?_
    refine lv_iand hx hb d_M_isKept_16 ?_
    refine fw_cast (show (.int ((iI (cs / 2 ^ x.toNat)) &&& (iI (1))) : Value) = .int (iI (cs / 2 ^ x.toNat % 2)) from congrArg Value.int (iI_and1 (fw_divb (k := x.toNat) g1 (by omega)).1 (fw_divb (k := x.toNat) g1 (by omega)).2)) ?_
    have hdv := fw_divb (k := x.toNat) g1 (show cs < 2147483648 by omega)
    refine lv_iconst (v := (iI (1))) hx hb d_M_isKept_17 (by decide) ?_
    refine fw_icmp_ne (tgt := 25) hx hb d_M_isKept_18 (by decide) ⟨by omega, by omega⟩ ⟨by omega, by omega⟩ (fun c_2 => ?_) (fun c_2 => ?_)
    · refine lv_iconst (v := (bI (false))) hx hb d_M_isKept_25 (by decide) ?_
      refine fw_Rzret hx hb hr hlocks ?_ d_M_isKept_26
      · simp [fc_bit, c_1, c_2]
    · refine lv_iconst (v := (bI (true))) hx hb d_M_isKept_21 (by decide) ?_
      refine lv_goto (tgt := 26) hx hb d_M_isKept_22 (by decide) ?_
      refine fw_Rzret hx hb hr hlocks ?_ d_M_isKept_26
      · simp [fc_bit, c_1, c_2]

set_option maxHeartbeats 4000000 in
set_option maxRecDepth 100000 in
theorem c_M_keepForUndo (l : Launch) (dC : Nat → ClassId) (dI : Nat → Nat → Nat) (sz : Nat) (mm : Nat) (th : Int) (mO : Int) (mg : Nat) (md : Nat) (mH : Int) (ml : Nat) (mu : Nat) (mp : Nat) (ud : Bool) (cs : Int) (mS : Int) (xu : Nat) (xf : Nat) (xt : Nat) (mW : Int) (mF : Int) (rn : Bool) (sp : Bool) (nd : Int) (rd : Int) (li : Int) (pz : Nat) (lt : Int) (gP : Nat → Int) (kI : ClassId)  : Met l y_M_keepForUndo (Cond.code y_M_keepForUndo b_M_keepForUndo 1 none :: gw) ({ frames := 1, locals := 23, cells := 0, slots := 0 }) (fw_Pc (dC, dI) [.ref mm] [(mm, .inr (4, [.int (iI (th)), .int (iI (mO)), .ref mg, .ref md, .int (iI (mH)), .ref ml, .ref mu, .ref mp, .int (bI (ud)), .int (iI (cs)), .int (iI (mS)), .ref xu, .ref xf, .ref xt, .int (iI (mW)), .int (iI (mF)), .int (bI (rn)), .int (bI (sp)), .int (iI (nd)), .int (iI (rd)), .int (iI (li)), .ref pz, .int (iI (lt))])), (mp, fw_a kI 144 (gP))] [(kI, .int)] sz) (fw_Qv (va_P (dC, dI) cls_ [(mm, .inr (4, [.int (iI (th)), .int (iI (mO)), .ref mg, .ref md, .int (iI (mH)), .ref ml, .ref mu, .ref mp, .int (bI (true)), .int (iI (cs)), .int (iI (mS)), .ref xu, .ref xf, .ref xt, .int (iI (mW)), .int (iI (mF)), .int (bI (rn)), .int (bI (sp)), .int (iI (nd)), .int (iI (rd)), .int (iI (li)), .ref pz, .int (iI (lt))])), (mp, fw_a kI 144 (fm_cp 0 54 gP))]) (va_A [(mm, .inr (4, [.int (iI (th)), .int (iI (mO)), .ref mg, .ref md, .int (iI (mH)), .ref ml, .ref mu, .ref mp, .int (bI (ud)), .int (iI (cs)), .int (iI (mS)), .ref xu, .ref xf, .ref xt, .int (iI (mW)), .int (iI (mF)), .int (bI (rn)), .int (bI (sp)), .int (iI (nd)), .int (iI (rd)), .int (iI (li)), .ref pz, .int (iI (lt))])), (mp, fw_a kI 144 (gP))] sz)) 0 0 (va_A [(mm, .inr (4, [.int (iI (th)), .int (iI (mO)), .ref mg, .ref md, .int (iI (mH)), .ref ml, .ref mu, .ref mp, .int (bI (ud)), .int (iI (cs)), .int (iI (mS)), .ref xu, .ref xf, .ref xt, .int (iI (mW)), .int (iI (mF)), .int (bI (rn)), .int (bI (sp)), .int (iI (nd)), .int (iI (rd)), .int (iI (li)), .ref pz, .int (iI (lt))])), (mp, fw_a kI 144 (gP))] sz) := by
  refine fw_ofW (Qc := fun A => fw_Qv (va_P (dC, dI) cls_ [(mm, .inr (4, [.int (iI (th)), .int (iI (mO)), .ref mg, .ref md, .int (iI (mH)), .ref ml, .ref mu, .ref mp, .int (bI (true)), .int (iI (cs)), .int (iI (mS)), .ref xu, .ref xf, .ref xt, .int (iI (mW)), .int (iI (mF)), .int (bI (rn)), .int (bI (sp)), .int (iI (nd)), .int (iI (rd)), .int (iI (li)), .ref pz, .int (iI (lt))])), (mp, fw_a kI 144 (fm_cp 0 54 gP))]) A) (by decide) (Nat.le_of_ble_eq_true rfl) ?_
  intro p e s m below meth c A ls hx hb hr hts hown hlocks hnm hml hsz hP hK hD hN hA hS hl
  have hl : lv_has ls 1 [(0, .ref mm)] := hl
  refine lv_aload_n hx hb d_M_keepForUndo_0 rfl (lv_at hl 0 rfl) ?_
  refine lv_iconst (v := (iI (0))) hx hb d_M_keepForUndo_1 (by decide) ?_
  refine lv_bipush (v := (iI (54))) hx hb d_M_keepForUndo_2 (by decide) ?_
  refine fw_callvP [0, 1] (va_runV (As := [.int (iI (0)), .int (iI (54))]) (rest := []) ⟨hx, hb, hml, hown, hts⟩ (c_M_copy l dC dI  _ mm th mO mg md mH ml mu mp ud cs mS xu xf xt mW mF rn sp nd rd li pz lt gP kI 0 54 (by first | assumption | omega) (by first | assumption | omega) (by first | assumption | omega) (by first | assumption | omega) (by omega)) (cwV 2 hts (gw_V kw_700 kw_702 ks_M_copy kw_5 kw_703) rfl rfl rfl (by decide +kernel) ⟨Nat.le_of_ble_eq_true rfl, Nat.le_of_ble_eq_true rfl⟩) (fw_preV (ci := 4) (q0 := 0) hP hK hD hN [0, 1] [0] rfl rfl rfl rfl rfl) rfl rfl hl.1 rfl (lv_room (Nat.le_of_ble_eq_true rfl)) d_M_keepForUndo_4 ⟨Nat.le_of_ble_eq_true rfl, Nat.le_of_ble_eq_true rfl⟩) hP hD hS hA rfl rfl rfl (fun H locs hP hD hS => ?_)
  have hP : va_P (dC, dI) cls_ [(mm, .inr (4, [.int (iI (th)), .int (iI (mO)), .ref mg, .ref md, .int (iI (mH)), .ref ml, .ref mu, .ref mp, .int (bI (ud)), .int (iI (cs)), .int (iI (mS)), .ref xu, .ref xf, .ref xt, .int (iI (mW)), .int (iI (mF)), .int (bI (rn)), .int (bI (sp)), .int (iI (nd)), .int (iI (rd)), .int (iI (li)), .ref pz, .int (iI (lt))])), (mp, fw_a kI 144 (fm_cp (0 : Int).toNat (54 : Int).toNat gP))] H := hP
  have hD : va_D A [(mm, .inr (4, [.int (iI (th)), .int (iI (mO)), .ref mg, .ref md, .int (iI (mH)), .ref ml, .ref mu, .ref mp, .int (bI (ud)), .int (iI (cs)), .int (iI (mS)), .ref xu, .ref xf, .ref xt, .int (iI (mW)), .int (iI (mF)), .int (bI (rn)), .int (bI (sp)), .int (iI (nd)), .int (iI (rd)), .int (iI (li)), .ref pz, .int (iI (lt))])), (mp, fw_a kI 144 (fm_cp (0 : Int).toNat (54 : Int).toNat gP))] := hD
  refine lv_aload_n hx hb d_M_keepForUndo_7 rfl (lv_at hl 0 rfl) ?_
  refine lv_iconst (v := (bI (true))) hx hb d_M_keepForUndo_8 (by decide) ?_
  refine va_put (D := (dC, dI)) (ci := 4) (v := .int (bI (true))) (ty := .boolean) (C := R_M) (T := T_M) (N := 23) hx hb hts in_M t_M t_M_ok n_M hown hK hP hD hS 0 rfl rfl 8 (by decide) (hts _ kw_579) (fun _ h9 => h9) rfl (by decide +kernel) (bI_nar _) (bI_fit _) (Nat.le_of_ble_eq_true rfl) d_M_keepForUndo_9 (fun H locs hP hD hS => ?_)
  have hP : va_P (dC, dI) cls_ [(mm, .inr (4, [.int (iI (th)), .int (iI (mO)), .ref mg, .ref md, .int (iI (mH)), .ref ml, .ref mu, .ref mp, .int (bI (true)), .int (iI (cs)), .int (iI (mS)), .ref xu, .ref xf, .ref xt, .int (iI (mW)), .int (iI (mF)), .int (bI (rn)), .int (bI (sp)), .int (iI (nd)), .int (iI (rd)), .int (iI (li)), .ref pz, .int (iI (lt))])), (mp, fw_a kI 144 (fm_cp (0 : Int).toNat (54 : Int).toNat gP))] H := hP
  have hD : va_D A [(mm, .inr (4, [.int (iI (th)), .int (iI (mO)), .ref mg, .ref md, .int (iI (mH)), .ref ml, .ref mu, .ref mp, .int (bI (true)), .int (iI (cs)), .int (iI (mS)), .ref xu, .ref xf, .ref xt, .int (iI (mW)), .int (iI (mF)), .int (bI (rn)), .int (bI (sp)), .int (iI (nd)), .int (iI (rd)), .int (iI (li)), .ref pz, .int (iI (lt))])), (mp, fw_a kI 144 (fm_cp (0 : Int).toNat (54 : Int).toNat gP))] := hD
  refine fw_vret hx hb hr hlocks hS ?_ d_M_keepForUndo_12
  · exact hP

set_option maxHeartbeats 4000000 in
set_option maxRecDepth 100000 in
theorem c_M_found (l : Launch) (dC : Nat → ClassId) (dI : Nat → Nat → Nat) (sz : Nat) (mm : Nat) (th : Int) (mO : Int) (mg : Nat) (md : Nat) (mH : Int) (ml : Nat) (mu : Nat) (mp : Nat) (ud : Bool) (cs : Int) (mS : Int) (xu : Nat) (xf : Nat) (xt : Nat) (mW : Int) (mF : Int) (rn : Bool) (sp : Bool) (nd : Int) (rd : Int) (li : Int) (pz : Nat) (lt : Int) (gD : Nat → Int) (gL : Nat → Int) (gP : Nat → Int) (gZ : Nat → Bool) (kI : ClassId) (kZ : ClassId) (se : Int) (hgP : ∀ j, -1 ≤ gP j ∧ gP j ≤ 60) (hgL : ∀ j, 0 ≤ gL j ∧ gL j ≤ 20) (hgD : ∀ j, -1000 ≤ gD j ∧ gD j ≤ 1000) (ht2 : ∀ j : Nat, (j : Int) < mH → 0 ≤ gP (18 + 3 * j + 2) ∧ gP (18 + 3 * j + 2) < 8) (m1 : 0 ≤ mH) (m2 : mH ≤ 6) : Met l y_M_found (Cond.code y_M_found b_M_found 2 none :: gw) ({ frames := 2, locals := 45, cells := 0, slots := 0 }) (fw_Pc (dC, dI) [.ref mm, .int (iI (se))] [(mm, .inr (4, [.int (iI (th)), .int (iI (mO)), .ref mg, .ref md, .int (iI (mH)), .ref ml, .ref mu, .ref mp, .int (bI (ud)), .int (iI (cs)), .int (iI (mS)), .ref xu, .ref xf, .ref xt, .int (iI (mW)), .int (iI (mF)), .int (bI (rn)), .int (bI (sp)), .int (iI (nd)), .int (iI (rd)), .int (iI (li)), .ref pz, .int (iI (lt))])), (ml, fw_a kI 6 (gL)), (md, fw_a kI 8 (gD)), (mp, fw_a kI 144 (gP)), (pz, fw_z kZ 6 (gZ))] [(kI, .int), (kZ, .boolean)] sz) (fw_Qv (va_P (dC, dI) cls_ [(mm, .inr (4, [.int (iI (th)), .int (iI (mO)), .ref mg, .ref md, .int (iI (mH)), .ref ml, .ref mu, .ref mp, .int (bI (ud)), .int (iI (cs)), .int (iI (mS)), .ref xu, .ref xf, .ref xt, .int (iI (mW)), .int (iI (mF)), .int (bI (rn)), .int (bI (sp)), .int (iI (nd)), .int (iI (rd)), .int (iI (se)), .ref pz, .int (iI (fc_sum (fm_cP gP gL gD gZ) mH.toNat))])), (ml, fw_a kI 6 (gL)), (md, fw_a kI 8 (gD)), (mp, fw_a kI 144 (fm_cp 18 36 gP)), (pz, fw_z kZ 6 (gZ))]) (va_A [(mm, .inr (4, [.int (iI (th)), .int (iI (mO)), .ref mg, .ref md, .int (iI (mH)), .ref ml, .ref mu, .ref mp, .int (bI (ud)), .int (iI (cs)), .int (iI (mS)), .ref xu, .ref xf, .ref xt, .int (iI (mW)), .int (iI (mF)), .int (bI (rn)), .int (bI (sp)), .int (iI (nd)), .int (iI (rd)), .int (iI (li)), .ref pz, .int (iI (lt))])), (ml, fw_a kI 6 (gL)), (md, fw_a kI 8 (gD)), (mp, fw_a kI 144 (gP)), (pz, fw_z kZ 6 (gZ))] sz)) 0 0 (va_A [(mm, .inr (4, [.int (iI (th)), .int (iI (mO)), .ref mg, .ref md, .int (iI (mH)), .ref ml, .ref mu, .ref mp, .int (bI (ud)), .int (iI (cs)), .int (iI (mS)), .ref xu, .ref xf, .ref xt, .int (iI (mW)), .int (iI (mF)), .int (bI (rn)), .int (bI (sp)), .int (iI (nd)), .int (iI (rd)), .int (iI (li)), .ref pz, .int (iI (lt))])), (ml, fw_a kI 6 (gL)), (md, fw_a kI 8 (gD)), (mp, fw_a kI 144 (gP)), (pz, fw_z kZ 6 (gZ))] sz) := by
  refine fw_ofW (Qc := fun A => fw_Qv (va_P (dC, dI) cls_ [(mm, .inr (4, [.int (iI (th)), .int (iI (mO)), .ref mg, .ref md, .int (iI (mH)), .ref ml, .ref mu, .ref mp, .int (bI (ud)), .int (iI (cs)), .int (iI (mS)), .ref xu, .ref xf, .ref xt, .int (iI (mW)), .int (iI (mF)), .int (bI (rn)), .int (bI (sp)), .int (iI (nd)), .int (iI (rd)), .int (iI (se)), .ref pz, .int (iI (fc_sum (fm_cP gP gL gD gZ) mH.toNat))])), (ml, fw_a kI 6 (gL)), (md, fw_a kI 8 (gD)), (mp, fw_a kI 144 (fm_cp 18 36 gP)), (pz, fw_z kZ 6 (gZ))]) A) (by decide) (Nat.le_of_ble_eq_true rfl) ?_
  intro p e s m below meth c A ls hx hb hr hts hown hlocks hnm hml hsz hP hK hD hN hA hS hl
  have hl : lv_has ls 2 [(0, .ref mm), (1, .int (iI (se)))] := hl
  refine lv_aload_n hx hb d_M_found_0 rfl (lv_at hl 0 rfl) ?_
  refine lv_aload_n hx hb d_M_found_1 rfl (lv_at hl 0 rfl) ?_
  refine fw_callR (va_runV (As := []) (rest := [.ref mm]) ⟨hx, hb, hml, hown, hts⟩ (c_M_costPlaced l dC dI  mm th mO mg md mH ml mu mp ud cs mS xu xf xt mW mF rn sp nd rd li pz lt gD gL gP gZ kI kZ (by assumption) (by assumption) (by assumption) (by assumption) (by first | assumption | omega) (by first | assumption | omega)) (cwV 0 hts (gw_V kw_724 kw_726 ks_M_costPlaced kw_5 kw_727) rfl rfl rfl (by decide +kernel) ⟨Nat.le_of_ble_eq_true rfl, Nat.le_of_ble_eq_true rfl⟩) (fw_preRV (ci := 4) (q0 := 0) hP hK hN [0, 1, 2, 3, 4] [0, 1] rfl rfl rfl rfl) rfl rfl hl.1 rfl (lv_room (Nat.le_of_ble_eq_true rfl)) d_M_found_2 ⟨Nat.le_of_ble_eq_true rfl, Nat.le_of_ble_eq_true rfl⟩).run ?_
  refine va_put (D := (dC, dI)) (ci := 4) (v := .int (iI (fc_sum (fm_cP gP gL gD gZ) mH.toNat))) (ty := .int) (C := R_M) (T := T_M) (N := 23) hx hb hts in_M t_M t_M_ok n_M hown hK hP hD hS 0 rfl rfl 22 (by decide) (hts _ kw_593) (fun _ h9 => h9) rfl (by decide +kernel) rfl rfl (Nat.le_of_ble_eq_true rfl) d_M_found_5 (fun H locs hP hD hS => ?_)
  have hP : va_P (dC, dI) cls_ [(mm, .inr (4, [.int (iI (th)), .int (iI (mO)), .ref mg, .ref md, .int (iI (mH)), .ref ml, .ref mu, .ref mp, .int (bI (ud)), .int (iI (cs)), .int (iI (mS)), .ref xu, .ref xf, .ref xt, .int (iI (mW)), .int (iI (mF)), .int (bI (rn)), .int (bI (sp)), .int (iI (nd)), .int (iI (rd)), .int (iI (li)), .ref pz, .int (iI (fc_sum (fm_cP gP gL gD gZ) mH.toNat))])), (ml, fw_a kI 6 (gL)), (md, fw_a kI 8 (gD)), (mp, fw_a kI 144 (gP)), (pz, fw_z kZ 6 (gZ))] H := hP
  have hD : va_D A [(mm, .inr (4, [.int (iI (th)), .int (iI (mO)), .ref mg, .ref md, .int (iI (mH)), .ref ml, .ref mu, .ref mp, .int (bI (ud)), .int (iI (cs)), .int (iI (mS)), .ref xu, .ref xf, .ref xt, .int (iI (mW)), .int (iI (mF)), .int (bI (rn)), .int (bI (sp)), .int (iI (nd)), .int (iI (rd)), .int (iI (li)), .ref pz, .int (iI (fc_sum (fm_cP gP gL gD gZ) mH.toNat))])), (ml, fw_a kI 6 (gL)), (md, fw_a kI 8 (gD)), (mp, fw_a kI 144 (gP)), (pz, fw_z kZ 6 (gZ))] := hD
  refine lv_aload_n hx hb d_M_found_8 rfl (lv_at hl 0 rfl) ?_
  refine lv_bipush (v := (iI (18))) hx hb d_M_found_9 (by decide) ?_
  refine lv_bipush (v := (iI (36))) hx hb d_M_found_11 (by decide) ?_
  refine fw_callvP [0, 3] (va_runV (As := [.int (iI (18)), .int (iI (36))]) (rest := []) ⟨hx, hb, hml, hown, hts⟩ (c_M_copy l dC dI  _ mm th mO mg md mH ml mu mp ud cs mS xu xf xt mW mF rn sp nd rd li pz (fc_sum (fm_cP gP gL gD gZ) mH.toNat) gP kI 18 36 (by first | assumption | omega) (by first | assumption | omega) (by first | assumption | omega) (by first | assumption | omega) (by omega)) (cwV 2 hts (gw_V kw_700 kw_702 ks_M_copy kw_5 kw_703) rfl rfl rfl (by decide +kernel) ⟨Nat.le_of_ble_eq_true rfl, Nat.le_of_ble_eq_true rfl⟩) (fw_preV (ci := 4) (q0 := 0) hP hK hD hN [0, 3] [0] rfl rfl rfl rfl rfl) rfl rfl hl.1 rfl (lv_room (Nat.le_of_ble_eq_true rfl)) d_M_found_13 ⟨Nat.le_of_ble_eq_true rfl, Nat.le_of_ble_eq_true rfl⟩) hP hD hS hA rfl rfl rfl (fun H locs hP hD hS => ?_)
  have hP : va_P (dC, dI) cls_ [(mm, .inr (4, [.int (iI (th)), .int (iI (mO)), .ref mg, .ref md, .int (iI (mH)), .ref ml, .ref mu, .ref mp, .int (bI (ud)), .int (iI (cs)), .int (iI (mS)), .ref xu, .ref xf, .ref xt, .int (iI (mW)), .int (iI (mF)), .int (bI (rn)), .int (bI (sp)), .int (iI (nd)), .int (iI (rd)), .int (iI (li)), .ref pz, .int (iI ((fc_sum (fm_cP gP gL gD gZ) mH.toNat)))])), (ml, fw_a kI 6 (gL)), (md, fw_a kI 8 (gD)), (mp, fw_a kI 144 (fm_cp (18 : Int).toNat (36 : Int).toNat gP)), (pz, fw_z kZ 6 (gZ))] H := hP
  have hD : va_D A [(mm, .inr (4, [.int (iI (th)), .int (iI (mO)), .ref mg, .ref md, .int (iI (mH)), .ref ml, .ref mu, .ref mp, .int (bI (ud)), .int (iI (cs)), .int (iI (mS)), .ref xu, .ref xf, .ref xt, .int (iI (mW)), .int (iI (mF)), .int (bI (rn)), .int (bI (sp)), .int (iI (nd)), .int (iI (rd)), .int (iI (li)), .ref pz, .int (iI ((fc_sum (fm_cP gP gL gD gZ) mH.toNat)))])), (ml, fw_a kI 6 (gL)), (md, fw_a kI 8 (gD)), (mp, fw_a kI 144 (fm_cp (18 : Int).toNat (36 : Int).toNat gP)), (pz, fw_z kZ 6 (gZ))] := hD
  refine lv_aload_n hx hb d_M_found_16 rfl (lv_at hl 0 rfl) ?_
  refine lv_iload_n hx hb d_M_found_17 rfl (lv_at hl 1 rfl) ?_
  refine va_put (D := (dC, dI)) (ci := 4) (v := .int (iI (se))) (ty := .int) (C := R_M) (T := T_M) (N := 23) hx hb hts in_M t_M t_M_ok n_M hown hK hP hD hS 0 rfl rfl 20 (by decide) (hts _ kw_591) (fun _ h9 => h9) rfl (by decide +kernel) rfl rfl (Nat.le_of_ble_eq_true rfl) d_M_found_18 (fun H locs hP hD hS => ?_)
  have hP : va_P (dC, dI) cls_ [(mm, .inr (4, [.int (iI (th)), .int (iI (mO)), .ref mg, .ref md, .int (iI (mH)), .ref ml, .ref mu, .ref mp, .int (bI (ud)), .int (iI (cs)), .int (iI (mS)), .ref xu, .ref xf, .ref xt, .int (iI (mW)), .int (iI (mF)), .int (bI (rn)), .int (bI (sp)), .int (iI (nd)), .int (iI (rd)), .int (iI (se)), .ref pz, .int (iI ((fc_sum (fm_cP gP gL gD gZ) mH.toNat)))])), (ml, fw_a kI 6 (gL)), (md, fw_a kI 8 (gD)), (mp, fw_a kI 144 (fm_cp (18 : Int).toNat (36 : Int).toNat gP)), (pz, fw_z kZ 6 (gZ))] H := hP
  have hD : va_D A [(mm, .inr (4, [.int (iI (th)), .int (iI (mO)), .ref mg, .ref md, .int (iI (mH)), .ref ml, .ref mu, .ref mp, .int (bI (ud)), .int (iI (cs)), .int (iI (mS)), .ref xu, .ref xf, .ref xt, .int (iI (mW)), .int (iI (mF)), .int (bI (rn)), .int (bI (sp)), .int (iI (nd)), .int (iI (rd)), .int (iI (se)), .ref pz, .int (iI ((fc_sum (fm_cP gP gL gD gZ) mH.toNat)))])), (ml, fw_a kI 6 (gL)), (md, fw_a kI 8 (gD)), (mp, fw_a kI 144 (fm_cp (18 : Int).toNat (36 : Int).toNat gP)), (pz, fw_z kZ 6 (gZ))] := hD
  refine fw_vret hx hb hr hlocks hS ?_ d_M_found_21
  · exact hP
