def fc_in (x y z : Int) : Bool := decide (y ≤ x) && decide (x ≤ z)
set_option maxHeartbeats 4000000 in
set_option maxRecDepth 100000 in
/-- number between least and most -/
theorem c_F_isWithin (l : Launch) (dC : Nat → ClassId) (dI : Nat → Nat → Nat) (x : Int) (y : Int) (z : Int) (hx0 : fw_b x) (hy0 : fw_b y) (hz0 : fw_b z) : Met l y_F_isWithin (Cond.code y_F_isWithin b_F_isWithin 3 (some .boolean) :: gw) ({ frames := 0, locals := 0, cells := 0, slots := 0 }) (fw_Pr (dC, dI) [.int (iI (x)), .int (iI (y)), .int (iI (z))] [] []) (fw_Rv (.int (bI (fc_in x y z)))) 0 0 (fun _ => False) := by
  refine fw_ofR (by decide) (Nat.le_of_ble_eq_true rfl) ?_
  intro p e s m below meth c ls hx hb hr hts hown hlocks hml hP hK hN hl
  have hl : lv_has ls 3 [(0, .int (iI (x))), (1, .int (iI (y))), (2, .int (iI (z)))] := hl
  refine lv_iload_n hx hb d_F_isWithin_0 rfl (lv_at hl 0 rfl) ?_
  refine lv_iload_n hx hb d_F_isWithin_1 rfl (lv_at hl 1 rfl) ?_
  refine fw_icmp_lt (tgt := 14) hx hb d_F_isWithin_2 (by decide) ⟨by omega, by omega⟩ ⟨by omega, by omega⟩ (fun c_1 => ?_) (fun c_1 => ?_)
  · refine lv_iconst (v := (bI (false))) hx hb d_F_isWithin_14 (by decide) ?_
    refine fw_Rzret hx hb hr hlocks ?_ d_F_isWithin_15
    · simp only [fc_in]; simp; omega
  · refine lv_iload_n hx hb d_F_isWithin_5 rfl (lv_at hl 0 rfl) ?_
    refine lv_iload_n hx hb d_F_isWithin_6 rfl (lv_at hl 2 rfl) ?_
    refine fw_icmp_gt (tgt := 14) hx hb d_F_isWithin_7 (by decide) ⟨by omega, by omega⟩ ⟨by omega, by omega⟩ (fun c_2 => ?_) (fun c_2 => ?_)
    · refine lv_iconst (v := (bI (false))) hx hb d_F_isWithin_14 (by decide) ?_
      refine fw_Rzret hx hb hr hlocks ?_ d_F_isWithin_15
      · simp only [fc_in]; simp; omega
    · refine lv_iconst (v := (bI (true))) hx hb d_F_isWithin_10 (by decide) ?_
      refine lv_goto (tgt := 15) hx hb d_F_isWithin_11 (by decide) ?_
      refine fw_Rzret hx hb hr hlocks ?_ d_F_isWithin_15
      · simp only [fc_in]; simp; omega
