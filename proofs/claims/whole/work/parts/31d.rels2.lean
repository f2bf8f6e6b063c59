-- heat
theorem k_heat0 {nO nH o le us u mi : Int} {fS : Nat → Int64} {fL au am : Nat → Int} (hk : k_heat nO nH o le us u mi fS fL au am = 0) : (0 ≤ o ∧ o ≤ nO - 1) ∧ (0 ≤ u ∧ u ≤ 2) ∧ nH < 6 ∧ (1 ≤ le ∧ le ≤ 20) ∧ (1 ≤ us ∧ us ≤ 7) ∧ (0 ≤ mi ∧ mi ≤ 59) ∧ fc_bit us u.toNat = true ∧ mi + le ≤ 60 := by
  unfold k_heat at hk
  cases q1 : fc_in o 0 (nO - 1) with
  | false => rw [q1] at hk; simp at hk
  | true =>
    cases q2 : fc_in u 0 2 with
    | false => rw [q1, q2] at hk; simp at hk
    | true =>
      by_cases q3 : nH < 6
      · cases q4 : fc_in le 1 20 with
        | false => rw [q1, q2, q4] at hk; simp [q3] at hk
        | true =>
          cases q5 : fc_in us 1 7 with
          | false => rw [q1, q2, q4, q5] at hk; simp [q3] at hk
          | true =>
            cases q6 : fc_in mi 0 59 with
            | false => rw [q1, q2, q4, q5, q6] at hk; simp [q3] at hk
            | true =>
              cases q7 : fc_bit us u.toNat with
              | false => rw [q1, q2, q4, q5, q6, q7] at hk; simp [q3] at hk
              | true =>
                cases q8 : fc_room (fS u.toNat) nH u au am fL nH.toNat mi le with
                | false => rw [q1, q2, q4, q5, q6, q7, q8] at hk; simp [q3] at hk
                | true =>
                  unfold fc_room at q8
                  simp only [Bool.and_eq_true, decide_eq_true_eq] at q8
                  exact ⟨fc_in_t q1, fc_in_t q2, q3, fc_in_t q4, fc_in_t q5, fc_in_t q6, rfl, q8.1⟩
      · rw [q1, q2] at hk; simp [q3] at hk
theorem r_kheat {nO nH nS o le us u mi : Int} {fS : Nat → Int64} {xU xF xT fL gL fU gU au am ao gP : Nat → Int} (hB : r_B nH fL gL fU gU) (hC : r_C nS fS xU xF xT) (hE : r_V nO nH fL fU au am ao gP 0) : k_heat nO nH o le us u mi fS fL au am = km_heat nO nH o le us u mi gP gU gL xU xF xT nS.toNat := by
  have key : fc_in u 0 2 = true → fc_in le 1 20 = true → fc_in mi 0 59 = true → (if fc_bit us u.toNat = false then (4 : Int) else if fc_room (fS u.toNat) nH u au am fL nH.toNat mi le = true then 0 else 4) = (if fm_fits gP (fw_up gU nH.toNat us) (fw_up gL nH.toNat le) xU xF xT nH.toNat nS.toNat nH u mi = true then 0 else 4) := by
    intro q1 q2 q3
    have r1 := fc_in_t q1
    have r2 := fc_in_t q2
    have r3 := fc_in_t q3
    have e : fm_fits gP (fw_up gU nH.toNat us) (fw_up gL nH.toNat le) xU xF xT nH.toNat nS.toNat nH u mi = (fc_bit us u.toNat && fc_room (fS u.toNat) nH u au am fL nH.toNat mi le) := by
      rw [r_room hC.2.1 hC.2.2 r1.1 (by omega) r3.1 r2.1 (fun g hg => by
        have h1 := hE.2 g (by omega)
        have h2 := hB.2 g (by omega)
        exact ⟨h1.2.2.1, h2.2.2.1.1, h1.2.2.2.1⟩)]
      unfold fm_fits fm_free
      have e1 : fw_up gU nH.toNat us nH.toNat = us := by unfold fw_up; rw [if_pos rfl]
      have e2 : fw_up gL nH.toNat le nH.toNat = le := by unfold fw_up; rw [if_pos rfl]
      rw [e1, e2]
      simp only [Bool.and_assoc]
      congr 3
      apply fm_all_congr
      intro g hg
      unfold fm_meet
      obtain ⟨p1, p2, p3⟩ := hE.1 g hg
      have h2 := hB.2 g (by omega)
      have e3 : fw_up gL nH.toNat le g = gL g := by unfold fw_up; rw [if_neg (by omega)]
      have e4 : (0 : Int).toNat = 0 := rfl
      rw [Int.toNat_natCast, e2, e3, e4, p1, p2, h2.1]
      simp only [Bool.and_assoc]
    rw [e]
    cases fc_bit us u.toNat <;> simp
  unfold k_heat km_heat
  cases q1 : fc_in o 0 (nO - 1) with
  | false => simp
  | true =>
    cases q2 : fc_in u 0 2 with
    | false => simp
    | true =>
      by_cases q3 : nH < 6
      · cases q4 : fc_in le 1 20 with
        | false => simp [q3]
        | true =>
          cases q5 : fc_in us 1 7 with
          | false => simp [q3]
          | true =>
            cases q6 : fc_in mi 0 59 with
            | false => simp [q3]
            | true =>
              have := key q2 q4 q6
              simp only [Bool.true_eq_false, if_false, if_true, q3]
              exact this
      · simp [q3]
theorem r_B.add {nO nH o le us u mi : Int} {fS : Nat → Int64} {au am fL gL fU gU : Nat → Int} (h : r_B nH fL gL fU gU) (hk : k_heat nO nH o le us u mi fS fL au am = 0) : r_B (nH + 1) (fw_up fL nH.toNat le) (fw_up gL nH.toNat le) (fw_up fU nH.toNat us) (fw_up gU nH.toNat us) := by
  obtain ⟨⟨a1, a2⟩, a3⟩ := h
  obtain ⟨q1, q2, q3, q4, q5, q6, q7, q8⟩ := k_heat0 hk
  refine ⟨⟨by omega, by omega⟩, fun j hj => ?_⟩
  unfold fw_up
  by_cases hjn : j = nH.toNat
  · rw [if_pos hjn, if_pos hjn, if_pos hjn, if_pos hjn]
    exact ⟨rfl, rfl, q4, q5⟩
  · rw [if_neg hjn, if_neg hjn, if_neg hjn, if_neg hjn]
    exact a3 j (by omega)
theorem r_V.add {nO nH o le us u mi : Int} {fS : Nat → Int64} {au am ao fL gL fU gU gP : Nat → Int} (hB : r_B nH fL gL fU gU) (h : r_V nO nH fL fU au am ao gP 0) (hk : k_heat nO nH o le us u mi fS fL au am = 0) : r_V nO (nH + 1) (fw_up fL nH.toNat le) (fw_up fU nH.toNat us) (fw_up au (nH + 1 - 1).toNat u) (fw_up am (nH + 1 - 1).toNat mi) (fw_up ao (nH + 1 - 1).toNat o) (fw_up (fw_up (fw_up gP (3 * nH.toNat) u) (3 * nH.toNat + 1) mi) (3 * nH.toNat + 2) o) 0 := by
  obtain ⟨⟨a1, a2⟩, a3⟩ := hB
  obtain ⟨q1, q2, q3, q4, q5, q6, q7, q8⟩ := k_heat0 hk
  rw [show (nH + 1 - 1).toNat = nH.toNat by omega]
  refine ⟨fun j hj => ?_, fun j hj => ?_⟩
  · unfold fw_up
    by_cases hjn : j = nH.toNat
    · subst hjn
      rw [if_pos rfl, if_pos rfl, if_pos rfl, if_neg (by omega), if_neg (by omega), if_pos (by omega), if_neg (by omega), if_pos (by omega), if_pos (by omega)]
      exact ⟨rfl, rfl, rfl⟩
    · rw [if_neg hjn, if_neg hjn, if_neg hjn, if_neg (by omega), if_neg (by omega), if_neg (by omega), if_neg (by omega), if_neg (by omega), if_neg (by omega), if_neg (by omega), if_neg (by omega), if_neg (by omega)]
      exact h.1 j (by omega)
  · unfold fw_up
    by_cases hjn : j = nH.toNat
    · subst hjn
      rw [if_pos rfl, if_pos rfl, if_pos rfl, if_pos rfl, if_pos rfl]
      exact ⟨q2.1, by omega, q6.1, q8, q1.1, by omega, q7⟩
    · rw [if_neg hjn, if_neg hjn, if_neg hjn, if_neg hjn, if_neg hjn]
      exact h.2 j (by omega)
theorem r_H.heat {nO nH o le us u mi : Int} {fS : Nat → Int64} {au am fL gP gL gU gD gG : Nat → Int} {k a b c : Nat} (h : r_H gP gL gU gD gG) (hk : k_heat nO nH o le us u mi fS fL au am = 0) (hO : nO ≤ 8) : r_H (fw_up (fw_up (fw_up gP a u) b mi) c o) (fw_up gL k le) (fw_up gU k us) gD gG := by
  obtain ⟨q1, q2, q3, q4, q5, q6, q7, q8⟩ := k_heat0 hk
  exact ⟨fw_upb2 (fw_upb2 (fw_upb2 h.1 (by omega)) (by omega)) (by omega), fw_upb2 h.2.1 (by omega), fw_upb2 h.2.2.1 (by omega), h.2.2.2.1, h.2.2.2.2⟩
/-- a heat that doesn't fit: the reference has written its length and units behind the last heat -/
theorem km_heat4 {mO mH o le us u mi : Int} {gP gU gL xU xF xT : Nat → Int} {nS : Nat} (hk : km_heat mO mH o le us u mi gP gU gL xU xF xT nS = 4) : (1 ≤ le ∧ le ≤ 20) ∧ 1 ≤ us ∧ us ≤ 7 := by
  unfold km_heat at hk
  cases q1 : fc_in o 0 (mO - 1) with
  | false => rw [q1] at hk; simp at hk
  | true =>
    cases q2 : fc_in u 0 2 with
    | false => rw [q1, q2] at hk; simp at hk
    | true =>
      by_cases q3 : mH < 6
      · cases q4 : fc_in le 1 20 with
        | false => rw [q1, q2, q4] at hk; simp [q3] at hk
        | true =>
          cases q5 : fc_in us 1 7 with
          | false => rw [q1, q2, q4, q5] at hk; simp [q3] at hk
          | true => exact ⟨fc_in_t q4, fc_in_t q5⟩
      · rw [q1, q2] at hk; simp [q3] at hk
theorem r_B.not {nH le us : Int} {fL gL fU gU : Nat → Int} {c : Prop} {hc : Decidable c} (h : r_B nH fL gL fU gU) : r_B nH fL (if c then fw_up gL nH.toNat le else gL) fU (if c then fw_up gU nH.toNat us else gU) := by
  refine ⟨h.1, fun j hj => ?_⟩
  have h1 := h.1
  split
  · have e1 : fw_up gL nH.toNat le j = gL j := by unfold fw_up; rw [if_neg (by omega)]
    have e2 : fw_up gU nH.toNat us j = gU j := by unfold fw_up; rw [if_neg (by omega)]
    rw [e1, e2]; exact h.2 j hj
  · exact h.2 j hj
theorem r_H.not {mO mH o le us u mi : Int} {gP gU gL gD gG xU xF xT : Nat → Int} {nS : Nat} (h : r_H gP gL gU gD gG) : r_H gP (if km_heat mO mH o le us u mi gP gU gL xU xF xT nS = 4 then fw_up gL mH.toNat le else gL) (if km_heat mO mH o le us u mi gP gU gL xU xF xT nS = 4 then fw_up gU mH.toNat us else gU) gD gG := by
  by_cases q : km_heat mO mH o le us u mi gP gU gL xU xF xT nS = 4
  · obtain ⟨q1, q2⟩ := km_heat4 q
    rw [if_pos q, if_pos q]
    exact ⟨h.1, fw_upb2 h.2.1 (by omega), fw_upb2 h.2.2.1 (by omega), h.2.2.2⟩
  · rw [if_neg q, if_neg q]
    exact h
-- place
theorem r_fit {nO nH nS h u mi : Int} {fS : Nat → Int64} {xU xF xT fL gL fU gU au am ao gP : Nat → Int} (hB : r_B nH fL gL fU gU) (hC : r_C nS fS xU xF xT) (hE : r_V nO nH fL fU au am ao gP 0) (h0 : 0 ≤ h) (h1 : h < nH) (u0 : 0 ≤ u) (u1 : u < 3) (m0 : 0 ≤ mi) : fc_fits fS fU fL au am nH h u mi = fm_fits gP gU gL xU xF xT nH.toNat nS.toNat h u mi := by
  have hb := hB.2 h.toNat (by omega)
  exact r_fits hC.2.1 hC.2.2 u0 u1 m0 h0 hb.2.2.1.1 hb.2.1 (fun g hg => (hB.2 g (by omega)).1) hb.1 (fun g hg => by
    have h1 := hE.2 g (by omega)
    have h2 := hB.2 g (by omega)
    exact ⟨h1.2.2.1, h2.2.2.1.1, h1.2.2.2.1⟩) hE.1
theorem r_kplace {nO nH nW nF nS h u mi : Int} {fS : Nat → Int64} {xU xF xT fL gL fU gU au am ao gP : Nat → Int} (hB : r_B nH fL gL fU gU) (hC : r_C nS fS xU xF xT) (hE : r_V nO nH fL fU au am ao gP 0) : k_place nH nW nF h u mi fS fU fL au am = km_place nH nW nF h u mi gP gU gL xU xF xT nS.toNat := by
  unfold k_place km_place
  cases q1 : fc_in h 0 (nH - 1) with
  | false => simp
  | true =>
    have r1 := fc_in_t q1
    cases q2 : fc_in u 0 2 with
    | false => simp
    | true =>
      have r2 := fc_in_t q2
      obtain ⟨p1, p2, p3⟩ := hE.1 h.toNat (by omega)
      rw [Nat.zero_add] at p2
      rw [p2]
      cases q3 : fc_in mi 0 59 with
      | false => simp
      | true =>
        have r3 := fc_in_t q3
        rw [r_fit hB hC hE r1.1 (by omega) r2.1 (by omega) r3.1]
theorem k_place0 {nH nW nF h u mi : Int} {fS : Nat → Int64} {fU fL au am : Nat → Int} (hk : k_place nH nW nF h u mi fS fU fL au am = 0) : (0 ≤ h ∧ h ≤ nH - 1) ∧ (0 ≤ u ∧ u ≤ 2) ∧ (0 ≤ mi ∧ mi ≤ 59) ∧ fc_bit (fU h.toNat) u.toNat = true ∧ mi + fL h.toNat ≤ 60 := by
  unfold k_place at hk
  cases q1 : fc_in h 0 (nH - 1) with
  | false => rw [q1] at hk; simp at hk
  | true =>
    cases q2 : fc_in u 0 2 with
    | false => rw [q1, q2] at hk; simp at hk
    | true =>
      cases q3 : decide (am h.toNat < nW + nF) with
      | true => rw [q1, q2, q3] at hk; simp at hk
      | false =>
        cases q4 : fc_in mi 0 59 with
        | false => rw [q1, q2, q3, q4] at hk; simp at hk
        | true =>
          cases q5 : fc_fits fS fU fL au am nH h u mi with
          | false => rw [q1, q2, q3, q4, q5] at hk; simp at hk
          | true =>
            unfold fc_fits fc_room at q5
            simp only [Bool.and_eq_true, decide_eq_true_eq] at q5
            exact ⟨fc_in_t q1, fc_in_t q2, fc_in_t q4, q5.1, q5.2.1⟩
theorem r_V.place {nO nH nW nF h u mi : Int} {fS : Nat → Int64} {fL fU au am ao gP : Nat → Int} (hE : r_V nO nH fL fU au am ao gP 0) (h6 : nH ≤ 6) (hk : k_place nH nW nF h u mi fS fU fL au am = 0) : r_V nO nH fL fU (fw_up au h.toNat u) (fw_up am h.toNat mi) ao (fw_up (fw_up (fm_cp 0 54 gP) (3 * h.toNat) u) (3 * h.toNat + 1) mi) 0 := by
  obtain ⟨q1, q2, q3, q4, q5⟩ := k_place0 hk
  refine ⟨fun j hj => ?_, fun j hj => ?_⟩
  · obtain ⟨p1, p2, p3⟩ := hE.1 j hj
    unfold fw_up
    by_cases hjn : j = h.toNat
    · subst hjn
      rw [if_pos rfl, if_pos rfl, if_neg (by omega), if_pos (by omega), if_pos (by omega), if_neg (by omega), if_neg (by omega), fm_cp_out (by omega)]
      exact ⟨rfl, rfl, p3⟩
    · rw [if_neg hjn, if_neg hjn, if_neg (by omega), if_neg (by omega), if_neg (by omega), if_neg (by omega), if_neg (by omega), if_neg (by omega), fm_cp_out (by omega), fm_cp_out (by omega), fm_cp_out (by omega)]
      exact ⟨p1, p2, p3⟩
  · have hv := hE.2 j hj
    unfold fw_up
    by_cases hjn : j = h.toNat
    · subst hjn
      rw [if_pos rfl, if_pos rfl]
      exact ⟨q2.1, by omega, q3.1, q5, hv.2.2.2.2.1, hv.2.2.2.2.2.1, q4⟩
    · rw [if_neg hjn, if_neg hjn]
      exact hv
/-- the plan as it was, behind a change -/
theorem r_V.old {nO nH : Int} {fL fU au am ao gP gQ : Nat → Int} (hE : r_V nO nH fL fU au am ao gP 0) (h6 : nH ≤ 6) (hq : ∀ j, j < 18 → gQ (54 + j) = gP j) : r_F true nO nH fL fU au am ao gQ := fun _ => hE.kept h6 (fun j hj => by rw [hq j hj, Nat.zero_add])
theorem r_cp54 {gP : Nat → Int} {a b : Nat} {u v : Int} (ha : a < 54) (hb : b < 54) : ∀ j, 54 ≤ j → fw_up (fw_up (fm_cp 0 54 gP) a u) b v j = fm_cp 0 54 gP j := by
  intro j hj
  unfold fw_up
  rw [if_neg (by omega), if_neg (by omega)]
theorem r_cp54a {gP : Nat → Int} {a : Nat} {u : Int} (ha : a < 54) : ∀ j, 54 ≤ j → fw_up (fm_cp 0 54 gP) a u j = fm_cp 0 54 gP j := by
  intro j hj
  unfold fw_up
  rw [if_neg (by omega)]
theorem r_cp_old {gP : Nat → Int} {j : Nat} (hj : j < 18) : fm_cp 0 54 gP (54 + j) = gP j := by
  rw [fm_cp_in hj, Nat.zero_add]
-- divert
theorem r_kdivert {nO nH h o : Int} {fG gG fD gD fL fU au am ao gP : Nat → Int} (hA : r_A nO fG gG fD gD) (h6 : nH ≤ 6) (hE : r_V nO nH fL fU au am ao gP 0) : k_divert nH nO h o fG ao = km_divert nH nO h o gG gP := by
  unfold km_divert k_divert
  cases q1 : fc_in h 0 (nH - 1) with
  | false => simp
  | true =>
    have r1 := fc_in_t q1
    cases q2 : fc_in o 0 (nO - 1) with
    | false => simp
    | true =>
      have r2 := fc_in_t q2
      obtain ⟨p1, p2, p3⟩ := hE.1 h.toNat (by omega)
      have hv := hE.2 h.toNat (by omega)
      rw [Nat.zero_add] at p3
      have e1 := (hA.2 (ao h.toNat).toNat (by omega)).1
      have e2 := (hA.2 o.toNat (by omega)).1
      simp only [Bool.true_eq_false, if_false, if_true]
      rw [e1, e2, p3]
theorem k_divert0 {nH nO h o : Int} {fG ao : Nat → Int} (hk : k_divert nH nO h o fG ao = 0) : (0 ≤ h ∧ h ≤ nH - 1) ∧ 0 ≤ o ∧ o ≤ nO - 1 := by
  unfold k_divert at hk
  cases q1 : fc_in h 0 (nH - 1) with
  | false => rw [q1] at hk; simp at hk
  | true =>
    cases q2 : fc_in o 0 (nO - 1) with
    | false => rw [q1, q2] at hk; simp at hk
    | true => exact ⟨fc_in_t q1, fc_in_t q2⟩
theorem r_V.divert {nO nH h o : Int} {fG fL fU au am ao gP : Nat → Int} (hE : r_V nO nH fL fU au am ao gP 0) (h6 : nH ≤ 6) (hk : k_divert nH nO h o fG ao = 0) : r_V nO nH fL fU au am (fw_up ao h.toNat o) (fw_up (fm_cp 0 54 gP) (3 * h.toNat + 2) o) 0 := by
  obtain ⟨q1, q2⟩ := k_divert0 hk
  refine ⟨fun j hj => ?_, fun j hj => ?_⟩
  · obtain ⟨p1, p2, p3⟩ := hE.1 j hj
    unfold fw_up
    by_cases hjn : j = h.toNat
    · subst hjn
      rw [if_pos rfl, if_neg (by omega), if_neg (by omega), if_pos (by omega), fm_cp_out (by omega), fm_cp_out (by omega)]
      exact ⟨p1, p2, rfl⟩
    · rw [if_neg hjn, if_neg (by omega), if_neg (by omega), if_neg (by omega), fm_cp_out (by omega), fm_cp_out (by omega), fm_cp_out (by omega)]
      exact ⟨p1, p2, p3⟩
  · have hv := hE.2 j hj
    unfold fw_up
    by_cases hjn : j = h.toNat
    · subst hjn
      rw [if_pos rfl]
      exact ⟨hv.1, hv.2.1, hv.2.2.1, hv.2.2.2.1, q2.1, by omega, hv.2.2.2.2.2.2⟩
    · rw [if_neg hjn]
      exact hv
