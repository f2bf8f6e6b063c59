-- the state of the class and that of the reference
def r_A (nO : Int) (fG gG fD gD : Nat → Int) : Prop := (0 ≤ nO ∧ nO ≤ 8) ∧ ∀ j : Nat, (j : Int) < nO → fG j = gG j ∧ fD j = gD j ∧ (0 ≤ fG j ∧ fG j ≤ 9) ∧ 0 ≤ fD j ∧ fD j ≤ 200
def r_B (nH : Int) (fL gL fU gU : Nat → Int) : Prop := (0 ≤ nH ∧ nH ≤ 6) ∧ ∀ j : Nat, (j : Int) < nH → fL j = gL j ∧ fU j = gU j ∧ (1 ≤ fL j ∧ fL j ≤ 20) ∧ 1 ≤ fU j ∧ fU j ≤ 7
def r_C (nS : Int) (fS : Nat → Int64) (xU xF xT : Nat → Int) : Prop := (0 ≤ nS ∧ nS ≤ 10) ∧ r_st fS xU xF xT nS.toNat ∧ r_sb xU xF xT nS.toNat
def r_D (nW nF : Int) : Prop := 0 ≤ nW ∧ nW ≤ 60 ∧ 0 ≤ nF ∧ nF ≤ 60
def r_V (nO nH : Int) (fL fU au am ao gP : Nat → Int) (k : Nat) : Prop := r_pl nH.toNat au am ao gP k ∧ iv_pl nO nH fL fU au am ao
def r_F (ud : Bool) (nO nH : Int) (fL fU eu em eo gP : Nat → Int) : Prop := ud = true → r_V nO nH fL fU eu em eo gP 54
def r_G (cs : Int) (kf : Nat → Bool) (nO nH : Int) (fL fU : Nat → Int) (cu cm co : Nat → Nat → Int) (gP : Nat → Int) : Prop := (0 ≤ cs ∧ cs < 16) ∧ (∀ z, z < 4 → kf z = fc_bit cs z) ∧ ∀ z, kf z = true → z < 4 ∧ r_V nO nH fL fU (cu z) (cm z) (co z) gP (72 + 18 * z)
def r_H (gP gL gU gD gG : Nat → Int) : Prop := (∀ j, -1 ≤ gP j ∧ gP j ≤ 60) ∧ (∀ j, 0 ≤ gL j ∧ gL j ≤ 20) ∧ (∀ j, 0 ≤ gU j ∧ gU j ≤ 7) ∧ (∀ j, -1000 ≤ gD j ∧ gD j ≤ 1000) ∧ ∀ j, -1000 ≤ gG j ∧ gG j ≤ 1000
theorem r_sh {nO nH nS nW nF : Int} {fG gG fD gD fL gL fU gU xU xF xT : Nat → Int} {fS : Nat → Int64} (hA : r_A nO fG gG fD gD) (hB : r_B nH fL gL fU gU) (hC : r_C nS fS xU xF xT) (hD : r_D nW nF) : iv_sh nO nH nS nW nF fL fU fG fD := by
  obtain ⟨a1, a2⟩ := hA
  obtain ⟨b1, b2⟩ := hB
  obtain ⟨c1, c2⟩ := hC
  obtain ⟨d1, d2, d3, d4⟩ := hD
  refine ⟨⟨a1.1, a1.2, b1.1, b1.2, c1.1, c1.2, d1, d2, d3, d4⟩, fun j hj => ?_, fun j hj => ?_⟩
  · have := b2 j hj; exact ⟨this.2.2.1.1, this.2.2.1.2, this.2.2.2.1, this.2.2.2.2⟩
  · have := a2 j hj; exact ⟨this.2.2.1.1, this.2.2.1.2, this.2.2.2.1, this.2.2.2.2⟩
-- rows of the plans in the one array
theorem r_V.more {nO nO' nH : Int} {fL fU au am ao gP : Nat → Int} {k : Nat} (h : r_V nO nH fL fU au am ao gP k) (hO : nO ≤ nO') : r_V nO' nH fL fU au am ao gP k :=
  ⟨h.1, fun j hj => by obtain ⟨a1, a2, a3, a4, a5, a6, a7⟩ := h.2 j hj; exact ⟨a1, a2, a3, a4, a5, by omega, a7⟩⟩
theorem r_V.kept {nO nH : Int} {fL fU au am ao gP gQ : Nat → Int} {k k' : Nat} (h : r_V nO nH fL fU au am ao gP k) (h6 : nH ≤ 6) (hq : ∀ j, j < 18 → gQ (k' + j) = gP (k + j)) : r_V nO nH fL fU au am ao gQ k' :=
  ⟨fun j hj => by
    obtain ⟨a1, a2, a3⟩ := h.1 j hj
    rw [show k' + 3 * j + 1 = k' + (3 * j + 1) by omega, show k' + 3 * j + 2 = k' + (3 * j + 2) by omega, hq (3 * j) (by omega), hq (3 * j + 1) (by omega), hq (3 * j + 2) (by omega)]
    exact ⟨a1, a2, a3⟩, h.2⟩
theorem fm_cp_in {f t : Nat} {g : Nat → Int} {j : Nat} (hj : j < 18) : fm_cp f t g (t + j) = g (f + j) := by
  unfold fm_cp; rw [if_pos (by omega)]; congr 1; omega
theorem fm_cp_out {f t : Nat} {g : Nat → Int} {j : Nat} (hj : j < t ∨ t + 18 ≤ j) : fm_cp f t g j = g j := by
  unfold fm_cp; rw [if_neg (by omega)]
theorem fm_cp_b {f t : Nat} {g : Nat → Int} (h : ∀ j, -1 ≤ g j ∧ g j ≤ 60) : ∀ j, -1 ≤ fm_cp f t g j ∧ fm_cp f t g j ≤ 60 := by
  intro j; unfold fm_cp; split <;> exact h _
theorem r_F.kept {ud : Bool} {nO nH : Int} {fL fU eu em eo gP gQ : Nat → Int} (h : r_F ud nO nH fL fU eu em eo gP) (h6 : nH ≤ 6) (hq : ∀ j, j < 18 → gQ (54 + j) = gP (54 + j)) : r_F ud nO nH fL fU eu em eo gQ := fun q => (h q).kept h6 hq
theorem r_G.kept {cs : Int} {kf : Nat → Bool} {nO nH : Int} {fL fU : Nat → Int} {cu cm co : Nat → Nat → Int} {gP gQ : Nat → Int} (h : r_G cs kf nO nH fL fU cu cm co gP) (h6 : nH ≤ 6) (hq : ∀ j, 72 ≤ j → gQ j = gP j) : r_G cs kf nO nH fL fU cu cm co gQ :=
  ⟨h.1, h.2.1, fun z hz => ⟨(h.2.2 z hz).1, (h.2.2 z hz).2.kept h6 (fun j hj => hq _ (by omega))⟩⟩
-- order
theorem r_A.add {nO g du : Int} {fG gG fD gD : Nat → Int} (h : r_A nO fG gG fD gD) (hk : k_order nO g du = 0) : r_A (nO + 1) (fw_up fG nO.toNat g) (fw_up gG nO.toNat g) (fw_up fD nO.toNat du) (fw_up gD nO.toNat du) := by
  obtain ⟨⟨a1, a2⟩, a3⟩ := h
  have hq : nO < 8 ∧ fc_in g 0 9 = true ∧ fc_in du 0 200 = true := by
    unfold k_order at hk
    by_cases q1 : nO < 8
    · rw [if_pos q1] at hk
      cases q2 : fc_in g 0 9 with
      | false => rw [q2] at hk; simp at hk
      | true =>
        cases q3 : fc_in du 0 200 with
        | false => rw [q2, q3] at hk; simp at hk
        | true => exact ⟨q1, rfl, rfl⟩
    · rw [if_neg q1] at hk; omega
  have q2 := fc_in_t hq.2.1
  have q3 := fc_in_t hq.2.2
  refine ⟨⟨by omega, by omega⟩, fun j hj => ?_⟩
  unfold fw_up
  by_cases hjn : j = nO.toNat
  · rw [if_pos hjn, if_pos hjn, if_pos hjn, if_pos hjn]
    exact ⟨rfl, rfl, q2, q3⟩
  · rw [if_neg hjn, if_neg hjn, if_neg hjn, if_neg hjn]
    exact a3 j (by omega)
theorem fw_upb2 {f : Nat → Int} {k : Nat} {v lo hi : Int} (h : ∀ j, lo ≤ f j ∧ f j ≤ hi) (hv : lo ≤ v ∧ v ≤ hi) : ∀ j, lo ≤ fw_up f k v j ∧ fw_up f k v j ≤ hi := fw_upb h hv.1 hv.2
theorem r_H.ord {nO g du : Int} {gP gL gU gD gG : Nat → Int} {k : Nat} (h : r_H gP gL gU gD gG) (hk : k_order nO g du = 0) : r_H gP gL gU (fw_up gD k du) (fw_up gG k g) := by
  have hq : fc_in g 0 9 = true ∧ fc_in du 0 200 = true := by
    unfold k_order at hk
    by_cases q1 : nO < 8
    · rw [if_pos q1] at hk
      cases q2 : fc_in g 0 9 with
      | false => rw [q2] at hk; simp at hk
      | true =>
        cases q3 : fc_in du 0 200 with
        | false => rw [q2, q3] at hk; simp at hk
        | true => exact ⟨rfl, rfl⟩
    · rw [if_neg q1] at hk; omega
  have q2 := fc_in_t hq.1
  have q3 := fc_in_t hq.2
  exact ⟨h.1, h.2.1, h.2.2.1, fw_upb2 h.2.2.2.1 (by omega), fw_upb2 h.2.2.2.2 (by omega)⟩
theorem r_F.more {ud : Bool} {nO nO' nH : Int} {fL fU eu em eo gP : Nat → Int} (h : r_F ud nO nH fL fU eu em eo gP) (hO : nO ≤ nO') : r_F ud nO' nH fL fU eu em eo gP := fun q => (h q).more hO
theorem r_G.more {cs : Int} {kf : Nat → Bool} {nO nO' nH : Int} {fL fU : Nat → Int} {cu cm co : Nat → Nat → Int} {gP : Nat → Int} (h : r_G cs kf nO nH fL fU cu cm co gP) (hO : nO ≤ nO') : r_G cs kf nO' nH fL fU cu cm co gP := ⟨h.1, h.2.1, fun z hz => ⟨(h.2.2 z hz).1, (h.2.2 z hz).2.more hO⟩⟩
-- stop, go
theorem r_C.add {nS u a b : Int} {fS : Nat → Int64} {xU xF xT : Nat → Int} (h : r_C nS fS xU xF xT) (hk : k_stop nS u a b = 0) : r_C (nS + 1) (fw_up fS u.toNat (fS u.toNat ||| fc_bits a (b - a))) (fw_up xU nS.toNat u) (fw_up xF nS.toNat a) (fw_up xT nS.toNat b) := by
  obtain ⟨⟨a1, a2⟩, a3, a4⟩ := h
  have hq : nS < 10 ∧ fc_in u 0 2 = true ∧ fc_in a 0 60 = true ∧ fc_in b 0 60 = true ∧ a < b := by
    unfold k_stop at hk
    cases q2 : fc_in u 0 2 with
    | false => rw [q2] at hk; simp at hk
    | true =>
      rw [q2, if_pos rfl] at hk
      by_cases q1 : nS < 10
      · rw [if_pos q1] at hk
        cases q3 : fc_in a 0 60 with
        | false => rw [q3] at hk; simp at hk
        | true =>
          cases q4 : fc_in b 0 60 with
          | false => rw [q3, q4] at hk; simp at hk
          | true =>
            rw [q3, q4] at hk
            by_cases q5 : a < b
            · exact ⟨q1, rfl, rfl, rfl, q5⟩
            · simp [q5] at hk
      · rw [if_neg q1] at hk; omega
  obtain ⟨q1, q2, q3, q4, q5⟩ := hq
  have r2 := fc_in_t q2
  have r3 := fc_in_t q3
  have r4 := fc_in_t q4
  exact ⟨⟨by omega, by omega⟩, by rw [show (nS + 1).toNat = nS.toNat + 1 by omega]; exact r_st1 a3 (by omega) (by omega) (by omega) q5 (by omega), by rw [show (nS + 1).toNat = nS.toNat + 1 by omega]; exact r_sb1 a4 (by omega) (by omega) (by omega) q5 (by omega)⟩
theorem r_C.none {xU xF xT : Nat → Int} : r_C 0 (fun _ => 0) xU xF xT := ⟨⟨by omega, by omega⟩, r_st0, r_sb0⟩
theorem r_D.set {n f : Int} (hk : k_clock n f = 0) : r_D n f := by
  unfold k_clock at hk
  cases q1 : fc_in n 0 60 with
  | false => rw [q1] at hk; simp at hk
  | true =>
    cases q2 : fc_in f 0 60 with
    | false => rw [q1, q2] at hk; simp at hk
    | true =>
      have r1 := fc_in_t q1
      have r2 := fc_in_t q2
      exact ⟨by omega, by omega, by omega, by omega⟩
theorem r_x {nS : Int} {fS : Nat → Int64} {xU xF xT : Nat → Int} (h : r_C nS fS xU xF xT) : ∀ j : Nat, (j : Int) < nS → fw_b (xU j) ∧ fw_b (xF j) ∧ fw_b (xT j) := by
  intro j hj
  have := h.2.2 j (by omega)
  exact ⟨⟨by omega, by omega⟩, ⟨by omega, by omega⟩, ⟨by omega, by omega⟩⟩
