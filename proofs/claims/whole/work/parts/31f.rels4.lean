-- what the reference's methods ask of its rows
theorem r_N {nO nH : Int} {fL fU au am ao gP : Nat → Int} (hE : r_V nO nH fL fU au am ao gP 0) : ∀ j : Nat, (j : Int) < nH → 0 ≤ gP (3 * j) ∧ gP (3 * j) < 3 := by
  intro j hj
  obtain ⟨p1, p2, p3⟩ := hE.1 j (by omega)
  have hv := hE.2 j hj
  rw [Nat.zero_add] at p1
  rw [← p1]
  exact ⟨hv.1, hv.2.1⟩
theorem r_O {nO nH : Int} {fL fU au am ao gP : Nat → Int} (hE : r_V nO nH fL fU au am ao gP 0) : ∀ j : Nat, (j : Int) < nH → 0 ≤ gP (3 * j + 2) ∧ gP (3 * j + 2) < nO := by
  intro j hj
  obtain ⟨p1, p2, p3⟩ := hE.1 j (by omega)
  have hv := hE.2 j hj
  rw [Nat.zero_add] at p3
  rw [← p3]
  exact ⟨hv.2.2.2.2.1, hv.2.2.2.2.2.1⟩
theorem r_O8 {nO nH : Int} {fL fU au am ao gP : Nat → Int} (hE : r_V nO nH fL fU au am ao gP 0) (h8 : nO ≤ 8) : ∀ j : Nat, (j : Int) < nH → 0 ≤ gP (3 * j + 2) ∧ gP (3 * j + 2) < 8 := by
  intro j hj
  have := r_O hE j hj
  omega
theorem r_PL {nO nH : Int} {fL gL fU gU au am ao gP : Nat → Int} (hB : r_B nH fL gL fU gU) (hE : r_V nO nH fL fU au am ao gP 0) : ∀ j, j < nH.toNat → 0 ≤ gP (3 * j) ∧ 0 ≤ gP (3 * j + 1) ∧ gP (3 * j + 1) < 60 := by
  intro j hj
  obtain ⟨p1, p2, p3⟩ := hE.1 j hj
  have hv := hE.2 j (by omega)
  have hb := hB.2 j (by omega)
  rw [Nat.zero_add] at p1 p2
  rw [← p1, ← p2]
  exact ⟨hv.1, hv.2.2.1, by omega⟩
theorem r_PQ {nO nH : Int} {fL fU au am ao gP : Nat → Int} (hE : r_V nO nH fL fU au am ao gP 0) (h8 : nO ≤ 8) : ∀ j, j < nH.toNat → gP (3 * j) < 3 ∧ 0 ≤ gP (3 * j + 2) ∧ gP (3 * j + 2) < 8 := by
  intro j hj
  have h1 := r_N hE j (by omega)
  have h2 := r_O hE j (by omega)
  omega
theorem r_costb {fL fD am ao : Nat → Int} : ∀ n : Nat, (∀ j, j < n → am j + fL j ≤ 60 ∧ 0 ≤ fD (ao j).toNat) → 0 ≤ fc_sum (fc_late fL fD am ao) n ∧ fc_sum (fc_late fL fD am ao) n ≤ 60 * (n : Int)
  | 0, _ => by simp [fc_sum]
  | n + 1, h => by
    have ih := r_costb n (fun j hj => h j (by omega))
    have q := h n (by omega)
    have q4 : 0 ≤ fc_late fL fD am ao n ∧ fc_late fL fD am ao n ≤ 60 := by
      unfold fc_late
      omega
    simp only [fc_sum]
    omega
theorem r_costB {nO nH : Int} {fG gG fD gD fL gL fU gU au am ao gP : Nat → Int} (hA : r_A nO fG gG fD gD) (hB : r_B nH fL gL fU gU) (hE : r_V nO nH fL fU au am ao gP 0) : 0 ≤ fc_sum (fc_late fL fD am ao) nH.toNat ∧ fc_sum (fc_late fL fD am ao) nH.toNat ≤ 360 := by
  have h1 := r_costb (fL := fL) (fD := fD) (am := am) (ao := ao) nH.toNat (fun j hj => by
    have hv := hE.2 j (by omega)
    have ha := hA.2 (ao j).toNat (by omega)
    exact ⟨hv.2.2.2.1, ha.2.2.2.1⟩)
  have h2 := hB.1
  omega
/-- behind a run -/
theorem r_run4 {nO nH lo al cs : Int} {ud uz : Bool} {kf : Nat → Bool} {cu cm co : Nat → Nat → Int} {fr : Int → Int → Int → Bool} {lt : Nat → Int → Int} {fL fU au am ao eu em eo gP x xP pu pm po vu vm vo gL gU gD gG : Nat → Int} {r : Nat} {S : SS} (h6 : nH ≤ 6) (hE : r_V nO nH fL fU au am ao gP 0) (hF : r_F ud nO nH fL fU eu em eo gP) (hG : r_G cs kf nO nH fL fU cu cm co gP) (hH : r_H gP gL gU gD gG)
    (hR : sp_run nH.toNat fL fU lt au am fr al lo = (r, S)) (hw : tq_w gP x) (hs : tq_s gP nH.toNat S x)
    (h1 : ¬ S.1 = none ∧ 0 < r → uz = true ∧ vu = au ∧ vm = am ∧ vo = ao ∧ ∀ j, j < nH.toNat → pu j = S.2.2.2.2.1 j ∧ pm j = S.2.2.2.2.2 j ∧ po j = ao j)
    (h2 : ¬ (¬ S.1 = none ∧ 0 < r) → uz = ud ∧ vu = eu ∧ vm = em ∧ vo = eo ∧ pu = au ∧ pm = am ∧ po = ao)
    (h3 : ¬ S.1 = none ∧ 0 < r → uz = true ∧ xP = fm_cp 36 0 (fm_cp 0 54 x)) (h4 : ¬ (¬ S.1 = none ∧ 0 < r) → uz = ud ∧ xP = x) :
    r_V nO nH fL fU pu pm po xP 0 ∧ r_F uz nO nH fL fU vu vm vo xP ∧ r_G cs kf nO nH fL fU cu cm co xP ∧ r_H xP gL gU gD gG := by
  by_cases q : ¬ S.1 = none ∧ 0 < r
  · obtain ⟨a1, rfl, rfl, rfl, a5⟩ := h1 q
    obtain ⟨b1, rfl⟩ := h3 q
    refine ⟨hE.run h6 hR q.1 hs a5, ?_, ?_, ?_⟩
    · rw [a1]
      exact hE.old h6 (fun j hj => by rw [fm_cp_out (by omega), r_cp_old hj]; exact hw.2 j (Or.inl hj))
    · exact hG.kept h6 (fun j hj => by rw [fm_cp_out (by omega), fm_cp_out (by omega)]; exact hw.2 j (Or.inr (by omega)))
    · exact ⟨fm_cp_b (fm_cp_b hw.1), hH.2⟩
  · obtain ⟨a1, rfl, rfl, rfl, rfl, rfl, rfl⟩ := h2 q
    obtain ⟨b1, rfl⟩ := h4 q
    refine ⟨hE.kept h6 (fun j hj => hw.2 _ (Or.inl (by omega))), ?_, ?_, ?_⟩
    · rw [a1]
      exact hF.kept h6 (fun j hj => hw.2 _ (Or.inr (by omega)))
    · exact hG.kept h6 (fun j hj => hw.2 _ (Or.inr (by omega)))
    · exact ⟨hw.1, hH.2⟩
-- codes are small
theorem k_order_b (nO g du : Int) : 0 ≤ k_order nO g du ∧ k_order nO g du ≤ 4 := by
  unfold k_order; (repeat' split) <;> omega
theorem k_stop_b (nS u a b : Int) : 0 ≤ k_stop nS u a b ∧ k_stop nS u a b ≤ 4 := by
  unfold k_stop; (repeat' split) <;> omega
theorem k_clock_b (n f : Int) : 0 ≤ k_clock n f ∧ k_clock n f ≤ 4 := by
  unfold k_clock; (repeat' split) <;> omega
theorem k_divert_b (nH nO h o : Int) (fG ao : Nat → Int) : 0 ≤ k_divert nH nO h o fG ao ∧ k_divert nH nO h o fG ao ≤ 4 := by
  unfold k_divert; (repeat' split) <;> omega
theorem k_place_b (nH nW nF h u mi : Int) (fS : Nat → Int64) (fU fL au am : Nat → Int) : 0 ≤ k_place nH nW nF h u mi fS fU fL au am ∧ k_place nH nW nF h u mi fS fU fL au am ≤ 4 := by
  unfold k_place; (repeat' split) <;> omega
theorem k_told_b (w : Int) (wr : Bool) : 0 ≤ k_told w wr ∧ k_told w wr ≤ 4 := by
  unfold k_told; (repeat' split) <;> omega
theorem k_at_b (nH h w : Int) : 0 ≤ k_at nH h w ∧ k_at nH h w ≤ 4 := by
  unfold k_at; (repeat' split) <;> omega
theorem k_on_b (u mi : Int) : 0 ≤ k_on u mi ∧ k_on u mi ≤ 4 := by
  unfold k_on; (repeat' split) <;> omega
theorem k_keep_b (z : Int) : 0 ≤ k_keep z ∧ k_keep z ≤ 4 := by
  unfold k_keep; (repeat' split) <;> omega
theorem k_use_b (z : Int) (kf : Nat → Bool) : 0 ≤ k_use z kf ∧ k_use z kf ≤ 4 := by
  unfold k_use; (repeat' split) <;> omega
theorem k_undo_b (ud : Bool) : 0 ≤ k_undo ud ∧ k_undo ud ≤ 4 := by
  unfold k_undo; (repeat' split) <;> omega
theorem k_run_b (n : Int) : 0 ≤ k_run n ∧ k_run n ≤ 4 := by
  unfold k_run; (repeat' split) <;> omega
theorem k_heat_b (nO nH o le us u mi : Int) (fS : Nat → Int64) (fL au am : Nat → Int) : 0 ≤ k_heat nO nH o le us u mi fS fL au am ∧ k_heat nO nH o le us u mi fS fL au am ≤ 4 := by
  unfold k_heat; (repeat' split) <;> omega
-- the script
def sx (xs : Nat → Int32) (j : Nat) : Int := (xs j).toInt
theorem sx_b (xs : Nat → Int32) (j : Nat) : fw_b (sx xs j) := iI_b _
theorem sx_of {xs : Nat → Int32} {z : Int} {j : Nat} (hz : z = (j : Int)) (hj : j < 2147483648) : (Value.int (xs (iI z).toNatClampNeg)) = .int (iI (sx xs j)) := by
  rw [iI_cl hz hj]
  exact congrArg Value.int (iI_of _)
theorem lw_same {x y : Int64} (h : x = y) : lg_cmp x y = 0 := by
  subst h
  unfold lg_cmp
  simp
