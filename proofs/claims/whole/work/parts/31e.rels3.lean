-- copies
theorem fm_or_bit0 : ∀ n, n < 16 → ∀ k, k < 4 → ∀ z, z < 4 → fc_bit (fm_or ((n : Nat) : Int) k) z = (decide (z = k) || fc_bit ((n : Nat) : Int) z) ∧ 0 ≤ fm_or ((n : Nat) : Int) k ∧ fm_or ((n : Nat) : Int) k < 16 := by decide
theorem fm_or_bit {cs : Int} {k z : Nat} (h0 : 0 ≤ cs) (h1 : cs < 16) (hk : k < 4) (hz : z < 4) : fc_bit (fm_or cs k) z = (decide (z = k) || fc_bit cs z) ∧ 0 ≤ fm_or cs k ∧ fm_or cs k < 16 := by
  obtain ⟨n, rfl⟩ := Int.eq_ofNat_of_zero_le h0
  exact fm_or_bit0 n (by omega) k hk z hz
theorem k_keep0 {z : Int} (hk : k_keep z = 0) : 0 ≤ z ∧ z ≤ 3 := by
  unfold k_keep at hk
  cases q1 : fc_in z 0 3 with
  | false => rw [q1] at hk; simp at hk
  | true => exact fc_in_t q1
theorem r_G.keep {cs z : Int} {kf : Nat → Bool} {nO nH : Int} {fL fU : Nat → Int} {cu cm co : Nat → Nat → Int} {au am ao gP : Nat → Int} (h : r_G cs kf nO nH fL fU cu cm co gP) (hE : r_V nO nH fL fU au am ao gP 0) (h6 : nH ≤ 6) (hk : k_keep z = 0) :
    r_G (fm_or cs z.toNat) (fw_up kf z.toNat true) nO nH fL fU (fw_up cu z.toNat au) (fw_up cm z.toNat am) (fw_up co z.toNat ao) (fm_cp 0 (72 + 18 * z).toNat gP) := by
  obtain ⟨z0, z1⟩ := k_keep0 hk
  obtain ⟨⟨a1, a2⟩, a3, a4⟩ := h
  have hb := fm_or_bit (k := z.toNat) (z := 0) a1 a2 (by omega) (by omega)
  rw [show (72 + 18 * z).toNat = 72 + 18 * z.toNat by omega]
  refine ⟨hb.2, fun y hy => ?_, fun y hy => ?_⟩
  · rw [(fm_or_bit a1 a2 (by omega) hy).1]
    unfold fw_up
    by_cases q : y = z.toNat
    · rw [if_pos q, decide_eq_true q]; rfl
    · rw [if_neg q, decide_eq_false q, a3 y hy]; rfl
  · unfold fw_up at hy ⊢
    by_cases q : y = z.toNat
    · subst q
      rw [if_pos rfl, if_pos rfl, if_pos rfl]
      exact ⟨by omega, hE.kept h6 (fun j hj => by rw [fm_cp_in hj])⟩
    · rw [if_neg q] at hy
      rw [if_neg q, if_neg q, if_neg q]
      obtain ⟨b1, b2⟩ := a4 y hy
      exact ⟨b1, b2.kept h6 (fun j hj => fm_cp_out (by omega))⟩
theorem r_keep_out {gP : Nat → Int} {z : Int} (h0 : 0 ≤ z) {j : Nat} (hj : j < 72) : fm_cp 0 (72 + 18 * z).toNat gP j = gP j := fm_cp_out (by omega)
theorem r_kuse {cs z : Int} {kf : Nat → Bool} {nO nH : Int} {fL fU : Nat → Int} {cu cm co : Nat → Nat → Int} {gP : Nat → Int} (h : r_G cs kf nO nH fL fU cu cm co gP) : k_use z kf = k_use z (fc_bit cs) := by
  unfold k_use
  cases q1 : fc_in z 0 3 with
  | false => simp
  | true =>
    have r1 := fc_in_t q1
    rw [h.2.1 z.toNat (by omega)]
theorem k_use0 {z : Int} {kf : Nat → Bool} (hk : k_use z kf = 0) : (0 ≤ z ∧ z ≤ 3) ∧ kf z.toNat = true := by
  unfold k_use at hk
  cases q1 : fc_in z 0 3 with
  | false => rw [q1] at hk; simp at hk
  | true =>
    cases q2 : kf z.toNat with
    | false => rw [q1, q2] at hk; simp at hk
    | true => exact ⟨fc_in_t q1, rfl⟩
theorem r_V.use {cs z : Int} {kf : Nat → Bool} {nO nH : Int} {fL fU : Nat → Int} {cu cm co : Nat → Nat → Int} {gP : Nat → Int} (h : r_G cs kf nO nH fL fU cu cm co gP) (h6 : nH ≤ 6) (hk : k_use z kf = 0) : r_V nO nH fL fU (cu z.toNat) (cm z.toNat) (co z.toNat) (fm_cp (72 + 18 * z).toNat 0 (fm_cp 0 54 gP)) 0 := by
  obtain ⟨⟨z0, z1⟩, q⟩ := k_use0 hk
  obtain ⟨b1, b2⟩ := h.2.2 _ q
  refine b2.kept h6 (fun j hj => ?_)
  rw [fm_cp_in hj, show (72 + 18 * z).toNat = 72 + 18 * z.toNat by omega, fm_cp_out (by omega)]
theorem r_use_hi {gP : Nat → Int} {f j : Nat} (hj : 54 ≤ j) : fm_cp f 0 (fm_cp 0 54 gP) j = fm_cp 0 54 gP j := fm_cp_out (by omega)
theorem r_hi {gP : Nat → Int} {j : Nat} (hj : 72 ≤ j) : fm_cp 0 54 gP j = gP j := fm_cp_out (by omega)
theorem r_V.undo {ud : Bool} {nO nH : Int} {fL fU eu em eo gP : Nat → Int} (h : r_F ud nO nH fL fU eu em eo gP) (h6 : nH ≤ 6) (hk : k_undo ud = 0) : r_V nO nH fL fU eu em eo (fm_cp 54 0 gP) 0 := by
  have q : ud = true := by
    unfold k_undo at hk
    cases q1 : ud with
    | false => rw [q1] at hk; simp at hk
    | true => rfl
  exact (h q).kept h6 (fun j hj => fm_cp_in hj)
theorem r_F.off {nO nH : Int} {fL fU eu em eo gP : Nat → Int} : r_F false nO nH fL fU eu em eo gP := fun q => absurd q (by decide)
theorem r_G.off {nO nH : Int} {fL fU : Nat → Int} {cu cm co : Nat → Nat → Int} {gP : Nat → Int} : r_G 0 (fun _ => false) nO nH fL fU cu cm co gP := ⟨⟨by omega, by omega⟩, fun z _ => by unfold fc_bit; simp, fun z hz => absurd (show false = true from hz) (by decide)⟩
-- answers
theorem r_cost {nO nH : Int} {fG gG fD gD fL gL fU gU au am ao gP : Nat → Int} (hA : r_A nO fG gG fD gD) (hB : r_B nH fL gL fU gU) (hE : r_V nO nH fL fU au am ao gP 0) : fc_sum (fc_late fL fD am ao) nH.toNat = fc_sum (fm_late gP gL gD 0) nH.toNat := by
  apply fc_sum_congr
  intro j hj
  obtain ⟨p1, p2, p3⟩ := hE.1 j hj
  have hv := hE.2 j (by omega)
  have e1 := (hA.2 (ao j).toNat (by omega)).2.1
  have e2 := (hB.2 j (by omega)).1
  unfold fc_late fm_late
  rw [e1, e2, p2, p3]
theorem fc_find_congr {P Q : Nat → Bool} : ∀ {k i : Nat}, (∀ j, i ≤ j → j < i + k → P j = Q j) → fc_find P k i = fc_find Q k i
  | 0, _, _ => rfl
  | k + 1, i, h => by
    simp only [fc_find]
    rw [h i (by omega) (by omega), fc_find_congr (fun j h1 h2 => h j (by omega) (by omega))]
theorem r_on {nO nH u mi : Int} {fL gL fU gU au am ao gP : Nat → Int} (hB : r_B nH fL gL fU gU) (hE : r_V nO nH fL fU au am ao gP 0) : fc_find (fc_onP fL au am u mi) nH.toNat 0 = fc_find (fc_onP gL (fun j => gP (3 * j)) (fun j => gP (3 * j + 1)) u mi) nH.toNat 0 := by
  apply fc_find_congr
  intro j _ hj
  obtain ⟨p1, p2, p3⟩ := hE.1 j (by omega)
  rw [Nat.zero_add] at p1 p2
  unfold fc_onP
  rw [p1, p2, (hB.2 j (by omega)).1]
theorem r_at {nO nH nW nF nS h w : Int} {fS : Nat → Int64} {xU xF xT fL gL fU gU au am ao gP : Nat → Int} (hB : r_B nH fL gL fU gU) (hC : r_C nS fS xU xF xT) (hE : r_V nO nH fL fU au am ao gP 0) (hk : k_at nH h w = 0) : fc_at w h nH nW nF fS fU fL au am ao = fm_at w h gP gU gL xU xF xT nH.toNat nS.toNat (nW + nF) := by
  unfold k_at at hk
  cases q1 : fc_in h 0 (nH - 1) with
  | false => rw [q1] at hk; simp at hk
  | true =>
    cases q2 : fc_in w 0 4 with
    | false => rw [q1, q2] at hk; simp at hk
    | true =>
      have r1 := fc_in_t q1
      obtain ⟨p1, p2, p3⟩ := hE.1 h.toNat (by omega)
      have hv := hE.2 h.toNat (by omega)
      rw [Nat.zero_add] at p1 p2 p3
      have e := r_fit hB hC hE r1.1 (show h < nH by omega) hv.1 hv.2.1 hv.2.2.1
      rcases fc_in4 q2 with rfl | rfl | rfl | rfl | rfl
      · simp only [fc_at, fm_at]; rw [p1]; rfl
      · simp only [fc_at, fm_at]; rw [p2]; rfl
      · simp only [fc_at, fm_at]; rw [p3]; rfl
      · show (if fc_fits fS fU fL au am nH h (au h.toNat) (am h.toNat) = true then (1 : Int) else 0) = (if fm_fits gP gU gL xU xF xT nH.toNat nS.toNat h (gP (3 * h.toNat)) (gP (3 * h.toNat + 1)) = true then 1 else 0)
        rw [e, p1, p2]
      · show (if decide (am h.toNat < nW + nF) = true then (1 : Int) else 0) = (if decide (gP (3 * h.toNat + 1) < nW + nF) = true then 1 else 0)
        rw [p2]
theorem r_cmp {cs z : Int} {kf : Nat → Bool} {nO nH : Int} {fL fU : Nat → Int} {cu cm co : Nat → Nat → Int} {au am ao gP : Nat → Int} (h : r_G cs kf nO nH fL fU cu cm co gP) (hE : r_V nO nH fL fU au am ao gP 0) (hk : k_use z kf = 0) : fc_sum (fc_cmp au am ao (cu z.toNat) (cm z.toNat) (co z.toNat)) nH.toNat = fc_sum (fm_cmp gP z) nH.toNat := by
  obtain ⟨⟨z0, z1⟩, q⟩ := k_use0 hk
  obtain ⟨b1, b2⟩ := h.2.2 _ q
  apply fc_sum_congr
  intro j hj
  obtain ⟨p1, p2, p3⟩ := hE.1 j hj
  obtain ⟨c1, c2, c3⟩ := b2.1 j hj
  rw [Nat.zero_add] at p1 p2 p3
  unfold fc_cmp fm_cmp
  have e : fc_same au am ao (cu z.toNat) (cm z.toNat) (co z.toNat) j = fm_all (fm_sm gP z j) 3 := by
    unfold fc_same
    simp only [fm_all, fm_sm, Bool.true_and, Nat.add_zero]
    rw [p1, p2, p3, c1, c2, c3]
  rw [e]
-- what a search finds is a plan
section VAL
variable {n : Nat} {le us : Nat → Int} {lt : Nat → Int → Int} {ou om : Nat → Int} {fr : Int → Int → Int → Bool} {al : Int}
def vl (le us : Nat → Int) (j : Nat) (u m : Int) : Prop := 0 ≤ u ∧ u < 3 ∧ 0 ≤ m ∧ m + le j ≤ 60 ∧ fc_bit (us j) u.toNat = true
def vs (n : Nat) (le us : Nat → Int) (S : SS) : Prop := S.1 ≠ none → ∀ j, j < n → vl le us j (S.2.2.2.2.1 j) (S.2.2.2.2.2 j)
theorem sc_keep {P : SS → Prop} {f : Nat → SS → SS} (h : ∀ p S, p < 180 → P S → P (f p S)) : ∀ k, k ≤ 180 → ∀ S, P S → P (sp_sc f k S)
  | 0, _, _, hS => hS
  | k + 1, hk, S, hS => h k _ (by omega) (sc_keep h k (by omega) S hS)
theorem vs_dfs {se : Int} : ∀ (k h : Nat) (c : Int) (tu tm : Nat → Int) (S : SS), h + k = n → (∀ g, g < n → sp_on se h g = true → vl le us g (tu g) (tm g)) → vs n le us S → vs n le us (sp_dfs n le us lt ou om fr al se k h c tu tm S) := by
  intro k
  induction k with
  | zero =>
    intro h c tu tm S hk ht hS _ j hj
    show vl le us j (sp_tr n tu j) (sp_tr n tm j)
    unfold sp_tr
    rw [if_pos hj, if_pos hj]
    exact ht j hj (by unfold sp_on; simp; omega)
  | succ k ih =>
    intro h c tu tm S hk ht hS
    cases hb : fc_bit se h with
    | false =>
      rw [sp_dfs_out n le us lt ou om fr al hb]
      exact ih (h + 1) c tu tm S (by omega) (fun g hg ho => ht g hg (by rw [sp_on_out hb] at ho; exact ho)) hS
    | true =>
      rw [sp_dfs_in n le us lt ou om fr al hb]
      refine sc_keep (P := vs n le us) ?_ 180 (Nat.le_refl _) S hS
      intro p T hp hT
      unfold sp_f
      by_cases q1 : T.2.2.1 = true
      · rw [if_pos q1]; exact hT
      · rw [if_neg q1]
        by_cases q2 : sp_ok n le us ou om fr se tu tm h ((p / 60 : Nat) : Int) ((p % 60 : Nat) : Int) = true
        · rw [if_pos q2]
          unfold sp_try
          by_cases q3 : al ≤ T.2.1
          · rw [if_pos q3]; exact hT
          · rw [if_neg q3]
            by_cases q4 : sp_ge T.1 (c + lt h ((p % 60 : Nat) : Int)) = true
            · rw [if_pos q4]; exact hT
            · rw [if_neg q4]
              refine ih (h + 1) _ _ _ _ (by omega) (fun g hg ho => ?_) hT
              unfold fw_up
              by_cases hgh : g = h
              · subst hgh
                rw [if_pos rfl, if_pos rfl]
                unfold sp_ok at q2
                simp only [Bool.and_eq_true, decide_eq_true_eq] at q2
                exact ⟨by omega, by omega, by omega, q2.1.1.1.2, q2.1.1.1.1⟩
              · rw [if_neg hgh, if_neg hgh]
                exact ht g hg (sp_on_succ ho hgh)
        · rw [if_neg q2]; exact hT
theorem vs_set (ho : ∀ j, j < n → vl le us j (ou j) (om j)) (se : Int) {S : SS} (hS : vs n le us S) : vs n le us (sp_set n le us lt ou om fr al se S) := by
  unfold sp_set
  split
  · split
    · exact hS
    · exact vs_dfs n 0 _ _ _ _ (by omega) (fun g hg _ => ho g hg) hS
  · exact hS
theorem sc_keep64 {P : SS → Prop} {f : Nat → SS → SS} (h : ∀ p S, P S → P (f p S)) : ∀ k S, P S → P (sp_sc f k S)
  | 0, _, hS => hS
  | k + 1, S, hS => h k _ (sc_keep64 h k S hS)
theorem vs_round (ho : ∀ j, j < n → vl le us j (ou j) (om j)) (lo r : Int) {S : SS} (hS : vs n le us S) : vs n le us (sp_round n le us lt ou om fr al lo r S) := by
  unfold sp_round
  refine sc_keep64 (P := vs n le us) ?_ 64 S hS
  intro p T hT
  unfold sp_rf
  split
  · exact hT
  · split
    · exact vs_set ho _ hT
    · exact hT
theorem vs_rs (ho : ∀ j, j < n → vl le us j (ou j) (om j)) (lo : Int) : ∀ (k r : Nat) (S : SS), vs n le us S → vs n le us (sp_rs n le us lt ou om fr al lo k r S).2
  | 0, _, _, hS => hS
  | k + 1, r, S, hS => by
    simp only [sp_rs]
    split
    · exact vs_rs ho lo k (r + 1) _ (vs_round ho lo _ hS)
    · exact hS
theorem vs_run (ho : ∀ j, j < n → vl le us j (ou j) (om j)) (lo : Int) : vs n le us (sp_run n le us lt ou om fr al lo).2 := by
  unfold sp_run
  exact vs_rs ho lo _ _ _ (vs_round ho lo 0 (fun h => absurd rfl h))
end VAL
-- run
theorem r_cg {nO nH : Int} {fG gG fD gD fL gL fU gU au am ao gP : Nat → Int} (hA : r_A nO fG gG fD gD) (hB : r_B nH fL gL fU gU) (hE : r_V nO nH fL fU au am ao gP 0) : cg nH.toNat fL fU gL gU (fc_lt fL fD ao) (fc_lt gL gD (tp_o gP)) au am (tp_u gP) (tp_m gP) := by
  intro j hj
  obtain ⟨p1, p2, p3⟩ := hE.1 j hj
  rw [Nat.zero_add] at p1 p2 p3
  have hv := hE.2 j (by omega)
  have hb := hB.2 j (by omega)
  have e1 := (hA.2 (ao j).toNat (by omega)).2.1
  refine ⟨hb.1, hb.2.1, fun m => ?_, p1, p2⟩
  unfold fc_lt tp_o
  rw [e1, hb.1, p3]
theorem r_run {nO nH nW nF nS al : Int} {fS : Nat → Int64} {xU xF xT fG gG fD gD fL gL fU gU au am ao gP : Nat → Int} (hA : r_A nO fG gG fD gD) (hB : r_B nH fL gL fU gU) (hE : r_V nO nH fL fU au am ao gP 0) :
    sp_run nH.toNat fL fU (fc_lt fL fD ao) au am (tq_fr xU xF xT nS.toNat) al (fc_loose am (nW + nF) nH.toNat) = sp_run nH.toNat gL gU (fc_lt gL gD (tp_o gP)) (tp_u gP) (tp_m gP) (tq_fr xU xF xT nS.toNat) al (fc_loose (tp_m gP) (nW + nF) nH.toNat) := by
  rw [cg_run (r_cg hA hB hE)]
  congr 1
  apply cg_loose
  intro j hj
  have := hE.1 j hj
  rw [Nat.zero_add] at this
  exact this.2.1
theorem r_V.run {nO nH lo al : Int} {fr : Int → Int → Int → Bool} {lt : Nat → Int → Int} {fL fU au am ao gP x pu pm po : Nat → Int} {r : Nat} {S : SS} (hE : r_V nO nH fL fU au am ao gP 0) (h6 : nH ≤ 6) (hR : sp_run nH.toNat fL fU lt au am fr al lo = (r, S)) (hn : ¬ S.1 = none) (hs : tq_s gP nH.toNat S x) (hp : ∀ j, j < nH.toNat → pu j = S.2.2.2.2.1 j ∧ pm j = S.2.2.2.2.2 j ∧ po j = ao j) : r_V nO nH fL fU pu pm po (fm_cp 36 0 (fm_cp 0 54 x)) 0 := by
  have hv : vs nH.toNat fL fU S := by
    have := vs_run (n := nH.toNat) (le := fL) (us := fU) (lt := lt) (ou := au) (om := am) (fr := fr) (al := al) (fun j hj => by
      have h1 := hE.2 j (by omega)
      exact ⟨h1.1, h1.2.1, h1.2.2.1, h1.2.2.2.1, h1.2.2.2.2.2.2⟩) lo
    rw [hR] at this
    exact this
  refine ⟨fun j hj => ?_, fun j hj => ?_⟩
  · obtain ⟨a1, a2, a3⟩ := hs hn j hj
    obtain ⟨b1, b2, b3⟩ := hp j hj
    obtain ⟨c1, c2, c3⟩ := hE.1 j hj
    rw [Nat.zero_add] at c3
    have e0 := fm_cp_in (f := 36) (t := 0) (g := fm_cp 0 54 x) (j := 3 * j) (by omega)
    have e1 := fm_cp_in (f := 36) (t := 0) (g := fm_cp 0 54 x) (j := 3 * j + 1) (by omega)
    have e2 := fm_cp_in (f := 36) (t := 0) (g := fm_cp 0 54 x) (j := 3 * j + 2) (by omega)
    rw [show 0 + 3 * j + 1 = 0 + (3 * j + 1) by omega, show 0 + 3 * j + 2 = 0 + (3 * j + 2) by omega, e0, e1, e2, fm_cp_out (by omega), fm_cp_out (by omega), fm_cp_out (by omega), b1, b2, b3, a1, show 36 + (3 * j + 1) = 36 + 3 * j + 1 by omega, a2, show 36 + (3 * j + 2) = 36 + 3 * j + 2 by omega, a3, c3]
    exact ⟨rfl, rfl, rfl⟩
  · obtain ⟨b1, b2, b3⟩ := hp j (by omega)
    have h1 := hE.2 j hj
    have h2 := hv hn j (by omega)
    rw [b1, b2, b3]
    exact ⟨h2.1, h2.2.1, h2.2.2.1, h2.2.2.2.1, h1.2.2.2.2.1, h1.2.2.2.2.2.1, h2.2.2.2.2⟩
