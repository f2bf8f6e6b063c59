-- class and reference: stops
def r_st (fS : Nat → Int64) (xU xF xT : Nat → Int) (nS : Nat) : Prop := ∀ u : Nat, u < 3 → ∀ j : Nat, j < 64 → (lb (fS u) j = true ↔ ∃ i, i < nS ∧ xU i = (u : Int) ∧ xF i ≤ (j : Int) ∧ (j : Int) < xT i)
def r_sb (xU xF xT : Nat → Int) (nS : Nat) : Prop := ∀ i, i < nS → 0 ≤ xU i ∧ xU i < 3 ∧ 0 ≤ xF i ∧ xF i < xT i ∧ xT i ≤ 60
theorem fm_st_iff {xU xF xT : Nat → Int} {u m l : Int} : ∀ {n : Nat}, fm_st xU xF xT u m l n = true ↔ ∀ i, i < n → ¬ xU i = u ∨ xT i ≤ m ∨ m + l ≤ xF i
  | 0 => by simp [fm_st]
  | n + 1 => by
    simp only [fm_st, Bool.and_eq_true, Bool.or_eq_true, decide_eq_true_eq]
    rw [fm_st_iff]
    constructor
    · intro h i hi
      by_cases hin : i = n
      · subst hin
        rcases h.2 with (q | q) | q
        · exact Or.inl q
        · exact Or.inr (Or.inl q)
        · exact Or.inr (Or.inr q)
      · exact h.1 i (by omega)
    · intro h
      refine ⟨fun i hi => h i (by omega), ?_⟩
      rcases h n (by omega) with q | q | q
      · exact Or.inl (Or.inl q)
      · exact Or.inl (Or.inr q)
      · exact Or.inr q
theorem r_fr {fS : Nat → Int64} {xU xF xT : Nat → Int} {nS : Nat} (h : r_st fS xU xF xT nS) (hb : r_sb xU xF xT nS) : fr_ok fS (tq_fr xU xF xT nS) := by
  intro u hu m l hm hl hml
  unfold tq_fr
  rw [fm_st_iff]
  constructor
  · intro hq j h1 h2
    cases hz : lb (fS u) j with
    | false => rfl
    | true =>
      obtain ⟨i, hi, e1, e2, e3⟩ := (h u hu j (by omega)).mp hz
      rcases hq i hi with q | q | q
      · exact absurd e1 q
      · omega
      · omega
  · intro hq i hi
    have hbi := hb i hi
    by_cases e1 : xU i = (u : Int)
    · by_cases e2 : xT i ≤ m
      · exact Or.inr (Or.inl e2)
      · by_cases e3 : m + l ≤ xF i
        · exact Or.inr (Or.inr e3)
        · exfalso
          have h1 := hq (max m (xF i)).toNat (by omega) (by omega)
          have h2 := (h u hu (max m (xF i)).toNat (by omega)).mpr ⟨i, hi, e1, by omega, by omega⟩
          rw [h1] at h2
          exact absurd h2 (by decide)
    · exact Or.inl e1
theorem r_st0 {xU xF xT : Nat → Int} : r_st (fun _ => 0) xU xF xT 0 := by
  intro u hu j hj
  constructor
  · intro h; rw [lb_0] at h; exact absurd h (by decide)
  · rintro ⟨i, hi, _⟩; omega
theorem r_sb0 {xU xF xT : Nat → Int} : r_sb xU xF xT 0 := fun i hi => by omega
theorem r_st1 {fS : Nat → Int64} {xU xF xT : Nat → Int} {nS : Nat} {u a b : Int} (h : r_st fS xU xF xT nS) (h0 : 0 ≤ u) (hu : u < 3) (ha : 0 ≤ a) (hab : a < b) (hb : b ≤ 60) : r_st (fw_up fS u.toNat (fS u.toNat ||| fc_bits a (b - a))) (fw_up xU nS u) (fw_up xF nS a) (fw_up xT nS b) (nS + 1) := by
  intro v hv j hj
  have key : (∃ i, i < nS + 1 ∧ fw_up xU nS u i = (v : Int) ∧ fw_up xF nS a i ≤ (j : Int) ∧ (j : Int) < fw_up xT nS b i) ↔ ((∃ i, i < nS ∧ xU i = (v : Int) ∧ xF i ≤ (j : Int) ∧ (j : Int) < xT i) ∨ (u = (v : Int) ∧ a ≤ (j : Int) ∧ (j : Int) < b)) := by
    constructor
    · rintro ⟨i, hi, q1, q2, q3⟩
      unfold fw_up at q1 q2 q3
      by_cases hin : i = nS
      · rw [if_pos hin] at q1 q2 q3
        exact Or.inr ⟨q1, q2, q3⟩
      · rw [if_neg hin] at q1 q2 q3
        exact Or.inl ⟨i, by omega, q1, q2, q3⟩
    · rintro (⟨i, hi, q1, q2, q3⟩ | ⟨q1, q2, q3⟩)
      · refine ⟨i, by omega, ?_, ?_, ?_⟩ <;> (unfold fw_up; rw [if_neg (by omega)]; assumption)
      · refine ⟨nS, by omega, ?_, ?_, ?_⟩ <;> (unfold fw_up; rw [if_pos rfl]; assumption)
  rw [key]
  clear key
  by_cases huv : v = u.toNat
  · subst huv
    unfold fw_up
    rw [if_pos rfl, lb_or, Bool.or_eq_true, h u.toNat hv j hj, lb_bits ha (by omega) (by omega) (by omega) hj]
    constructor
    · rintro (q | q)
      · exact Or.inl q
      · exact Or.inr ⟨by omega, by omega, by omega⟩
    · rintro (q | q)
      · exact Or.inl q
      · exact Or.inr ⟨by omega, by omega⟩
  · unfold fw_up
    rw [if_neg huv, h v hv j hj]
    constructor
    · intro q; exact Or.inl q
    · rintro (q | q)
      · exact q
      · exact absurd q.1 (by omega)
theorem r_sb1 {xU xF xT : Nat → Int} {nS : Nat} {u a b : Int} (h : r_sb xU xF xT nS) (h0 : 0 ≤ u) (hu : u < 3) (ha : 0 ≤ a) (hab : a < b) (hb : b ≤ 60) : r_sb (fw_up xU nS u) (fw_up xF nS a) (fw_up xT nS b) (nS + 1) := by
  intro i hi
  unfold fw_up
  by_cases hin : i = nS
  · rw [if_pos hin, if_pos hin, if_pos hin]; omega
  · rw [if_neg hin, if_neg hin, if_neg hin]; exact h i (by omega)
-- what fits
theorem r_tk {s0 : Int64} {bu u : Int} {au am le : Nat → Int} {j : Nat} (hj : j < 64) : ∀ {n : Nat}, (∀ g, g < n → 0 ≤ am g ∧ 1 ≤ le g ∧ am g + le g ≤ 60) → (lb (fc_tk s0 bu u au am le n) j = true ↔ lb s0 j = true ∨ ∃ g, g < n ∧ (g : Int) ≠ bu ∧ au g = u ∧ am g ≤ (j : Int) ∧ (j : Int) < am g + le g)
  | 0, _ => by
    simp only [fc_tk]
    constructor
    · intro q; exact Or.inl q
    · rintro (q | ⟨g, hg, _⟩)
      · exact q
      · omega
  | n + 1, hb => by
    have ih := r_tk (s0 := s0) (bu := bu) (u := u) (au := au) hj (n := n) (fun g hg => hb g (by omega))
    have hbn := hb n (by omega)
    simp only [fc_tk]
    by_cases hc : (n : Int) ≠ bu ∧ au n = u
    · rw [if_pos hc, lb_or, Bool.or_eq_true, ih, lb_bits hbn.1 (by omega) hbn.2.2 (by omega) hj]
      constructor
      · rintro ((q | ⟨g, hg, q⟩) | q)
        · exact Or.inl q
        · exact Or.inr ⟨g, by omega, q⟩
        · exact Or.inr ⟨n, by omega, hc.1, hc.2, q.1, q.2⟩
      · rintro (q | ⟨g, hg, q1, q2, q3⟩)
        · exact Or.inl (Or.inl q)
        · by_cases hgn : g = n
          · subst hgn; exact Or.inr q3
          · exact Or.inl (Or.inr ⟨g, by omega, q1, q2, q3⟩)
    · rw [if_neg hc, ih]
      constructor
      · rintro (q | ⟨g, hg, q⟩)
        · exact Or.inl q
        · exact Or.inr ⟨g, by omega, q⟩
      · rintro (q | ⟨g, hg, q1, q2, q3⟩)
        · exact Or.inl q
        · have hgn : g ≠ n := by
            intro z; subst z; exact hc ⟨q1, q2⟩
          exact Or.inr ⟨g, by omega, q1, q2, q3⟩
theorem r_room {fS : Nat → Int64} {xU xF xT : Nat → Int} {nS n : Nat} {bu u mi wa : Int} {au am le : Nat → Int} (h : r_st fS xU xF xT nS) (hb : r_sb xU xF xT nS) (h0 : 0 ≤ u) (hu : u < 3) (hm : 0 ≤ mi) (hw : 1 ≤ wa) (hg : ∀ g, g < n → 0 ≤ am g ∧ 1 ≤ le g ∧ am g + le g ≤ 60) :
    fc_room (fS u.toNat) bu u au am le n mi wa = (decide (mi + wa ≤ 60) && fm_st xU xF xT u mi wa nS && fm_all (fun g => !(decide (¬ (g : Int) = bu) && decide (au g = u) && decide (am g < mi + wa) && decide (mi < am g + le g))) n) := by
  unfold fc_room
  by_cases hl : mi + wa ≤ 60
  · rw [decide_eq_true hl, Bool.true_and, Bool.true_and]
    have hfr := r_fr h hb u.toNat (by omega) mi wa hm hw hl
    rw [Int.toNat_of_nonneg h0] at hfr
    unfold tq_fr at hfr
    have hbits : ∀ j, j < 64 → (lb (fc_bits mi wa) j = true ↔ mi ≤ (j : Int) ∧ (j : Int) < mi + wa) := fun j hj => lb_bits hm (by omega) hl (by omega) hj
    rw [Bool.eq_iff_iff, decide_eq_true_eq, Bool.and_eq_true, lb_and0, hfr, fm_all_iff]
    constructor
    · intro hz
      refine ⟨fun j h1 h2 => ?_, fun g hgn => ?_⟩
      · have hj : j < 64 := by omega
        cases h5 : lb (fS u.toNat) j with
        | false => rfl
        | true => exact absurd ⟨(r_tk hj hg).mpr (Or.inl h5), (hbits j hj).mpr ⟨h1, h2⟩⟩ (hz j hj)
      · obtain ⟨r1, r2, r3⟩ := hg g hgn
        simp only [Bool.not_eq_true', Bool.and_eq_false_iff, decide_eq_false_iff_not]
        by_cases e1 : (g : Int) = bu
        · exact Or.inl (Or.inl (Or.inl (fun q => q e1)))
        · by_cases e2 : au g = u
          · by_cases e3 : am g < mi + wa
            · by_cases e4 : mi < am g + le g
              · exfalso
                have hj : (max mi (am g)).toNat < 64 := by omega
                exact hz _ hj ⟨(r_tk hj hg).mpr (Or.inr ⟨g, hgn, e1, e2, by omega, by omega⟩), (hbits _ hj).mpr ⟨by omega, by omega⟩⟩
              · exact Or.inr e4
            · exact Or.inl (Or.inr e3)
          · exact Or.inl (Or.inl (Or.inr e2))
    · rintro ⟨h1, h2⟩ j hj ⟨h3, h4⟩
      rw [hbits j hj] at h4
      rcases (r_tk hj hg).mp h3 with h5 | ⟨g, hgn, q1, q2, q3, q4⟩
      · rw [h1 j h4.1 h4.2] at h5
        exact absurd h5 (by decide)
      · have h6 := h2 g hgn
        have h7 : ¬ (g : Int) = bu := q1
        simp only [h7, q2, not_false_eq_true, decide_true, Bool.true_and, Bool.not_eq_true', Bool.and_eq_false_iff, decide_eq_false_iff_not] at h6
        omega
  · rw [decide_eq_false hl]
    simp
/-- plan rows of the class and of the reference -/
def r_pl (n : Nat) (au am ao gP : Nat → Int) (k : Nat) : Prop := ∀ j, j < n → au j = gP (k + 3 * j) ∧ am j = gP (k + 3 * j + 1) ∧ ao j = gP (k + 3 * j + 2)
theorem r_fits {fS : Nat → Int64} {xU xF xT : Nat → Int} {nS : Nat} {nH h u mi : Int} {fU fL gU gL au am ao gP : Nat → Int} (hs : r_st fS xU xF xT nS) (hb : r_sb xU xF xT nS) (h0 : 0 ≤ u) (hu : u < 3) (hm : 0 ≤ mi) (hh : 0 ≤ h) (hw : 1 ≤ fL h.toNat) (e1 : fU h.toNat = gU h.toNat) (e2 : ∀ g, g < nH.toNat → fL g = gL g) (e3 : fL h.toNat = gL h.toNat)
    (hg : ∀ g, g < nH.toNat → 0 ≤ am g ∧ 1 ≤ fL g ∧ am g + fL g ≤ 60) (hp : r_pl nH.toNat au am ao gP 0) : fc_fits fS fU fL au am nH h u mi = fm_fits gP gU gL xU xF xT nH.toNat nS h u mi := by
  unfold fc_fits fm_fits fm_free
  rw [r_room hs hb h0 hu hm hw hg, e1, e3]
  simp only [Bool.and_assoc]
  congr 3
  apply fm_all_congr
  intro g hgn
  unfold fm_meet
  obtain ⟨p1, p2, p3⟩ := hp g hgn
  rw [p1, p2, e2 g hgn]
  have e4 : (0 : Int).toNat = 0 := rfl
  rw [Int.toNat_natCast, e4]
  simp only [Bool.and_assoc]
-- the search of one and of the other: only the heats that there are count
section CG
variable {n : Nat} {le us le' us' : Nat → Int} {lt lt' : Nat → Int → Int} {ou om ou' om' : Nat → Int} {fr : Int → Int → Int → Bool} {al : Int}
def cg (n : Nat) (le us le' us' : Nat → Int) (lt lt' : Nat → Int → Int) (ou om ou' om' : Nat → Int) : Prop := ∀ j, j < n → le j = le' j ∧ us j = us' j ∧ (∀ m, lt j m = lt' j m) ∧ ou j = ou' j ∧ om j = om' j
theorem cg_cl (h : cg n le us le' us' lt lt' ou om ou' om') {se : Int} {tu tm : Nat → Int} {k : Nat} {u m : Int} (hk : k < n) : sp_cl n le se tu tm k u m = sp_cl n le' se tu tm k u m := by
  unfold sp_cl
  apply fm_all_congr
  intro g hg
  rw [(h g hg).1, (h k hk).1]
theorem cg_ok (h : cg n le us le' us' lt lt' ou om ou' om') {se : Int} {tu tm : Nat → Int} {k : Nat} {u m : Int} (hk : k < n) : sp_ok n le us ou om fr se tu tm k u m = sp_ok n le' us' ou' om' fr se tu tm k u m := by
  unfold sp_ok
  rw [cg_cl h hk, (h k hk).1, (h k hk).2.1, (h k hk).2.2.2.1, (h k hk).2.2.2.2]
theorem cg_dfs (h : cg n le us le' us' lt lt' ou om ou' om') {se : Int} : ∀ (k i : Nat) (c : Int) (tu tm : Nat → Int) (S : SS), i + k = n → sp_dfs n le us lt ou om fr al se k i c tu tm S = sp_dfs n le' us' lt' ou' om' fr al se k i c tu tm S := by
  intro k
  induction k with
  | zero => intro i c tu tm S hk; rfl
  | succ k ih =>
    intro i c tu tm S hk
    cases hb : fc_bit se i with
    | false =>
      rw [sp_dfs_out n le us lt ou om fr al hb, sp_dfs_out n le' us' lt' ou' om' fr al hb]
      exact ih (i + 1) c tu tm S (by omega)
    | true =>
      rw [sp_dfs_in n le us lt ou om fr al hb, sp_dfs_in n le' us' lt' ou' om' fr al hb]
      apply sp_sc_congr
      intro p S
      unfold sp_f
      rw [cg_ok h (show i < n by omega), (h i (by omega)).2.2.1]
      have e : sp_dfs n le us lt ou om fr al se k (i + 1) (c + lt' i ((p % 60 : Nat) : Int)) (fw_up tu i ((p / 60 : Nat) : Int)) (fw_up tm i ((p % 60 : Nat) : Int)) = sp_dfs n le' us' lt' ou' om' fr al se k (i + 1) (c + lt' i ((p % 60 : Nat) : Int)) (fw_up tu i ((p / 60 : Nat) : Int)) (fw_up tm i ((p % 60 : Nat) : Int)) := by
        funext S
        exact ih (i + 1) _ _ _ S (by omega)
      rw [e]
theorem cg_set (h : cg n le us le' us' lt lt' ou om ou' om') (se : Int) (S : SS) : sp_set n le us lt ou om fr al se S = sp_set n le' us' lt' ou' om' fr al se S := by
  have e1 : sp_good n le us ou om fr se = sp_good n le' us' ou' om' fr se := by
    unfold sp_good
    apply fm_all_congr
    intro k hk
    obtain ⟨a1, a2, a3, a4, a5⟩ := h k hk
    rw [a1, a2, a4, a5]
    congr 2
    apply fm_all_congr
    intro g hg
    obtain ⟨b1, b2, b3, b4, b5⟩ := h g hg
    rw [b1, b4, b5]
  have e2 : sp_cost n lt om se = sp_cost n lt' om' se := by
    unfold sp_cost
    apply fc_sum_congr
    intro k hk
    obtain ⟨a1, a2, a3, a4, a5⟩ := h k hk
    rw [a3, a5]
  have e3 : sp_dfs n le us lt ou om fr al se n 0 (sp_cost n lt om se) ou om S = sp_dfs n le' us' lt' ou' om' fr al se n 0 (sp_cost n lt' om' se) ou' om' S := by
    rw [cg_dfs h n 0 _ _ _ _ (by omega), e2]
    exact sp_dfs_congr n le' us' lt' ou' om' fr al n 0 _ _ _ _ _ S (by omega) (fun g hg _ => ⟨(h g hg).2.2.2.1, (h g hg).2.2.2.2⟩)
  unfold sp_set
  rw [e1, e3, e2]
theorem cg_round (h : cg n le us le' us' lt lt' ou om ou' om') (lo r : Int) (S : SS) : sp_round n le us lt ou om fr al lo r S = sp_round n le' us' lt' ou' om' fr al lo r S := by
  unfold sp_round
  apply sp_sc_congr
  intro p S
  unfold sp_rf
  rw [cg_set h]
theorem cg_rs (h : cg n le us le' us' lt lt' ou om ou' om') (lo : Int) : ∀ (k r : Nat) (S : SS), sp_rs n le us lt ou om fr al lo k r S = sp_rs n le' us' lt' ou' om' fr al lo k r S
  | 0, _, _ => rfl
  | k + 1, r, S => by
    simp only [sp_rs]
    rw [cg_round h, cg_rs h lo k (r + 1)]
theorem cg_run (h : cg n le us le' us' lt lt' ou om ou' om') (lo : Int) : sp_run n le us lt ou om fr al lo = sp_run n le' us' lt' ou' om' fr al lo := by
  unfold sp_run
  rw [cg_round h, cg_rs h]
theorem cg_loose {am am' : Nat → Int} {t : Int} : ∀ {n : Nat}, (∀ j, j < n → am j = am' j) → fc_loose am t n = fc_loose am' t n
  | 0, _ => rfl
  | n + 1, h => by
    simp only [fc_loose]
    rw [cg_loose (fun j hj => h j (by omega)), h n (by omega)]
end CG
