-- the heats that stay
def gd (le : Nat → Int) (ou om : Nat → Int) (fr : Int → Int → Int → Bool) (se : Int) (i : Nat) : Prop := ∀ h, h < i → fc_bit se h = false → fr (ou h) (om h) (le h) = true ∧ ∀ g, g < h → fc_bit se g = false → ¬ (ou g = ou h ∧ om g < om h + le h ∧ om h < om g + le g)
theorem sp_on0 {se : Int} {g : Nat} : sp_on se 0 g = true ↔ fc_bit se g = false := by
  unfold sp_on; simp
theorem gd_free {le : Nat → Int} {fS ft : Nat → Int64} {ou om : Nat → Int} {fr : Int → Int → Int → Bool} {se : Int} {i u : Nat} {m : Int} (ht : tk_ok i le fS ft se 0 ou om) (hf : fr_ok fS fr) (hr : ∀ g, g < i + 1 → 1 ≤ le g ∧ 0 ≤ om g ∧ om g + le g ≤ 60) (hu : u < 3) (hm : 0 ≤ m) (hl : m + le i ≤ 60) :
    ft u &&& fc_bits m (le i) = 0 ↔ fr (u : Int) m (le i) = true ∧ ∀ g, g < i → fc_bit se g = false → ¬ (ou g = (u : Int) ∧ om g < m + le i ∧ m < om g + le g) := by
  have hli := (hr i (by omega)).1
  rw [lb_and0, hf u hu m (le i) hm hli hl]
  have hbits : ∀ j, j < 64 → (lb (fc_bits m (le i)) j = true ↔ m ≤ (j : Int) ∧ (j : Int) < m + le i) := fun j hj => lb_bits hm (by omega) hl (by omega) hj
  constructor
  · intro hz
    refine ⟨fun j h1 h2 => ?_, fun g hg hb hq => ?_⟩
    · have hj : j < 64 := by omega
      have h3 := hz j hj
      rw [hbits j hj] at h3
      cases h5 : lb (fS u) j with
      | false => rfl
      | true => exact absurd ⟨(ht u hu j hj).mpr (Or.inl h5), h1, h2⟩ h3
    · obtain ⟨q1, q2, q3⟩ := hq
      obtain ⟨r1, r2, r3⟩ := hr g (by omega)
      have hj : (max m (om g)).toNat < 64 := by omega
      exact hz (max m (om g)).toNat hj ⟨(ht u hu _ hj).mpr (Or.inr ⟨g, hg, sp_on0.mpr hb, q1, by omega, by omega⟩), (hbits _ hj).mpr ⟨by omega, by omega⟩⟩
  · rintro ⟨h1, h2⟩ j hj ⟨h3, h4⟩
    rw [hbits j hj] at h4
    rcases (ht u hu j hj).mp h3 with h5 | ⟨g, hg, ho, q1, q2, q3⟩
    · rw [h1 j h4.1 h4.2] at h5
      exact absurd h5 (by decide)
    · exact h2 g hg (sp_on0.mp ho) ⟨q1, by omega, by omega⟩
theorem gd_put {le : Nat → Int} {fS ft : Nat → Int64} {ou om : Nat → Int} {se : Int} {i u : Nat} (ht : tk_ok i le fS ft se 0 ou om) (hu : u < 3) (e : ou i = (u : Int)) (hm : 0 ≤ om i) (h1 : 1 ≤ le i) (hl : om i + le i ≤ 60) (hb : fc_bit se i = false) : tk_ok (i + 1) le fS (fw_up ft u (ft u ||| fc_bits (om i) (le i))) se 0 ou om := by
  intro v hv j hj
  have key : (∃ g, g < i + 1 ∧ sp_on se 0 g = true ∧ ou g = (v : Int) ∧ om g ≤ (j : Int) ∧ (j : Int) < om g + le g) ↔ ((∃ g, g < i ∧ sp_on se 0 g = true ∧ ou g = (v : Int) ∧ om g ≤ (j : Int) ∧ (j : Int) < om g + le g) ∨ (u = v ∧ om i ≤ (j : Int) ∧ (j : Int) < om i + le i)) := by
    constructor
    · rintro ⟨g, hg, ho, q1, q2, q3⟩
      by_cases hgi : g = i
      · subst hgi
        exact Or.inr ⟨by omega, q2, q3⟩
      · exact Or.inl ⟨g, by omega, ho, q1, q2, q3⟩
    · rintro (⟨g, hg, q⟩ | ⟨rfl, q2, q3⟩)
      · exact ⟨g, by omega, q⟩
      · exact ⟨i, by omega, sp_on0.mpr hb, e, q2, q3⟩
  rw [key]
  by_cases huv : v = u
  · subst huv
    unfold fw_up
    rw [if_pos rfl, lb_or, Bool.or_eq_true, ht v hv j hj, lb_bits hm (by omega) hl (by omega) hj]
    constructor
    · rintro ((q | q) | q)
      · exact Or.inl q
      · exact Or.inr (Or.inl q)
      · exact Or.inr (Or.inr ⟨rfl, q⟩)
    · rintro (q | q | q)
      · exact Or.inl (Or.inl q)
      · exact Or.inl (Or.inr q)
      · exact Or.inr q.2
  · unfold fw_up
    rw [if_neg huv, ht v hv j hj]
    constructor
    · rintro (q | q)
      · exact Or.inl q
      · exact Or.inr (Or.inl q)
    · rintro (q | q | q)
      · exact Or.inl q
      · exact Or.inr q
      · exact absurd q.1.symm huv
theorem gd_in {le : Nat → Int} {fS ft : Nat → Int64} {ou om : Nat → Int} {se : Int} {i : Nat} (ht : tk_ok i le fS ft se 0 ou om) (hb : fc_bit se i = true) : tk_ok (i + 1) le fS ft se 0 ou om := by
  intro v hv j hj
  rw [ht v hv j hj]
  constructor
  · rintro (q | ⟨g, hg, q⟩)
    · exact Or.inl q
    · exact Or.inr ⟨g, by omega, q⟩
  · rintro (q | ⟨g, hg, ho, q⟩)
    · exact Or.inl q
    · have hgi : g ≠ i := by
        intro z; subst z
        have := sp_on0.mp ho
        rw [hb] at this
        exact absurd this (by decide)
      exact Or.inr ⟨g, by omega, ho, q⟩
theorem gd_s {le ou om : Nat → Int} {fr : Int → Int → Int → Bool} {se : Int} {i : Nat} (hg : gd le ou om fr se i) (h1 : fc_bit se i = false → fr (ou i) (om i) (le i) = true ∧ ∀ g, g < i → fc_bit se g = false → ¬ (ou g = ou i ∧ om g < om i + le i ∧ om i < om g + le g)) : gd le ou om fr se (i + 1) := by
  intro h hh hb
  by_cases hhi : h = i
  · subst hhi; exact h1 hb
  · exact hg h (by omega) hb
theorem gd_done {n : Nat} {le us ou om : Nat → Int} {fr : Int → Int → Int → Bool} {se : Int} (hr : ∀ g, g < n → om g + le g ≤ 60 ∧ fc_bit (us g) (ou g).toNat = true) (hg : gd le ou om fr se n) : sp_good n le us ou om fr se = true := by
  unfold sp_good
  rw [fm_all_iff]
  intro h hh
  cases hb : fc_bit se h with
  | true => rfl
  | false =>
    obtain ⟨g1, g2⟩ := hg h hh hb
    obtain ⟨r1, r2⟩ := hr h hh
    rw [r2, decide_eq_true r1, g1]
    simp only [Bool.false_or, Bool.true_and]
    rw [fm_all_iff]
    intro g hgn
    cases hbg : fc_bit se g with
    | true => simp
    | false =>
      by_cases hgh : g = h
      · simp [hgh]
      · rcases Nat.lt_or_gt_of_ne hgh with q | q
        · have := g2 g q hbg
          simp only [hgh, Bool.not_false, not_false_eq_true, decide_true, Bool.true_and, Bool.not_eq_true', Bool.and_eq_false_iff, decide_eq_false_iff_not]
          omega
        · have := (hg g hgn hbg).2 h q hb
          simp only [hgh, Bool.not_false, not_false_eq_true, decide_true, Bool.true_and, Bool.not_eq_true', Bool.and_eq_false_iff, decide_eq_false_iff_not]
          omega
theorem gd_fail {n : Nat} {le us ou om : Nat → Int} {fr : Int → Int → Int → Bool} {se : Int} {i : Nat} (hi : i < n) (hb : fc_bit se i = false) (hno : ¬ (fr (ou i) (om i) (le i) = true ∧ ∀ g, g < i → fc_bit se g = false → ¬ (ou g = ou i ∧ om g < om i + le i ∧ om i < om g + le g))) : sp_good n le us ou om fr se = false := by
  cases hq : sp_good n le us ou om fr se with
  | false => rfl
  | true =>
    exfalso
    unfold sp_good at hq
    rw [fm_all_iff] at hq
    have h1 := hq i hi
    rw [hb] at h1
    simp only [Bool.false_or, Bool.and_eq_true] at h1
    refine hno ⟨h1.1.2, fun g hg hbg q => ?_⟩
    have h2 := h1.2
    rw [fm_all_iff] at h2
    have h3 := h2 g (by omega)
    rw [hbg] at h3
    have hgi : ¬ g = i := by omega
    simp only [hgi, q.1, Bool.not_false, not_false_eq_true, decide_true, Bool.true_and, Bool.not_eq_true', Bool.and_eq_false_iff, decide_eq_false_iff_not] at h3
    omega
theorem tk_0 {le : Nat → Int} {fS ft : Nat → Int64} {ou om : Nat → Int} {se : Int} (h : ∀ u, u < 3 → ft u = fS u) : tk_ok 0 le fS ft se 0 ou om := by
  intro u hu j hj
  rw [h u hu]
  constructor
  · intro q; exact Or.inl q
  · rintro (q | ⟨g, hg, _⟩)
    · exact q
    · omega
