-- what the search's cells hold
def fc_lt (fL fD ao : Nat → Int) (h : Nat) (m : Int) : Int := max 0 (m + fL h - fD (ao h).toNat)
def sp_bc (S : SS) : Int := match S.1 with
  | none => 1000000
  | some b => b
/-- the minutes that are taken: stops, and the heats that have places -/
def tk_ok (n : Nat) (le : Nat → Int) (fS ft : Nat → Int64) (se : Int) (h : Nat) (tu tm : Nat → Int) : Prop := ∀ u : Nat, u < 3 → ∀ j, j < 64 → (lb (ft u) j = true ↔ lb (fS u) j = true ∨ ∃ g, g < n ∧ sp_on se h g = true ∧ tu g = (u : Int) ∧ tm g ≤ (j : Int) ∧ (j : Int) < tm g + le g)
/-- places of the heats that have one: in range -/
def tr_ok (n : Nat) (le : Nat → Int) (se : Int) (h : Nat) (tu tm : Nat → Int) : Prop := ∀ g, g < n → sp_on se h g = true → 0 ≤ tu g ∧ tu g < 3 ∧ 0 ≤ tm g ∧ tm g + le g ≤ 60
def fr_ok (fS : Nat → Int64) (fr : Int → Int → Int → Bool) : Prop := ∀ u : Nat, u < 3 → ∀ m l : Int, 0 ≤ m → 1 ≤ l → m + l ≤ 60 → (fr (u : Int) m l = true ↔ ∀ j : Nat, m ≤ (j : Int) → (j : Int) < m + l → lb (fS u) j = false)
/-- the best plan's rows -/
def bs_ok (n : Nat) (S : SS) (bu bm bo to : Nat → Int) : Prop := S.1 ≠ none → ∀ j, j < n → bu j = S.2.2.2.2.1 j ∧ bm j = S.2.2.2.2.2 j ∧ bo j = to j
def sb_ok (al : Int) (S : SS) : Prop := (∀ b, S.1 = some b → 0 ≤ b ∧ b ≤ 1000) ∧ 0 ≤ S.2.1 ∧ S.2.1 ≤ al
theorem sb_bc {al : Int} {S : SS} (h : sb_ok al S) : 0 ≤ sp_bc S ∧ sp_bc S ≤ 1000000 := by
  unfold sp_bc
  cases h1 : S.1 with
  | none => exact ⟨by decide, by decide⟩
  | some b => have := h.1 b h1; exact ⟨this.1, by show b ≤ 1000000; omega⟩
theorem sp_ge_bc {S : SS} {c : Int} (hc : c < 1000000) : sp_ge S.1 c = true ↔ ¬ c < sp_bc S := by
  unfold sp_bc
  cases h1 : S.1 with
  | none => simp [sp_ge]; exact hc
  | some b => simp [sp_ge]
theorem fm_all_iff {P : Nat → Bool} : ∀ {n : Nat}, fm_all P n = true ↔ ∀ j, j < n → P j = true
  | 0 => by simp [fm_all]
  | n + 1 => by
    simp only [fm_all, Bool.and_eq_true]
    rw [fm_all_iff]
    constructor
    · intro h j hj
      by_cases hjn : j = n
      · rw [hjn]; exact h.2
      · exact h.1 j (by omega)
    · intro h
      exact ⟨fun j hj => h j (by omega), h n (by omega)⟩
/-- a place is free when no minute of it is taken -/
theorem tk_free {n : Nat} {le : Nat → Int} {fS ft : Nat → Int64} {fr : Int → Int → Int → Bool} {se : Int} {h : Nat} {tu tm : Nat → Int} {u : Nat} {m : Int} (ht : tk_ok n le fS ft se h tu tm) (hr : tr_ok n le se h tu tm) (hf : fr_ok fS fr) (hle : ∀ g, g < n → 1 ≤ le g) (hh : h < n) (hb : fc_bit se h = true) (hu : u < 3) (hm : 0 ≤ m) (hl : m + le h ≤ 60) :
    ft u &&& fc_bits m (le h) = 0 ↔ (fr (u : Int) m (le h) && sp_cl n le se tu tm h (u : Int) m) = true := by
  have hlh := hle h hh
  rw [lb_and0, Bool.and_eq_true, hf u hu m (le h) hm hlh hl]
  have hbits : ∀ j, j < 64 → (lb (fc_bits m (le h)) j = true ↔ m ≤ (j : Int) ∧ (j : Int) < m + le h) := fun j hj => lb_bits hm (by omega) hl (by omega) hj
  constructor
  · intro hz
    refine ⟨fun j h1 h2 => ?_, ?_⟩
    · have hj : j < 64 := by omega
      have h3 := hz j hj
      rw [hbits j hj] at h3
      cases h4 : lb (fS j.pred.succ.pred) j with
      | _ => 
        cases h5 : lb (fS u) j with
        | false => rfl
        | true => exact absurd ⟨(ht u hu j hj).mpr (Or.inl h5), h1, h2⟩ h3
    · unfold sp_cl
      rw [fm_all_iff]
      intro g hg
      cases ho : sp_on se h g with
      | false => simp
      | true =>
        obtain ⟨r1, r2, r3, r4⟩ := hr g hg ho
        have l1 := hle g hg
        simp only [Bool.true_and, Bool.not_eq_true', Bool.and_eq_false_iff, decide_eq_false_iff_not]
        by_cases q1 : tu g = (u : Int)
        · by_cases q2 : tm g < m + le h
          · by_cases q3 : m < tm g + le g
            · exfalso
              -- a minute of both
              have hj : (max m (tm g)).toNat < 64 := by omega
              refine hz (max m (tm g)).toNat hj ⟨(ht u hu _ hj).mpr (Or.inr ⟨g, hg, ho, q1, by omega, by omega⟩), (hbits _ hj).mpr ⟨by omega, by omega⟩⟩
            · exact Or.inr q3
          · exact Or.inl (Or.inr q2)
        · exact Or.inl (Or.inl (Or.inr q1))
  · rintro ⟨h1, h2⟩ j hj ⟨h3, h4⟩
    rw [hbits j hj] at h4
    rcases (ht u hu j hj).mp h3 with h5 | ⟨g, hg, ho, q1, q2, q3⟩
    · rw [h1 j h4.1 h4.2] at h5
      exact absurd h5 (by decide)
    · unfold sp_cl at h2
      rw [fm_all_iff] at h2
      have h6 := h2 g hg
      have hne : ¬ g = h := by
        intro q
        subst q
        unfold sp_on at ho
        rw [hb] at ho
        simp at ho
      simp only [ho, hne, q1, Bool.true_and, not_false_eq_true, decide_true, Bool.not_eq_true', Bool.and_eq_false_iff, decide_eq_false_iff_not] at h6
      omega
/-- one heat more has a place -/
theorem tk_put {n : Nat} {le : Nat → Int} {fS ft : Nat → Int64} {se : Int} {h : Nat} {tu tm : Nat → Int} {u : Nat} {m : Int} (ht : tk_ok n le fS ft se h tu tm) (hh : h < n) (hu : u < 3) (hm : 0 ≤ m) (h1 : 1 ≤ le h) (hl : m + le h ≤ 60) (hb : fc_bit se h = true) :
    tk_ok n le fS (fw_up ft u (ft u ||| fc_bits m (le h))) se (h + 1) (fw_up tu h (u : Int)) (fw_up tm h m) := by
  intro v hv j hj
  have hone : ∀ g, g ≠ h → (sp_on se (h + 1) g = true ↔ sp_on se h g = true) := by
    intro g hg
    refine ⟨fun q => sp_on_succ q hg, fun q => ?_⟩
    unfold sp_on at *
    simp only [Bool.or_eq_true, decide_eq_true_eq] at *
    rcases q with q | q
    · exact Or.inl q
    · exact Or.inr (by omega)
  have hself : sp_on se (h + 1) h = true := by unfold sp_on; simp
  have hself0 : ¬ sp_on se h h = true := by unfold sp_on; rw [hb]; simp
  have key : (∃ g, g < n ∧ sp_on se (h + 1) g = true ∧ fw_up tu h (u : Int) g = (v : Int) ∧ fw_up tm h m g ≤ (j : Int) ∧ (j : Int) < fw_up tm h m g + le g) ↔ ((∃ g, g < n ∧ sp_on se h g = true ∧ tu g = (v : Int) ∧ tm g ≤ (j : Int) ∧ (j : Int) < tm g + le g) ∨ (u = v ∧ m ≤ (j : Int) ∧ (j : Int) < m + le h)) := by
    constructor
    · rintro ⟨g, hg, ho, q1, q2, q3⟩
      by_cases hgh : g = h
      · subst hgh
        unfold fw_up at q1 q2 q3
        rw [if_pos rfl] at q1 q2 q3
        exact Or.inr ⟨by omega, q2, q3⟩
      · unfold fw_up at q1 q2 q3
        rw [if_neg hgh] at q1 q2 q3
        exact Or.inl ⟨g, hg, (hone g hgh).mp ho, q1, q2, q3⟩
    · rintro (⟨g, hg, ho, q1, q2, q3⟩ | ⟨rfl, q2, q3⟩)
      · have hgh : g ≠ h := fun q => hself0 (q ▸ ho)
        refine ⟨g, hg, (hone g hgh).mpr ho, ?_, ?_, ?_⟩ <;> (unfold fw_up; rw [if_neg hgh]; assumption)
      · refine ⟨h, hh, hself, ?_, ?_, ?_⟩ <;> (unfold fw_up; rw [if_pos rfl]; try assumption)
  rw [key]
  by_cases huv : v = u
  · subst huv
    unfold fw_up
    rw [if_pos rfl, lb_or, Bool.or_eq_true, ht v hv j hj, lb_bits hm (by omega) hl (by omega) hj]
    constructor
    · rintro ((q | q) | q)
      · exact Or.inl q
      · exact Or.inr (Or.inl q)
      · exact Or.inr (Or.inr ⟨rfl, q⟩)
    · rintro (q | q | q)
      · exact Or.inl (Or.inl q)
      · exact Or.inl (Or.inr q)
      · exact Or.inr q.2
  · unfold fw_up
    rw [if_neg huv, ht v hv j hj]
    constructor
    · rintro (q | q)
      · exact Or.inl q
      · exact Or.inr (Or.inl q)
    · rintro (q | q | q)
      · exact Or.inl q
      · exact Or.inr q
      · exact absurd q.1.symm huv
theorem tr_put {n : Nat} {le : Nat → Int} {se : Int} {h : Nat} {tu tm : Nat → Int} {u m : Int} (ht : tr_ok n le se h tu tm) (h1 : 0 ≤ u) (h2 : u < 3) (h3 : 0 ≤ m) (h4 : m + le h ≤ 60) : tr_ok n le se (h + 1) (fw_up tu h u) (fw_up tm h m) := by
  intro g hg ho
  unfold fw_up
  by_cases hgh : g = h
  · subst hgh; simp only [if_true]; exact ⟨h1, h2, h3, h4⟩
  · simp only [hgh, if_false]; exact ht g hg (sp_on_succ ho hgh)
theorem sp_on_out {se : Int} {h g : Nat} (hb : fc_bit se h = false) : sp_on se (h + 1) g = sp_on se h g := by
  unfold sp_on
  by_cases hgh : g = h
  · subst hgh; rw [hb]; rfl
  · have : (g < h + 1) ↔ (g < h) := by omega
    simp only [this]
theorem tk_out {n : Nat} {le : Nat → Int} {fS ft : Nat → Int64} {se : Int} {h : Nat} {tu tm : Nat → Int} (hb : fc_bit se h = false) (ht : tk_ok n le fS ft se h tu tm) : tk_ok n le fS ft se (h + 1) tu tm := by
  intro u hu j hj
  simp only [sp_on_out hb]
  exact ht u hu j hj
theorem tr_out {n : Nat} {le : Nat → Int} {se : Int} {h : Nat} {tu tm : Nat → Int} (hb : fc_bit se h = false) (ht : tr_ok n le se h tu tm) : tr_ok n le se (h + 1) tu tm := by
  intro g hg ho
  rw [sp_on_out hb] at ho
  exact ht g hg ho
theorem tk_eq {n : Nat} {le : Nat → Int} {fS ft ft' : Nat → Int64} {se : Int} {h : Nat} {tu tm tu' tm' : Nat → Int} (he : sp_eq n se h tu' tm' tu tm) (hf : ∀ u, u < 3 → ft' u = ft u) (ht : tk_ok n le fS ft se h tu tm) : tk_ok n le fS ft' se h tu' tm' := by
  intro u hu j hj
  rw [hf u hu, ht u hu j hj]
  constructor
  · rintro (q | ⟨g, hg, ho, q⟩)
    · exact Or.inl q
    · exact Or.inr ⟨g, hg, ho, by rw [(he g hg ho).1, (he g hg ho).2]; exact q⟩
  · rintro (q | ⟨g, hg, ho, q⟩)
    · exact Or.inl q
    · rw [(he g hg ho).1, (he g hg ho).2] at q
      exact Or.inr ⟨g, hg, ho, q⟩
theorem tr_eq {n : Nat} {le : Nat → Int} {se : Int} {h : Nat} {tu tm tu' tm' : Nat → Int} (he : sp_eq n se h tu' tm' tu tm) (ht : tr_ok n le se h tu tm) : tr_ok n le se h tu' tm' := by
  intro g hg ho
  rw [(he g hg ho).1, (he g hg ho).2]
  exact ht g hg ho
theorem sp_eq_rf {n : Nat} {se : Int} {h : Nat} {tu tm : Nat → Int} : sp_eq n se h tu tm tu tm := fun _ _ _ => ⟨rfl, rfl⟩
theorem sp_eq_tr {n : Nat} {se : Int} {h : Nat} {a b c d e f : Nat → Int} (h1 : sp_eq n se h a b c d) (h2 : sp_eq n se h c d e f) : sp_eq n se h a b e f := fun g hg ho => ⟨(h1 g hg ho).1.trans (h2 g hg ho).1, (h1 g hg ho).2.trans (h2 g hg ho).2⟩
/-- behind the try of a place: the heats ahead of it still stand -/
theorem sp_eq_dn {n : Nat} {se : Int} {h : Nat} {tu tm a b : Nat → Int} {u m : Int} (hb : fc_bit se h = true) (he : sp_eq n se (h + 1) a b (fw_up tu h u) (fw_up tm h m)) : sp_eq n se h a b tu tm := by
  intro g hg ho
  have hgh : g ≠ h := by
    intro q; subst q
    unfold sp_on at ho; rw [hb] at ho; simp at ho
  have ho' : sp_on se (h + 1) g = true := by
    unfold sp_on at *
    simp only [Bool.or_eq_true, decide_eq_true_eq] at *
    rcases ho with q | q
    · exact Or.inl q
    · exact Or.inr (by omega)
  have := he g hg ho'
  unfold fw_up at this
  rw [if_neg hgh, if_neg hgh] at this
  exact this
