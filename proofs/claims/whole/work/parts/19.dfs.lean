-- the search, as a function: best cost, nodes, spent, list, best units, best minutes
abbrev SS : Type := Option Int × Int × Bool × Int × (Nat → Int) × (Nat → Int)
def sp_tr (n : Nat) (f : Nat → Int) : Nat → Int := fun j => if j < n then f j else 0
def sp_on (se : Int) (h g : Nat) : Bool := !fc_bit se g || decide (g < h)
section SPEC
variable (n : Nat) (le us : Nat → Int) (lt : Nat → Int → Int) (ou om : Nat → Int) (fr : Int → Int → Int → Bool) (al : Int)
/-- no heat that has a place now is met -/
def sp_cl (se : Int) (tu tm : Nat → Int) (h : Nat) (u m : Int) : Bool := fm_all (fun g => !(sp_on se h g && decide (¬ g = h) && decide (tu g = u) && decide (tm g < m + le h) && decide (m < tm g + le g))) n
def sp_ok (se : Int) (tu tm : Nat → Int) (h : Nat) (u m : Int) : Bool := fc_bit (us h) u.toNat && decide (m + le h ≤ 60) && fr u m (le h) && sp_cl n le se tu tm h u m && !(decide (ou h = u) && decide (om h = m))
def sp_sc (f : Nat → SS → SS) : Nat → SS → SS
  | 0, S => S
  | p + 1, S => f p (sp_sc f p S)
def sp_ge (b : Option Int) (c : Int) : Bool := match b with
  | none => false
  | some x => decide (x ≤ c)
/-- a place tried: what comes of it, by what its going on does -/
def sp_try (c : Int) (S : SS) (go : SS → SS) : SS := if al ≤ S.2.1 then (S.1, S.2.1, true, S.2.2.2) else if sp_ge S.1 c = true then (S.1, S.2.1 + 1, S.2.2) else go (S.1, S.2.1 + 1, S.2.2)
def sp_dfs (se : Int) : Nat → Nat → Int → (Nat → Int) → (Nat → Int) → SS → SS
  | 0, _, c, tu, tm, S => (some c, S.2.1, S.2.2.1, se, sp_tr n tu, sp_tr n tm)
  | k + 1, h, c, tu, tm, S => if fc_bit se h = true then sp_sc (fun p S => if S.2.2.1 = true then S else if sp_ok n le us ou om fr se tu tm h ((p / 60 : Nat) : Int) ((p % 60 : Nat) : Int) = true then sp_try al (c + lt h ((p % 60 : Nat) : Int)) S (sp_dfs se k (h + 1) (c + lt h ((p % 60 : Nat) : Int)) (fw_up tu h ((p / 60 : Nat) : Int)) (fw_up tm h ((p % 60 : Nat) : Int))) else S) 180 S else sp_dfs se k (h + 1) c tu tm S
/-- one step of a scan -/
def sp_f (se : Int) (k h : Nat) (c : Int) (tu tm : Nat → Int) (p : Nat) (S : SS) : SS := if S.2.2.1 = true then S else if sp_ok n le us ou om fr se tu tm h ((p / 60 : Nat) : Int) ((p % 60 : Nat) : Int) = true then sp_try al (c + lt h ((p % 60 : Nat) : Int)) S (sp_dfs n le us lt ou om fr al se k (h + 1) (c + lt h ((p % 60 : Nat) : Int)) (fw_up tu h ((p / 60 : Nat) : Int)) (fw_up tm h ((p % 60 : Nat) : Int))) else S
theorem sp_dfs_in {se : Int} {k h : Nat} {c : Int} {tu tm : Nat → Int} {S : SS} (hb : fc_bit se h = true) : sp_dfs n le us lt ou om fr al se (k + 1) h c tu tm S = sp_sc (sp_f n le us lt ou om fr al se k h c tu tm) 180 S := by
  rw [sp_dfs, if_pos hb]; rfl
theorem sp_dfs_out {se : Int} {k h : Nat} {c : Int} {tu tm : Nat → Int} {S : SS} (hb : fc_bit se h = false) : sp_dfs n le us lt ou om fr al se (k + 1) h c tu tm S = sp_dfs n le us lt ou om fr al se k (h + 1) c tu tm S := by
  rw [sp_dfs, if_neg (by rw [hb]; decide)]
theorem fm_all_congr {P Q : Nat → Bool} {n : Nat} (h : ∀ j, j < n → P j = Q j) : fm_all P n = fm_all Q n := by
  induction n with
  | zero => rfl
  | succ n ih => simp only [fm_all]; rw [ih (fun j hj => h j (by omega)), h n (by omega)]
/-- places of the heats that have one, the same -/
def sp_eq (se : Int) (h : Nat) (tu tm tu' tm' : Nat → Int) : Prop := ∀ g, g < n → sp_on se h g = true → tu g = tu' g ∧ tm g = tm' g
theorem sp_cl_congr {se : Int} {h : Nat} {tu tm tu' tm' : Nat → Int} {u m : Int} (he : sp_eq n se h tu tm tu' tm') : sp_cl n le se tu tm h u m = sp_cl n le se tu' tm' h u m := by
  unfold sp_cl
  apply fm_all_congr
  intro g hg
  cases ho : sp_on se h g with
  | false => simp
  | true =>
    obtain ⟨h1, h2⟩ := he g hg ho
    rw [h1, h2]
theorem sp_ok_congr {se : Int} {h : Nat} {tu tm tu' tm' : Nat → Int} {u m : Int} (he : sp_eq n se h tu tm tu' tm') : sp_ok n le us ou om fr se tu tm h u m = sp_ok n le us ou om fr se tu' tm' h u m := by
  unfold sp_ok
  rw [sp_cl_congr n le he]
theorem sp_sc_congr {f g : Nat → SS → SS} (h : ∀ p S, f p S = g p S) : ∀ k S, sp_sc f k S = sp_sc g k S := by
  intro k
  induction k with
  | zero => intro S; rfl
  | succ k ih => intro S; simp only [sp_sc]; rw [ih S, h]
theorem sp_on_succ {se : Int} {h g : Nat} (ho : sp_on se (h + 1) g = true) (hne : g ≠ h) : sp_on se h g = true := by
  unfold sp_on at *
  simp only [Bool.or_eq_true, decide_eq_true_eq] at *
  rcases ho with h1 | h1
  · exact Or.inl h1
  · exact Or.inr (by omega)
theorem sp_eq_up {se : Int} {h : Nat} {tu tm tu' tm' : Nat → Int} {u m : Int} (he : sp_eq n se h tu tm tu' tm') : sp_eq n se (h + 1) (fw_up tu h u) (fw_up tm h m) (fw_up tu' h u) (fw_up tm' h m) := by
  intro g hg ho
  unfold fw_up
  by_cases hgh : g = h
  · simp [hgh]
  · simp only [hgh, if_false]
    exact he g hg (sp_on_succ ho hgh)
theorem sp_eq_out {se : Int} {h : Nat} {tu tm tu' tm' : Nat → Int} (hb : fc_bit se h = false) (he : sp_eq n se h tu tm tu' tm') : sp_eq n se (h + 1) tu tm tu' tm' := by
  intro g hg ho
  by_cases hgh : g = h
  · subst hgh
    exact he g hg (by unfold sp_on; rw [hb]; rfl)
  · exact he g hg (sp_on_succ ho hgh)
theorem sp_dfs_congr {se : Int} : ∀ (k h : Nat) (c : Int) (tu tm tu' tm' : Nat → Int) (S : SS), h + k = n → sp_eq n se h tu tm tu' tm' → sp_dfs n le us lt ou om fr al se k h c tu tm S = sp_dfs n le us lt ou om fr al se k h c tu' tm' S := by
  intro k
  induction k with
  | zero =>
    intro h c tu tm tu' tm' S hk he
    have h1 : sp_tr n tu = sp_tr n tu' := by
      funext j; unfold sp_tr; split
      · rename_i hj; exact (he j hj (by unfold sp_on; simp; omega)).1
      · rfl
    have h2 : sp_tr n tm = sp_tr n tm' := by
      funext j; unfold sp_tr; split
      · rename_i hj; exact (he j hj (by unfold sp_on; simp; omega)).2
      · rfl
    simp only [sp_dfs, h1, h2]
  | succ k ih =>
    intro h c tu tm tu' tm' S hk he
    cases hb : fc_bit se h with
    | false =>
      rw [sp_dfs_out n le us lt ou om fr al hb, sp_dfs_out n le us lt ou om fr al hb]
      exact ih (h + 1) c tu tm tu' tm' S (by omega) (sp_eq_out n hb he)
    | true =>
      rw [sp_dfs_in n le us lt ou om fr al hb, sp_dfs_in n le us lt ou om fr al hb]
      apply sp_sc_congr
      intro p S
      unfold sp_f
      rw [sp_ok_congr n le us ou om fr he]
      have e : sp_dfs n le us lt ou om fr al se k (h + 1) (c + lt h ((p % 60 : Nat) : Int)) (fw_up tu h ((p / 60 : Nat) : Int)) (fw_up tm h ((p % 60 : Nat) : Int)) = sp_dfs n le us lt ou om fr al se k (h + 1) (c + lt h ((p % 60 : Nat) : Int)) (fw_up tu' h ((p / 60 : Nat) : Int)) (fw_up tm' h ((p % 60 : Nat) : Int)) := by
        funext S
        exact ih (h + 1) _ _ _ _ _ S (by omega) (sp_eq_up n he)
      rw [e]
theorem sp_f_congr {se : Int} {k h : Nat} {c : Int} {tu tm tu' tm' : Nat → Int} (hk : h + (k + 1) = n) (he : sp_eq n se h tu tm tu' tm') (p : Nat) (S : SS) : sp_f n le us lt ou om fr al se k h c tu tm p S = sp_f n le us lt ou om fr al se k h c tu' tm' p S := by
  unfold sp_f
  rw [sp_ok_congr n le us ou om fr he]
  have e : sp_dfs n le us lt ou om fr al se k (h + 1) (c + lt h ((p % 60 : Nat) : Int)) (fw_up tu h ((p / 60 : Nat) : Int)) (fw_up tm h ((p % 60 : Nat) : Int)) = sp_dfs n le us lt ou om fr al se k (h + 1) (c + lt h ((p % 60 : Nat) : Int)) (fw_up tu' h ((p / 60 : Nat) : Int)) (fw_up tm' h ((p % 60 : Nat) : Int)) := by
    funext S
    exact sp_dfs_congr n le us lt ou om fr al k (h + 1) _ _ _ _ _ S (by omega) (sp_eq_up n he)
  rw [e]
/-- steps that do nothing -/
theorem sp_sc_skip {f : Nat → SS → SS} {S : SS} {a b : Nat} (hab : a ≤ b) (h : ∀ p, a ≤ p → p < b → f p (sp_sc f a S) = sp_sc f a S) : sp_sc f b S = sp_sc f a S := by
  induction b with
  | zero => rw [show a = 0 by omega]
  | succ b ih =>
    by_cases hb : a = b + 1
    · rw [hb]
    · simp only [sp_sc]
      rw [ih (by omega) (fun p h1 h2 => h p h1 (by omega)), h b (by omega) (by omega)]
-- a set, a round, the rounds
def sp_good (se : Int) : Bool := fm_all (fun h => fc_bit se h || (fc_bit (us h) (ou h).toNat && decide (om h + le h ≤ 60) && fr (ou h) (om h) (le h) && fm_all (fun g => !(!fc_bit se g && decide (¬ g = h) && decide (ou g = ou h) && decide (om g < om h + le h) && decide (om h < om g + le g))) n)) n
def sp_cost (se : Int) : Int := fc_sum (fun h => if fc_bit se h = true then 0 else lt h (om h)) n
def sp_set (se : Int) (S : SS) : SS := if sp_good n le us ou om fr se = true then (if sp_ge S.1 (sp_cost n lt om se) = true then S else sp_dfs n le us lt ou om fr al se n 0 (sp_cost n lt om se) ou om S) else S
def sp_pop (se : Int) : Int := fc_sum (fun k => se / 2 ^ k % 2) 6
def sp_sub (se lo : Int) : Bool := fm_all (fun k => !fc_bit se k || fc_bit lo k) 6
def sp_rf (lo r : Int) (se : Nat) (S : SS) : SS := if S.2.2.1 = true then S else if (sp_sub (se : Int) lo && decide (sp_pop (se : Int) = r)) = true then sp_set n le us lt ou om fr al (se : Int) S else S
def sp_round (lo r : Int) (S : SS) : SS := sp_sc (sp_rf n le us lt ou om fr al lo r) 64 S
def sp_rs (lo : Int) : Nat → Nat → SS → Nat × SS
  | 0, r, S => (r, S)
  | k + 1, r, S => if S.2.2.1 = false ∧ S.1 = none then sp_rs lo k (r + 1) (sp_round n le us lt ou om fr al lo ((r + 1 : Nat) : Int) S) else (r, S)
def sp_S0 : SS := (none, 0, false, 0, fun _ => 0, fun _ => 0)
def sp_run (lo : Int) : Nat × SS := sp_rs n le us lt ou om fr al lo (sp_pop lo).toNat 0 (sp_round n le us lt ou om fr al lo 0 sp_S0)
end SPEC
