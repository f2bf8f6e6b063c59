-- the reference's search, step by step
def sp_fr (f : Nat → SS → SS) : Nat → Nat → SS → SS
  | 0, _, S => S
  | k + 1, p, S => sp_fr f k (p + 1) (f p S)
theorem sp_fr_sc (f : Nat → SS → SS) : ∀ (k a : Nat) (S : SS), sp_sc f (a + k) S = sp_fr f k a (sp_sc f a S)
  | 0, _, _ => rfl
  | k + 1, a, S => by
    rw [show a + (k + 1) = (a + 1) + k by omega, sp_fr_sc f k (a + 1) S]
    rfl
theorem sp_fr_congr {f g : Nat → SS → SS} (h : ∀ p S, f p S = g p S) : ∀ (k a : Nat) (S : SS), sp_fr f k a S = sp_fr g k a S
  | 0, _, _ => rfl
  | k + 1, a, S => by
    simp only [sp_fr]
    rw [h a S, sp_fr_congr h k (a + 1)]
theorem sp_fr_st {f : Nat → SS → SS} {S : SS} (h : ∀ p, f p S = S) : ∀ (k a : Nat), sp_fr f k a S = S
  | 0, _ => rfl
  | k + 1, a => by
    simp only [sp_fr]
    rw [h a, sp_fr_st h k (a + 1)]
def sp_pl (tu tm : Nat → Int) (h : Nat) : Nat := (60 * tu h + tm h + 1).toNat
theorem fc_sum_congr {f g : Nat → Int} : ∀ {n : Nat}, (∀ j, j < n → f j = g j) → fc_sum f n = fc_sum g n
  | 0, _ => rfl
  | n + 1, h => by
    simp only [fc_sum]
    rw [fc_sum_congr (fun j hj => h j (by omega)), h n (by omega)]
theorem fc_sum_up {f : Nat → Int} {v : Int} {k : Nat} (h0 : f k = 0) : ∀ {n : Nat}, k < n → fc_sum (fw_up f k v) n = fc_sum f n + v
  | 0, h => by omega
  | n + 1, h => by
    simp only [fc_sum]
    by_cases hk : k = n
    · subst hk
      rw [show fw_up f k v k = v by simp [fw_up], h0]
      rw [fc_sum_congr (g := f) (fun j hj => by unfold fw_up; rw [if_neg (by omega)])]
      omega
    · rw [fc_sum_up h0 (show k < n by omega)]
      rw [show fw_up f k v n = f n by unfold fw_up; rw [if_neg (by omega)]]
      omega
section REM
variable (n : Nat) (le us : Nat → Int) (lt : Nat → Int → Int) (ou om : Nat → Int) (fr : Int → Int → Int → Bool) (al : Int)
/-- the lateness of those that have a place -/
def sp_c (se : Int) (h : Nat) (tm : Nat → Int) : Int := fc_sum (fun g => if sp_on se h g = true then lt g (tm g) else 0) n
/-- what is still to be done -/
def sp_rem (se : Int) : Nat → (Nat → Int) → (Nat → Int) → SS → SS
  | 0, _, _, S => S
  | h + 1, tu, tm, S => sp_rem se h tu tm (if fc_bit se h = true then sp_fr (sp_f n le us lt ou om fr al se (n - (h + 1)) h (sp_c n lt se h tm) tu tm) (180 - sp_pl tu tm h) (sp_pl tu tm h) S else S)
theorem sp_rem_in {se : Int} {h : Nat} {tu tm : Nat → Int} {S : SS} (hb : fc_bit se h = true) : sp_rem n le us lt ou om fr al se (h + 1) tu tm S = sp_rem n le us lt ou om fr al se h tu tm (sp_fr (sp_f n le us lt ou om fr al se (n - (h + 1)) h (sp_c n lt se h tm) tu tm) (180 - sp_pl tu tm h) (sp_pl tu tm h) S) := by
  rw [sp_rem, if_pos hb]
theorem sp_rem_out {se : Int} {h : Nat} {tu tm : Nat → Int} {S : SS} (hb : fc_bit se h = false) : sp_rem n le us lt ou om fr al se (h + 1) tu tm S = sp_rem n le us lt ou om fr al se h tu tm S := by
  rw [sp_rem, if_neg (by rw [hb]; decide)]
theorem sp_f_st {se : Int} {k h : Nat} {c : Int} {tu tm : Nat → Int} {S : SS} (hs : S.2.2.1 = true) (p : Nat) : sp_f n le us lt ou om fr al se k h c tu tm p S = S := by
  unfold sp_f; rw [if_pos hs]
theorem sp_rem_st {se : Int} {tu tm : Nat → Int} {S : SS} (hs : S.2.2.1 = true) : ∀ h, sp_rem n le us lt ou om fr al se h tu tm S = S
  | 0 => rfl
  | h + 1 => by
    cases hb : fc_bit se h with
    | true => rw [sp_rem_in n le us lt ou om fr al hb, sp_fr_st (fun p => sp_f_st n le us lt ou om fr al hs p), sp_rem_st hs h]
    | false => rw [sp_rem_out n le us lt ou om fr al hb, sp_rem_st hs h]
theorem sp_c_congr {se : Int} {h : Nat} {tu tm tu' tm' : Nat → Int} (he : sp_eq n se h tu tm tu' tm') : sp_c n lt se h tm = sp_c n lt se h tm' := by
  unfold sp_c
  apply fc_sum_congr
  intro j hj
  cases ho : sp_on se h j with
  | true => rw [(he j hj ho).2]
  | false => rfl
theorem sp_eq_less {se : Int} {h : Nat} {tu tm tu' tm' : Nat → Int} (he : sp_eq n se (h + 1) tu tm tu' tm') : sp_eq n se h tu tm tu' tm' := by
  intro g hg ho
  refine he g hg ?_
  unfold sp_on at *
  simp only [Bool.or_eq_true, decide_eq_true_eq] at *
  rcases ho with q | q
  · exact Or.inl q
  · exact Or.inr (by omega)
theorem sp_rem_congr {se : Int} {tu tm tu' tm' : Nat → Int} : ∀ (h : Nat) (S : SS), h ≤ n → sp_eq n se h tu tm tu' tm' → sp_rem n le us lt ou om fr al se h tu tm S = sp_rem n le us lt ou om fr al se h tu' tm' S
  | 0, _, _, _ => rfl
  | h + 1, S, hn, he => by
    have he0 := sp_eq_less n he
    cases hb : fc_bit se h with
    | false => rw [sp_rem_out n le us lt ou om fr al hb, sp_rem_out n le us lt ou om fr al hb, sp_rem_congr h S (by omega) he0]
    | true =>
      rw [sp_rem_in n le us lt ou om fr al hb, sp_rem_in n le us lt ou om fr al hb]
      obtain ⟨e1, e2⟩ := he h (by omega) (by unfold sp_on; simp)
      have e3 : sp_pl tu tm h = sp_pl tu' tm' h := by unfold sp_pl; rw [e1, e2]
      rw [e3, sp_c_congr n lt he0, sp_fr_congr (fun p S => sp_f_congr n le us lt ou om fr al (by omega) he0 p S)]
      exact sp_rem_congr h _ (by omega) he0
/-- levels without a heat that is changed -/
theorem sp_rem_skip {se : Int} {tu tm : Nat → Int} {S : SS} (a : Nat) : ∀ b, a ≤ b → (∀ j, a ≤ j → j < b → fc_bit se j = false) → sp_rem n le us lt ou om fr al se b tu tm S = sp_rem n le us lt ou om fr al se a tu tm S
  | 0, h, _ => by rw [show a = 0 by omega]
  | b + 1, h, hz => by
    by_cases hb : a = b + 1
    · rw [hb]
    · rw [sp_rem_out n le us lt ou om fr al (hz b (by omega) (by omega)), sp_rem_skip a b (by omega) (fun j h1 h2 => hz j h1 (by omega))]
theorem sp_dfs_skip {se : Int} {c : Int} {tu tm : Nat → Int} {S : SS} : ∀ (d k h : Nat), (∀ j, h ≤ j → j < h + d → fc_bit se j = false) → sp_dfs n le us lt ou om fr al se (d + k) h c tu tm S = sp_dfs n le us lt ou om fr al se k (h + d) c tu tm S
  | 0, k, h, _ => by rw [Nat.zero_add]; rfl
  | d + 1, k, h, hz => by
    rw [show d + 1 + k = (d + k) + 1 by omega, sp_dfs_out n le us lt ou om fr al (hz h (by omega) (by omega)), sp_dfs_skip d k (h + 1) (fun j h1 h2 => hz j (by omega) (by omega))]
    rw [show h + 1 + d = h + (d + 1) by omega]
theorem sp_on_self {se : Int} {h : Nat} (hb : fc_bit se h = true) : sp_on se h h = false := by unfold sp_on; rw [hb]; simp
/-- a heat that has no place at this level may stand anywhere -/
theorem sp_eq_any {se : Int} {h g : Nat} {tu tm : Nat → Int} {u m : Int} (hb : fc_bit se g = true) (hg : h ≤ g) : sp_eq n se h (fw_up tu g u) (fw_up tm g m) tu tm := by
  intro j hj ho
  have hne : j ≠ g := by
    intro q; subst q
    unfold sp_on at ho; rw [hb] at ho
    simp at ho; omega
  unfold fw_up
  rw [if_neg hne, if_neg hne]
  exact ⟨rfl, rfl⟩
theorem sp_c_up {se : Int} {h : Nat} {tm : Nat → Int} {m : Int} (hb : fc_bit se h = true) (hn : h < n) : sp_c n lt se (h + 1) (fw_up tm h m) = sp_c n lt se h tm + lt h m := by
  unfold sp_c
  rw [← fc_sum_up (k := h) (v := lt h m) (f := fun g => if sp_on se h g = true then lt g (tm g) else 0) (by show (if sp_on se h h = true then _ else _) = _; rw [sp_on_self hb]; rfl) hn]
  apply fc_sum_congr
  intro j hj
  unfold fw_up
  by_cases hj2 : j = h
  · subst hj2
    have : sp_on se (j + 1) j = true := by unfold sp_on; simp
    simp only [this, if_true]
  · have : sp_on se (h + 1) j = sp_on se h j := by
      unfold sp_on
      have : (j < h + 1) ↔ (j < h) := by omega
      simp only [this]
    rw [this]
    simp only [hj2, if_false]
theorem sp_c_out {se : Int} {tm : Nat → Int} (a : Nat) : ∀ b, a ≤ b → (∀ j, a ≤ j → j < b → fc_bit se j = false) → sp_c n lt se b tm = sp_c n lt se a tm
  | 0, h, _ => by rw [show a = 0 by omega]
  | b + 1, h, hz => by
    by_cases hb : a = b + 1
    · rw [hb]
    · rw [← sp_c_out a b (by omega) (fun j h1 h2 => hz j h1 (by omega))]
      unfold sp_c
      simp only [sp_on_out (hz b (by omega) (by omega))]
variable {n le us lt ou om fr al}
/-- the scan of a heat goes on behind a place -/
theorem sp_stay {se : Int} {h p : Nat} {tu tm : Nat → Int} {T : SS} (hb : fc_bit se h = true) (hn : h < n) (hp : p < 180) :
    sp_rem n le us lt ou om fr al se h tu tm (sp_fr (sp_f n le us lt ou om fr al se (n - (h + 1)) h (sp_c n lt se h tm) tu tm) (180 - (p + 1)) (p + 1) T) = sp_rem n le us lt ou om fr al se (h + 1) (fw_up tu h ((p / 60 : Nat) : Int)) (fw_up tm h ((p % 60 : Nat) : Int)) T := by
  have he : sp_eq n se h (fw_up tu h ((p / 60 : Nat) : Int)) (fw_up tm h ((p % 60 : Nat) : Int)) tu tm := sp_eq_any n hb (Nat.le_refl h)
  rw [sp_rem_in n le us lt ou om fr al hb, sp_rem_congr n le us lt ou om fr al h _ (by omega) he, sp_c_congr n lt he]
  have e3 : sp_pl (fw_up tu h ((p / 60 : Nat) : Int)) (fw_up tm h ((p % 60 : Nat) : Int)) h = p + 1 := by
    unfold sp_pl fw_up
    rw [if_pos rfl, if_pos rfl]
    omega
  rw [e3, sp_fr_congr (fun p S => sp_f_congr n le us lt ou om fr al (by omega) he p S)]
/-- the scan of the next heat begins -/
theorem sp_down {se : Int} {a g : Nat} {tu tm : Nat → Int} {S : SS} (hb : fc_bit se g = true) (hn : g < n) (hz : ∀ j, a ≤ j → j < g → fc_bit se j = false) (ha : a ≤ g) :
    sp_rem n le us lt ou om fr al se a tu tm (sp_dfs n le us lt ou om fr al se (n - a) a (sp_c n lt se a tm) tu tm S) = sp_rem n le us lt ou om fr al se (g + 1) (fw_up tu g 0) (fw_up tm g (-1)) S := by
  have he : sp_eq n se g (fw_up tu g 0) (fw_up tm g (-1)) tu tm := sp_eq_any n hb (Nat.le_refl g)
  rw [sp_rem_in n le us lt ou om fr al hb, sp_rem_congr n le us lt ou om fr al g _ (by omega) he, sp_c_congr n lt he]
  have e3 : sp_pl (fw_up tu g 0) (fw_up tm g (-1)) g = 0 := by
    unfold sp_pl fw_up
    rw [if_pos rfl, if_pos rfl]
    rfl
  rw [e3, sp_fr_congr (fun p S => sp_f_congr n le us lt ou om fr al (by omega) he p S)]
  have e4 := sp_fr_sc (sp_f n le us lt ou om fr al se (n - (g + 1)) g (sp_c n lt se g tm) tu tm) 180 0 S
  rw [show sp_sc (sp_f n le us lt ou om fr al se (n - (g + 1)) g (sp_c n lt se g tm) tu tm) 0 S = S from rfl] at e4
  rw [show 180 - 0 = 180 from rfl, ← e4, show 0 + 180 = 180 from rfl, ← sp_dfs_in n le us lt ou om fr al hb]
  rw [sp_rem_skip n le us lt ou om fr al a g ha hz, sp_c_out n lt a g ha hz]
  have e5 := sp_dfs_skip n le us lt ou om fr al (se := se) (c := sp_c n lt se a tm) (tu := tu) (tm := tm) (S := S) (g - a) (n - (g + 1) + 1) a (fun j h1 h2 => hz j h1 (by omega))
  rw [show g - a + (n - (g + 1) + 1) = n - a by omega, show a + (g - a) = g by omega] at e5
  rw [e5]
/-- no heat more is changed -/
theorem sp_last {se : Int} {a : Nat} {c : Int} {tu tm : Nat → Int} {S : SS} (hz : ∀ j, a ≤ j → j < n → fc_bit se j = false) (ha : a ≤ n) : sp_dfs n le us lt ou om fr al se (n - a) a c tu tm S = (some c, S.2.1, S.2.2.1, se, sp_tr n tu, sp_tr n tm) := by
  have e5 := sp_dfs_skip n le us lt ou om fr al (se := se) (c := c) (tu := tu) (tm := tm) (S := S) (n - a) 0 a (fun j h1 h2 => hz j h1 (by omega))
  rw [Nat.add_zero] at e5
  rw [e5]
  rfl
theorem fc_find_neg {P : Nat → Bool} : ∀ {k i : Nat}, fc_find P k i < 0 → ∀ j, i ≤ j → j < i + k → P j = false
  | 0, i, _, j, h1, h2 => by omega
  | k + 1, i, h, j, h1, h2 => by
    simp only [fc_find] at h
    cases hp : P i with
    | true => rw [hp] at h; simp only [if_true] at h; omega
    | false =>
      rw [hp] at h
      simp only [Bool.false_eq_true, if_false] at h
      by_cases hj : j = i
      · rw [hj]; exact hp
      · exact fc_find_neg h j (by omega) (by omega)
theorem fc_find_pos {P : Nat → Bool} : ∀ {k i : Nat}, 0 ≤ fc_find P k i → ∃ g : Nat, fc_find P k i = (g : Int) ∧ i ≤ g ∧ g < i + k ∧ P g = true ∧ ∀ j, i ≤ j → j < g → P j = false
  | 0, i, h => by simp [fc_find] at h
  | k + 1, i, h => by
    simp only [fc_find] at h ⊢
    cases hp : P i with
    | true => exact ⟨i, by simp, by omega, by omega, hp, fun j h1 h2 => by omega⟩
    | false =>
      rw [hp] at h
      simp only [Bool.false_eq_true, if_false] at h ⊢
      obtain ⟨g, h1, h2, h3, h4, h5⟩ := fc_find_pos h
      refine ⟨g, h1, by omega, by omega, h4, fun j h6 h7 => ?_⟩
      by_cases hj : j = i
      · rw [hj]; exact hp
      · exact h5 j (by omega) h7
theorem fm_prev_lt {P : Nat → Bool} : ∀ h : Nat, -1 ≤ fm_prev P h ∧ fm_prev P h < h
  | 0 => by simp [fm_prev]
  | h + 1 => by
    have := fm_prev_lt (P := P) h
    simp only [fm_prev]
    split <;> omega
theorem fm_prev_in {P : Nat → Bool} : ∀ h : Nat, 0 ≤ fm_prev P h → P (fm_prev P h).toNat = true
  | 0, h0 => by simp [fm_prev] at h0
  | h + 1, h0 => by
    simp only [fm_prev] at h0 ⊢
    cases hp : P h with
    | true => simp [hp]
    | false =>
      rw [hp] at h0
      simp only [Bool.false_eq_true, if_false] at h0 ⊢
      exact fm_prev_in h h0
/-- back to the heat ahead -/
theorem sp_back {se : Int} {tu tm : Nat → Int} {S : SS} : ∀ h : Nat, sp_rem n le us lt ou om fr al se h tu tm S = sp_rem n le us lt ou om fr al se (fm_prev (fc_bit se) h + 1).toNat tu tm S
  | 0 => rfl
  | h + 1 => by
    simp only [fm_prev]
    cases hb : fc_bit se h with
    | true => simp only [if_true]; rfl
    | false =>
      simp only [Bool.false_eq_true, if_false]
      rw [sp_rem_out n le us lt ou om fr al hb, sp_back h]
end REM
-- the rows of the plan that is tried
def tq_u (x : Nat → Int) : Nat → Int := fun j => x (18 + 3 * j)
def tq_m (x : Nat → Int) : Nat → Int := fun j => x (18 + 3 * j + 1)
def tp_u (x : Nat → Int) : Nat → Int := fun j => x (3 * j)
def tp_m (x : Nat → Int) : Nat → Int := fun j => x (3 * j + 1)
def tp_o (x : Nat → Int) : Nat → Int := fun j => x (3 * j + 2)
def fm_ls (S : SS) : Int := match S.1 with
  | none => -1
  | some b => b
def mb_ok (al : Int) (S : SS) : Prop := (∀ b, S.1 = some b → 0 ≤ b ∧ b ≤ 10000) ∧ 0 ≤ S.2.1 ∧ S.2.1 ≤ al
theorem mb_ls {al : Int} {S : SS} (h : mb_ok al S) : -1 ≤ fm_ls S ∧ fm_ls S ≤ 10000 := by
  unfold fm_ls
  cases h1 : S.1 with
  | none => exact ⟨by decide, by decide⟩
  | some b => have := h.1 b h1; exact ⟨by show -1 ≤ b; omega, this.2⟩
theorem mb_none {al : Int} {S : SS} (h : mb_ok al S) : fm_ls S < 0 ↔ S.1 = none := by
  unfold fm_ls
  cases h1 : S.1 with
  | none => simp
  | some b => have := h.1 b h1; simp; omega
theorem mb_ge {al : Int} {S : SS} {c : Int} (h : mb_ok al S) : sp_ge S.1 c = true ↔ 0 ≤ fm_ls S ∧ fm_ls S ≤ c := by
  unfold fm_ls
  cases h1 : S.1 with
  | none => simp [sp_ge]
  | some b => have := h.1 b h1; simp [sp_ge]; omega
/-- the plan, its copies: as they were -/
def tq_w (gP x : Nat → Int) : Prop := (∀ j, -1 ≤ x j ∧ x j ≤ 60) ∧ (∀ j, j < 18 ∨ 54 ≤ j → x j = gP j)
def tq_in (gP x : Nat → Int) : Prop := tq_w gP x ∧ (∀ j, j < 6 → x (18 + 3 * j + 2) = gP (3 * j + 2))
def tq_pl (se : Int) (h : Nat) (x : Nat → Int) : Prop := ∀ g, g < h → fc_bit se g = true → (0 ≤ x (18 + 3 * g) ∧ x (18 + 3 * g) ≤ 2) ∧ -1 ≤ x (18 + 3 * g + 1) ∧ x (18 + 3 * g + 1) ≤ 59
def tq_s (gP : Nat → Int) (n : Nat) (S : SS) (x : Nat → Int) : Prop := S.1 ≠ none → ∀ j, j < n → x (36 + 3 * j) = S.2.2.2.2.1 j ∧ x (36 + 3 * j + 1) = S.2.2.2.2.2 j ∧ x (36 + 3 * j + 2) = gP (3 * j + 2)
def tq_put (x : Nat → Int) (h : Nat) (a b : Int) : Nat → Int := fw_up (fw_up x (18 + 3 * h) a) (18 + 3 * h + 1) b
theorem tq_put_ne {x : Nat → Int} {h j : Nat} {a b : Int} (h1 : j ≠ 18 + 3 * h) (h2 : j ≠ 18 + 3 * h + 1) : tq_put x h a b j = x j := by
  unfold tq_put fw_up; rw [if_neg h2, if_neg h1]
theorem tq_put_u {x : Nat → Int} {h : Nat} {a b : Int} : tq_u (tq_put x h a b) = fw_up (tq_u x) h a := by
  funext j
  unfold tq_u tq_put fw_up
  by_cases hj : j = h
  · subst hj; rw [if_neg (by omega), if_pos rfl, if_pos rfl]
  · rw [if_neg (by omega), if_neg (by omega), if_neg hj]
theorem tq_put_m {x : Nat → Int} {h : Nat} {a b : Int} : tq_m (tq_put x h a b) = fw_up (tq_m x) h b := by
  funext j
  unfold tq_m tq_put fw_up
  by_cases hj : j = h
  · subst hj; rw [if_pos rfl, if_pos rfl]
  · rw [if_neg (by omega), if_neg (by omega), if_neg hj]
theorem tq_put_b {x : Nat → Int} {h : Nat} {a b : Int} (hx : ∀ j, -1 ≤ x j ∧ x j ≤ 60) (ha : 0 ≤ a ∧ a ≤ 2) (hb : -1 ≤ b ∧ b ≤ 59) (j : Nat) : -1 ≤ tq_put x h a b j ∧ tq_put x h a b j ≤ 60 := by
  have := hx j
  unfold tq_put fw_up
  split
  · omega
  · split <;> omega
theorem tq_put_in {gP x : Nat → Int} {h : Nat} {a b : Int} (hx : tq_in gP x) (hh : h < 6) (ha : 0 ≤ a ∧ a ≤ 2) (hb : -1 ≤ b ∧ b ≤ 59) : tq_in gP (tq_put x h a b) := by
  refine ⟨⟨tq_put_b hx.1.1 ha hb, fun j hj => ?_⟩, fun j hj => ?_⟩
  · rw [tq_put_ne (by omega) (by omega)]; exact hx.1.2 j hj
  · rw [tq_put_ne (by omega) (by omega)]; exact hx.2 j hj
theorem tq_put_pl {se : Int} {x : Nat → Int} {h : Nat} {a b : Int} (hx : tq_pl se h x) (ha : 0 ≤ a ∧ a ≤ 2) (hb : -1 ≤ b ∧ b ≤ 59) : tq_pl se (h + 1) (tq_put x h a b) := by
  intro g hg hbg
  by_cases hgh : g = h
  · subst hgh
    unfold tq_put fw_up
    rw [if_neg (by omega), if_pos rfl, if_pos rfl]
    exact ⟨ha, hb⟩
  · rw [tq_put_ne (by omega) (by omega), tq_put_ne (by omega) (by omega)]
    exact hx g (by omega) hbg
theorem tq_put_s {gP x : Nat → Int} {n h : Nat} {a b : Int} {S : SS} (hx : tq_s gP n S x) (hh : h < 6) : tq_s gP n S (tq_put x h a b) := by
  intro h0 j hj
  rw [tq_put_ne (by omega) (by omega), tq_put_ne (by omega) (by omega), tq_put_ne (by omega) (by omega)]
  exact hx h0 j hj
theorem tq_cp_ne {x : Nat → Int} {j : Nat} (h : j < 36 ∨ 54 ≤ j) : fm_cp 18 36 x j = x j := by unfold fm_cp; rw [if_neg (by omega)]
theorem tq_cp_w {gP x : Nat → Int} (hx : tq_in gP x) : tq_in gP (fm_cp 18 36 x) := by
  refine ⟨⟨fun j => ?_, fun j hj => ?_⟩, fun j hj => ?_⟩
  · unfold fm_cp; split <;> exact hx.1.1 _
  · rw [tq_cp_ne (by omega)]; exact hx.1.2 j hj
  · rw [tq_cp_ne (by omega)]; exact hx.2 j hj
theorem tq_cp_at {x : Nat → Int} {k : Nat} (hk : k < 18) : fm_cp 18 36 x (36 + k) = x (18 + k) := by
  unfold fm_cp; rw [if_pos (by omega)]; congr 1; omega
theorem tq_cp_s {gP x : Nat → Int} {n : Nat} {c : Int} {q : Int} {w : Bool} {se : Int} (hx : tq_in gP x) (hn : n ≤ 6) : tq_s gP n (some c, q, w, se, sp_tr n (tq_u x), sp_tr n (tq_m x)) (fm_cp 18 36 x) := by
  intro _ j hj
  refine ⟨?_, ?_, ?_⟩
  · rw [tq_cp_at (k := 3 * j) (by omega)]; show _ = sp_tr n (tq_u x) j; unfold sp_tr; rw [if_pos hj]; rfl
  · rw [show 36 + 3 * j + 1 = 36 + (3 * j + 1) by omega, tq_cp_at (by omega)]; show _ = sp_tr n (tq_m x) j; unfold sp_tr; rw [if_pos hj]; rfl
  · rw [show 36 + 3 * j + 2 = 36 + (3 * j + 2) by omega, tq_cp_at (by omega)]; exact hx.2 j (by omega)
theorem tq_cp_eq {x : Nat → Int} {n h : Nat} {se : Int} (hn : n ≤ 6) : sp_eq n se h (tq_u (fm_cp 18 36 x)) (tq_m (fm_cp 18 36 x)) (tq_u x) (tq_m x) := by
  intro g hg _
  unfold tq_u tq_m
  exact ⟨tq_cp_ne (by omega), tq_cp_ne (by omega)⟩
theorem tq_cp_pl {se : Int} {x : Nat → Int} {h : Nat} (hh : h ≤ 6) (hx : tq_pl se h x) : tq_pl se h (fm_cp 18 36 x) := by
  intro g hg hb
  rw [tq_cp_ne (by omega), tq_cp_ne (by omega)]
  exact hx g hg hb
-- the start: the plan as it stands
def tq_0 (gX : Nat → Int) : Nat → Int := fm_cp 0 18 gX
theorem tq_0_in {gP gX : Nat → Int} (h : tq_w gP gX) : tq_in gP (tq_0 gX) := by
  refine ⟨⟨fun j => ?_, fun j hj => ?_⟩, fun j hj => ?_⟩
  · unfold tq_0 fm_cp; split <;> exact h.1 _
  · unfold tq_0 fm_cp; rw [if_neg (by omega)]; exact h.2 j hj
  · unfold tq_0 fm_cp; rw [if_pos (by omega), h.2 _ (by omega)]; congr 1; omega
theorem tq_0_at {gP gX : Nat → Int} (h : tq_w gP gX) {k : Nat} (hk : k < 18) : tq_0 gX (18 + k) = gP k := by
  unfold tq_0 fm_cp; rw [if_pos (by omega), h.2 _ (by omega)]; congr 1; omega
theorem tq_0_eq {gP gX : Nat → Int} (h : tq_w gP gX) {n k : Nat} {se : Int} (hn : n ≤ 6) : sp_eq n se k (tq_u (tq_0 gX)) (tq_m (tq_0 gX)) (tp_u gP) (tp_m gP) := by
  intro g hg _
  unfold tq_u tq_m tp_u tp_m
  exact ⟨tq_0_at h (by omega), by rw [show 18 + 3 * g + 1 = 18 + (3 * g + 1) by omega]; exact tq_0_at h (by omega)⟩
theorem tq_0_s {gP gX : Nat → Int} {n : Nat} {S : SS} (hn : n ≤ 6) (h : tq_s gP n S gX) : tq_s gP n S (tq_0 gX) := by
  intro h0 j hj
  obtain ⟨a, b, c⟩ := h h0 j hj
  unfold tq_0 fm_cp
  rw [if_neg (by omega), if_neg (by omega), if_neg (by omega)]
  exact ⟨a, b, c⟩
section TQ
variable {n nS : Nat} {gL gU gD gP xU xF xT : Nat → Int} {al se : Int}
def tq_fr (xU xF xT : Nat → Int) (nS : Nat) : Int → Int → Int → Bool := fun u m l => fm_st xU xF xT u m l nS
/-- what fits, of those that have a place -/
theorem tq_fits {x : Nat → Int} {z : Nat → Bool} {h : Nat} {u m : Int} (hz : ∀ g, g < n → z g = sp_on se h g) : fm_fitsT x gU gL xU xF xT z n nS (h : Int) u m = (fc_bit (gU h) u.toNat && decide (m + gL h ≤ 60) && tq_fr xU xF xT nS u m (gL h) && sp_cl n gL se (tq_u x) (tq_m x) h u m) := by
  unfold fm_fitsT fm_free sp_cl tq_fr
  rw [Int.toNat_natCast]
  congr 1
  apply fm_all_congr
  intro g hg
  rw [hz g hg]
  unfold fm_meet tq_u tq_m
  have e1 : (18 : Int).toNat = 18 := rfl
  simp only [Int.toNat_natCast, e1, Int.natCast_inj]
  cases sp_on se h g <;> simp
theorem tq_ok {x : Nat → Int} {z : Nat → Bool} {h p : Nat} (hz : ∀ g, g < n → z g = sp_on se h g) (hx : tq_in gP x) (hh : h < 6) (h1 : 0 ≤ gP (3 * h + 1)) (h2 : gP (3 * h + 1) < 60) (h0 : 0 ≤ gP (3 * h)) :
    sp_ok n gL gU (tp_u gP) (tp_m gP) (tq_fr xU xF xT nS) se (tq_u x) (tq_m x) h ((p / 60 : Nat) : Int) ((p % 60 : Nat) : Int) = (fm_fitsT x gU gL xU xF xT z n nS (h : Int) ((p / 60 : Nat) : Int) ((p % 60 : Nat) : Int) && !decide ((p : Int) = 60 * x (3 * h) + x (3 * h + 1))) := by
  rw [tq_fits hz]
  unfold sp_ok
  congr 2
  rw [hx.1.2 (3 * h) (by omega), hx.1.2 (3 * h + 1) (by omega)]
  unfold tp_u tp_m
  rw [Bool.eq_iff_iff]
  simp only [Bool.and_eq_true, decide_eq_true_eq]
  omega
theorem tq_cost {x : Nat → Int} {z : Nat → Bool} {h : Nat} (hn : n ≤ 6) (hz : ∀ g, g < n → z g = sp_on se h g) (hx : tq_in gP x) : fc_sum (fm_cP x gL gD z) n = sp_c n (fc_lt gL gD (tp_o gP)) se h (tq_m x) := by
  unfold sp_c
  apply fc_sum_congr
  intro j hj
  unfold fm_cP fm_late fc_lt tq_m tp_o
  rw [hz j hj, hx.2 j (by omega)]
/-- at the loop's head -/
def tq_I (n nS : Nat) (gL gU gD gP xU xF xT : Nat → Int) (al se : Int) (F : SS) (z4 : Int) (x : Nat → Int) (z : Nat → Bool) (S : SS) : Prop :=
  (-1 ≤ z4 ∧ z4 < n) ∧ (0 ≤ z4 → fc_bit se z4.toNat = true ∧ ∀ g, g < n → g ≠ z4.toNat → z g = sp_on se z4.toNat g) ∧ tq_in gP x ∧ tq_pl se (z4 + 1).toNat x ∧ tq_s gP n S x ∧ mb_ok al S ∧ S.2.2.1 = false ∧ F = sp_rem n gL gU (fc_lt gL gD (tp_o gP)) (tp_u gP) (tp_m gP) (tq_fr xU xF xT nS) al se (z4 + 1).toNat (tq_u x) (tq_m x) S
/-- in the scan of a heat -/
def tq_J (n nS : Nat) (gL gU gD gP xU xF xT : Nat → Int) (al se : Int) (F : SS) (h p : Nat) (x : Nat → Int) (z : Nat → Bool) (S : SS) : Prop :=
  (h < n ∧ fc_bit se h = true ∧ p ≤ 180) ∧ (∀ g, g < n → z g = sp_on se h g) ∧ tq_in gP x ∧ tq_pl se h x ∧ tq_s gP n S x ∧ mb_ok al S ∧ S.2.2.1 = false ∧ F = sp_rem n gL gU (fc_lt gL gD (tp_o gP)) (tp_u gP) (tp_m gP) (tq_fr xU xF xT nS) al se h (tq_u x) (tq_m x) (sp_fr (sp_f n gL gU (fc_lt gL gD (tp_o gP)) (tp_u gP) (tp_m gP) (tq_fr xU xF xT nS) al se (n - (h + 1)) h (sp_c n (fc_lt gL gD (tp_o gP)) se h (tq_m x)) (tq_u x) (tq_m x)) (180 - p) p S)
variable {F : SS} {x : Nat → Int} {z : Nat → Bool} {S : SS} {h p : Nat}
theorem tq_scan (hI : tq_I n nS gL gU gD gP xU xF xT al se F (h : Int) x z S) : tq_J n nS gL gU gD gP xU xF xT al se F h (60 * x (18 + 3 * h) + x (18 + 3 * h + 1) + 1).toNat x (fw_up z h false) S := by
  obtain ⟨⟨a1, a2⟩, a3, a4, a5, a6, a7, a8, a9⟩ := hI
  obtain ⟨b1, b2⟩ := a3 (by omega)
  rw [Int.toNat_natCast] at b1 b2
  rw [show ((h : Int) + 1).toNat = h + 1 by omega] at a5 a9
  obtain ⟨c1, c2⟩ := a5 h (by omega) b1
  refine ⟨⟨by omega, b1, by omega⟩, fun g hg => ?_, a4, fun g hg hb => a5 g (by omega) hb, a6, a7, a8, ?_⟩
  · unfold fw_up
    by_cases hgh : g = h
    · subst hgh; rw [if_pos rfl, sp_on_self b1]
    · rw [if_neg hgh]; exact b2 g hg hgh
  · rw [a9, sp_rem_in _ _ _ _ _ _ _ _ b1]; rfl
theorem tq_skip (hn : n ≤ 6) (hpl : ∀ j, j < n → 0 ≤ gP (3 * j) ∧ 0 ≤ gP (3 * j + 1) ∧ gP (3 * j + 1) < 60) (hJ : tq_J n nS gL gU gD gP xU xF xT al se F h p x z S) (hp : p < 180) (hno : decide ((p : Int) = 60 * x (3 * h) + x (3 * h + 1)) = true ∨ fm_fitsT x gU gL xU xF xT z n nS (h : Int) ((p / 60 : Nat) : Int) ((p % 60 : Nat) : Int) = false) : tq_J n nS gL gU gD gP xU xF xT al se F h (p + 1) x z S := by
  obtain ⟨⟨a1, a2, a3⟩, a4, a5, a6, a7, a8, a9, a10⟩ := hJ
  refine ⟨⟨a1, a2, by omega⟩, a4, a5, a6, a7, a8, a9, ?_⟩
  rw [a10, show 180 - p = (180 - (p + 1)) + 1 by omega]
  have e : sp_f n gL gU (fc_lt gL gD (tp_o gP)) (tp_u gP) (tp_m gP) (tq_fr xU xF xT nS) al se (n - (h + 1)) h (sp_c n (fc_lt gL gD (tp_o gP)) se h (tq_m x)) (tq_u x) (tq_m x) p S = S := by
    unfold sp_f
    rw [if_neg (by rw [a9]; decide), tq_ok a4 a5 (by omega) (hpl h a1).2.1 (hpl h a1).2.2 (hpl h a1).1]
    rw [if_neg]
    rcases hno with q | q
    · rw [q]; simp
    · rw [q]; simp
  rw [sp_fr, e]
theorem sp_on_prev {h : Nat} : ∀ (h : Nat), 0 ≤ fm_prev (fc_bit se) h → ∀ g, g ≠ (fm_prev (fc_bit se) h).toNat → sp_on se h g = sp_on se (fm_prev (fc_bit se) h).toNat g
  | 0, h0, g, _ => by simp [fm_prev] at h0
  | h + 1, h0, g, hg => by
    simp only [fm_prev] at h0 hg ⊢
    cases hb : fc_bit se h with
    | true =>
      rw [hb] at hg
      simp only [if_true, Int.toNat_natCast] at hg ⊢
      unfold sp_on
      have : (g < h + 1) ↔ (g < h) := by omega
      simp only [this]
    | false =>
      rw [hb] at h0 hg
      simp only [Bool.false_eq_true, if_false] at h0 hg ⊢
      rw [sp_on_out hb]
      exact sp_on_prev (h := h) h h0 g hg
theorem tq_ahead (hJ : tq_J n nS gL gU gD gP xU xF xT al se F h p x z S) (hp : p = 180) : tq_I n nS gL gU gD gP xU xF xT al se F (fm_prev (fc_bit se) h) x z S := by
  obtain ⟨⟨a1, a2, a3⟩, a4, a5, a6, a7, a8, a9, a10⟩ := hJ
  have hlt := fm_prev_lt (P := fc_bit se) h
  refine ⟨⟨hlt.1, by omega⟩, fun h0 => ⟨fm_prev_in h h0, fun g hg hne => ?_⟩, a5, fun g hg hb => a6 g (by omega) hb, a7, a8, a9, ?_⟩
  · rw [a4 g hg]; exact sp_on_prev (h := h) h h0 g hne
  · rw [a10, hp, show 180 - 180 = 0 from rfl, sp_fr, sp_back h]
/-- a place that fits -/
theorem tq_try (hn : n ≤ 6) (hpl : ∀ j, j < n → 0 ≤ gP (3 * j) ∧ 0 ≤ gP (3 * j + 1) ∧ gP (3 * j + 1) < 60) (hJ : tq_J n nS gL gU gD gP xU xF xT al se F h p x z S) (hp : p < 180) (ho : decide ((p : Int) = 60 * x (3 * h) + x (3 * h + 1)) = false) (hf : fm_fitsT x gU gL xU xF xT z n nS (h : Int) ((p / 60 : Nat) : Int) ((p % 60 : Nat) : Int) = true) :
    F = sp_rem n gL gU (fc_lt gL gD (tp_o gP)) (tp_u gP) (tp_m gP) (tq_fr xU xF xT nS) al se (h + 1) (tq_u (tq_put x h ((p / 60 : Nat) : Int) ((p % 60 : Nat) : Int))) (tq_m (tq_put x h ((p / 60 : Nat) : Int) ((p % 60 : Nat) : Int)))
      (sp_try al (sp_c n (fc_lt gL gD (tp_o gP)) se (h + 1) (tq_m (tq_put x h ((p / 60 : Nat) : Int) ((p % 60 : Nat) : Int)))) S (sp_dfs n gL gU (fc_lt gL gD (tp_o gP)) (tp_u gP) (tp_m gP) (tq_fr xU xF xT nS) al se (n - (h + 1)) (h + 1) (sp_c n (fc_lt gL gD (tp_o gP)) se (h + 1) (tq_m (tq_put x h ((p / 60 : Nat) : Int) ((p % 60 : Nat) : Int)))) (tq_u (tq_put x h ((p / 60 : Nat) : Int) ((p % 60 : Nat) : Int))) (tq_m (tq_put x h ((p / 60 : Nat) : Int) ((p % 60 : Nat) : Int))))) := by
  obtain ⟨⟨a1, a2, a3⟩, a4, a5, a6, a7, a8, a9, a10⟩ := hJ
  rw [a10, show 180 - p = (180 - (p + 1)) + 1 by omega, sp_fr, tq_put_u, tq_put_m, sp_c_up n _ a2 a1]
  rw [sp_stay a2 a1 hp]
  congr 1
  unfold sp_f
  rw [if_neg (by rw [a9]; decide), tq_ok a4 a5 (by omega) (hpl h a1).2.1 (hpl h a1).2.2 (hpl h a1).1, hf, ho]
  rfl
theorem tq_z1 (hJ : tq_J n nS gL gU gD gP xU xF xT al se F h p x z S) : ∀ g, g < n → fw_up z h true g = sp_on se (h + 1) g := by
  obtain ⟨⟨a1, a2, a3⟩, a4, _⟩ := hJ
  intro g hg
  unfold fw_up
  by_cases hgh : g = h
  · subst hgh; rw [if_pos rfl]; unfold sp_on; simp
  · rw [if_neg hgh, a4 g hg]
    unfold sp_on
    have : (g < h + 1) ↔ (g < h) := by omega
    simp only [this]
theorem tq_spent (hn : n ≤ 6) (hpl : ∀ j, j < n → 0 ≤ gP (3 * j) ∧ 0 ≤ gP (3 * j + 1) ∧ gP (3 * j + 1) < 60) (hJ : tq_J n nS gL gU gD gP xU xF xT al se F h p x z S) (hp : p < 180) (ho : decide ((p : Int) = 60 * x (3 * h) + x (3 * h + 1)) = false) (hf : fm_fitsT x gU gL xU xF xT z n nS (h : Int) ((p / 60 : Nat) : Int) ((p % 60 : Nat) : Int) = true) (hm : S.2.1 = al) : F = (S.1, S.2.1, true, S.2.2.2) := by
  rw [tq_try hn hpl hJ hp ho hf]
  unfold sp_try
  rw [if_pos (by omega), sp_rem_st _ _ _ _ _ _ _ _ rfl]
/-- a place is taken: what is left then -/
theorem tq_go (hn : n ≤ 6) (hJ : tq_J n nS gL gU gD gP xU xF xT al se F h p x z S) (hp : p < 180) {S2 : SS} (h1 : S2.2.2.1 = false) (h2 : mb_ok al S2) (h3 : tq_s gP n S2 (tq_put x h ((p / 60 : Nat) : Int) ((p % 60 : Nat) : Int)))
    (hF : F = sp_rem n gL gU (fc_lt gL gD (tp_o gP)) (tp_u gP) (tp_m gP) (tq_fr xU xF xT nS) al se (h + 1) (tq_u (tq_put x h ((p / 60 : Nat) : Int) ((p % 60 : Nat) : Int))) (tq_m (tq_put x h ((p / 60 : Nat) : Int) ((p % 60 : Nat) : Int))) S2) : tq_I n nS gL gU gD gP xU xF xT al se F (h : Int) (tq_put x h ((p / 60 : Nat) : Int) ((p % 60 : Nat) : Int)) (fw_up z h true) S2 := by
  have hz1 := tq_z1 hJ
  obtain ⟨⟨a1, a2, a3⟩, a4, a5, a6, a7, a8, a9, a10⟩ := hJ
  refine ⟨⟨by omega, by omega⟩, fun _ => ⟨by rw [Int.toNat_natCast]; exact a2, fun g hg hne => ?_⟩, tq_put_in a5 (by omega) (by omega) (by omega), ?_, h3, h2, h1, ?_⟩
  · rw [Int.toNat_natCast] at hne ⊢
    unfold fw_up
    rw [if_neg hne, a4 g hg]
  · rw [show ((h : Int) + 1).toNat = h + 1 by omega]
    exact tq_put_pl a6 (by omega) (by omega)
  · rw [show ((h : Int) + 1).toNat = h + 1 by omega]
    exact hF
theorem tq_over (hn : n ≤ 6) (hpl : ∀ j, j < n → 0 ≤ gP (3 * j) ∧ 0 ≤ gP (3 * j + 1) ∧ gP (3 * j + 1) < 60) (hJ : tq_J n nS gL gU gD gP xU xF xT al se F h p x z S) (hp : p < 180) (ho : decide ((p : Int) = 60 * x (3 * h) + x (3 * h + 1)) = false) (hf : fm_fitsT x gU gL xU xF xT z n nS (h : Int) ((p / 60 : Nat) : Int) ((p % 60 : Nat) : Int) = true) (hm : ¬ S.2.1 = al)
    (hov : 0 ≤ fm_ls S ∧ fm_ls S ≤ fc_sum (fm_cP (tq_put x h ((p / 60 : Nat) : Int) ((p % 60 : Nat) : Int)) gL gD (fw_up z h true)) n) : tq_I n nS gL gU gD gP xU xF xT al se F (h : Int) (tq_put x h ((p / 60 : Nat) : Int) ((p % 60 : Nat) : Int)) (fw_up z h true) (S.1, S.2.1 + 1, S.2.2) := by
  have e := tq_try hn hpl hJ hp ho hf
  have hz1 := tq_z1 hJ
  have hJ0 := hJ
  obtain ⟨⟨a1, a2, a3⟩, a4, a5, a6, a7, a8, a9, a10⟩ := hJ
  rw [tq_cost hn hz1 (tq_put_in a5 (by omega) (by omega) (by omega)), ← mb_ge a8] at hov
  have hb := a8.2
  unfold sp_try at e
  rw [if_neg (by omega), if_pos hov] at e
  exact tq_go hn hJ0 hp a9 ⟨a8.1, by show 0 ≤ S.2.1 + 1; omega, by show S.2.1 + 1 ≤ al; omega⟩ (fun h0 => tq_put_s a7 (by omega) h0) e
theorem tq_nov (hn : n ≤ 6) (hpl : ∀ j, j < n → 0 ≤ gP (3 * j) ∧ 0 ≤ gP (3 * j + 1) ∧ gP (3 * j + 1) < 60) (hJ : tq_J n nS gL gU gD gP xU xF xT al se F h p x z S) (hp : p < 180) (ho : decide ((p : Int) = 60 * x (3 * h) + x (3 * h + 1)) = false) (hf : fm_fitsT x gU gL xU xF xT z n nS (h : Int) ((p / 60 : Nat) : Int) ((p % 60 : Nat) : Int) = true) (hm : ¬ S.2.1 = al)
    (hov : ¬ (0 ≤ fm_ls S ∧ fm_ls S ≤ fc_sum (fm_cP (tq_put x h ((p / 60 : Nat) : Int) ((p % 60 : Nat) : Int)) gL gD (fw_up z h true)) n)) :
    F = sp_rem n gL gU (fc_lt gL gD (tp_o gP)) (tp_u gP) (tp_m gP) (tq_fr xU xF xT nS) al se (h + 1) (tq_u (tq_put x h ((p / 60 : Nat) : Int) ((p % 60 : Nat) : Int))) (tq_m (tq_put x h ((p / 60 : Nat) : Int) ((p % 60 : Nat) : Int)))
      (sp_dfs n gL gU (fc_lt gL gD (tp_o gP)) (tp_u gP) (tp_m gP) (tq_fr xU xF xT nS) al se (n - (h + 1)) (h + 1) (sp_c n (fc_lt gL gD (tp_o gP)) se (h + 1) (tq_m (tq_put x h ((p / 60 : Nat) : Int) ((p % 60 : Nat) : Int)))) (tq_u (tq_put x h ((p / 60 : Nat) : Int) ((p % 60 : Nat) : Int))) (tq_m (tq_put x h ((p / 60 : Nat) : Int) ((p % 60 : Nat) : Int))) (S.1, S.2.1 + 1, S.2.2)) := by
  have e := tq_try hn hpl hJ hp ho hf
  have hz1 := tq_z1 hJ
  obtain ⟨⟨a1, a2, a3⟩, a4, a5, a6, a7, a8, a9, a10⟩ := hJ
  rw [tq_cost hn hz1 (tq_put_in a5 (by omega) (by omega) (by omega)), ← mb_ge a8] at hov
  have hb := a8.2
  unfold sp_try at e
  rw [if_neg (by omega), if_neg hov] at e
  exact e
theorem tq_cb {w : Nat → Bool} {y : Nat → Int} (hy : ∀ j, -1 ≤ y j ∧ y j ≤ 60) (hL : ∀ j, 0 ≤ gL j ∧ gL j ≤ 20) (hD : ∀ j, -1000 ≤ gD j ∧ gD j ≤ 1000) : ∀ k : Nat, 0 ≤ fc_sum (fm_cP y gL gD w) k ∧ fc_sum (fm_cP y gL gD w) k ≤ 1080 * (k : Int)
  | 0 => by simp [fc_sum]
  | k + 1 => by
    have ih := tq_cb hy hL hD (w := w) k
    have q1 := hy (18 + 3 * k + 1)
    have q2 := hL k
    have q3 := hD (y (18 + 3 * k + 2)).toNat
    have q4 : 0 ≤ fm_cP y gL gD w k ∧ fm_cP y gL gD w k ≤ 1080 := by
      unfold fm_cP fm_late
      split <;> omega
    simp only [fc_sum]
    omega
theorem tq_found (hn : n ≤ 6) (hpl : ∀ j, j < n → 0 ≤ gP (3 * j) ∧ 0 ≤ gP (3 * j + 1) ∧ gP (3 * j + 1) < 60) (hL : ∀ j, 0 ≤ gL j ∧ gL j ≤ 20) (hD : ∀ j, -1000 ≤ gD j ∧ gD j ≤ 1000) (hJ : tq_J n nS gL gU gD gP xU xF xT al se F h p x z S) (hp : p < 180) (ho : decide ((p : Int) = 60 * x (3 * h) + x (3 * h + 1)) = false) (hf : fm_fitsT x gU gL xU xF xT z n nS (h : Int) ((p / 60 : Nat) : Int) ((p % 60 : Nat) : Int) = true) (hm : ¬ S.2.1 = al)
    (hov : ¬ (0 ≤ fm_ls S ∧ fm_ls S ≤ fc_sum (fm_cP (tq_put x h ((p / 60 : Nat) : Int) ((p % 60 : Nat) : Int)) gL gD (fw_up z h true)) n)) (hnx : fc_find (fc_bit se) (6 - (h + 1)) (h + 1) < 0) :
    tq_I n nS gL gU gD gP xU xF xT al se F (h : Int) (fm_cp 18 36 (tq_put x h ((p / 60 : Nat) : Int) ((p % 60 : Nat) : Int))) (fw_up z h true) (some (fc_sum (fm_cP (tq_put x h ((p / 60 : Nat) : Int) ((p % 60 : Nat) : Int)) gL gD (fw_up z h true)) n), S.2.1 + 1, S.2.2.1, se, sp_tr n (tq_u (tq_put x h ((p / 60 : Nat) : Int) ((p % 60 : Nat) : Int))), sp_tr n (tq_m (tq_put x h ((p / 60 : Nat) : Int) ((p % 60 : Nat) : Int)))) := by
  have e := tq_nov hn hpl hJ hp ho hf hm hov
  have hz1 := tq_z1 hJ
  obtain ⟨⟨a1, a2, a3⟩, a4, a5, a6, a7, a8, a9, a10⟩ := hJ
  have hin := tq_put_in (h := h) (a := ((p / 60 : Nat) : Int)) (b := ((p % 60 : Nat) : Int)) a5 (by omega) (by omega) (by omega)
  have hcb := tq_cb (gL := gL) (gD := gD) (w := fw_up z h true) hin.1.1 hL hD n
  have hb := a8.2
  rw [sp_last (fun j h1 h2 => fc_find_neg hnx j h1 (by omega)) (by omega), ← tq_cost hn hz1 hin] at e
  refine ⟨⟨by omega, by omega⟩, fun _ => ⟨by rw [Int.toNat_natCast]; exact a2, fun g hg hne => ?_⟩, tq_cp_w hin, ?_, tq_cp_s hin hn, ⟨fun b hb1 => ?_, by show 0 ≤ S.2.1 + 1; omega, by show S.2.1 + 1 ≤ al; omega⟩, a9, ?_⟩
  · rw [Int.toNat_natCast] at hne ⊢
    unfold fw_up
    rw [if_neg hne, a4 g hg]
  · rw [show ((h : Int) + 1).toNat = h + 1 by omega]
    exact tq_cp_pl (by omega) (tq_put_pl a6 (by omega) (by omega))
  · have hb2 := Option.some.inj hb1
    omega
  · rw [show ((h : Int) + 1).toNat = h + 1 by omega, sp_rem_congr _ _ _ _ _ _ _ _ (h + 1) _ (by omega) (tq_cp_eq hn)]
    exact e
theorem tq_next (hn : n ≤ 6) (hpl : ∀ j, j < n → 0 ≤ gP (3 * j) ∧ 0 ≤ gP (3 * j + 1) ∧ gP (3 * j + 1) < 60) (hse : ∀ j, j < 6 → fc_bit se j = true → j < n) (hJ : tq_J n nS gL gU gD gP xU xF xT al se F h p x z S) (hp : p < 180) (ho : decide ((p : Int) = 60 * x (3 * h) + x (3 * h + 1)) = false) (hf : fm_fitsT x gU gL xU xF xT z n nS (h : Int) ((p / 60 : Nat) : Int) ((p % 60 : Nat) : Int) = true) (hm : ¬ S.2.1 = al)
    (hov : ¬ (0 ≤ fm_ls S ∧ fm_ls S ≤ fc_sum (fm_cP (tq_put x h ((p / 60 : Nat) : Int) ((p % 60 : Nat) : Int)) gL gD (fw_up z h true)) n)) {nx : Int} (hnx : fc_find (fc_bit se) (6 - (h + 1)) (h + 1) = nx) (h0 : 0 ≤ nx) :
    tq_I n nS gL gU gD gP xU xF xT al se F nx (tq_put (tq_put x h ((p / 60 : Nat) : Int) ((p % 60 : Nat) : Int)) nx.toNat 0 (-1)) (fw_up z h true) (S.1, S.2.1 + 1, S.2.2) := by
  have e := tq_nov hn hpl hJ hp ho hf hm hov
  have hz1 := tq_z1 hJ
  obtain ⟨⟨a1, a2, a3⟩, a4, a5, a6, a7, a8, a9, a10⟩ := hJ
  obtain ⟨g, g1, g2, g3, g4, g5⟩ := fc_find_pos (P := fc_bit se) (k := 6 - (h + 1)) (i := h + 1) (by rw [hnx]; exact h0)
  have hgn := hse g (by omega) g4
  obtain rfl : nx = (g : Int) := by rw [← hnx, g1]
  have hin := tq_put_in (h := h) (a := ((p / 60 : Nat) : Int)) (b := ((p % 60 : Nat) : Int)) a5 (by omega) (by omega) (by omega)
  have hb := a8.2
  rw [sp_down g4 hgn (fun j h1 h2 => g5 j h1 h2) g2] at e
  simp only [Int.toNat_natCast] at *
  have hpl1 : tq_pl se g (tq_put x h ((p / 60 : Nat) : Int) ((p % 60 : Nat) : Int)) := by
    intro j hj hbj
    by_cases hjh : j < h + 1
    · exact tq_put_pl (h := h) a6 (by omega) (by omega) j hjh hbj
    · rw [g5 j (by omega) hj] at hbj; exact absurd hbj (by decide)
  refine ⟨⟨by omega, by omega⟩, fun _ => ⟨by rw [Int.toNat_natCast]; exact g4, fun j hj hne => ?_⟩, tq_put_in hin (by omega) (by omega) (by omega), ?_, fun q => tq_put_s (tq_put_s a7 (by omega)) (by omega) q, ⟨a8.1, by show 0 ≤ S.2.1 + 1; omega, by show S.2.1 + 1 ≤ al; omega⟩, a9, ?_⟩
  · rw [Int.toNat_natCast] at hne ⊢
    rw [hz1 j hj]
    unfold sp_on
    by_cases q1 : j < h + 1
    · have : j < g := by omega
      simp [q1, this]
    · by_cases q2 : j < g
      · rw [g5 j (by omega) q2]; simp
      · simp [q1, q2]
  · rw [show ((g : Int) + 1).toNat = g + 1 by omega]
    exact tq_put_pl hpl1 (by omega) (by omega)
  · rw [show ((g : Int) + 1).toNat = g + 1 by omega, tq_put_u, tq_put_m]
    exact e
theorem tq_exit {z4 : Int} (hI : tq_I n nS gL gU gD gP xU xF xT al se F z4 x z S) (h0 : z4 < 0) : F = S := by
  obtain ⟨⟨a1, a2⟩, a3, a4, a5, a6, a7, a8, a9⟩ := hI
  rw [a9, show (z4 + 1).toNat = 0 by omega]
  rfl
-- the start
variable {gX : Nat → Int}
theorem tq_good (hn : n ≤ 6) (hw : tq_w gP gX) (hz : ∀ g, g < n → z g = !fc_bit se g) : fm_all (fun h => !z h || fm_fitsT (tq_0 gX) gU gL xU xF xT z n nS (h : Int) (tq_0 gX (3 * h)) (tq_0 gX (3 * h + 1))) n = sp_good n gL gU (tp_u gP) (tp_m gP) (tq_fr xU xF xT nS) se := by
  unfold sp_good
  apply fm_all_congr
  intro h hh
  have hz0 : ∀ g, g < n → z g = sp_on se 0 g := by
    intro g hg
    rw [hz g hg]; unfold sp_on; simp
  have hin := tq_0_in hw
  rw [hz h hh, Bool.not_not]
  congr 1
  rw [hin.1.2 (3 * h) (by omega), hin.1.2 (3 * h + 1) (by omega)]
  unfold fm_fitsT fm_free
  rw [Int.toNat_natCast]
  congr 1
  apply fm_all_congr
  intro g hg
  rw [hz g hg]
  have e1 : (18 : Int).toNat = 18 := rfl
  unfold fm_meet
  simp only [Int.toNat_natCast, e1, Int.natCast_inj]
  rw [tq_0_at hw (k := 3 * g) (by omega), show 18 + 3 * g + 1 = 18 + (3 * g + 1) by omega, tq_0_at hw (k := 3 * g + 1) (by omega)]
  unfold tp_u tp_m
  cases fc_bit se g <;> simp
theorem tq_cost0 (hn : n ≤ 6) (hw : tq_w gP gX) (hz : ∀ g, g < n → z g = !fc_bit se g) : fc_sum (fm_cP (tq_0 gX) gL gD z) n = sp_cost n (fc_lt gL gD (tp_o gP)) (tp_m gP) se := by
  unfold sp_cost
  apply fc_sum_congr
  intro j hj
  have hin := tq_0_in hw
  unfold fm_cP fm_late fc_lt tp_o tp_m
  rw [hz j hj, hin.2 j (by omega), show 18 + 3 * j + 1 = 18 + (3 * j + 1) by omega, tq_0_at hw (k := 3 * j + 1) (by omega)]
  cases fc_bit se j <;> simp
theorem sp_cost_c : sp_cost n (fc_lt gL gD (tp_o gP)) (tp_m gP) se = sp_c n (fc_lt gL gD (tp_o gP)) se 0 (tp_m gP) := by
  unfold sp_cost sp_c
  apply fc_sum_congr
  intro j hj
  unfold sp_on
  cases fc_bit se j <;> simp
theorem tq_enter (hn : n ≤ 6) (hw : tq_w gP gX) (hz : ∀ g, g < n → z g = !fc_bit se g) (hse : ∀ j, j < 6 → fc_bit se j = true → j < n) (hs : tq_s gP n S gX) (hb : mb_ok al S) (hsp : S.2.2.1 = false) {nx : Int} (hnx : fc_find (fc_bit se) 6 0 = nx) (h0 : 0 ≤ nx) :
    tq_I n nS gL gU gD gP xU xF xT al se (sp_dfs n gL gU (fc_lt gL gD (tp_o gP)) (tp_u gP) (tp_m gP) (tq_fr xU xF xT nS) al se n 0 (sp_cost n (fc_lt gL gD (tp_o gP)) (tp_m gP) se) (tp_u gP) (tp_m gP) S) nx (tq_put (tq_0 gX) nx.toNat 0 (-1)) z S := by
  obtain ⟨g, g1, g2, g3, g4, g5⟩ := fc_find_pos (P := fc_bit se) (k := 6) (i := 0) (by rw [hnx]; exact h0)
  have hgn := hse g (by omega) g4
  obtain rfl : nx = (g : Int) := by rw [← hnx, g1]
  have hin := tq_0_in hw
  simp only [Int.toNat_natCast]
  refine ⟨⟨by omega, by omega⟩, fun _ => ⟨by rw [Int.toNat_natCast]; exact g4, fun j hj hne => ?_⟩, tq_put_in hin (by omega) (by omega) (by omega), ?_, fun q => tq_put_s (tq_0_s hn hs) (by omega) q, hb, hsp, ?_⟩
  · rw [Int.toNat_natCast]
    rw [hz j hj]
    unfold sp_on
    by_cases q1 : j < g
    · rw [g5 j (by omega) q1]; simp
    · simp [q1]
  · rw [show ((g : Int) + 1).toNat = g + 1 by omega]
    exact tq_put_pl (fun j hj hbj => absurd hbj (by rw [g5 j (by omega) hj]; decide)) (by omega) (by omega)
  · rw [show ((g : Int) + 1).toNat = g + 1 by omega, tq_put_u, tq_put_m, ← sp_down g4 hgn (fun j h1 h2 => g5 j h1 h2) g2]
    rw [sp_cost_c, ← sp_c_congr n _ (tq_0_eq hw hn), Nat.sub_zero, ← sp_dfs_congr n gL gU (fc_lt gL gD (tp_o gP)) (tp_u gP) (tp_m gP) (tq_fr xU xF xT nS) al n 0 _ _ _ _ _ S (by omega) (tq_0_eq hw hn)]
    rfl
theorem tq_none (hn : n ≤ 6) (hw : tq_w gP gX) (hnx : fc_find (fc_bit se) 6 0 < 0) : sp_dfs n gL gU (fc_lt gL gD (tp_o gP)) (tp_u gP) (tp_m gP) (tq_fr xU xF xT nS) al se n 0 (sp_cost n (fc_lt gL gD (tp_o gP)) (tp_m gP) se) (tp_u gP) (tp_m gP) S = (some (sp_cost n (fc_lt gL gD (tp_o gP)) (tp_m gP) se), S.2.1, S.2.2.1, se, sp_tr n (tq_u (tq_0 gX)), sp_tr n (tq_m (tq_0 gX))) := by
  have e := sp_last (n := n) (le := gL) (us := gU) (lt := fc_lt gL gD (tp_o gP)) (ou := tp_u gP) (om := tp_m gP) (fr := tq_fr xU xF xT nS) (al := al) (se := se) (a := 0) (c := sp_cost n (fc_lt gL gD (tp_o gP)) (tp_m gP) se) (tu := tq_u (tq_0 gX)) (tm := tq_m (tq_0 gX)) (S := S) (fun j h1 h2 => fc_find_neg hnx j h1 (by omega)) (by omega)
  rw [← e, Nat.sub_zero]
  exact (sp_dfs_congr n gL gU (fc_lt gL gD (tp_o gP)) (tp_u gP) (tp_m gP) (tq_fr xU xF xT nS) al n 0 _ _ _ _ _ S (by omega) (tq_0_eq hw hn)).symm
theorem tz_up {i : Nat} {v : Bool} (h : ∀ g, g < i → z g = !fc_bit se g) (hv : v = !fc_bit se i) : ∀ g, g < i + 1 → fw_up z i v g = !fc_bit se g := by
  intro g hg
  unfold fw_up
  by_cases q : g = i
  · subst q; rw [if_pos rfl, hv]
  · rw [if_neg q]; exact h g (by omega)
end TQ
