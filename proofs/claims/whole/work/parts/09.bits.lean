-- shifts and masks of small numbers
theorem bt_sl : ∀ n, n < 32 → ((nI n &&& 31).toBitVec.smod 32).toNat = n := by decide +kernel
theorem iI_shr {u z : Int} {k : Nat} (h0 : 0 ≤ u) (h1 : u < 2147483648) (hz : z = (k : Int)) (hk : k < 32) : iI u >>> (iI z &&& 31) = iI (u / 2 ^ k) := by
  obtain ⟨n, rfl⟩ := Int.eq_ofNat_of_zero_le h0
  subst hz
  rw [iI_nat, iI_nat, pk_shrN (by omega) _ k (bt_sl k hk), ← iI_nat]
  congr 1
theorem iI_and1 {u : Int} (h0 : 0 ≤ u) (h1 : u < 2147483648) : iI u &&& iI 1 = iI (u % 2) := by
  obtain ⟨n, rfl⟩ := Int.eq_ofNat_of_zero_le h0
  rw [iI_nat, pk_andN (by omega) 1 (by decide), ← iI_nat]
  congr 1
theorem iI_shl1 {z : Int} {k : Nat} (hz : z = (k : Int)) (hk : k < 31) : iI 1 <<< (iI z &&& 31) = iI (2 ^ k) := by
  subst hz
  have h2 : (2 : Nat) ^ k < 2 ^ 31 := Nat.pow_lt_pow_right (by decide) hk
  rw [iI_nat, show iI 1 = nI 1 from rfl, pk_shlN _ k (bt_sl k (by omega)) (by omega), ← iI_nat, Nat.one_mul]
  congr 1
def fc_bit (u : Int) (k : Nat) : Bool := decide (u / 2 ^ k % 2 = 1)
def fc_bits (f n : Int) : Int64 := ((1 : Int64) <<< ((iI n).toInt64 &&& 63) - 1) <<< ((iI f).toInt64 &&& 63)
def fc_in (x y z : Int) : Bool := decide (y ≤ x) && decide (x ≤ z)
theorem fw_divb {u : Int} {k : Nat} (h0 : 0 ≤ u) (h1 : u < 2147483648) : 0 ≤ u / 2 ^ k ∧ u / 2 ^ k < 2147483648 := by
  have hp : (0 : Int) < 2 ^ k := Int.pow_pos (by decide)
  exact ⟨Int.ediv_nonneg h0 (Int.le_of_lt hp), Int.lt_of_le_of_lt (Int.ediv_le_self _ h0) h1⟩
theorem fw_max (a b : Int) (ha : fw_b a) (hb : fw_b b) : (if iI a < iI b then iI b else iI a) = iI (max a b) := by
  by_cases h : a < b
  · rw [if_pos ((iI_lt ha hb).mpr h)]; congr 1; omega
  · rw [if_neg (fun q => h ((iI_lt ha hb).mp q))]; congr 1; omega
theorem fw_cpy {f g : Nat → Int} {i : Nat} (h : ∀ j, j < i → f j = g j) : ∀ j, j < i + 1 → fw_up f i (g i) j = g j := by
  intro j hj
  unfold fw_up
  split
  · rename_i q; rw [q]
  · exact h j (by omega)
/-- an array's contents by another function that is the same on its places -/
theorem va_P.fn {D : va_G} {ws : va_W} {H : Heap} (hP : va_P D cls_ ws H) (k : Nat) {a : Nat} {cA : ClassId} {n : Nat} {f g : Nat → Int} (hk : ws[k]? = some (a, fw_a cA n f)) (h : ∀ j, j < n → f j = g j) : va_P D cls_ (ws.set k (a, fw_a cA n g)) H := by
  have hl := (List.getElem?_eq_some_iff.mp hk).1
  intro j q hq
  by_cases hjk : k = j
  · subst hjk
    rw [List.getElem?_set_self hl] at hq
    cases hq
    have h1 := hP k _ hk
    show H[a]? = some (vp_cell cA (n, .inl (fun j => iI (g j))))
    have h2 : H[a]? = some (vp_cell cA (n, .inl (fun j => iI (f j)))) := h1
    rw [h2, vp_cell_i, vp_cell_i]
    unfold arrV
    congr 2
    apply Array.ext
    · simp
    · intro i h3 h4
      simp only [Array.getElem_ofFn]
      rw [h i (by simpa using h3)]
  · rw [List.getElem?_set_ne hjk] at hq
    exact hP j q hq
theorem fw_cpyL {f g : Nat → Int64} {i : Nat} (h : ∀ j, j < i → f j = g j) : ∀ j, j < i + 1 → fw_up f i (g i) j = g j := by
  intro j hj
  unfold fw_up
  split
  · rename_i q; rw [q]
  · exact h j (by omega)
theorem va_P.fnL {D : va_G} {ws : va_W} {H : Heap} (hP : va_P D cls_ ws H) (k : Nat) {a : Nat} {cA : ClassId} {n : Nat} {f g : Nat → Int64} (hk : ws[k]? = some (a, fw_l cA n f)) (h : ∀ j, j < n → f j = g j) : va_P D cls_ (ws.set k (a, fw_l cA n g)) H := by
  have hl := (List.getElem?_eq_some_iff.mp hk).1
  intro j q hq
  by_cases hjk : k = j
  · subst hjk
    rw [List.getElem?_set_self hl] at hq
    cases hq
    have h1 := hP k _ hk
    show H[a]? = some (vp_cell cA (n, .inr (.inl g)))
    have h2 : H[a]? = some (vp_cell cA (n, .inr (.inl f))) := h1
    rw [h2, vp_cell_l, vp_cell_l]
    unfold arrV
    congr 2
    apply Array.ext
    · simp
    · intro i h3 h4
      simp only [Array.getElem_ofFn]
      rw [h i (by simpa using h3)]
  · rw [List.getElem?_set_ne hjk] at hq
    exact hP j q hq
theorem fw_lcmp0 {x y : Int64} : lg_cmp x y = 0 ↔ x = y := by
  unfold lg_cmp
  by_cases h1 : x > y
  · rw [if_pos h1]
    exact ⟨fun h => absurd h (by decide), fun h => by rw [h] at h1; exact absurd h1 (Int64.lt_irrefl)⟩
  · rw [if_neg h1]
    by_cases h2 : x = y
    · simp [h2]
    · rw [if_neg h2]
      exact ⟨fun h => absurd h (by decide), fun h => absurd h h2⟩
/-- the minutes that are taken on a unit, of the first i heats and of the stops -/
def fc_tk (s0 : Int64) (bu u : Int) (au am le : Nat → Int) : Nat → Int64
  | 0 => s0
  | i + 1 => if (i : Int) ≠ bu ∧ au i = u then fc_tk s0 bu u au am le i ||| fc_bits (am i) (le i) else fc_tk s0 bu u au am le i
def fc_room (s0 : Int64) (bu u : Int) (au am le : Nat → Int) (n : Nat) (mi wa : Int) : Bool := decide (mi + wa ≤ 60) && decide (fc_tk s0 bu u au am le n &&& fc_bits mi wa = 0)
def fc_fits (fS : Nat → Int64) (fU fL au am : Nat → Int) (nH h u mi : Int) : Bool := fc_bit (fU h.toNat) u.toNat && fc_room (fS u.toNat) h u au am fL nH.toNat mi (fL h.toNat)
