-- bits of a long
def lb (x : Int64) (j : Nat) : Bool := x.toBitVec.getLsbD j
theorem lb_or (x y : Int64) (j : Nat) : lb (x ||| y) j = (lb x j || lb y j) := by
  unfold lb; rw [Int64.toBitVec_or, BitVec.getLsbD_or]
theorem lb_and (x y : Int64) (j : Nat) : lb (x &&& y) j = (lb x j && lb y j) := by
  unfold lb; rw [Int64.toBitVec_and, BitVec.getLsbD_and]
theorem lb_not (x : Int64) {j : Nat} (hj : j < 64) : lb (x ^^^ (-1)) j = !lb x j := by
  unfold lb
  rw [Int64.toBitVec_xor, BitVec.getLsbD_xor, show (-1 : Int64).toBitVec = BitVec.allOnes 64 from by decide, BitVec.getLsbD_allOnes]
  simp [hj]
theorem lb_0 (j : Nat) : lb 0 j = false := by
  unfold lb
  rw [show (0 : Int64).toBitVec = 0#64 from rfl, BitVec.getLsbD_zero]
theorem lb_ext {x y : Int64} (h : ∀ j, j < 64 → lb x j = lb y j) : x = y := by
  apply Int64.toBitVec_inj.mp
  apply BitVec.eq_of_getLsbD_eq
  intro i hi
  exact h i hi
theorem lb_and0 {x y : Int64} : x &&& y = 0 ↔ ∀ j, j < 64 → ¬ (lb x j = true ∧ lb y j = true) := by
  constructor
  · intro h j _ q
    have := congrArg (fun z => lb z j) h
    simp only [lb_and, lb_0, q.1, q.2] at this
    exact absurd this (by decide)
  · intro h
    apply lb_ext
    intro j hj
    rw [lb_and, lb_0]
    have := h j hj
    cases h1 : lb x j <;> cases h2 : lb y j <;> simp_all
theorem lb_back {t b : Int64} (h : t &&& b = 0) : (t ||| b) &&& (b ^^^ (-1)) = t := by
  apply lb_ext
  intro j hj
  rw [lb_and, lb_or, lb_not b hj]
  have := lb_and0.mp h j hj
  cases h1 : lb t j <;> cases h2 : lb b j <;> simp_all
theorem lb_bits0 : ∀ f, f < 60 → ∀ n, n ≤ 60 - f → ∀ j, j < 64 → lb (fc_bits (f : Nat) (n : Nat)) j = (decide (f ≤ j) && decide (j < f + n)) := by
  intro f hf n hn j hj
  unfold lb fc_bits
  have e1 : ((iI (n : Nat)).toInt64 &&& 63) = lN n := by
    rw [iI_nat]
    have : ∀ k, k < 64 → ((nI k).toInt64 &&& 63) = lN k := by decide +kernel
    exact this n (by omega)
  have e2 : ((iI (f : Nat)).toInt64 &&& 63) = lN f := by
    rw [iI_nat]
    have : ∀ k, k < 64 → ((nI k).toInt64 &&& 63) = lN k := by decide +kernel
    exact this f (by omega)
  rw [e1, e2]
  have e3 : ∀ k, k < 64 → ∀ x : Int64, (x <<< lN k).toBitVec = x.toBitVec <<< k := by
    intro k hk x
    rw [Int64.toBitVec_shiftLeft]
    have e4 : ∀ k, k < 64 → ((lN k).toBitVec.smod 64) = BitVec.ofNat 64 k := by decide +kernel
    rw [e4 k hk, BitVec.shiftLeft_eq', BitVec.toNat_ofNat, Nat.mod_eq_of_lt (by omega)]
  rw [e3 f (by omega), BitVec.getLsbD_shiftLeft, Int64.toBitVec_sub, e3 n (by omega)]
  have e5 : ((1 : Int64).toBitVec <<< n - (1 : Int64).toBitVec) = BitVec.ofNat 64 (2 ^ n - 1) := by
    have hp : 2 ^ n < 2 ^ 64 := Nat.pow_lt_pow_right (by decide) (by omega)
    have hp1 : 1 ≤ 2 ^ n := Nat.one_le_two_pow
    apply BitVec.eq_of_toNat_eq
    rw [BitVec.toNat_sub, BitVec.toNat_shiftLeft, BitVec.toNat_ofNat]
    show (2 ^ 64 - 1 + (1 <<< n) % 2 ^ 64) % 2 ^ 64 = (2 ^ n - 1) % 2 ^ 64
    rw [Nat.one_shiftLeft, Nat.mod_eq_of_lt hp, Nat.mod_eq_of_lt (show 2 ^ n - 1 < 2 ^ 64 by omega)]
    omega
  rw [e5, BitVec.getLsbD_ofNat, Nat.testBit_two_pow_sub_one]
  by_cases h1 : j < f
  · have : ¬ f ≤ j := by omega
    simp [h1, this]
  · have h2 : f ≤ j := by omega
    simp only [h1, h2, decide_true, decide_false, Bool.not_false, Bool.true_and, hj]
    have h3 : (j - f < n) ↔ (j < f + n) := by omega
    simp only [h3]
    simp
    intro _; omega
theorem lb_bits {f n : Int} (h0 : 0 ≤ f) (h1 : 0 ≤ n) (h2 : f + n ≤ 60) (hf : f < 60) {j : Nat} (hj : j < 64) : lb (fc_bits f n) j = true ↔ f ≤ (j : Int) ∧ (j : Int) < f + n := by
  obtain ⟨a, rfl⟩ := Int.eq_ofNat_of_zero_le h0
  obtain ⟨b, rfl⟩ := Int.eq_ofNat_of_zero_le h1
  rw [lb_bits0 a (by omega) b (by omega) j hj]
  simp only [Bool.and_eq_true, decide_eq_true_eq]
  omega
