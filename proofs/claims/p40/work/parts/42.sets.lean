/-! sets of sixteen, bounds of what is computed -/
theorem nI_all (y : Int32) : ∃ n : Nat, n < 2 ^ 32 ∧ y = nI n := by
  refine ⟨y.toBitVec.toNat, y.toBitVec.isLt, ?_⟩
  show y = Int32.ofBitVec (BitVec.ofNat 32 y.toBitVec.toNat)
  rw [BitVec.ofNat_toNat, BitVec.setWidth_eq]
  rfl
def S16 (x : Int32) : Prop := ∃ n : Nat, n < 65536 ∧ x = nI n
theorem S16.of {n : Nat} (h : n < 65536) : S16 (nI n) := ⟨n, h, rfl⟩
theorem S16.zero : S16 0 := ⟨0, by omega, rfl⟩
theorem S16.andl {x : Int32} (h : S16 x) (y : Int32) : S16 (x &&& y) := by
  obtain ⟨n, hn, rfl⟩ := h
  obtain ⟨k, -, rfl⟩ := nI_all y
  rw [nI_and]
  exact .of (Nat.lt_of_le_of_lt Nat.and_le_left hn)
theorem S16.or {x y : Int32} (h : S16 x) (h2 : S16 y) : S16 (x ||| y) := by
  obtain ⟨n, hn, rfl⟩ := h
  obtain ⟨k, hk, rfl⟩ := h2
  rw [nI_or]
  exact .of (Nat.or_lt_two_pow (n := 16) hn hk)
theorem S16.xor {x y : Int32} (h : S16 x) (h2 : S16 y) : S16 (x ^^^ y) := by
  obtain ⟨n, hn, rfl⟩ := h
  obtain ⟨k, hk, rfl⟩ := h2
  rw [nI_xor]
  exact .of (Nat.xor_lt_two_pow (n := 16) hn hk)
theorem S16.bit {t : Nat} (h : t < 16) : S16 (shlI 1 (nI t)) := by
  rw [nI_shl (by omega)]
  refine .of ?_
  have := Nat.pow_le_pow_right (n := 2) (by omega) (show t ≤ 15 by omega)
  omega
theorem S16.rng {x : Int32} (h1 : 0 ≤ x) (h2 : x ≤ 65535) : S16 x := by
  obtain ⟨j, hj, rfl⟩ := nI_of2 (M := 65535) (n := 65535) rfl (Int32.not_lt.mpr h1) h2
  exact .of (by omega)
theorem S16.bc {x : Int32} (h : S16 x) : bcF x = bitsF x := by
  obtain ⟨n, hn, rfl⟩ := h
  exact bcF_bits hn
theorem bsN_le (n : Nat) : ∀ k, bsN n k ≤ k := by
  intro k
  induction k with
  | zero => exact Nat.le_refl _
  | succ k ih =>
    show bsN n k + n / 2 ^ k % 2 ≤ k + 1
    have := Nat.mod_lt (n / 2 ^ k) (show 0 < 2 by omega)
    omega
theorem S16.bits {x : Int32} (h : S16 x) : ∃ k, k ≤ 16 ∧ bitsF x = nI k := by
  obtain ⟨n, hn, rfl⟩ := h
  exact ⟨bsN n 16, bsN_le n 16, bsum_N (by omega) 16 (by omega)⟩
theorem S16.all {x : Int32} (h : S16 x) : x &&& 65535 = x := by
  obtain ⟨n, hn, rfl⟩ := h
  rw [show (65535 : Int32) = nI 65535 from rfl, nI_and, show (65535 : Nat) = 2 ^ 16 - 1 from rfl, Nat.and_two_pow_sub_one_eq_mod, Nat.mod_eq_of_lt hn]
/-- a number that is found is none, or a thing -/
theorem nthG_r (x n : Int32) : ∀ (k t : Nat) (c : Int32), t + k = 16 → nthG x n k (nI t) c = -1 ∨ ∃ q, q < 16 ∧ nthG x n k (nI t) c = nI q := by
  intro k
  induction k with
  | zero => intro t c _; exact Or.inl rfl
  | succ k ih =>
    intro t c h
    unfold nthG
    split
    · split
      · exact Or.inr ⟨t, by omega, rfl⟩
      · rw [nI_1]; exact ih (t + 1) _ (by omega)
    · rw [nI_1]; exact ih (t + 1) _ (by omega)
theorem nthF_r (x n : Int32) : nthF x n = -1 ∨ ∃ q, q < 16 ∧ nthF x n = nI q := nthG_r x n 16 0 0 rfl
theorem lsG_r (x : Int32) : ∀ (k t : Nat) (l f : Int32), t + k = 16 → S16 f → S16 (lsG x k (nI t) l f) := by
  intro k
  induction k with
  | zero => intro t l f _ hf; exact hf
  | succ k ih =>
    intro t l f h hf
    unfold lsG
    split
    · split
      · rw [nI_1]; exact ih (t + 1) _ _ (by omega) (hf.or (.bit (by omega)))
      · rw [nI_1]; exact ih (t + 1) _ _ (by omega) hf
    · exact hf
theorem leastF_r (x m : Int32) : S16 (leastF x m) := lsG_r x 16 0 m 0 rfl .zero
/-- bounds -/
theorem rng_t {x a b : Int32} (h : rng x a b ≠ 0) : a ≤ x ∧ x ≤ b := by
  by_cases h1 : a ≤ x ∧ x ≤ b
  · exact h1
  · exact absurd (b2i_f h1) h
theorem rng_0 {x a b : Int32} : rng x a b = 0 ↔ ¬ (a ≤ x ∧ x ≤ b) := b2i_0
theorem wiF_b {x a b : Int32} (h : a ≤ b) : a ≤ wiF x a b ∧ wiF x a b ≤ b := by
  unfold wiF
  split
  · exact ⟨Int32.le_refl _, h⟩
  · rename_i h1
    split
    · exact ⟨h, Int32.le_refl _⟩
    · rename_i h2
      exact ⟨Int32.not_lt.mp h1, Int32.not_lt.mp h2⟩
/-- the numbers of those who are there -/
theorem has_n {N p : Nat} (hN : N ≤ 6) : hasF (nI p) (nI N) ≠ 0 → p < 2 ^ 31 → p < N := by
  intro h hp
  by_cases h1 : 0 ≤ nI p ∧ nI p < nI N
  · exact (nI_ltI hp (by omega)).mp h1.2
  · exact absurd (b2i_f h1) h
theorem has_of {x : Int32} {N : Nat} (hN : N ≤ 6) (h : ¬ hasF x (nI N) = 0) : ∃ p, p < N ∧ x = nI p := by
  by_cases h1 : 0 ≤ x ∧ x < nI N
  · obtain ⟨j, hj, rfl⟩ := nI_of (Int32.not_lt.mpr h1.1)
    exact ⟨j, (nI_ltI hj (by omega)).mp h1.2, rfl⟩
  · exact absurd (b2i_f h1) h
theorem has_1 {p N : Nat} (hN : N ≤ 6) (h : p < N) : hasF (nI p) (nI N) = 1 := b2i_t ⟨nI_pos' (by omega), nI_lt h (by omega)⟩
/-- the reference's word for it is the same -/
theorem one_has {x : Int32} {N : Nat} (hN : N ≤ 6) : rng x 0 (nI N - 1) = hasF x (nI N) := by
  unfold rng hasF
  have h1 : (nI N - 1).toInt = (N : Int) - 1 := by
    have e1 : (nI N).toInt = (N : Int) := nI_toInt (by omega)
    have e7 : (1 : Int32).toInt = 1 := by decide
    rw [Int32.toInt_sub, e1, e7, Int.bmod_eq_of_le (by omega) (by omega)]
  have h2 : x ≤ nI N - 1 ↔ x < nI N := by
    rw [Int32.le_iff_toInt_le, Int32.lt_iff_toInt_lt, h1, nI_toInt (by omega)]
    omega
  unfold b2i
  by_cases h : 0 ≤ x ∧ x < nI N
  · rw [if_pos h, if_pos ⟨h.1, h2.mpr h.2⟩]
  · rw [if_neg h, if_neg (fun z => h ⟨z.1, h2.mp z.2⟩)]
