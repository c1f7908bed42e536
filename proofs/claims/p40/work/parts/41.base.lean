/-! numbers, places, sets as naturals -/
theorem nI_and (a b : Nat) : nI a &&& nI b = nI (a &&& b) := (congrArg Int32.ofBitVec (BitVec.ofNat_and (w := 32) (x := a) (y := b))).symm
theorem nI_or (a b : Nat) : nI a ||| nI b = nI (a ||| b) := (congrArg Int32.ofBitVec (BitVec.ofNat_or (w := 32) (x := a) (y := b))).symm
theorem nI_xor (a b : Nat) : nI a ^^^ nI b = nI (a ^^^ b) := (congrArg Int32.ofBitVec (BitVec.ofNat_xor (w := 32) (x := a) (y := b))).symm
theorem nI_sub {a b : Nat} (h : b ≤ a) : nI a - nI b = nI (a - b) := (Int32.ofNat_sub a b h).symm
theorem nI_mul (a b : Nat) : nI a * nI b = nI (a * b) := (Int32.ofNat_mul a b).symm
theorem sh_amt : ∀ k, k < 32 → ((nI k &&& 31).toBitVec.smod 32).toNat = k := by decide +kernel
theorem nI_shr {n k : Nat} (h : n < 2 ^ 31) (hk : k < 32) : shrI (nI n) (nI k) = nI (n / 2 ^ k) := pk_shrN h _ k (sh_amt k hk)
theorem nI_shl {k : Nat} (hk : k < 31) : shlI 1 (nI k) = nI (2 ^ k) := by
  have h1 : 2 ^ k ≤ 2 ^ 30 := Nat.pow_le_pow_right (by omega) (by omega)
  have h := pk_shlN (n := 1) (nI k &&& 31) k (sh_amt k (by omega)) (by omega)
  rw [Nat.one_mul] at h
  exact h
theorem ush_amt : ∀ k, k < 32 → ((nI k).toUInt32 &&& Int32.toUInt32 31).toNat % 32 = k := by decide +kernel
theorem nI_ushr {n k : Nat} (h : n < 2 ^ 31) (hk : k < 32) : ushrI (nI n) (nI k) = nI (n / 2 ^ k) := by
  have h1 : (nI n).toUInt32 >>> ((nI k).toUInt32 &&& Int32.toUInt32 31) = UInt32.ofNat (n / 2 ^ k) := by
    refine UInt32.toNat_inj.mp ?_
    rw [UInt32.toNat_shiftRight, ush_amt k hk, Nat.shiftRight_eq_div_pow]
    have e1 : (nI n).toUInt32.toNat = n := by
      show n % 2 ^ 32 = n
      omega
    have e2 : (UInt32.ofNat (n / 2 ^ k)).toNat = n / 2 ^ k := by
      show (n / 2 ^ k) % 2 ^ 32 = n / 2 ^ k
      have h3 := Nat.div_le_self n (2 ^ k)
      generalize n / 2 ^ k = z at h3
      omega
    rw [e1, e2]
  unfold ushrI
  rw [h1]
  rfl
def bcN (n : Nat) : Nat :=
  let a := n - (n / 2 ^ 1 &&& 1431655765)
  let b := (a &&& 858993459) + (a / 2 ^ 2 &&& 858993459)
  let c := b + b / 2 ^ 4 &&& 252645135
  let d := c + c / 2 ^ 8
  let e := d + d / 2 ^ 16
  e &&& 63
theorem bcF_N {n : Nat} (h : n < 65536) : bcF (nI n) = nI (bcN n) := by
  have e1 : nI n - (ushrI (nI n) 1 &&& 1431655765) = nI (n - (n / 2 ^ 1 &&& 1431655765)) := by
    rw [show (1 : Int32) = nI 1 from rfl, show (1431655765 : Int32) = nI 1431655765 from rfl, nI_ushr (by omega) (by omega), nI_and, nI_sub]
    exact Nat.le_trans Nat.and_le_left (Nat.div_le_self _ _)
  have l1 : n - (n / 2 ^ 1 &&& 1431655765) < 65536 := by omega
  unfold bcF
  rw [e1]
  show _ = nI (let b := ((n - (n / 2 ^ 1 &&& 1431655765)) &&& 858993459) + ((n - (n / 2 ^ 1 &&& 1431655765)) / 2 ^ 2 &&& 858993459); let c := b + b / 2 ^ 4 &&& 252645135; let d := c + c / 2 ^ 8; let e := d + d / 2 ^ 16; e &&& 63)
  generalize n - (n / 2 ^ 1 &&& 1431655765) = a at l1
  have e2 : (nI a &&& 858993459) + (ushrI (nI a) 2 &&& 858993459) = nI ((a &&& 858993459) + (a / 2 ^ 2 &&& 858993459)) := by
    rw [show (2 : Int32) = nI 2 from rfl, show (858993459 : Int32) = nI 858993459 from rfl, nI_ushr (by omega) (by omega), nI_and, nI_and, nI_add]
  have l2 : (a &&& 858993459) + (a / 2 ^ 2 &&& 858993459) < 131072 := by
    have h1 : a &&& 858993459 ≤ a := Nat.and_le_left
    have h2 : a / 2 ^ 2 &&& 858993459 ≤ a / 2 ^ 2 := Nat.and_le_left
    have h3 := Nat.div_le_self a (2 ^ 2)
    omega
  rw [e2]
  dsimp only
  generalize (a &&& 858993459) + (a / 2 ^ 2 &&& 858993459) = b at l2
  have e3 : (nI b + ushrI (nI b) 4) &&& 252645135 = nI (b + b / 2 ^ 4 &&& 252645135) := by
    rw [show (4 : Int32) = nI 4 from rfl, show (252645135 : Int32) = nI 252645135 from rfl, nI_ushr (by omega) (by omega), nI_add, nI_and]
  have l3 : (b + b / 2 ^ 4 &&& 252645135) < 262144 := by
    have h1 : (b + b / 2 ^ 4 &&& 252645135) ≤ b + b / 2 ^ 4 := Nat.and_le_left
    have h3 := Nat.div_le_self b (2 ^ 4)
    omega
  rw [e3]
  generalize (b + b / 2 ^ 4 &&& 252645135) = c at l3
  have e4 : nI c + ushrI (nI c) 8 = nI (c + c / 2 ^ 8) := by
    rw [show (8 : Int32) = nI 8 from rfl, nI_ushr (by omega) (by omega), nI_add]
  have l4 : c + c / 2 ^ 8 < 524288 := by
    have h3 := Nat.div_le_self c (2 ^ 8)
    omega
  rw [e4]
  generalize c + c / 2 ^ 8 = d at l4
  rw [show (16 : Int32) = nI 16 from rfl, show (63 : Int32) = nI 63 from rfl, nI_ushr (by omega) (by omega), nI_add, nI_and]
def bsN (n : Nat) : Nat → Nat
  | 0 => 0
  | k + 1 => bsN n k + n / 2 ^ k % 2
theorem bit_N {n k : Nat} (h : n < 2 ^ 31) (hk : k < 32) : bit (nI n) (nI k) = nI (n / 2 ^ k % 2) := by
  unfold bit
  rw [nI_shr h hk, show (1 : Int32) = nI 1 from rfl, nI_and, Nat.and_one_is_mod]
theorem bsum_N {n : Nat} (h : n < 2 ^ 31) : ∀ k, k ≤ 16 → bsum (nI n) k = nI (bsN n k) := by
  intro k
  induction k with
  | zero => intro _; rfl
  | succ k ih =>
    intro hk
    show bsum (nI n) k + bit (nI n) (nI k) = _
    rw [ih (by omega), bit_N h (by omega), nI_add]
    rfl
theorem bc_c0 : ∀ a, a < 64 → ∀ b, b < 64 → bcN (0 + (64 * a + b)) = bsN (0 + (64 * a + b)) 16 := by decide +kernel
theorem bc_c1 : ∀ a, a < 64 → ∀ b, b < 64 → bcN (4096 + (64 * a + b)) = bsN (4096 + (64 * a + b)) 16 := by decide +kernel
theorem bc_c2 : ∀ a, a < 64 → ∀ b, b < 64 → bcN (8192 + (64 * a + b)) = bsN (8192 + (64 * a + b)) 16 := by decide +kernel
theorem bc_c3 : ∀ a, a < 64 → ∀ b, b < 64 → bcN (12288 + (64 * a + b)) = bsN (12288 + (64 * a + b)) 16 := by decide +kernel
theorem bc_c4 : ∀ a, a < 64 → ∀ b, b < 64 → bcN (16384 + (64 * a + b)) = bsN (16384 + (64 * a + b)) 16 := by decide +kernel
theorem bc_c5 : ∀ a, a < 64 → ∀ b, b < 64 → bcN (20480 + (64 * a + b)) = bsN (20480 + (64 * a + b)) 16 := by decide +kernel
theorem bc_c6 : ∀ a, a < 64 → ∀ b, b < 64 → bcN (24576 + (64 * a + b)) = bsN (24576 + (64 * a + b)) 16 := by decide +kernel
theorem bc_c7 : ∀ a, a < 64 → ∀ b, b < 64 → bcN (28672 + (64 * a + b)) = bsN (28672 + (64 * a + b)) 16 := by decide +kernel
theorem bc_c8 : ∀ a, a < 64 → ∀ b, b < 64 → bcN (32768 + (64 * a + b)) = bsN (32768 + (64 * a + b)) 16 := by decide +kernel
theorem bc_c9 : ∀ a, a < 64 → ∀ b, b < 64 → bcN (36864 + (64 * a + b)) = bsN (36864 + (64 * a + b)) 16 := by decide +kernel
theorem bc_c10 : ∀ a, a < 64 → ∀ b, b < 64 → bcN (40960 + (64 * a + b)) = bsN (40960 + (64 * a + b)) 16 := by decide +kernel
theorem bc_c11 : ∀ a, a < 64 → ∀ b, b < 64 → bcN (45056 + (64 * a + b)) = bsN (45056 + (64 * a + b)) 16 := by decide +kernel
theorem bc_c12 : ∀ a, a < 64 → ∀ b, b < 64 → bcN (49152 + (64 * a + b)) = bsN (49152 + (64 * a + b)) 16 := by decide +kernel
theorem bc_c13 : ∀ a, a < 64 → ∀ b, b < 64 → bcN (53248 + (64 * a + b)) = bsN (53248 + (64 * a + b)) 16 := by decide +kernel
theorem bc_c14 : ∀ a, a < 64 → ∀ b, b < 64 → bcN (57344 + (64 * a + b)) = bsN (57344 + (64 * a + b)) 16 := by decide +kernel
theorem bc_c15 : ∀ a, a < 64 → ∀ b, b < 64 → bcN (61440 + (64 * a + b)) = bsN (61440 + (64 * a + b)) 16 := by decide +kernel
theorem bc_bs {n : Nat} (h : n < 65536) : bcN n = bsN n 16 := by
  have ha : n % 4096 / 64 < 64 := by omega
  have hb : n % 4096 % 64 < 64 := by omega
  have e : n = 4096 * (n / 4096) + (64 * (n % 4096 / 64) + n % 4096 % 64) := by omega
  have hq : n / 4096 < 16 := by omega
  generalize n % 4096 / 64 = a at *
  generalize n % 4096 % 64 = b at *
  generalize n / 4096 = q at *
  subst e
  match q, hq with
  | 0, _ => exact bc_c0 a ha b hb
  | 1, _ => exact bc_c1 a ha b hb
  | 2, _ => exact bc_c2 a ha b hb
  | 3, _ => exact bc_c3 a ha b hb
  | 4, _ => exact bc_c4 a ha b hb
  | 5, _ => exact bc_c5 a ha b hb
  | 6, _ => exact bc_c6 a ha b hb
  | 7, _ => exact bc_c7 a ha b hb
  | 8, _ => exact bc_c8 a ha b hb
  | 9, _ => exact bc_c9 a ha b hb
  | 10, _ => exact bc_c10 a ha b hb
  | 11, _ => exact bc_c11 a ha b hb
  | 12, _ => exact bc_c12 a ha b hb
  | 13, _ => exact bc_c13 a ha b hb
  | 14, _ => exact bc_c14 a ha b hb
  | 15, _ => exact bc_c15 a ha b hb
  | q + 16, hq => omega
/-- the count of a set, both ways -/
theorem bcF_bits {n : Nat} (h : n < 65536) : bcF (nI n) = bitsF (nI n) := by
  unfold bitsF
  rw [bcF_N h, bsum_N (by omega) 16 (by omega)]
  rw [bc_bs h]
theorem atV_n (w : Mem) {k : Nat} (i : Nat) {p : Nat} (h : p < lenK k) (hk : k < 37) : atV w k i (nI p) = w k i p := by
  have h1 := lenK_sm k hk
  rw [atV_eq]
  unfold atV0
  show (if nI p < 0 then 0 else if nI p < nI (lenK k) then _ else _) = _
  rw [if_neg (nI_pos (by omega)), if_pos (nI_lt h (by omega))]
  show w k i (nI p).toNatClampNeg = _
  rw [nI_clamp (by omega)]
theorem setV_n (w : Mem) {k : Nat} (i : Nat) {p : Nat} (v : Int32) (h : p < lenK k) (hk : k < 37) : setV w k i (nI p) v = up w k i p v := by
  have h1 := lenK_sm k hk
  rw [setV_eq]
  unfold setV0
  show (if nI p < 0 then w else if nI p < nI (lenK k) then _ else w) = _
  rw [if_neg (nI_pos (by omega)), if_pos (nI_lt h (by omega))]
  show up w k i (nI p).toNatClampNeg v = _
  rw [nI_clamp (by omega)]
