/-! longs that hold sets and small numbers -/
theorem lN_and (a b : Nat) : lN a &&& lN b = lN (a &&& b) := (congrArg Int64.ofBitVec (BitVec.ofNat_and (w := 64) (x := a) (y := b))).symm
theorem lN_or (a b : Nat) : lN a ||| lN b = lN (a ||| b) := (congrArg Int64.ofBitVec (BitVec.ofNat_or (w := 64) (x := a) (y := b))).symm
theorem lN_xor (a b : Nat) : lN a ^^^ lN b = lN (a ^^^ b) := (congrArg Int64.ofBitVec (BitVec.ofNat_xor (w := 64) (x := a) (y := b))).symm
theorem ushl_amt : ∀ k, k < 64 → ((nI k).toInt64.toUInt64 &&& Int64.toUInt64 63).toNat % 64 = k := by decide +kernel
theorem lN_ushr {n k : Nat} (h : n < 2 ^ 63) (hk : k < 64) : ushrL (lN n) (nI k) = lN (n / 2 ^ k) := by
  have h1 : (lN n).toUInt64 >>> ((nI k).toInt64.toUInt64 &&& Int64.toUInt64 63) = UInt64.ofNat (n / 2 ^ k) := by
    refine UInt64.toNat_inj.mp ?_
    rw [UInt64.toNat_shiftRight, ushl_amt k hk, Nat.shiftRight_eq_div_pow]
    have e1 : (lN n).toUInt64.toNat = n := by
      show n % 2 ^ 64 = n
      omega
    have e2 : (UInt64.ofNat (n / 2 ^ k)).toNat = n / 2 ^ k := by
      show (n / 2 ^ k) % 2 ^ 64 = n / 2 ^ k
      have h3 := Nat.div_le_self n (2 ^ k)
      generalize n / 2 ^ k = z at h3
      omega
    rw [e1, e2]
  unfold ushrL
  rw [h1]
  rfl
def b64 (n : Nat) : Nat :=
  let a := n - (n / 2 ^ 1 &&& 6148914691236517205)
  let b := (a &&& 3689348814741910323) + (a / 2 ^ 2 &&& 3689348814741910323)
  let c := b + b / 2 ^ 4 &&& 1085102592571150095
  let d := c + c / 2 ^ 8
  let e := d + d / 2 ^ 16
  let g := e + e / 2 ^ 32
  g &&& 127
theorem bitCount_N {n : Nat} (h : n < 65536) (w : Mem) : f_J13_bitCount (lN n) w = some (nI (b64 n), w) := by
  have e1 : lN n - (ushrL (lN n) 1 &&& 6148914691236517205) = lN (n - (n / 2 ^ 1 &&& 6148914691236517205)) := by
    rw [show (1 : Int32) = nI 1 from rfl, show (6148914691236517205 : Int64) = lN 6148914691236517205 from rfl, lN_ushr (by omega) (by omega), lN_and, lN_sub]
    exact Nat.le_trans Nat.and_le_left (Nat.div_le_self _ _)
  have l1 : n - (n / 2 ^ 1 &&& 6148914691236517205) < 65536 := by omega
  unfold f_J13_bitCount
  rw [e1]
  show _ = some (nI (let b := ((n - (n / 2 ^ 1 &&& 6148914691236517205)) &&& 3689348814741910323) + ((n - (n / 2 ^ 1 &&& 6148914691236517205)) / 2 ^ 2 &&& 3689348814741910323); let c := b + b / 2 ^ 4 &&& 1085102592571150095; let d := c + c / 2 ^ 8; let e := d + d / 2 ^ 16; let g := e + e / 2 ^ 32; g &&& 127), w)
  generalize n - (n / 2 ^ 1 &&& 6148914691236517205) = a at l1
  have e2 : (lN a &&& 3689348814741910323) + (ushrL (lN a) 2 &&& 3689348814741910323) = lN ((a &&& 3689348814741910323) + (a / 2 ^ 2 &&& 3689348814741910323)) := by
    rw [show (2 : Int32) = nI 2 from rfl, show (3689348814741910323 : Int64) = lN 3689348814741910323 from rfl, lN_ushr (by omega) (by omega), lN_and, lN_and, lN_add]
  have l2 : (a &&& 3689348814741910323) + (a / 2 ^ 2 &&& 3689348814741910323) < 131072 := by
    have h1 : a &&& 3689348814741910323 ≤ a := Nat.and_le_left
    have h2 : a / 2 ^ 2 &&& 3689348814741910323 ≤ a / 2 ^ 2 := Nat.and_le_left
    have h3 := Nat.div_le_self a (2 ^ 2)
    omega
  rw [e2]
  dsimp only
  generalize (a &&& 3689348814741910323) + (a / 2 ^ 2 &&& 3689348814741910323) = b at l2
  have e3 : (lN b + ushrL (lN b) 4) &&& 1085102592571150095 = lN (b + b / 2 ^ 4 &&& 1085102592571150095) := by
    rw [show (4 : Int32) = nI 4 from rfl, show (1085102592571150095 : Int64) = lN 1085102592571150095 from rfl, lN_ushr (by omega) (by omega), lN_add, lN_and]
  have l3 : (b + b / 2 ^ 4 &&& 1085102592571150095) < 262144 := by
    have h1 : (b + b / 2 ^ 4 &&& 1085102592571150095) ≤ b + b / 2 ^ 4 := Nat.and_le_left
    have h3 := Nat.div_le_self b (2 ^ 4)
    omega
  rw [e3]
  generalize (b + b / 2 ^ 4 &&& 1085102592571150095) = c at l3
  have e4 : lN c + ushrL (lN c) 8 = lN (c + c / 2 ^ 8) := by
    rw [show (8 : Int32) = nI 8 from rfl, lN_ushr (by omega) (by omega), lN_add]
  have l4 : c + c / 2 ^ 8 < 524288 := by
    have h3 := Nat.div_le_self c (2 ^ 8)
    omega
  rw [e4]
  generalize c + c / 2 ^ 8 = d at l4
  have e5 : lN d + ushrL (lN d) 16 = lN (d + d / 2 ^ 16) := by
    rw [show (16 : Int32) = nI 16 from rfl, lN_ushr (by omega) (by omega), lN_add]
  have l5 : d + d / 2 ^ 16 < 1048576 := by
    have h3 := Nat.div_le_self d (2 ^ 16)
    omega
  rw [e5]
  generalize d + d / 2 ^ 16 = e at l5
  rw [show (32 : Int32) = nI 32 from rfl, lN_ushr (by omega) (by omega), lN_add, lN_i, show (127 : Int32) = nI 127 from rfl, nI_and]
theorem b64_c0 : ∀ a, a < 64 → ∀ b, b < 64 → b64 (0 + (64 * a + b)) = bsN (0 + (64 * a + b)) 16 := by decide +kernel
theorem b64_c1 : ∀ a, a < 64 → ∀ b, b < 64 → b64 (4096 + (64 * a + b)) = bsN (4096 + (64 * a + b)) 16 := by decide +kernel
theorem b64_c2 : ∀ a, a < 64 → ∀ b, b < 64 → b64 (8192 + (64 * a + b)) = bsN (8192 + (64 * a + b)) 16 := by decide +kernel
theorem b64_c3 : ∀ a, a < 64 → ∀ b, b < 64 → b64 (12288 + (64 * a + b)) = bsN (12288 + (64 * a + b)) 16 := by decide +kernel
theorem b64_c4 : ∀ a, a < 64 → ∀ b, b < 64 → b64 (16384 + (64 * a + b)) = bsN (16384 + (64 * a + b)) 16 := by decide +kernel
theorem b64_c5 : ∀ a, a < 64 → ∀ b, b < 64 → b64 (20480 + (64 * a + b)) = bsN (20480 + (64 * a + b)) 16 := by decide +kernel
theorem b64_c6 : ∀ a, a < 64 → ∀ b, b < 64 → b64 (24576 + (64 * a + b)) = bsN (24576 + (64 * a + b)) 16 := by decide +kernel
theorem b64_c7 : ∀ a, a < 64 → ∀ b, b < 64 → b64 (28672 + (64 * a + b)) = bsN (28672 + (64 * a + b)) 16 := by decide +kernel
theorem b64_c8 : ∀ a, a < 64 → ∀ b, b < 64 → b64 (32768 + (64 * a + b)) = bsN (32768 + (64 * a + b)) 16 := by decide +kernel
theorem b64_c9 : ∀ a, a < 64 → ∀ b, b < 64 → b64 (36864 + (64 * a + b)) = bsN (36864 + (64 * a + b)) 16 := by decide +kernel
theorem b64_c10 : ∀ a, a < 64 → ∀ b, b < 64 → b64 (40960 + (64 * a + b)) = bsN (40960 + (64 * a + b)) 16 := by decide +kernel
theorem b64_c11 : ∀ a, a < 64 → ∀ b, b < 64 → b64 (45056 + (64 * a + b)) = bsN (45056 + (64 * a + b)) 16 := by decide +kernel
theorem b64_c12 : ∀ a, a < 64 → ∀ b, b < 64 → b64 (49152 + (64 * a + b)) = bsN (49152 + (64 * a + b)) 16 := by decide +kernel
theorem b64_c13 : ∀ a, a < 64 → ∀ b, b < 64 → b64 (53248 + (64 * a + b)) = bsN (53248 + (64 * a + b)) 16 := by decide +kernel
theorem b64_c14 : ∀ a, a < 64 → ∀ b, b < 64 → b64 (57344 + (64 * a + b)) = bsN (57344 + (64 * a + b)) 16 := by decide +kernel
theorem b64_c15 : ∀ a, a < 64 → ∀ b, b < 64 → b64 (61440 + (64 * a + b)) = bsN (61440 + (64 * a + b)) 16 := by decide +kernel
theorem b64_bs {n : Nat} (h : n < 65536) : b64 n = bsN n 16 := by
  have ha : n % 4096 / 64 < 64 := by omega
  have hb : n % 4096 % 64 < 64 := by omega
  have e : n = 4096 * (n / 4096) + (64 * (n % 4096 / 64) + n % 4096 % 64) := by omega
  have hq : n / 4096 < 16 := by omega
  generalize n % 4096 / 64 = a at *
  generalize n % 4096 % 64 = b at *
  generalize n / 4096 = q at *
  subst e
  match q, hq with
  | 0, _ => exact b64_c0 a ha b hb
  | 1, _ => exact b64_c1 a ha b hb
  | 2, _ => exact b64_c2 a ha b hb
  | 3, _ => exact b64_c3 a ha b hb
  | 4, _ => exact b64_c4 a ha b hb
  | 5, _ => exact b64_c5 a ha b hb
  | 6, _ => exact b64_c6 a ha b hb
  | 7, _ => exact b64_c7 a ha b hb
  | 8, _ => exact b64_c8 a ha b hb
  | 9, _ => exact b64_c9 a ha b hb
  | 10, _ => exact b64_c10 a ha b hb
  | 11, _ => exact b64_c11 a ha b hb
  | 12, _ => exact b64_c12 a ha b hb
  | 13, _ => exact b64_c13 a ha b hb
  | 14, _ => exact b64_c14 a ha b hb
  | 15, _ => exact b64_c15 a ha b hb
  | q + 16, hq => omega
theorem bitCount_L {n : Nat} (h : n < 65536) (w : Mem) : f_J13_bitCount (lN n) w = some (nI (bsN n 16), w) := by rw [bitCount_N h, b64_bs h]
theorem bcF_bs {n : Nat} (h : n < 65536) : bcF (nI n) = nI (bsN n 16) := by rw [bcF_N h, bc_bs h]
