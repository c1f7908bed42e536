/-! the least number of a set, in longs; whole numbers in both widths -/
def t74 (x0 x1 : Int32) : Int32 := x1 + ushrI x0 1
def t62 (x0 x1 : Int32) : Int32 := if x0 ≤ 4 then t74 x0 x1 else t74 (ushrI x0 2) (x1 + 2)
def t49 (x0 x1 : Int32) : Int32 := if x0 ≤ 16 then t62 x0 x1 else t62 (ushrI x0 4) (x1 + 4)
def t34 (x0 x1 : Int32) : Int32 := if x0 ≤ 256 then t49 x0 x1 else t49 (ushrI x0 8) (x1 + 8)
def tzF (m : Int32) : Int32 := if m ≤ 0 then m &&& 32 else if m ≤ 65536 then t34 m 1 else t34 (ushrI m 16) (1 + 16)
theorem t74_eq (x0 x1 : Int32) (w : Mem) : j_J6_numberOfTrailingZeros_74 x0 x1 w = some (t74 x0 x1, w) := rfl
theorem t62_eq (x0 x1 : Int32) (w : Mem) : j_J6_numberOfTrailingZeros_62 x0 x1 w = some (t62 x0 x1, w) := by
  unfold j_J6_numberOfTrailingZeros_62 t62
  by_cases h : x0 ≤ 4
  · rw [if_pos h, if_pos h]; rfl
  · rw [if_neg h, if_neg h]; rfl
theorem t49_eq (x0 x1 : Int32) (w : Mem) : j_J6_numberOfTrailingZeros_49 x0 x1 w = some (t49 x0 x1, w) := by
  unfold j_J6_numberOfTrailingZeros_49 t49
  by_cases h : x0 ≤ 16
  · rw [if_pos h, if_pos h, t62_eq]
  · rw [if_neg h, if_neg h, t62_eq]
theorem t34_eq (x0 x1 : Int32) (w : Mem) : j_J6_numberOfTrailingZeros_34 x0 x1 w = some (t34 x0 x1, w) := by
  unfold j_J6_numberOfTrailingZeros_34 t34
  by_cases h : x0 ≤ 256
  · rw [if_pos h, if_pos h, t49_eq]
  · rw [if_neg h, if_neg h, t49_eq]
theorem ntz_eq (a : Int32) (w : Mem) : f_J6_numberOfTrailingZeros a w = some (tzF ((a ^^^ (-1)) &&& (a - 1)), w) := by
  unfold f_J6_numberOfTrailingZeros tzF
  generalize (a ^^^ (-1)) &&& (a - 1) = m
  by_cases h : m ≤ 0
  · rw [if_pos h, if_pos h]
  · rw [if_neg h, if_neg h]
    by_cases h2 : m ≤ 65536
    · rw [if_pos h2, if_pos h2, t34_eq]
    · rw [if_neg h2, if_neg h2, t34_eq]
theorem tzF_m : ∀ t, t < 16 → tzF (nI (2 ^ t - 1)) = nI t := by decide +kernel
/-- the place of the least number -/
def tzN : Nat → Nat → Nat
  | 0, _ => 0
  | f + 1, n => if n % 2 = 1 then 0 else tzN f (n / 2) + 1
theorem tz_m : ∀ (f F n : Nat), f ≤ F → 0 < n → n < 2 ^ f → (n ^^^ (2 ^ F - 1)) &&& (n - 1) = 2 ^ tzN f n - 1 := by
  intro f
  induction f with
  | zero => intro F n _ h0 h; simp at h; omega
  | succ f ih =>
    intro F n hF h0 h
    obtain ⟨G, rfl⟩ : ∃ G, F = G + 1 := ⟨F - 1, by omega⟩
    have h9 : n / 2 < 2 ^ f := by rw [Nat.pow_succ] at h; omega
    have hp : 2 ^ (G + 1) = 2 ^ G * 2 := Nat.pow_succ 2 G
    have hG : 0 < 2 ^ G := Nat.two_pow_pos G
    have e1 : ((n ^^^ (2 ^ (G + 1) - 1)) &&& (n - 1)) / 2 = (n / 2 ^^^ (2 ^ G - 1)) &&& ((n - 1) / 2) := by
      rw [Nat.and_div_two, Nat.xor_div_two, show (2 ^ (G + 1) - 1) / 2 = 2 ^ G - 1 by omega]
    show _ = 2 ^ (if n % 2 = 1 then 0 else tzN f (n / 2) + 1) - 1
    by_cases hb : n % 2 = 1
    · rw [if_pos hb]
      have e2 : (n - 1) / 2 = n / 2 := by omega
      rw [e2] at e1
      have e3 : (n / 2 ^^^ (2 ^ G - 1)) &&& (n / 2) = 0 := by
        refine Nat.eq_of_testBit_eq (fun i => ?_)
        rw [Nat.testBit_and, Nat.testBit_xor, Nat.testBit_two_pow_sub_one, Nat.zero_testBit]
        by_cases hi : i < G
        · simp [hi]
        · have h5 : (n / 2).testBit i = false := Nat.testBit_lt_two_pow (Nat.lt_of_lt_of_le h9 (Nat.pow_le_pow_right (by omega) (by omega)))
          simp [h5]
      rw [e3] at e1
      have e4 : ¬ ((n ^^^ (2 ^ (G + 1) - 1)) &&& (n - 1)) % 2 = 1 := fun z => by
        have := (Nat.and_mod_two_eq_one.mp z).2
        omega
      show _ = 2 ^ 0 - 1
      omega
    · rw [if_neg hb]
      have e2 : (n - 1) / 2 = n / 2 - 1 := by omega
      rw [e2, ih G (n / 2) (by omega) (by omega) h9] at e1
      have e4 : ((n ^^^ (2 ^ (G + 1) - 1)) &&& (n - 1)) % 2 = 1 := by
        refine Nat.and_mod_two_eq_one.mpr ⟨Nat.xor_mod_two_eq_one.mpr (fun z => ?_), by omega⟩
        exact hb (z.mpr (by omega))
      have e5 : 2 ^ (tzN f (n / 2) + 1) = 2 ^ tzN f (n / 2) * 2 := Nat.pow_succ 2 _
      have e6 : 0 < 2 ^ tzN f (n / 2) := Nat.two_pow_pos _
      omega
theorem tz_lt : ∀ (f n : Nat), 0 < n → n < 2 ^ f → tzN f n < f := by
  intro f
  induction f with
  | zero => intro n h0 h; simp at h; omega
  | succ f ih =>
    intro n h0 h
    have h9 : n / 2 < 2 ^ f := by rw [Nat.pow_succ] at h; omega
    show (if n % 2 = 1 then 0 else tzN f (n / 2) + 1) < f + 1
    split
    · omega
    · have := ih (n / 2) (by omega) h9; omega
theorem tz_bl : ∀ (f n o : Nat), 0 < n → n < 2 ^ f → (bl f n o)[0]? = some (o + tzN f n) := by
  intro f
  induction f with
  | zero => intro n o h0 h; simp at h; omega
  | succ f ih =>
    intro n o h0 h
    have h9 : n / 2 < 2 ^ f := by rw [Nat.pow_succ] at h; omega
    show (if n % 2 = 1 then o :: bl f (n / 2) (o + 1) else bl f (n / 2) (o + 1))[0]? = some (o + if n % 2 = 1 then 0 else tzN f (n / 2) + 1)
    split
    · rfl
    · rw [ih (n / 2) (o + 1) (by omega) h9]
      congr 1
      omega
theorem ntz_L {n : Nat} (h : n < 65536) (h0 : 0 < n) (w : Mem) : f_J13_numberOfTrailingZeros (lN n) w = some (pick (BL n) 0, w) := by
  unfold f_J13_numberOfTrailingZeros
  rw [lN_i, if_neg (nI_ne0 h0 (by omega)), ntz_eq]
  have e1 : (nI n ^^^ (-1)) &&& (nI n - 1) = nI (2 ^ tzN 16 n - 1) := by
    rw [show (-1 : Int32) = nI (2 ^ 32 - 1) from rfl, nI_xor, show (1 : Int32) = nI 1 from rfl, nI_sub h0, nI_and, tz_m 16 32 n (by omega) h0 h]
  rw [e1, tzF_m _ (tz_lt 16 n h0 h)]
  have e2 := tz_bl 16 n 0 h0 h
  unfold pick
  rw [e2, Nat.zero_add]
  rfl
/-- shifts of longs -/
theorem shlL_amt : ∀ k, k < 31 → (1 : Int64) <<< ((nI k).toInt64 &&& 63) = lN (2 ^ k) := by decide +kernel
theorem lN_shl {k : Nat} (h : k < 31) : shlL 1 (nI k) = lN (2 ^ k) := shlL_amt k h
/-- whole numbers -/
abbrev iI (z : Int) : Int32 := Int32.ofInt z
abbrev iL (z : Int) : Int64 := Int64.ofInt z
theorem iI_n (n : Nat) : nI n = iI n := Int32.ofInt_eq_ofNat.symm
theorem iL_n (n : Nat) : lN n = iL n := Int64.ofInt_eq_ofNat.symm
theorem iI_to {z : Int} (h1 : -2 ^ 31 ≤ z) (h2 : z < 2 ^ 31) : (iI z).toInt = z := Int32.toInt_ofInt_of_le h1 h2
theorem iL_to {z : Int} (h1 : -2 ^ 63 ≤ z) (h2 : z < 2 ^ 63) : (iL z).toInt = z := Int64.toInt_ofInt_of_le h1 h2
theorem iI_L {z : Int} (h1 : -2 ^ 31 ≤ z) (h2 : z < 2 ^ 31) : (iI z).toInt64 = iL z := by
  refine Int64.toInt_inj.mp ?_
  rw [Int32.toInt_toInt64, iI_to h1 h2, iL_to (by omega) (by omega)]
theorem iL_I (z : Int) : (iL z).toInt32 = iI z := Int64.toInt32_ofInt
theorem cmp_lt {a b : Int} (ha : -2 ^ 40 ≤ a ∧ a < 2 ^ 40) (hb : -2 ^ 40 ≤ b ∧ b < 2 ^ 40) : lg_cmp (iL a) (iL b) < 0 ↔ a < b := by
  have h1 : iL a < iL b ↔ a < b := by rw [Int64.lt_iff_toInt_lt, iL_to (by omega) (by omega), iL_to (by omega) (by omega)]
  have h2 : iL b < iL a ↔ b < a := by rw [Int64.lt_iff_toInt_lt, iL_to (by omega) (by omega), iL_to (by omega) (by omega)]
  have h3 : iL a = iL b ↔ a = b := by rw [← Int64.toInt_inj, iL_to (by omega) (by omega), iL_to (by omega) (by omega)]
  unfold lg_cmp
  by_cases g : b < a
  · rw [if_pos (show iL a > iL b from h2.mpr g)]
    exact ⟨fun z => absurd z (by decide), fun z => by omega⟩
  · rw [if_neg (fun z : iL a > iL b => g (h2.mp z))]
    by_cases g2 : a = b
    · rw [if_pos (h3.mpr g2)]
      exact ⟨fun z => absurd z (by decide), fun z => by omega⟩
    · rw [if_neg (fun z => g2 (h3.mp z))]
      exact ⟨fun _ => by omega, fun _ => by decide⟩
theorem cmp_eq {a b : Int} (ha : -2 ^ 40 ≤ a ∧ a < 2 ^ 40) (hb : -2 ^ 40 ≤ b ∧ b < 2 ^ 40) : lg_cmp (iL a) (iL b) = 0 ↔ a = b := by
  have h2 : iL b < iL a ↔ b < a := by rw [Int64.lt_iff_toInt_lt, iL_to (by omega) (by omega), iL_to (by omega) (by omega)]
  have h3 : iL a = iL b ↔ a = b := by rw [← Int64.toInt_inj, iL_to (by omega) (by omega), iL_to (by omega) (by omega)]
  unfold lg_cmp
  by_cases g : b < a
  · rw [if_pos (show iL a > iL b from h2.mpr g)]
    exact ⟨fun z => absurd z (by decide), fun z => by omega⟩
  · rw [if_neg (fun z : iL a > iL b => g (h2.mp z))]
    by_cases g2 : a = b
    · rw [if_pos (h3.mpr g2)]
      exact ⟨fun _ => g2, fun _ => rfl⟩
    · rw [if_neg (fun z => g2 (h3.mp z))]
      exact ⟨fun z => absurd z (by decide), fun z => absurd z g2⟩
theorem cmp_le {a b : Int} (ha : -2 ^ 40 ≤ a ∧ a < 2 ^ 40) (hb : -2 ^ 40 ≤ b ∧ b < 2 ^ 40) : lg_cmp (iL a) (iL b) ≤ 0 ↔ a ≤ b := by
  have h2 : iL b < iL a ↔ b < a := by rw [Int64.lt_iff_toInt_lt, iL_to (by omega) (by omega), iL_to (by omega) (by omega)]
  have h3 : iL a = iL b ↔ a = b := by rw [← Int64.toInt_inj, iL_to (by omega) (by omega), iL_to (by omega) (by omega)]
  unfold lg_cmp
  by_cases g : b < a
  · rw [if_pos (show iL a > iL b from h2.mpr g)]
    exact ⟨fun z => absurd z (by decide), fun z => by omega⟩
  · rw [if_neg (fun z : iL a > iL b => g (h2.mp z))]
    by_cases g2 : a = b
    · rw [if_pos (h3.mpr g2)]
      exact ⟨fun _ => by omega, fun _ => by decide⟩
    · rw [if_neg (fun z => g2 (h3.mp z))]
      exact ⟨fun _ => by omega, fun _ => by decide⟩
theorem iI_lt {a b : Int} (ha : -2 ^ 31 ≤ a ∧ a < 2 ^ 31) (hb : -2 ^ 31 ≤ b ∧ b < 2 ^ 31) : iI a < iI b ↔ a < b := by rw [Int32.lt_iff_toInt_lt, iI_to ha.1 ha.2, iI_to hb.1 hb.2]
theorem iI_eq {a b : Int} (ha : -2 ^ 31 ≤ a ∧ a < 2 ^ 31) (hb : -2 ^ 31 ≤ b ∧ b < 2 ^ 31) : iI a = iI b ↔ a = b := by rw [← Int32.toInt_inj, iI_to ha.1 ha.2, iI_to hb.1 hb.2]
/-- held between two -/
def hld (z a b : Int) : Int := max a (min b z)
theorem held_eq {z : Int} {a b : Int} (hz : -2 ^ 40 ≤ z ∧ z < 2 ^ 40) (ha : -1000 ≤ a ∧ a ≤ 1000) (hb : -1000 ≤ b ∧ b ≤ 1000) (hab : a ≤ b) (w : Mem) : f_L_held (iL z) (iI a) (iI b) w = some (iI (hld z a b), w) := by
  unfold f_L_held
  rw [iI_L (by omega) (by omega), iI_L (by omega) (by omega)]
  have e1 : f_J9_minL (iL b) (iL z) w = some (iL (min b z), w) := by
    unfold f_J9_minL
    by_cases h : b ≤ z
    · rw [if_pos ((cmp_le (by omega) hz).mpr h), Int.min_eq_left h]
    · rw [if_neg (fun q => h ((cmp_le (by omega) hz).mp q)), Int.min_eq_right (by omega)]
  rw [e1]
  show Option.bind (f_J9_maxL (iL a) (iL (min b z)) w) _ = _
  have hm : -2 ^ 40 ≤ min b z ∧ min b z < 2 ^ 40 := by omega
  have e2 : f_J9_maxL (iL a) (iL (min b z)) w = some (iL (hld z a b), w) := by
    unfold f_J9_maxL hld
    by_cases h : a < min b z
    · rw [if_pos ((cmp_lt (by omega) hm).mpr h), Int.max_eq_right (by omega)]
    · rw [if_neg (fun q => h ((cmp_lt (by omega) hm).mp q)), Int.max_eq_left (by omega)]
  rw [e2]
  show some ((iL (hld z a b)).toInt32, w) = _
  rw [iL_I]
theorem wiF_i {z : Int} {a b : Int} (hz : -2 ^ 31 ≤ z ∧ z < 2 ^ 31) (ha : -1000 ≤ a ∧ a ≤ 1000) (hb : -1000 ≤ b ∧ b ≤ 1000) (hab : a ≤ b) : wiF (iI z) (iI a) (iI b) = iI (hld z a b) := by
  unfold wiF hld
  by_cases h : z < a
  · rw [if_pos ((iI_lt hz (by omega)).mpr h)]; congr 1; omega
  · rw [if_neg (fun q => h ((iI_lt hz (by omega)).mp q))]
    by_cases h2 : b < z
    · rw [if_pos ((iI_lt (by omega) hz).mpr h2)]; congr 1; omega
    · rw [if_neg (fun q => h2 ((iI_lt (by omega) hz).mp q))]; congr 1; omega
