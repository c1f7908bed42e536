/-! closed forms -/
def rng (x a b : Int32) : Int32 := b2i (a ≤ x ∧ x ≤ b)
def bit (x t : Int32) : Int32 := shrI x t &&& 1
def holdsF (x t : Int32) : Int32 := b2i (0 ≤ t ∧ t ≤ 15 ∧ bit x t = 1)
def wiF (x a b : Int32) : Int32 := if x < a then a else if b < x then b else x
theorem p_X4_swap (l : Launch) (X : XC) {N9 : Nat} (hN : 39 ≤ N9) (k i : Nat) (a1 a2 : Int32) (hA : isA k = true) (ho : okR N9 (k, i) = true) (w : Mem) : Ct l X 1 yX4_swap cX4_swap 4 (some .int) emI [.inr (.inr (some (k, i))), .inl a1, .inl a2] N9 flT w (some (atV w k i a1, setV w k i a1 a2)) := by
  refine Ct_of (mi := mi_X4_swap) (mik_X4 _ _ _) me_X4_swap rfl (okAs_cons ho (okAs_cons rfl (okAs_cons rfl okAs_nil))) (Nat.le_of_ble_eq_true rfl) ?_
  refine GE_run (flG_T hN) (pc1 := 2) (L1 := [some (.inr (.inr (some (k, i)))), some (.inl a1), some (.inl a2), none]) (S1 := [.inl a1, .inr (.inr (some (k, i)))]) (w1 := w) (P := True) [(.aload_n 0, 0, 0, 0, 0), (.iload_n 1, 0, 0, 0, 0)] (by decide +kernel) rfl trivial ?_
  refine GE_callSp (As := [.inr (.inr (some (k, i))), .inl a1]) (S := []) (p_X4_at l X hN k i a1 hA ho w) ⟨me_X4_at, ms_X4_at, lk_X4_120⟩ (by decide +kernel) rfl (by decide) (by decide) (by decide) ?_
  refine GE_run (flG_T hN) (pc1 := 9) (L1 := [some (.inr (.inr (some (k, i)))), some (.inl a1), some (.inl a2), some (.inl (atV w k i a1))]) (S1 := [.inl a2, .inl a1, .inr (.inr (some (k, i)))]) (w1 := w) (P := True) [(.istore_n 3, 0, 0, 0, 0), (.aload_n 0, 0, 0, 0, 0), (.iload_n 1, 0, 0, 0, 0), (.iload_n 2, 0, 0, 0, 0)] (by decide +kernel) rfl trivial ?_
  refine GE_callSp (As := [.inr (.inr (some (k, i))), .inl a1, .inl a2]) (S := []) (p_X4_set l X hN k i a1 a2 hA ho w) ⟨me_X4_set, ms_X4_set, lk_X4_204⟩ (by decide +kernel) rfl (by decide) (by decide) (by decide) ?_
  refine GE_run (flG_T hN) (pc1 := 13) (L1 := [some (.inr (.inr (some (k, i)))), some (.inl a1), some (.inl a2), some (.inl (atV w k i a1))]) (S1 := [.inl (atV w k i a1)]) (w1 := setV w k i a1 a2) (P := True) [(.iload_n 3, 0, 0, 0, 0)] (by decide +kernel) rfl trivial ?_
  exact GE_iret rfl (by decide +kernel)
theorem rng_1 {x a b : Int32} {w : Mem} : (if x < a then some ((0 : Int32), w) else (if x ≤ b then some (1, w) else some (0, w))) = some (rng x a b, w) := by
  unfold rng
  by_cases h1 : x < a
  · rw [if_pos h1, b2i_f (fun z => Int32.not_le.mpr h1 z.1)]
  · rw [if_neg h1]
    by_cases h2 : x ≤ b
    · rw [if_pos h2, b2i_t ⟨Int32.not_lt.mp h1, h2⟩]
    · rw [if_neg h2, b2i_f (fun z => h2 z.2)]
theorem lt16 (x : Int32) : x < 16 ↔ x ≤ 15 := by
  rw [Int32.lt_iff_toInt_lt, Int32.le_iff_toInt_le]
  have h1 : (16 : Int32).toInt = 16 := rfl
  have h2 : (15 : Int32).toInt = 15 := rfl
  omega
theorem p_X4_isThing (l : Launch) (X : XC) {N9 : Nat} (hN : 39 ≤ N9) (a1 : Int32) (w : Mem) : Ct l X 0 yX4_isThing cX4_isThing 1 (some .boolean) emI [.inl a1] N9 flT w (some (rng a1 0 15, w)) :=
  (t_X4_isThing l X hN a1 w).eq (by unfold f_X4_isThing; simp only [lt16]; exact rng_1.symm)
theorem p_X4_isSet (l : Launch) (X : XC) {N9 : Nat} (hN : 39 ≤ N9) (a1 : Int32) (w : Mem) : Ct l X 0 yX4_isSet cX4_isSet 1 (some .boolean) emI [.inl a1] N9 flT w (some (rng a1 0 65535, w)) :=
  (t_X4_isSet l X hN a1 w).eq (by unfold f_X4_isSet; exact rng_1.symm)
theorem p_X4_isByte (l : Launch) (X : XC) {N9 : Nat} (hN : 39 ≤ N9) (a1 : Int32) (w : Mem) : Ct l X 0 yX4_isByte cX4_isByte 1 (some .boolean) emI [.inl a1] N9 flT w (some (rng a1 0 255, w)) :=
  (t_X4_isByte l X hN a1 w).eq (by unfold f_X4_isByte; exact rng_1.symm)
theorem p_X4_holds (l : Launch) (X : XC) {N9 : Nat} (hN : 39 ≤ N9) (a1 a2 : Int32) (w : Mem) : Ct l X 0 yX4_holds cX4_holds 2 (some .boolean) emI [.inl a1, .inl a2] N9 flT w (some (holdsF a1 a2, w)) :=
  (t_X4_holds l X hN a1 a2 w).eq (by
    unfold f_X4_holds holdsF bit
    simp only [lt16]
    by_cases h1 : a2 < 0
    · rw [if_pos h1, b2i_f (fun z => Int32.not_le.mpr h1 z.1)]
    · rw [if_neg h1]
      by_cases h2 : a2 ≤ 15
      · rw [if_pos h2]
        by_cases h3 : shrI a1 a2 &&& 1 = 1
        · rw [if_pos h3, b2i_t ⟨Int32.not_lt.mp h1, h2, h3⟩]
        · rw [if_neg h3, b2i_f (fun z => h3 z.2.2)]
      · rw [if_neg h2, b2i_f (fun z => h2 z.2.1)])
theorem wi_1 {x a b : Int32} {w : Mem} : (if x < a then some (a, w) else (if x ≤ b then some (x, w) else some (b, w))) = some (wiF x a b, w) := by
  unfold wiF
  by_cases h1 : x < a
  · rw [if_pos h1, if_pos h1]
  · rw [if_neg h1, if_neg h1]
    by_cases h2 : x ≤ b
    · rw [if_pos h2, if_neg (Int32.not_lt.mpr h2)]
    · rw [if_neg h2, if_pos (Int32.not_le.mp h2)]
theorem p_X4_bounded (l : Launch) (X : XC) {N9 : Nat} (hN : 39 ≤ N9) (a1 a2 a3 : Int32) (w : Mem) : Ct l X 0 yX4_bounded cX4_bounded 3 (some .int) emI [.inl a1, .inl a2, .inl a3] N9 flT w (some (wiF a1 a2 a3, w)) :=
  (t_X4_bounded l X hN a1 a2 a3 w).eq (by unfold f_X4_bounded; exact wi_1.symm)
/-- how many of the first k bits -/
def bsum (x : Int32) : Nat → Int32
  | 0 => 0
  | k + 1 => bsum x k + bit x (nI k)
def bitsF (x : Int32) : Int32 := bsum x 16
theorem nI_lt16 {k : Nat} (h : k < 16) : nI k < 16 := nI_lt (a := k) (b := 16) h (by decide)
theorem nI_nlt16 : ¬ nI 16 < 16 := by decide
/-- the nth of the bits from place t on, c of them being counted -/
def nthG (x n : Int32) : Nat → Int32 → Int32 → Int32
  | 0, _, _ => -1
  | k + 1, t, c => if bit x t = 1 then (if c = n then t else nthG x n k (t + 1) (c + 1)) else nthG x n k (t + 1) c
def nthF (x n : Int32) : Int32 := nthG x n 16 0 0
