/-! closed forms of the smaller callers -/
def bcF (a1 : Int32) : Int32 := (((((((a1 - ((ushrI a1 1) &&& 1431655765)) &&& 858993459) + ((ushrI (a1 - ((ushrI a1 1) &&& 1431655765)) 2) &&& 858993459)) + (ushrI (((a1 - ((ushrI a1 1) &&& 1431655765)) &&& 858993459) + ((ushrI (a1 - ((ushrI a1 1) &&& 1431655765)) 2) &&& 858993459)) 4)) &&& 252645135) + (ushrI (((((a1 - ((ushrI a1 1) &&& 1431655765)) &&& 858993459) + ((ushrI (a1 - ((ushrI a1 1) &&& 1431655765)) 2) &&& 858993459)) + (ushrI (((a1 - ((ushrI a1 1) &&& 1431655765)) &&& 858993459) + ((ushrI (a1 - ((ushrI a1 1) &&& 1431655765)) 2) &&& 858993459)) 4)) &&& 252645135) 8)) + (ushrI ((((((a1 - ((ushrI a1 1) &&& 1431655765)) &&& 858993459) + ((ushrI (a1 - ((ushrI a1 1) &&& 1431655765)) 2) &&& 858993459)) + (ushrI (((a1 - ((ushrI a1 1) &&& 1431655765)) &&& 858993459) + ((ushrI (a1 - ((ushrI a1 1) &&& 1431655765)) 2) &&& 858993459)) 4)) &&& 252645135) + (ushrI (((((a1 - ((ushrI a1 1) &&& 1431655765)) &&& 858993459) + ((ushrI (a1 - ((ushrI a1 1) &&& 1431655765)) 2) &&& 858993459)) + (ushrI (((a1 - ((ushrI a1 1) &&& 1431655765)) &&& 858993459) + ((ushrI (a1 - ((ushrI a1 1) &&& 1431655765)) 2) &&& 858993459)) 4)) &&& 252645135) 8)) 16)) &&& 63
def mxF (x y : Int32) : Int32 := if x < y then y else x
theorem p_J6_bitCount (l : Launch) (X : XC) {N9 : Nat} (hN : 39 ≤ N9) (a1 : Int32) (w : Mem) : Ct l X 0 yJ6_bitCount_0f7a4 cJ6_bitCount_0f7a4 1 (some .int) emI [.inl a1] N9 flT w (some (bcF a1, w)) :=
  (t_J6_bitCount l X hN a1 w).eq rfl
theorem p_J9_max (l : Launch) (X : XC) {N9 : Nat} (hN : 39 ≤ N9) (a1 a2 : Int32) (w : Mem) : Ct l X 0 yJ9_max_7cf53 cJ9_max_7cf53 2 (some .int) emI [.inl a1, .inl a2] N9 flT w (some (mxF a1 a2, w)) :=
  (t_J9_max l X hN a1 a2 w).eq (by unfold f_J9_max mxF; split <;> rfl)
theorem holdsF_k {x : Int32} {k : Nat} (h : k < 16) : holdsF x (nI k) = 0 ↔ ¬ bit x (nI k) = 1 := by
  unfold holdsF
  rw [b2i_0]
  constructor
  · intro h1 h2
    exact h1 ⟨nI_pos' (by omega), nI_le (b := 15) (by omega) (by decide), h2⟩
  · intro h1 h2
    exact h1 h2.2.2
theorem numbered_loop (x0 n0 : Int32) (w : Mem) : ∀ (j k n : Nat) (left c : Int32), k + j = 16 → j < n → left = n0 - c → h_X4_numbered_4 x0 (fun w => some ((-1), w)) n left (nI k) w = some (nthG x0 n0 j (nI k) c, w) := by
  intro j
  induction j with
  | zero =>
    intro k n left c hk hn _
    obtain ⟨n, rfl⟩ : ∃ m, n = m + 1 := ⟨n - 1, by omega⟩
    have : k = 16 := by omega
    subst this
    unfold h_X4_numbered_4
    rw [if_neg nI_nlt16]
    rfl
  | succ j ih =>
    intro k n left c hk hn hl
    obtain ⟨n, rfl⟩ : ∃ m, n = m + 1 := ⟨n - 1, by omega⟩
    unfold h_X4_numbered_4 nthG
    rw [if_pos (nI_lt16 (by omega)), nI_1]
    by_cases hb : bit x0 (nI k) = 1
    · rw [if_neg (fun z => (holdsF_k (by omega)).mp z hb), if_pos hb]
      by_cases hc : left = 0
      · rw [if_pos hc, if_pos (by rw [hc] at hl; have h9 := Int32.sub_eq_iff_eq_add.mp hl.symm; rw [Int32.zero_add] at h9; exact h9.symm)]
      · rw [if_neg hc, if_neg (fun z => hc (by rw [hl, z]; exact Int32.sub_self _))]
        have e1 : left + (-1) = n0 - (c + 1) := by rw [hl, Int32.sub_eq_add_neg n0 (c + 1), Int32.neg_add, Int32.sub_eq_add_neg (-c) 1, ← Int32.add_assoc, ← Int32.sub_eq_add_neg n0 c]
        rw [e1]
        exact ih (k + 1) n _ _ (by omega) (by omega) rfl
    · rw [if_pos ((holdsF_k (by omega)).mpr hb), if_neg hb]
      exact ih (k + 1) n _ _ (by omega) (by omega) hl
theorem p_X4_numbered (l : Launch) (X : XC) {N9 : Nat} (hN : 39 ≤ N9) (a1 a2 : Int32) (w : Mem) : Ct l X 1 yX4_numbered cX4_numbered 4 (some .int) emI [.inl a1, .inl a2] N9 flT w (some (nthF a1 a2, w)) :=
  (t_X4_numbered l X hN a1 a2 w).eq (by unfold f_X4_numbered; exact (numbered_loop a1 a2 w 16 0 FU a2 0 rfl (by decide) (Int32.sub_zero _).symm).symm)
/-- the least so many of a set -/
def lsG (x : Int32) : Nat → Int32 → Int32 → Int32 → Int32
  | 0, _, _, f => f
  | k + 1, t, left, f => if 0 < left then (if bit x t = 1 then lsG x k (t + 1) (left + (-1)) (f ||| shlI 1 t) else lsG x k (t + 1) left f) else f
def leastF (x m : Int32) : Int32 := lsG x 16 0 m 0
theorem leastOf_loop (x0 : Int32) (w : Mem) : ∀ (j k n : Nat) (left f : Int32), k + j = 16 → j < n → h_X4_leastOf_7 x0 (fun x2 w => some (x2, w)) n f left (nI k) w = some (lsG x0 j (nI k) left f, w) := by
  intro j
  induction j with
  | zero =>
    intro k n left f hk hn
    obtain ⟨n, rfl⟩ : ∃ m, n = m + 1 := ⟨n - 1, by omega⟩
    have : k = 16 := by omega
    subst this
    unfold h_X4_leastOf_7
    rw [if_neg nI_nlt16]
    rfl
  | succ j ih =>
    intro k n left f hk hn
    obtain ⟨n, rfl⟩ : ∃ m, n = m + 1 := ⟨n - 1, by omega⟩
    unfold h_X4_leastOf_7 lsG
    rw [if_pos (nI_lt16 (by omega)), nI_1]
    by_cases hl : 0 < left
    · have h2 : ¬ left ≤ 0 := Int32.not_le.mpr hl
      simp only [if_neg h2, if_pos hl]
      by_cases hb : bit x0 (nI k) = 1
      · rw [if_neg (fun z => (holdsF_k (by omega)).mp z hb), if_pos hb]
        exact ih (k + 1) n _ _ (by omega) (by omega)
      · rw [if_pos ((holdsF_k (by omega)).mpr hb), if_neg hb]
        exact ih (k + 1) n _ _ (by omega) (by omega)
    · have h2 : left ≤ 0 := Int32.not_lt.mp hl
      simp only [if_pos h2, if_neg hl]
theorem p_X4_leastOf (l : Launch) (X : XC) {N9 : Nat} (hN : 39 ≤ N9) (a1 a2 : Int32) (w : Mem) : Ct l X 1 yX4_leastOf cX4_leastOf 5 (some .int) emI [.inl a1, .inl a2] N9 flT w (some (leastF a1 a2, w)) :=
  (t_X4_leastOf l X hN a1 a2 w).eq (by unfold f_X4_leastOf; exact (leastOf_loop a1 w 16 0 FU a2 0 rfl (by decide)).symm)
theorem p_X4_rowAt (l : Launch) (X : XC) {N9 : Nat} (hN : 39 ≤ N9) (a1 : Int32) (w : Mem) : Ct l X 0 yX4_rowAt cX4_rowAt 2 (some (.object "NameThrownBack$Sheet")) emA [.inr (.inr (some (4, 0))), .inl a1] N9 flT w (some ((rowF a1).map fun z => (2, z), w)) :=
  (t_X4_rowAt l X hN a1 w).eq (by
    unfold f_X4_rowAt rowF
    by_cases h1 : a1 < 0
    · rw [if_pos h1, if_neg (fun z => Int32.not_le.mpr h1 z)]; rfl
    · rw [if_neg h1, if_pos (Int32.not_lt.mp h1)]
      by_cases h2 : a1 < 4
      · rw [if_pos h2, if_pos h2, if_pos]
        · rfl
        · rintro (z | z)
          · exact h1 z
          · have h3 := Int32.lt_iff_toInt_lt.mp h2
            have h4 : (4 : Int32).toInt = 4 := rfl
            have h5 : 4 ≤ a1.toInt.toNat := z
            omega
      · rw [if_neg h2, if_neg h2]; rfl)
theorem rng_01 {x a b : Int32} {w : Mem} : some (rng x a b, w) = if rng x a b = 0 ∨ rng x a b = 1 then some (rng x a b, w) else none := (if_pos b2i_01).symm
def hasF (x m : Int32) : Int32 := b2i (0 ≤ x ∧ x < m)
theorem p_X0_has (l : Launch) (X : XC) {N9 : Nat} (hN : 39 ≤ N9) (i : Nat) (a1 : Int32) (hi : i < 3) (w : Mem) : Ct l X 0 yX0_has cX0_has 2 (some .boolean) emI [.inr (.inr (some (0, i))), .inl a1] N9 flT w (some (hasF a1 (w 0 i 2), w)) :=
  (t_X0_has l X hN i a1 hi w).eq (by
    unfold f_X0_has hasF
    by_cases h1 : a1 < 0
    · rw [if_pos h1, b2i_f (fun z => Int32.not_le.mpr h1 z.1)]
    · rw [if_neg h1]
      by_cases h2 : a1 < w 0 i 2
      · rw [if_pos h2, b2i_t ⟨Int32.not_lt.mp h1, h2⟩]
      · rw [if_neg h2, b2i_f (fun z => h2 z.2)])

