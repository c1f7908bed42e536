/-! the reference works off the same row -/
def cmap (c : Int32) : Int32 := if c < -6 then 4 - c else if c < 0 then -1 - c else 100000 + c
theorem op_cases {c : Int32} (h1 : -14 ≤ c) (h2 : c < -6) (h9 : ¬ c = -9) : c = -14 ∨ c = -13 ∨ c = -12 ∨ c = -11 ∨ c = -10 ∨ c = -8 ∨ c = -7 := by
  have a1 := Int32.le_iff_toInt_le.mp h1
  have a2 := Int32.lt_iff_toInt_lt.mp h2
  rw [show (-14 : Int32).toInt = -14 by decide] at a1
  rw [show (-6 : Int32).toInt = -6 by decide] at a2
  have a3 : ¬ c.toInt = -9 := fun z => h9 (Int32.toInt_inj.mp (by rw [z]; decide))
  rcases (show c.toInt = -14 ∨ c.toInt = -13 ∨ c.toInt = -12 ∨ c.toInt = -11 ∨ c.toInt = -10 ∨ c.toInt = -8 ∨ c.toInt = -7 by omega) with h | h | h | h | h | h | h
  · exact Or.inl (Int32.toInt_inj.mp (by rw [h]; decide))
  · exact Or.inr (Or.inl (Int32.toInt_inj.mp (by rw [h]; decide)))
  · exact Or.inr (Or.inr (Or.inl (Int32.toInt_inj.mp (by rw [h]; decide))))
  · exact Or.inr (Or.inr (Or.inr (Or.inl (Int32.toInt_inj.mp (by rw [h]; decide)))))
  · exact Or.inr (Or.inr (Or.inr (Or.inr (Or.inl (Int32.toInt_inj.mp (by rw [h]; decide))))))
  · exact Or.inr (Or.inr (Or.inr (Or.inr (Or.inr (Or.inl (Int32.toInt_inj.mp (by rw [h]; decide)))))))
  · exact Or.inr (Or.inr (Or.inr (Or.inr (Or.inr (Or.inr (Int32.toInt_inj.mp (by rw [h]; decide)))))))
theorem two_eq {c : Int32} (a b : Int32) (w : Mem) (h1 : -14 ≤ c) (h2 : c < -6) (h9 : ¬ c = -9) : f_X5_two (4 - c) a b w = some (opC c a b, w) := by
  rcases op_cases h1 h2 h9 with rfl | rfl | rfl | rfl | rfl | rfl | rfl
  · show (some (a * b, w) : Option (Int32 × Mem)) = some (opC (-14) a b, w); rfl
  · show (some (a - b, w) : Option (Int32 × Mem)) = some (opC (-13) a b, w); rfl
  · show (some (a + b, w) : Option (Int32 × Mem)) = some (opC (-12) a b, w); rfl
  · show (if a = b then some ((1 : Int32), w) else some (0, w)) = some (b2i (a = b), w); unfold b2i; split <;> rfl
  · show (if a < b then some ((1 : Int32), w) else some (0, w)) = some (b2i (a < b), w); unfold b2i; split <;> rfl
  · show (if a = 0 then some ((0 : Int32), w) else if b = 0 then some (0, w) else some (1, w)) = some (b2i (a ≠ 0 ∧ b ≠ 0), w)
    by_cases ha : a = 0
    · rw [if_pos ha, b2i_f (fun z => z.1 ha)]
    · rw [if_neg ha]
      by_cases hb : b = 0
      · rw [if_pos hb, b2i_f (fun z => z.2 hb)]
      · rw [if_neg hb, b2i_t ⟨ha, hb⟩]
  · show (if a = 0 then (if b = 0 then some ((0 : Int32), w) else some (1, w)) else some (1, w)) = some (b2i (a ≠ 0 ∨ b ≠ 0), w)
    by_cases ha : a = 0
    · rw [if_pos ha]
      by_cases hb : b = 0
      · rw [if_pos hb, b2i_f (fun z => z.elim (fun q => q ha) (fun q => q hb))]
      · rw [if_neg hb, b2i_t (Or.inr hb)]
    · rw [if_neg ha, b2i_t (Or.inl ha)]
theorem cm_op {c : Int32} (h6 : c < -6) (hlo : -15 ≤ c) : cmap c = 4 - c ∧ cmap c < 100000 ∧ ¬ cmap c < 11 ∧ (cmap c = 13 ↔ c = -9) ∧ (cmap c = 19 ↔ c = -15) := by
  have e : cmap c = 4 - c := if_pos h6
  have a1 := Int32.le_iff_toInt_le.mp hlo
  have a2 := Int32.lt_iff_toInt_lt.mp h6
  rw [show (-15 : Int32).toInt = -15 by decide] at a1
  rw [show (-6 : Int32).toInt = -6 by decide] at a2
  have e2 : (4 - c).toInt = 4 - c.toInt := by
    rw [Int32.toInt_sub, show (4 : Int32).toInt = 4 by decide, Int.bmod_eq_of_le (by omega) (by omega)]
  rw [e]
  refine ⟨rfl, ?_, ?_, ?_, ?_⟩
  · rw [Int32.lt_iff_toInt_lt, e2, show (100000 : Int32).toInt = 100000 by decide]; omega
  · rw [Int32.lt_iff_toInt_lt, e2, show (11 : Int32).toInt = 11 by decide]; omega
  · rw [← Int32.toInt_inj, ← Int32.toInt_inj, e2, show (13 : Int32).toInt = 13 by decide, show (-9 : Int32).toInt = -9 by decide]; omega
  · rw [← Int32.toInt_inj, ← Int32.toInt_inj, e2, show (19 : Int32).toInt = 19 by decide, show (-15 : Int32).toInt = -15 by decide]; omega
theorem cm_nm {c : Int32} (h6 : ¬ c < -6) (h0 : c < 0) : ∃ j, j < 6 ∧ cmap c = nI j ∧ -1 - c = nI j ∧ cmap c < 100000 ∧ cmap c < 11 := by
  obtain ⟨j, hj, e⟩ := name_ix h6 h0
  have e2 : cmap c = nI j := by unfold cmap; rw [if_neg h6, if_pos h0, e]
  refine ⟨j, hj, e2, e, ?_, ?_⟩
  · rw [e2]; exact nI_lt (a := j) (b := 100000) (by omega) (by omega)
  · rw [e2]; exact nI_lt (a := j) (b := 11) (by omega) (by omega)
theorem cm_no {c : Int32} (h0 : ¬ c < 0) (h9 : c ≤ 9999) : ¬ cmap c < 100000 ∧ ¬ cmap c < 11 ∧ cmap c - 100000 = c := by
  have h6 : ¬ c < -6 := fun z => h0 (Int32.lt_trans z (by decide))
  have e2 : cmap c = 100000 + c := by unfold cmap; rw [if_neg h6, if_neg h0]
  have a1 : ¬ c.toInt < 0 := fun z => h0 (Int32.lt_iff_toInt_lt.mpr (by rw [show (0 : Int32).toInt = 0 by decide]; exact z))
  have a2 := Int32.le_iff_toInt_le.mp h9
  rw [show (9999 : Int32).toInt = 9999 by decide] at a2
  have e3 : (100000 + c).toInt = 100000 + c.toInt := by
    rw [Int32.toInt_add, show (100000 : Int32).toInt = 100000 by decide, Int.bmod_eq_of_le (by omega) (by omega)]
  rw [e2]
  refine ⟨?_, ?_, ?_⟩
  · rw [Int32.lt_iff_toInt_lt, e3, show (100000 : Int32).toInt = 100000 by decide]; omega
  · rw [Int32.lt_iff_toInt_lt, e3, show (11 : Int32).toInt = 11 by decide]; omega
  · rw [Int32.add_comm]; exact Int32.add_sub_cancel _ _
theorem okC_lo {c : Int32} {cs : List Int32} {n : Nat} (h : okC (c :: cs) n) (h6 : c < -6) : -15 ≤ c := by
  unfold okC at h
  rw [if_pos h6] at h
  by_cases h2 : c = -9 ∨ c = -15
  · rcases h2 with rfl | rfl <;> decide
  · rw [if_neg h2] at h
    exact Int32.le_trans (by decide) h.1
