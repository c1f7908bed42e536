/-! the name that is let go, on both sides -/
def fmC (x y : Int32) : Int32 := if (x ^^^ y) < 0 then (if rmI x y = 0 then rmI x y else rmI x y + y) else rmI x y
def fmR (x y : Int32) : Int32 := if rmI x y < 0 then rmI x y + y else rmI x y
theorem fm_eq : ∀ a, a < 199 → ∀ k, k < 17 → k ≠ 0 → fmC (nI a - 99) (nI k) = fmR (nI a - 99) (nI k) := by decide +kernel
theorem fm_one : ∀ a, a < 199 → fmR (nI a - 99) (nI 1) = 0 := by decide +kernel
theorem in_99 {v : Int32} (h : -99 ≤ v ∧ v ≤ 99) : ∃ a, a < 199 ∧ v = nI a - 99 := by
  have a1 := Int32.le_iff_toInt_le.mp h.1
  have a2 := Int32.le_iff_toInt_le.mp h.2
  rw [show (-99 : Int32).toInt = -99 by decide] at a1
  rw [show (99 : Int32).toInt = 99 by decide] at a2
  refine ⟨(v.toInt + 99).toNat, by omega, Int32.toInt_inj.mp ?_⟩
  rw [Int32.toInt_sub, nI_toInt (by omega), show (99 : Int32).toInt = 99 by decide, Int.bmod_eq_of_le (by omega) (by omega)]
  omega
theorem floorMod_eq {v : Int32} {k : Nat} (h : -99 ≤ v ∧ v ≤ 99) (hk : k < 17) (h0 : k ≠ 0) (w : Mem) : f_J9_floorMod v (nI k) w = some (fmR v (nI k), w) := by
  obtain ⟨a, ha, rfl⟩ := in_99 h
  unfold f_J9_floorMod
  rw [if_pos (nI_ne0 (by omega) (by omega)), ← fm_eq a ha k hk h0]
  unfold fmC
  by_cases h1 : (nI a - 99 ^^^ nI k) < 0
  · rw [if_pos h1, if_pos h1]
    by_cases h2 : rmI (nI a - 99) (nI k) = 0
    · rw [if_pos h2, if_pos h2]
    · rw [if_neg h2, if_neg h2]
  · rw [if_neg h1, if_neg h1]
/-- which of the names, by kind -/
def letV (kind more known n f : Int32) : Int32 := swE kind 1 [some (nthF known ((n - 1) - f)), some (nthF known f), some (nthF known (if n < 2 then 0 else mxF ((n - 1) - f) 1)), some (nthF known f), some (nthF known (rmI more n))] (some (nthF known f)) |>.getD 0
theorem swE_5 {ρ : Type} (x : Int32) (a b c d e z : Option ρ) : swE x 1 [a, b, c, d, e] z = if x = 1 then a else if x = 2 then b else if x = 3 then c else if x = 4 then d else if x = 5 then e else z := rfl
theorem letV_eq (kind more known n f : Int32) : letV kind more known n f = if kind = 1 then nthF known ((n - 1) - f) else if kind = 2 then nthF known f else if kind = 3 then nthF known (if n < 2 then 0 else mxF ((n - 1) - f) 1) else if kind = 4 then nthF known f else if kind = 5 then nthF known (rmI more n) else nthF known f := by
  unfold letV
  rw [swE_5]
  by_cases h1 : kind = 1
  · rw [if_pos h1, if_pos h1]; rfl
  · rw [if_neg h1, if_neg h1]
    by_cases h2 : kind = 2
    · rw [if_pos h2, if_pos h2]; rfl
    · rw [if_neg h2, if_neg h2]
      by_cases h3 : kind = 3
      · rw [if_pos h3, if_pos h3]; rfl
      · rw [if_neg h3, if_neg h3]
        by_cases h4 : kind = 4
        · rw [if_pos h4, if_pos h4]; rfl
        · rw [if_neg h4, if_neg h4]
          by_cases h5 : kind = 5
          · rw [if_pos h5, if_pos h5]; rfl
          · rw [if_neg h5, if_neg h5]; rfl
theorem lets_c {i p k : Nat} {wc wc' : Mem} {th v : Int32} (hP : p < 6) (hk : bcF (wc 15 i p) = nI k) (hk1 : 1 ≤ k) (hk2 : k ≤ 16) (hs : f_X0_says i 0 (nI p) th wc = some (v, wc')) (hsc : ScC wc wc') (hv : -99 ≤ v ∧ v ≤ 99) : f_X0_letsGo i (nI p) th wc = some (letV (wc 13 i p) (wc 14 i p) (wc 15 i p) (nI k) (fmR v (nI k)), wc') := by
  have e15 : ∀ w : Mem, atV w 15 i (nI p) = w 15 i p := fun w => atV_n w i hP (by decide)
  have e14 : ∀ w : Mem, atV w 14 i (nI p) = w 14 i p := fun w => atV_n w i hP (by decide)
  have e13 : ∀ w : Mem, atV w 13 i (nI p) = w 13 i p := fun w => atV_n w i hP (by decide)
  have hlt : ¬ nI k < 1 := nI_nlt (a := k) (b := 1) hk1 (by omega)
  unfold f_X0_letsGo
  rw [e15, hk, if_neg hlt, hs]
  show Option.bind (f_J9_floorMod v (nI k) wc') _ = _
  rw [floorMod_eq hv (by omega) (by omega)]
  show swE (atV wc' 13 i (nI p)) 1 _ _ = _
  unfold j_X0_letsGo_147
  simp only [e13, e14, e15, hsc 13 i p (by decide) (by decide), hsc 14 i p (by decide) (by decide), hsc 15 i p (by decide) (by decide)]
  rw [swE_5, letV_eq]
  by_cases h1 : wc 13 i p = 1
  · rw [if_pos h1, if_pos h1]
  · rw [if_neg h1, if_neg h1]
    by_cases h2 : wc 13 i p = 2
    · rw [if_pos h2, if_pos h2]
    · rw [if_neg h2, if_neg h2]
      by_cases h3 : wc 13 i p = 3
      · rw [if_pos h3, if_pos h3]
        by_cases h : nI k < 2
        · rw [if_pos h, if_pos h]
        · rw [if_neg h, if_neg h]
      · rw [if_neg h3, if_neg h3]
        by_cases h4 : wc 13 i p = 4
        · rw [if_pos h4, if_pos h4]
        · rw [if_neg h4, if_neg h4]
          by_cases h5 : wc 13 i p = 5
          · rw [if_pos h5, if_pos h5, if_pos (nI_ne0 (by omega) (by omega))]
          · rw [if_neg h5, if_neg h5]
