theorem j146_eq {p : Nat} {x : Int32} {w : Mem} (hP : p < 6) : j_X5_letsOf_146 (nI p) x w = some (nthF (w 22 0 (3 * p)) x, w) := by
  unfold j_X5_letsOf_146
  rw [show 3 * nI p = nI (3 * p) by rw [show (3 : Int32) = nI 3 from rfl, nI_mul], if_pos (nI_in (by omega) (by omega)), show tn (nI (3 * p)) = 3 * p from nI_clamp (by omega)]
theorem lets_47 {p k : Nat} {wr : Mem} {v : Int32} (hP : p < 6) (hk1 : 1 ≤ k) (hk2 : k ≤ 16) (hv : -99 ≤ v ∧ v ≤ 99) : j_X5_letsOf_47 (nI p) (nI k) (fmR v (nI k)) wr = some (letV (wr 20 0 p) (wr 21 0 p) (wr 22 0 (3 * p)) (nI k) (fmR v (nI k)), wr) := by
  unfold j_X5_letsOf_47 j_X5_letsOf_142 j_X5_letsOf_122 j_X5_letsOf_124
  simp only [j146_eq hP]
  rw [if_pos (nI_in hP (by omega)), if_pos (nI_in hP (by omega)), show tn (nI p) = p from nI_clamp (by omega), if_pos (nI_ne0 (by omega) (by omega)), swE_5, letV_eq]
  by_cases h1 : wr 20 0 p = 1
  · rw [if_pos h1, if_pos h1]
  · rw [if_neg h1, if_neg h1]
    by_cases h2 : wr 20 0 p = 2
    · rw [if_pos h2, if_pos h2]
    · rw [if_neg h2, if_neg h2]
      by_cases h3 : wr 20 0 p = 3
      · rw [if_pos h3, if_pos h3]
        by_cases h : k = 1
        · subst h
          obtain ⟨a, ha, rfl⟩ := in_99 hv
          rw [fm_one a ha, if_pos (show nI 1 ≤ 1 by decide), if_pos (show nI 1 < 2 by decide)]
          rfl
        · have g1 : ¬ nI k ≤ 1 := nI_ge (a := 1) (b := k) (by omega) (by omega)
          have g2 : ¬ nI k < 2 := nI_nlt (a := k) (b := 2) (by omega) (by omega)
          rw [if_neg g1, if_neg g2]
          unfold mxF
          by_cases g : nI k - 1 - fmR v (nI k) < 1
          · rw [if_pos g, if_pos g]
          · rw [if_neg g, if_neg g]
      · rw [if_neg h3, if_neg h3]
        by_cases h4 : wr 20 0 p = 4
        · rw [if_pos h4, if_pos h4]
        · rw [if_neg h4, if_neg h4]
          by_cases h5 : wr 20 0 p = 5
          · rw [if_pos h5, if_pos h5]
          · rw [if_neg h5, if_neg h5]
theorem lets_r {p k : Nat} {wr wr' : Mem} {th v : Int32} (hP : p < 6) (hk : bitsF (wr 22 0 (3 * p)) = nI k) (hk1 : 1 ≤ k) (hk2 : k ≤ 16) (hs : f_X5_asksOf 0 (nI p) th wr = some (v, wr')) (hsc : ScR wr wr') (hv : -99 ≤ v ∧ v ≤ 99) : f_X5_letsOf (nI p) th wr = some (letV (wr 20 0 p) (wr 21 0 p) (wr 22 0 (3 * p)) (nI k) (fmR v (nI k)), wr') := by
  have hne : ¬ nI k = 0 := nI_ne0 (by omega) (by omega)
  have e := lets_47 (wr := wr') hP hk1 hk2 hv
  rw [hsc 20 0 p (by decide) (by decide), hsc 21 0 p (by decide) (by decide), hsc 22 0 (3 * p) (by decide) (by decide)] at e
  unfold f_X5_letsOf
  rw [show 3 * nI p = nI (3 * p) by rw [show (3 : Int32) = nI 3 from rfl, nI_mul], if_pos (nI_in (by omega) (by omega)), show tn (nI (3 * p)) = 3 * p from nI_clamp (by omega), hk, if_neg hne, hs]
  show (if ¬ nI k = 0 then (if rmI v (nI k) < 0 then (if ¬ nI k = 0 then j_X5_letsOf_47 (nI p) (nI k) (rmI v (nI k) + nI k) wr' else none) else (if ¬ nI k = 0 then j_X5_letsOf_47 (nI p) (nI k) (rmI v (nI k)) wr' else none)) else none) = _
  rw [if_pos hne, if_pos hne, if_pos hne, ← e]
  unfold fmR
  by_cases h : rmI v (nI k) < 0
  · rw [if_pos h, if_pos h]
  · rw [if_neg h, if_neg h]
/-- the name let go, both sides -/
theorem lets_both {i N M p : Nat} {CC : Nat → Nat → List Int32} {wc wr : Mem} (h : Bo i N M CC wc wr) (hP : p < N) (th : Int32) : ∃ (v : Int32) (wc' wr' : Mem), f_X0_letsGo i (nI p) th wc = some (v, wc') ∧ f_X5_letsOf (nI p) th wr = some (v, wr') ∧ ScC wc wc' ∧ ScR wr wr' ∧ (v = -1 ∨ ∃ q, q < 16 ∧ v = nI q) := by
  obtain ⟨h1, h2, h3, h4, h5, h6, h7, h8⟩ := h.1
  obtain ⟨k1, k2, k3, k4, k5, k6, k7, k8⟩ := h8 p hP
  obtain ⟨k, hk16, hk⟩ := k6.bits
  have hkc : bcF (wc 15 i p) = nI k := by rw [k3, k6.bc, hk]
  by_cases h0 : k = 0
  · subst h0
    refine ⟨-1, wc, wr, ?_, ?_, .rf, .rf, Or.inl rfl⟩
    · unfold f_X0_letsGo
      rw [atV_n wc i (show p < lenK 15 by show p < 6; omega) (by decide), hkc, if_pos (show nI 0 < 1 by decide)]
    · unfold f_X5_letsOf
      rw [show 3 * nI p = nI (3 * p) by rw [show (3 : Int32) = nI 3 from rfl, nI_mul], if_pos (nI_in (by omega) (by omega)), show tn (nI (3 * p)) = 3 * p from nI_clamp (by omega), hk, if_pos (show nI 0 = 0 from rfl)]
  · obtain ⟨v, wc', wr', c1, r1, c2, r2, hb⟩ := says_both (part := 0) h (by omega) hP th
    rw [if_neg (by omega)] at hb
    have hc := lets_c (k := k) (by omega) hkc (by omega) hk16 c1 c2 hb
    have hr := lets_r (k := k) (by omega) hk (by omega) hk16 r1 r2 hb
    rw [k1, k2, k3] at hc
    refine ⟨_, wc', wr', hc, hr, c2, r2, ?_⟩
    rw [letV_eq]
    repeat' split
    all_goals exact nthF_r _ _
