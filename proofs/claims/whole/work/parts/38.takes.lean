/-! what one takes -/
theorem takes_both {i N M p : Nat} {CC : Nat → Nat → List Int32} {wc wr : Mem} (h : Bo i N M CC wc wr) (hP : p < N) : ∃ (v : Int32) (wc' wr' : Mem), f_X0_takesOf i (nI p) wc = some (v, wc') ∧ f_X5_takesOf (nI p) wr = some (v, wr') ∧ ScC wc wc' ∧ ScR wr wr' ∧ ∃ T : Nat, T ≤ 50 ∧ v = nI T := by
  obtain ⟨h1, h2, h3, h4, h5, h6, h7, h8⟩ := h.1
  obtain ⟨k1, k2, k3, k4, k5, k6, k7, k8, k9⟩ := h8 p hP
  obtain ⟨v, wc', wr', c1, r1, c2, r2, hb⟩ := says_both (part := 2) h (by omega) hP 0
  have hp6 : p < 6 := by omega
  have e14 : ∀ w : Mem, atV w 14 i (nI p) = w 14 i p := fun w => atV_n w i hp6 (by decide)
  have e13 : ∀ w : Mem, atV w 13 i (nI p) = w 13 i p := fun w => atV_n w i hp6 (by decide)
  have n3 : ¬ (3 : Int32) = 0 := by decide
  have c1' : f_X0_says i 2 (nI p) 0 wc = some (v, wc') := c1
  have r1' : f_X5_asksOf 2 (nI p) 0 wr = some (v, wr') := r1
  have t3 : tn (nI p) = p := nI_clamp (by omega)
  have hin : inB (nI p) 6 := nI_in hp6 (by omega)
  have r20 := r2 20 0 p (by decide) (by decide)
  have r21 := r2 21 0 p (by decide) (by decide)
  have r5 := r2 5 0 5 (by decide) (by decide)
  refine ⟨if wr 20 0 p = 2 then v + wr 21 0 p else if wr 20 0 p = 3 then (if rmI (wr 5 0 5) 3 = 0 then v else 0) else if wr 20 0 p = 4 then 2 * (v + wr 21 0 p) else if wr 20 0 p = 5 then 1 else v, wc', wr', ?_, ?_, c2, r2, ?_⟩
  · unfold f_X0_takesOf
    rw [c1']
    show swE _ 2 _ _ = _
    simp only [e13, e14, c2 13 i p (by decide) (by decide), c2 14 i p (by decide) (by decide), c2 0 i 4 (by decide) (by decide), k1, k2, h6, if_pos n3]
    rw [swE_42]
    repeat' split
    all_goals first | rfl | omega | contradiction
  · unfold f_X5_takesOf
    rw [r1']
    show (if inB (nI p) 6 then swE _ 2 _ _ else none) = _
    simp only [t3, r20, r21, r5, if_pos hin, if_pos n3]
    rw [swE_42]
    repeat' split
    all_goals first | rfl | omega | contradiction
  · rw [if_pos rfl] at hb
    obtain ⟨a, ha, hv⟩ := nI_of2 (M := 16) (n := 16) rfl (Int32.not_lt.mpr hb.1) hb.2
    obtain ⟨m, hm, em⟩ := nI_of2 (M := 9) (n := 9) rfl (Int32.not_lt.mpr k9.1) k9.2
    rw [em, hv]
    split
    · exact ⟨a + m, by omega, nI_add a m⟩
    · split
      · split
        · exact ⟨a, by omega, rfl⟩
        · exact ⟨0, by omega, rfl⟩
      · split
        · exact ⟨2 * (a + m), by omega, by rw [nI_add, show (2 : Int32) = nI 2 from rfl, nI_mul]⟩
        · split
          · exact ⟨1, by omega, rfl⟩
          · exact ⟨a, by omega, rfl⟩
