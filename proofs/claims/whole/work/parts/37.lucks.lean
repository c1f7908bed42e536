/-! the luck of a landing, what one takes: both sides -/
theorem swE_4 {ρ : Type} (x : Int32) (a b c d z : Option ρ) : swE x 1 [a, b, c, d] z = if x = 1 then a else if x = 2 then b else if x = 3 then c else if x = 4 then d else z := rfl
theorem swE_42 {ρ : Type} (x : Int32) (a b c d z : Option ρ) : swE x 2 [a, b, c, d] z = if x = 2 then a else if x = 3 then b else if x = 4 then c else if x = 5 then d else z := rfl
def luckV (kind more v h : Int32) : Int32 := if kind = 1 then (if h = 0 then v - more else v) else if kind = 2 then v / 2 else if kind = 3 then (if h = 0 then v - more else v) else if kind = 4 then (if h = 0 then v / 2 else more) else v
theorem lucks_both {i N M p : Nat} {CC : Nat → Nat → List Int32} {wc wr : Mem} (h : Bo i N M CC wc wr) (hP : p < N) {th : Nat} (ht : th < 16) : ∃ (v : Int32) (wc' wr' : Mem), f_X0_lucksBy i (nI p) (nI th) wc = some (v, wc') ∧ f_X5_lucksOf (nI p) (nI th) wr = some (v, wr') ∧ ScC wc wc' ∧ ScR wr wr' := by
  obtain ⟨h1, h2, h3, h4, h5, h6, h7, h8⟩ := h.1
  obtain ⟨k1, k2, k3, k4, k5, k6, k7, k8⟩ := h8 p hP
  obtain ⟨v, wc', wr', c1, r1, c2, r2, -⟩ := says_both (part := 1) h (by omega) hP (nI th)
  have hp6 : p < 6 := by omega
  have e15 : ∀ w : Mem, atV w 15 i (nI p) = w 15 i p := fun w => atV_n w i hp6 (by decide)
  have e14 : ∀ w : Mem, atV w 14 i (nI p) = w 14 i p := fun w => atV_n w i hp6 (by decide)
  have e13 : ∀ w : Mem, atV w 13 i (nI p) = w 13 i p := fun w => atV_n w i hp6 (by decide)
  have n2 : ¬ (2 : Int32) = 0 := by decide
  have hb : holdsF (wr 22 0 (3 * p)) (nI th) = b2i (bit (wr 22 0 (3 * p)) (nI th) = 1) := by
    unfold holdsF b2i
    have a1 : 0 ≤ nI th := nI_pos' (by omega)
    have a2 : nI th ≤ 15 := nI_le (a := th) (b := 15) (by omega) (by omega)
    by_cases g : bit (wr 22 0 (3 * p)) (nI th) = 1
    · rw [if_pos ⟨a1, a2, g⟩, if_pos g]
    · rw [if_neg (fun z => g z.2.2), if_neg g]
  refine ⟨luckV (wr 20 0 p) (wr 21 0 p) v (b2i (bit (wr 22 0 (3 * p)) (nI th) = 1)), wc', wr', ?_, ?_, c2, r2⟩
  · unfold f_X0_lucksBy
    rw [show (1 : Int32) = nI 1 from rfl] at *
    rw [c1]
    show swE _ 1 _ _ = _
    unfold j_X0_lucksBy_60 luckV
    simp only [e13, e14, e15, c2 13 i p (by decide) (by decide), c2 14 i p (by decide) (by decide), k1, k2, k3, hb, if_pos n2]
    rw [swE_4]
    generalize b2i (bit (wr 22 0 (3 * p)) (nI th) = nI 1) = hh
    repeat' split
    all_goals first | rfl | omega | contradiction
  · have e0 : 3 * nI p = nI (3 * p) := by rw [show (3 : Int32) = nI 3 from rfl, nI_mul]
    have t0 : tn (nI (3 * p)) = 3 * p := nI_clamp (by omega)
    have t3 : tn (nI p) = p := nI_clamp (by omega)
    have r22 := r2 22 0 (3 * p) (by decide) (by decide)
    have r20 := r2 20 0 p (by decide) (by decide)
    have r21 := r2 21 0 p (by decide) (by decide)
    have key : ∀ hh : Int32, hh = 0 ∨ hh = 1 → j_X5_lucksOf_29 (nI p) v hh wr' = some (luckV (wr 20 0 p) (wr 21 0 p) v hh, wr') := by
      intro hh h01
      unfold j_X5_lucksOf_29 j_X5_lucksOf_68 luckV
      have hin : inB (nI p) 6 := nI_in hp6 (by omega)
      simp only [t3, r20, r21, if_pos hin, if_pos n2]
      rw [swE_4]
      repeat' split
      all_goals first | rfl | omega | contradiction
    have r1' : f_X5_asksOf 1 (nI p) (nI th) wr = some (v, wr') := r1
    unfold f_X5_lucksOf
    rw [r1']
    show (if inB (3 * nI p) 18 then (if (shrI (wr' 22 0 (tn (3 * nI p))) (nI th) &&& 1) = 1 then j_X5_lucksOf_29 (nI p) v 1 wr' else j_X5_lucksOf_29 (nI p) v 0 wr') else none) = _
    rw [e0, if_pos (nI_in (by omega) (by omega)), t0, r22]
    show (if bit (wr 22 0 (3 * p)) (nI th) = 1 then _ else _) = _
    by_cases g : bit (wr 22 0 (3 * p)) (nI th) = 1
    · rw [if_pos g, b2i_t g]; exact key 1 (Or.inr rfl)
    · rw [if_neg g, b2i_f g]; exact key 0 (Or.inl rfl)
