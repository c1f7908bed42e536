/-! one fisher's numbers and the sea are written on both sides -/
theorem CR.upd {i N p : Nat} {wc wr wc' wr' : Mem} (h : CR i N wc wr) {kn kp lk se td : Int32} (s1 : S16 kn) (s2 : S16 kp) (s3 : 0 ≤ lk ∧ lk ≤ 99) (s4 : S16 se)
    (c2 : wc' 0 i 2 = wc 0 i 2) (c3 : wc' 0 i 3 = se) (c4 : wc' 0 i 4 = td) (c5 : wc' 0 i 5 = wc 0 i 5)
    (hc : ∀ q, q < N → wc' 13 i q = wc 13 i q ∧ wc' 14 i q = wc 14 i q ∧ wc' 15 i q = (if q = p then kn else wc 15 i q) ∧ wc' 16 i q = (if q = p then kp else wc 16 i q) ∧ wc' 17 i q = (if q = p then lk else wc 17 i q))
    (r0 : wr' 5 0 0 = wr 5 0 0) (r4 : wr' 5 0 4 = se) (r5 : wr' 5 0 5 = td) (r11 : wr' 5 0 11 = wr 5 0 11)
    (hr : ∀ q, q < N → wr' 20 0 q = wr 20 0 q ∧ wr' 21 0 q = wr 21 0 q ∧ wr' 22 0 (3 * q) = (if q = p then kn else wr 22 0 (3 * q)) ∧ wr' 22 0 (3 * q + 1) = (if q = p then kp else wr 22 0 (3 * q + 1)) ∧ wr' 22 0 (3 * q + 2) = (if q = p then lk else wr 22 0 (3 * q + 2))) : CR i N wc' wr' := by
  obtain ⟨h1, h2, h3, h4, h5, h6, h7, h8⟩ := h
  refine ⟨h1, c2.trans h2, r0.trans h3, c3.trans r4.symm, by rw [r4]; exact s4, c4.trans r5.symm, (c5.trans h7).trans r11.symm, fun q hq => ?_⟩
  obtain ⟨k1, k2, k3, k4, k5, k6, k7, k8, k9⟩ := h8 q hq
  obtain ⟨a1, a2, a3, a4, a5⟩ := hc q hq
  obtain ⟨b1, b2, b3, b4, b5⟩ := hr q hq
  rw [a1, a2, a3, a4, a5, b1, b2, b3, b4, b5]
  by_cases hqp : q = p
  · simp only [if_pos hqp]
    exact ⟨k1, k2, trivial, trivial, trivial, s1, s2, s3, k9⟩
  · simp only [if_neg hqp]
    exact ⟨k1, k2, k3, k4, k5, k6, k7, k8, k9⟩
