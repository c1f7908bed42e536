/-! what is now goes on; told seasons -/
theorem CR.of2 {i N : Nat} {wc wr wc' wr' : Mem} (h : CR i N wc wr) (c0 : ∀ c, wc' 0 i c = wc 0 i c) (c1 : ∀ a c, (a = 13 ∨ a = 14 ∨ a = 15 ∨ a = 16 ∨ a = 17) → wc' a i c = wc a i c) (r5 : ∀ c, (c = 0 ∨ c = 4 ∨ c = 5 ∨ c = 11) → wr' 5 0 c = wr 5 0 c) (r22 : ∀ c, c < 18 → wr' 22 0 c = wr 22 0 c) (r20 : ∀ c, c < N → wr' 20 0 c = wr 20 0 c) (r21 : ∀ c, c < N → wr' 21 0 c = wr 21 0 c) : CR i N wc' wr' := by
  obtain ⟨h1, h2, h3, h4, h5, h6, h7, h8⟩ := h
  refine ⟨h1, by rw [c0]; exact h2, by rw [r5 _ (by omega)]; exact h3, by rw [c0, r5 _ (by omega)]; exact h4, by rw [r5 _ (by omega)]; exact h5, by rw [c0, r5 _ (by omega)]; exact h6, by rw [c0, r5 _ (by omega)]; exact h7, fun p hp => ?_⟩
  have q := h8 p hp
  rw [r22 _ (by omega), r22 _ (by omega), r22 _ (by omega), r20 p hp, r21 p hp, c1 13 p (by omega), c1 14 p (by omega), c1 15 p (by omega), c1 16 p (by omega), c1 17 p (by omega)]
  exact q
theorem IR.of {N M N' M' : Nat} {wc wr wc' wr' : Mem} (h : IR N M wc wr) (hN : N ≤ N') (hM : M ≤ M') (h4 : wc' 4 0 5 = wc 4 0 5) (h12 : wr' 5 0 12 = wr 5 0 12) (c0 : ∀ c, wc' 0 2 c = wc 0 2 c) (c1 : ∀ a c, (a = 13 ∨ a = 14 ∨ a = 15 ∨ a = 16 ∨ a = 17) → wc' a 2 c = wc a 2 c) (e26 : ∀ c, wr' 26 0 c = wr 26 0 c) (e27 : ∀ c, wr' 27 0 c = wr 27 0 c) (r20 : ∀ c, c < N → wr' 20 0 c = wr 20 0 c) (r21 : ∀ c, c < N → wr' 21 0 c = wr 21 0 c) (hk : ∀ p, N ≤ p → p < N' → wr' 20 0 p ≠ 6 := by intro p h1 h2; omega) : IR N' M' wc' wr' := by
  obtain ⟨h0, h1, h2⟩ := h
  refine ⟨fun p hp => by
    by_cases hpN : p < N
    · rw [r20 p hpN]; exact h0 p hpN
    · exact hk p (by omega) hp, by rw [h4, h12]; exact h1, ?_⟩
  rw [h12]
  rcases h2 with h2 | ⟨K, hK, h3, ⟨t, ht, e⟩, h5⟩
  · exact Or.inl h2
  · refine Or.inr ⟨K, by omega, h3.of2 c0 c1 (fun c h => ?_) (fun c _ => ?_) (fun c hc => ?_) (fun c hc => ?_), ⟨t, by omega, ?_⟩, by rw [e27]; exact h5⟩
    · simp only [img, e27, if_true]
    · simp [img, e26]
    · simp [img]; exact r20 c (by omega)
    · simp [img]; exact r21 c (by omega)
    · simp [img, e27] at e ⊢; exact e
theorem PR.th {i : Nat} {wc wr wc' wr' : Mem} (h : PR wc wr) (hc : ThC i wc wc') (hr : ThS wr wr') : PR wc' wr' := by
  obtain ⟨n, h1, h2, h3, h4⟩ := h
  exact ⟨n, h1, (hc 1 0 1 (by omega) (by omega) (by omega)).trans h2, (hr 5 0 7 (by omega) (by omega) (by omega) (by omega)).trans h3, fun k hk => by rw [hc 9 0 k (by omega) (by omega) (by omega), hr 23 0 k (by omega) (by omega) (by omega) (by omega)]; exact h4.1 k hk, fun c h => (hr 32 0 c (by omega) (by omega) (by omega) (by omega)).trans (h4.2 c h)⟩
theorem R.now {N M : Nat} {CC : Nat → Nat → List Int32} {wc wr wc' wr' : Mem} (hS : SR wc wr) (hP : PR wc wr) (hI : IR N M wc wr) (hB : Bo 0 N M CC wc' wr') (hc : ThC 0 wc wc') (hr : ThS wr wr') (hT : TB (wr' 5 0 5)) : R wc' wr' :=
  ⟨N, M, CC, hB, hT, hS.th hc hr, hP.th hc hr, hI.of (Nat.le_refl _) (Nat.le_refl _) (hc 4 0 5 (by omega) (by omega) (by omega)) (hr 5 0 12 (by omega) (by omega) (by omega) (by omega)) (fun c => hc 0 2 c (by omega) (by omega) (by omega)) (fun a c ha => hc a 2 c (by omega) (by omega) (by omega)) (fun c => hr 26 0 c (by omega) (by omega) (by omega) (by omega)) (fun c => hr 27 0 c (by omega) (by omega) (by omega) (by omega)) (fun c _ => hr 20 0 c (by omega) (by omega) (by omega) (by omega)) (fun c _ => hr 21 0 c (by omega) (by omega) (by omega) (by omega))⟩
theorem b_fish (a1 a2 : Int32) : Both (f_X4_fish a1 a2) (f_X5_fish a1 a2) := by
  intro wc wr hR
  obtain ⟨N, M, CC, hB, ⟨T, hT, eT⟩, hS, hP, hI⟩ := id hR
  obtain ⟨v, e1, e2, e3⟩ := season_ref hB hS a1 a2
  unfold f_X4_fish f_X5_fish
  rw [e1, e2, ob, ob]
  dsimp only
  by_cases hv : v = 0
  · obtain ⟨s, Z, p, hs, rfl, hZ, hp, rfl⟩ := e3 hv
    have e4 : wc 0 0 4 = nI T := hB.1.2.2.2.2.2.1.trans eT
    have es : f_X4_sizeOf (nI s) wc = some (nI Z, wc) := by
      unfold f_X4_sizeOf
      rw [rowF_n hs, oe_s, (hS s hs).2.1, hZ.2.1]
    have hZ40 := hZ.1
    rw [if_pos hv, if_pos hv, es, ob, if_pos (nI_in hs (by omega)), show tn (nI s) = s from nI_clamp (by omega)]
    dsimp only
    by_cases hle : T + Z ≤ 999
    · obtain ⟨u, wc2, wr2, c2, r2, -, hB2, tc2, ts2, q5⟩ := goes_both hs hp hB hS hZ
      rw [if_pos (show wc 0 0 4 + nI Z ≤ 999 by rw [e4, nI_add]; exact nI_le (b := 999) hle (by omega)), if_pos (show wr 5 0 5 + wr 29 0 s ≤ 999 by rw [eT, hZ.2.1, nI_add]; exact nI_le (b := 999) hle (by omega)), c2, r2, ob, ob]
      obtain ⟨g1, g2, g3, g4, g5, g6, g7, g8⟩ := hB2.1
      obtain ⟨k1, k2, k3, k4, k5, k6, k7, k8, k9⟩ := g8 p hp
      have e15 : atV wc2 15 0 (nI p) = wr2 22 0 (3 * p) := (atV_n wc2 0 (show p < lenK 15 by show p < 6; omega) (by decide)).trans k3
      dsimp only
      rw [e15, m3, if_pos (nI_in (by omega) (by omega)), show tn (nI (3 * p)) = 3 * p from nI_clamp (by omega), k6.bc]
      exact ⟨_, wc2, wr2, rfl, rfl, R.now hS hP hI hB2 tc2 ts2 ⟨T + Z, hle, by rw [q5, eT, nI_add]⟩, tc2.f, ts2.f⟩
    · have hn : ¬ nI (T + Z) ≤ 999 := fun z => hle ((nI_leI (a := T + Z) (b := 999) (by omega) (by omega)).mp z)
      rw [if_neg (show ¬ wc 0 0 4 + nI Z ≤ 999 by rw [e4, nI_add]; exact hn), if_neg (show ¬ wr 5 0 5 + wr 29 0 s ≤ 999 by rw [eT, hZ.2.1, nI_add]; exact hn)]
      exact ⟨_, wc, wr, rfl, rfl, hR, .rf, .rf⟩
  · rw [if_neg hv, if_neg hv]
    exact ⟨v, wc, wr, rfl, rfl, hR, .rf, .rf⟩
theorem other_loop {N M s Z t Y p : Nat} {CC : Nat → Nat → List Int32} (hs : s < 4) (ht : t < 4) (hYZ : Y ≤ Z) (hP : p < N) (kr : Int32 → Mem → Option (Int32 × Mem)) : ∀ (r k n : Nat) (wc wr : Mem), k + r = Y → r < n → Bo 1 N M CC wc wr → SR wc wr → Sn s Z wr → wr 29 0 t = nI Y → ∃ (v : Int32) (wc' wr' : Mem), h_X4_otherwise_29 s t (nI p) (fun w7 => some (-1, w7)) n (nI k) wc = some (v, wc') ∧ h_X5_unlike_10 (nI s) (nI t) (nI p) kr n (-1) (nI k) wr = kr v wr' ∧ ThC 1 wc wc' ∧ ThS wr wr' ∧ (v = -1 ∨ ∃ q, q < 41 ∧ v = nI q) := by
  have ts : tn (nI s) = s := nI_clamp (by omega)
  have tt : tn (nI t) = t := nI_clamp (by omega)
  intro r
  induction r with
  | zero =>
    intro k n wc wr hk hn hB hS hZ hY
    obtain ⟨n, rfl⟩ : ∃ m, n = m + 1 := ⟨n - 1, by omega⟩
    have hZ40 := hZ.1
    have e1 : wc 2 t 1 = nI Y := (hS t ht).2.1.trans hY
    refine ⟨-1, wc, wr, ?_, ?_, .rf, .rf, Or.inl rfl⟩
    · unfold h_X4_otherwise_29
      rw [e1, if_neg (nI_nlt (by omega) (by omega))]
    · unfold h_X5_unlike_10
      rw [if_pos (nI_in ht (by omega)), tt, hY, if_neg (nI_nlt (by omega) (by omega))]
  | succ r ih =>
    intro k n wc wr hk hn hB hS hZ hY
    obtain ⟨n, rfl⟩ : ∃ m, n = m + 1 := ⟨n - 1, by omega⟩
    have hZ40 := hZ.1
    obtain ⟨g1, g2, -, g4⟩ := hS s hs
    obtain ⟨f1, f2, -, f4⟩ := hS t ht
    have e1 : wc 2 t 1 = nI Y := f2.trans hY
    have tk : tn (nI (40 * s + k)) = 40 * s + k := nI_clamp (by omega)
    have tk2 : tn (nI (40 * t + k)) = 40 * t + k := nI_clamp (by omega)
    have e19 : atV wc 19 s (nI k) = wr 30 0 (40 * s + k) := (atV_n wc s (show k < lenK 19 by show k < 40; omega) (by decide)).trans (g4 k (by omega))
    obtain ⟨d, hd, ed⟩ := hZ.2.2 k (by omega)
    obtain ⟨v, wc1, wr1, c1, r1, hB1, tc1, tr1, q5, hv⟩ := landing_both hB hP hd
    obtain ⟨u, wc2, wr2, c2, r2, hB2, tc2, tr2, q6, ql⟩ := washes_both hB1
    have tcc : ThC 1 wc wc2 := tc1.tr tc2
    have tss : ThS wr wr2 := tr1.s.tr tr2.s
    have hS2 : SR wc2 wr2 := hS.th tcc tss
    have el : atV wc2 17 1 (nI p) = wr1 22 0 (3 * p + 2) := (atV_n wc2 1 (show p < lenK 17 by show p < 6; have := hB.1.1; omega) (by decide)).trans ((hB2.1.2.2.2.2.2.2.2 p hP).2.2.2.2.1.trans (ql p))
    have ec : atV wc2 19 t (nI k) = wr1 30 0 (40 * t + k) := by
      refine (atV_n wc2 t (show k < lenK 19 by show k < 40; omega) (by decide)).trans (((hS2 t ht).2.2.2 k (by omega)).trans ?_)
      exact tr2.s 30 0 _ (by omega) (by omega) (by omega) (by omega)
    have hN6 := hB.1.1
    unfold h_X4_otherwise_29 h_X5_unlike_10
    rw [e1, if_pos (nI_lt (by omega) (by omega)), e19, if_pos (nI_in ht (by omega)), tt, hY, if_pos (nI_lt (by omega) (by omega)), if_pos rfl, m40, if_pos (nI_in (by omega) (by omega)), tk, ed, wi_thing hd, c1, r1, ob, ob]
    dsimp only
    rw [c2, ob, m40, if_pos (nI_in (by omega) (by omega)), tk2, m32, if_pos (nI_in (by omega) (by omega)), show tn (nI (3 * p + 2)) = 3 * p + 2 from nI_clamp (by omega)]
    dsimp only
    unfold j_X5_unlike_82
    rw [r2, ob, ob]
    dsimp only
    by_cases he : wr1 30 0 (40 * t + k) = wr1 22 0 (3 * p + 2)
    · rw [if_pos (show atV wc2 17 1 (nI p) = atV wc2 19 t (nI k) by rw [el, ec]; exact he.symm), if_pos he, nI_1]
      obtain ⟨v', wc3, wr3, a1, a2, a3, a4, a5⟩ := ih (k + 1) n wc2 wr2 (by omega) (by omega) hB2 hS2 (hZ.th tss) ((tss 29 0 t (by omega) (by omega) (by omega) (by omega)).trans hY)
      exact ⟨v', wc3, wr3, a1, a2, tcc.tr a3, tss.tr a4, a5⟩
    · rw [if_neg (show ¬ atV wc2 17 1 (nI p) = atV wc2 19 t (nI k) by rw [el, ec]; exact fun z => he z.symm), if_neg he]
      refine ⟨nI k, wc2, wr2, rfl, ?_, tcc, tss, Or.inr ⟨k, by omega, rfl⟩⟩
      obtain ⟨n, rfl⟩ : ∃ m, n = m + 1 := ⟨n - 1, by omega⟩
      unfold h_X5_unlike_10
      have hne : ¬ nI k = -1 := fun z => absurd (show nI k < 0 by rw [z]; decide) (nI_pos (by omega))
      rw [if_pos (nI_in ht (by omega)), if_neg hne]
      split <;> rfl
theorem other_both {N M s Z t Y p : Nat} {CC : Nat → Nat → List Int32} {wc wr : Mem} (hs : s < 4) (ht : t < 4) (hYZ : Y ≤ Z) (hP : p < N) (hB : Bo 1 N M CC wc wr) (hS : SR wc wr) (hZ : Sn s Z wr) (hY : wr 29 0 t = nI Y) : ∃ (v : Int32) (wc' wr' : Mem), f_X4_otherwise (nI s) (nI t) (nI p) wc = some (v, wc') ∧ f_X5_unlike (nI s) (nI t) (nI p) wr = some (v, wr') ∧ ThC 1 wc wc' ∧ QR wr wr' ∧ FR wr wr' ∧ (v = -1 ∨ ∃ q, q < 41 ∧ v = nI q) := by
  obtain ⟨wr1, r1, kp1⟩ := keeps_r wr
  have hB1 : Bo 1 N M CC wc wr1 := Kp.bo hB kp1
  have hS1 : SR wc wr1 := hS.q .rf kp1.q
  have hZ1 : Sn s Z wr1 := ⟨hZ.1, (kp1.2.2.2 29 0 s (by decide)).trans hZ.2.1, fun j hj => by rw [kp1.2.2.2 30 0 _ (by decide)]; exact hZ.2.2 j hj⟩
  have hZ40 := hZ.1
  obtain ⟨v, wc2, wr2, c2, r2, tc2, ts2, hv⟩ := other_loop hs ht hYZ hP (fun x4_11 w12 => Option.bind (f_X5_lays w12) (fun r13 => some (x4_11, r13))) Y 0 FU wc wr1 (by omega) (by show Y < 1000000; omega) hB1 hS1 hZ1 ((kp1.2.2.2 29 0 t (by decide)).trans hY)
  obtain ⟨wr3, r3, q3, f3, -⟩ := lays_r kp1 ts2
  refine ⟨v, wc2, wr3, ?_, ?_, tc2, q3, (kp1.f.tr ts2.f).tr f3, hv⟩
  · unfold f_X4_otherwise
    rw [rowF_n hs, rowF_n ht, oe_s, oe_s]
    exact c2
  · unfold f_X5_unlike
    rw [r1, ob]
    refine r2.trans ?_
    rw [r3, ob]
theorem b_judge (a1 a2 a3 : Int32) : Both (f_X4_judge a1 a2 a3) (f_X5_judge a1 a2 a3) := by
  intro wc wr hR
  obtain ⟨N, M, CC, hB, hT, hS, hP, hI⟩ := id hR
  obtain ⟨v, e1, e2, e3⟩ := told_ref hB hS a1 a2 a3
  unfold f_X4_judge f_X5_judge
  rw [e1, e2, ob, ob]
  dsimp only
  by_cases hv : v = 0
  · obtain ⟨s, Z, t, Y, p, hs, rfl, hZ, ht, rfl, hYZ, hY, hp, rfl⟩ := e3 hv
    obtain ⟨wc1, c1, as1⟩ := become_c (i := 1) (j := 0) (by decide) wc
    obtain ⟨u, wc2, wr2, c2, r2, tc2, q2, f2, -⟩ := other_both hs ht hYZ hp (hB.as as1) (hS.q as1.2.2.th.q .rf) hZ hY
    rw [if_pos hv, if_pos hv, c1, ob, c2, r2, ob, ob]
    exact ⟨u, wc2, wr2, rfl, rfl, hR.q (as1.2.2.th.q.tr tc2.q) q2, (as1.2.2.th.f).tr tc2.f, f2⟩
  · rw [if_neg hv, if_neg hv]
    exact ⟨v, wc, wr, rfl, rfl, hR, .rf, .rf⟩
