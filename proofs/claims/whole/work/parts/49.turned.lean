/-! turned, lucks, whose, laws -/
theorem turned_loop {N M s Z t Y p : Nat} {CC : Nat → Nat → List Int32} {wc0 wr0 : Mem} (hs : s < 4) (ht : t < 4) (hYZ : Y ≤ Z) (hP : p < N) (hB : Bo 0 N M CC wc0 wr0) (hS : SR wc0 wr0) (hZ : Sn s Z wr0) (hY : wr0 29 0 t = nI Y) (kc kr : Int32 → Mem → Option (Int32 × Mem)) : ∀ (r k n : Nat) (acc : Int32) (wc wr : Mem), k + r = 16 → r < n → QC wc0 wc → QX (fun a b c => a = 22 ∧ b = 0 ∧ c = 3 * p) wr0 wr → ∃ (v : Int32) (wc' wr' : Mem), h_X4_turned_23 (nI s) (nI t) (nI p) kc n acc (nI k) wc = kc v wc' ∧ h_X5_turned_33 (nI s) (nI t) (nI p) (wr0 22 0 (3 * p)) kr n acc (nI k) wr = kr v wr' ∧ QC wc0 wc' ∧ QX (fun a b c => a = 22 ∧ b = 0 ∧ c = 3 * p) wr0 wr' ∧ FC wc wc' ∧ FR wr wr' := by
  have hN := hB.1.1
  have hp6 : p < 6 := by omega
  have ip : inB (nI p) 6 := nI_in hp6 (by omega)
  have tp : tn (nI p) = p := nI_clamp (by omega)
  have i0 : inB (nI (3 * p)) 18 := nI_in (by omega) (by omega)
  have t0 : tn (nI (3 * p)) = 3 * p := nI_clamp (by omega)
  have i2 : inB (nI (3 * p + 2)) 18 := nI_in (by omega) (by omega)
  have t2 : tn (nI (3 * p + 2)) = 3 * p + 2 := nI_clamp (by omega)
  obtain ⟨g1, g2, g3, g4, g5, g6, g7, g8⟩ := hB.1
  obtain ⟨k1, k2, k3, k4, k5, k6, k7, k8, k9⟩ := g8 p hP
  have hPX : PX (fun a b c => a = 22 ∧ b = 0 ∧ c = 3 * p) := fun a b c h => by omega
  intro r
  induction r with
  | zero =>
    intro k n acc wc wr hk hn hc hr
    obtain ⟨n, rfl⟩ : ∃ m, n = m + 1 := ⟨n - 1, by omega⟩
    have e : k = 16 := by omega
    subst e
    refine ⟨acc, wc, wr, ?_, ?_, hc, hr, .rf, .rf⟩
    · unfold h_X4_turned_23
      rw [if_neg nI_nlt16]
    · unfold h_X5_turned_33
      rw [if_neg nI_nlt16]
  | succ r ih =>
    intro k n acc wc wr hk hn hc hr
    obtain ⟨n, rfl⟩ : ∃ m, n = m + 1 := ⟨n - 1, by omega⟩
    obtain ⟨r1, c1, as1⟩ := become_c (i := 1) (j := 0) (by decide) wc
    obtain ⟨o1, o2, o3, o4⟩ := as1.o hc
    have hr' : QX (fun a b c => a = 22 ∧ b = 0 ∧ c = 3 * p) wr0 (up wr 22 0 (3 * p) (wr0 22 0 (3 * p) ^^^ shlI 1 (nI k))) := hr.up ⟨rfl, rfl, rfl⟩
    have tc : ThC 1 r1 (up r1 15 1 p (wr0 22 0 (3 * p) ^^^ shlI 1 (nI k))) := ThC.rf.up (by omega)
    have n22 : ∀ c, c < 18 → c ≠ 3 * p → (up wr 22 0 (3 * p) (wr0 22 0 (3 * p) ^^^ shlI 1 (nI k))) 22 0 c = wr0 22 0 c := fun c h hx => hr' 22 0 c (Or.inr (Or.inl ⟨rfl, rfl, h⟩)) (fun z => hx z.2.2)
    have n5 : ∀ c, (c = 0 ∨ c = 4 ∨ c = 5 ∨ c = 7 ∨ c = 10 ∨ c = 11 ∨ c = 12) → (up wr 22 0 (3 * p) (wr0 22 0 (3 * p) ^^^ shlI 1 (nI k))) 5 0 c = wr0 5 0 c := fun c h => hr' 5 0 c (Or.inl ⟨rfl, rfl, h⟩) (fun z => by omega)
    have nq : ∀ a q, (a = 20 ∨ a = 21) → (up wr 22 0 (3 * p) (wr0 22 0 (3 * p) ^^^ shlI 1 (nI k))) a 0 q = wr0 a 0 q := fun a q ha => hr' a 0 q (Or.inr (Or.inr (by omega))) (fun z => by omega)
    have ns : (up wr 22 0 (3 * p) (wr0 22 0 (3 * p) ^^^ shlI 1 (nI k))) 22 0 (3 * p) = wr0 22 0 (3 * p) ^^^ shlI 1 (nI k) := up_s _ _ _ _ _
    have hrf : FR wr (up wr 22 0 (3 * p) (wr0 22 0 (3 * p) ^^^ shlI 1 (nI k))) := FR.rf.up (by omega)
    have hB1 : Bo 1 N M CC (up r1 15 1 p (wr0 22 0 (3 * p) ^^^ shlI 1 (nI k))) (up wr 22 0 (3 * p) (wr0 22 0 (3 * p) ^^^ shlI 1 (nI k))) := by
      refine ⟨CR.mod (p := p) hB.1 ?_ ?_ ?_ ?_ (n5 0 (by omega)) (n5 4 (by omega)) (n5 5 (by omega)) (fun q hq hqp => ⟨fun a ha => ?_, nq 20 q (by omega), nq 21 q (by omega), n22 _ (by omega) (by omega), n22 _ (by omega) (by omega), n22 _ (by omega) (by omega)⟩) ⟨?_, ?_, ?_, ?_, ?_, ?_, ?_, ?_, ?_⟩, hB.2.1.x (o3.tr tc.q) hr' hPX, hB.2.2.of (n5 11 (by omega))⟩
      · rw [up_k (by decide)]; exact o1 2 (by omega)
      · rw [up_k (by decide)]; exact o1 3 (by omega)
      · rw [up_k (by decide)]; exact o1 4 (by omega)
      · rw [up_k (by decide), n5 11 (by omega)]; exact (o1 5 (by omega)).trans g7
      · rw [up_j hqp]; exact o2 a q ha (by omega)
      · rw [nq 20 p (by omega), up_k (by decide)]; exact (o2 13 p (by omega) hp6).trans k1
      · rw [nq 21 p (by omega), up_k (by decide)]; exact (o2 14 p (by omega) hp6).trans k2
      · rw [ns, up_s]
      · rw [up_k (by decide), n22 _ (by omega) (by omega)]; exact (o2 16 p (by omega) hp6).trans k4
      · rw [up_k (by decide), n22 _ (by omega) (by omega)]; exact (o2 17 p (by omega) hp6).trans k5
      · rw [ns]; exact k6.xor (.bit (by omega))
      · rw [n22 _ (by omega) (by omega)]; exact k7
      · rw [n22 _ (by omega) (by omega)]; exact k8
      · rw [nq 21 p (by omega)]; exact k9
    obtain ⟨v, wc2, wr2, a1, a2, a3, a4, a5, a6⟩ := iter hPX hs ht hYZ hP hS hZ hY hB1 (o3.tr tc.q) hr'
    have ea : atV r1 15 0 (nI p) = wr0 22 0 (3 * p) := (atV_n r1 0 (show p < lenK 15 from hp6) (by decide)).trans ((o3.1 15 0 p (by omega) (by decide)).trans k3)
    have s0 : ∀ v, setV r1 15 1 (nI p) v = up r1 15 1 p v := fun v => setV_n r1 1 v hp6 (by decide)
    unfold h_X4_turned_23 h_X5_turned_33
    rw [if_pos (nI_lt16 (by omega)), if_pos (nI_lt16 (by omega)), c1, ob, ea, s0, a1, ob, m3, if_pos i0, t0, a2, ob, Int32.or_zero, nI_1]
    dsimp only
    by_cases hv : v = -1
    · rw [if_pos hv, if_pos hv]
      obtain ⟨u, wc3, wr3, b1, b2, b3, b4, b5, b6⟩ := ih (k + 1) n (acc ||| shlI 1 (nI k)) wc2 wr2 (by omega) (by omega) a3 a4
      exact ⟨u, wc3, wr3, b1, b2, b3, b4, (o4.tr (tc.f.tr a5)).tr b5, (hrf.tr a6).tr b6⟩
    · rw [if_neg hv, if_neg hv]
      obtain ⟨u, wc3, wr3, b1, b2, b3, b4, b5, b6⟩ := ih (k + 1) n acc wc2 wr2 (by omega) (by omega) a3 a4
      exact ⟨u, wc3, wr3, b1, b2, b3, b4, (o4.tr (tc.f.tr a5)).tr b5, (hrf.tr a6).tr b6⟩
theorem lucks_loop {N M s Z t Y p : Nat} {CC : Nat → Nat → List Int32} {wc0 wr0 : Mem} (hs : s < 4) (ht : t < 4) (hYZ : Y ≤ Z) (hP : p < N) (hB : Bo 0 N M CC wc0 wr0) (hS : SR wc0 wr0) (hZ : Sn s Z wr0) (hY : wr0 29 0 t = nI Y) (x4 : Int32) (kc kr : Int32 → Int32 → Mem → Option (Int32 × Mem)) : ∀ (r k n : Nat) (acc ac2 : Int32) (wc wr : Mem), (ac2 = -1 ∨ ∃ q, q < 100 ∧ ac2 = nI q) → k + r = 100 → r < n → QC wc0 wc → QX (fun a b c => a = 22 ∧ b = 0 ∧ c = 3 * p + 2) wr0 wr → ∃ (v u : Int32) (wc' wr' : Mem), h_X4_lucks_40 (nI s) (nI t) (nI p) x4 kc n acc ac2 (nI k) wc = kc v u wc' ∧ h_X5_lucks_51 (nI s) (nI t) (nI p) x4 (wr0 22 0 (3 * p + 2)) kr n acc ac2 (nI k) wr = kr v u wr' ∧ QC wc0 wc' ∧ QX (fun a b c => a = 22 ∧ b = 0 ∧ c = 3 * p + 2) wr0 wr' ∧ FC wc wc' ∧ FR wr wr' := by
  have hN := hB.1.1
  have hp6 : p < 6 := by omega
  have ip : inB (nI p) 6 := nI_in hp6 (by omega)
  have tp : tn (nI p) = p := nI_clamp (by omega)
  have i0 : inB (nI (3 * p)) 18 := nI_in (by omega) (by omega)
  have t0 : tn (nI (3 * p)) = 3 * p := nI_clamp (by omega)
  have i2 : inB (nI (3 * p + 2)) 18 := nI_in (by omega) (by omega)
  have t2 : tn (nI (3 * p + 2)) = 3 * p + 2 := nI_clamp (by omega)
  obtain ⟨g1, g2, g3, g4, g5, g6, g7, g8⟩ := hB.1
  obtain ⟨k1, k2, k3, k4, k5, k6, k7, k8, k9⟩ := g8 p hP
  have hPX : PX (fun a b c => a = 22 ∧ b = 0 ∧ c = 3 * p + 2) := fun a b c h => by omega
  intro r
  induction r with
  | zero =>
    intro k n acc ac2 wc wr hac hk hn hc hr
    obtain ⟨n, rfl⟩ : ∃ m, n = m + 1 := ⟨n - 1, by omega⟩
    have e : k = 100 := by omega
    subst e
    refine ⟨acc, ac2, wc, wr, ?_, ?_, hc, hr, .rf, .rf⟩
    · unfold h_X4_lucks_40
      rw [if_neg (show ¬ nI 100 ≤ 99 by decide)]
    · unfold h_X5_lucks_51
      rw [if_neg (show ¬ nI 100 ≤ 99 by decide)]
  | succ r ih =>
    intro k n acc ac2 wc wr hac hk hn hc hr
    obtain ⟨n, rfl⟩ : ∃ m, n = m + 1 := ⟨n - 1, by omega⟩
    obtain ⟨r1, c1, as1⟩ := become_c (i := 1) (j := 0) (by decide) wc
    obtain ⟨o1, o2, o3, o4⟩ := as1.o hc
    have hr' : QX (fun a b c => a = 22 ∧ b = 0 ∧ c = 3 * p + 2) wr0 (up wr 22 0 (3 * p + 2) (nI k)) := hr.up ⟨rfl, rfl, rfl⟩
    have tc : ThC 1 r1 (up r1 17 1 p (nI k)) := ThC.rf.up (by omega)
    have n22 : ∀ c, c < 18 → c ≠ 3 * p + 2 → (up wr 22 0 (3 * p + 2) (nI k)) 22 0 c = wr0 22 0 c := fun c h hx => hr' 22 0 c (Or.inr (Or.inl ⟨rfl, rfl, h⟩)) (fun z => hx z.2.2)
    have n5 : ∀ c, (c = 0 ∨ c = 4 ∨ c = 5 ∨ c = 7 ∨ c = 10 ∨ c = 11 ∨ c = 12) → (up wr 22 0 (3 * p + 2) (nI k)) 5 0 c = wr0 5 0 c := fun c h => hr' 5 0 c (Or.inl ⟨rfl, rfl, h⟩) (fun z => by omega)
    have nq : ∀ a q, (a = 20 ∨ a = 21) → (up wr 22 0 (3 * p + 2) (nI k)) a 0 q = wr0 a 0 q := fun a q ha => hr' a 0 q (Or.inr (Or.inr (by omega))) (fun z => by omega)
    have ns : (up wr 22 0 (3 * p + 2) (nI k)) 22 0 (3 * p + 2) = nI k := up_s _ _ _ _ _
    have hrf : FR wr (up wr 22 0 (3 * p + 2) (nI k)) := FR.rf.up (by omega)
    have hB1 : Bo 1 N M CC (up r1 17 1 p (nI k)) (up wr 22 0 (3 * p + 2) (nI k)) := by
      refine ⟨CR.mod (p := p) hB.1 ?_ ?_ ?_ ?_ (n5 0 (by omega)) (n5 4 (by omega)) (n5 5 (by omega)) (fun q hq hqp => ⟨fun a ha => ?_, nq 20 q (by omega), nq 21 q (by omega), n22 _ (by omega) (by omega), n22 _ (by omega) (by omega), n22 _ (by omega) (by omega)⟩) ⟨?_, ?_, ?_, ?_, ?_, ?_, ?_, ?_, ?_⟩, hB.2.1.x (o3.tr tc.q) hr' hPX, hB.2.2.of (n5 11 (by omega))⟩
      · rw [up_k (by decide)]; exact o1 2 (by omega)
      · rw [up_k (by decide)]; exact o1 3 (by omega)
      · rw [up_k (by decide)]; exact o1 4 (by omega)
      · rw [up_k (by decide), n5 11 (by omega)]; exact (o1 5 (by omega)).trans g7
      · rw [up_j hqp]; exact o2 a q ha (by omega)
      · rw [nq 20 p (by omega), up_k (by decide)]; exact (o2 13 p (by omega) hp6).trans k1
      · rw [nq 21 p (by omega), up_k (by decide)]; exact (o2 14 p (by omega) hp6).trans k2
      · rw [up_k (by decide), n22 _ (by omega) (by omega)]; exact (o2 15 p (by omega) hp6).trans k3
      · rw [up_k (by decide), n22 _ (by omega) (by omega)]; exact (o2 16 p (by omega) hp6).trans k4
      · rw [ns, up_s]
      · rw [n22 _ (by omega) (by omega)]; exact k6
      · rw [n22 _ (by omega) (by omega)]; exact k7
      · rw [ns]; exact ⟨nI_pos' (by omega), nI_le (a := k) (b := 99) (by omega) (by omega)⟩
      · rw [nq 21 p (by omega)]; exact k9
    obtain ⟨v, wc2, wr2, a1, a2, a3, a4, a5, a6⟩ := iter hPX hs ht hYZ hP hS hZ hY hB1 (o3.tr tc.q) hr'
    have s0 : ∀ v, setV r1 17 1 (nI p) v = up r1 17 1 p v := fun v => setV_n r1 1 v hp6 (by decide)
    have hk99 : nI k ≤ 99 := nI_le (a := k) (b := 99) (by omega) (by omega)
    unfold h_X4_lucks_40 h_X5_lucks_51
    rw [if_pos hk99, if_pos hk99, c1, ob, s0, a1, ob, m32, if_pos i2, t2, a2, ob]
    dsimp only
    unfold j_X5_lucks_86
    rw [if_neg (show ¬ (1 : Int32) = 0 by decide), if_pos (show (0 : Int32) = 0 from rfl)]
    unfold j_X5_lucks_100
    rw [if_neg (show ¬ (1 : Int32) = 0 by decide), if_pos (show (0 : Int32) = 0 from rfl), nI_1, Int32.add_zero]
    have hn1 : ac2 < 0 ↔ ac2 = -1 := by
      rcases hac with rfl | ⟨q, hq, rfl⟩
      · exact ⟨fun _ => rfl, fun _ => by decide⟩
      · exact ⟨fun z => absurd z (nI_pos (by omega)), fun z => absurd (show nI q < 0 by rw [z]; decide) (nI_pos (by omega))⟩
    by_cases hv : v = -1
    · rw [if_pos hv, if_pos hv]
      by_cases h2 : ac2 = -1
      · rw [if_pos (hn1.mpr h2), if_pos h2]
        obtain ⟨u, u2, wc3, wr3, b1, b2, b3, b4, b5, b6⟩ := ih (k + 1) n (acc + 1) (nI k) wc2 wr2 (Or.inr ⟨k, by omega, rfl⟩) (by omega) (by omega) a3 a4
        exact ⟨u, u2, wc3, wr3, b1, b2, b3, b4, (o4.tr (tc.f.tr a5)).tr b5, (hrf.tr a6).tr b6⟩
      · rw [if_neg (fun z => h2 (hn1.mp z)), if_neg h2]
        obtain ⟨u, u2, wc3, wr3, b1, b2, b3, b4, b5, b6⟩ := ih (k + 1) n (acc + 1) ac2 wc2 wr2 hac (by omega) (by omega) a3 a4
        exact ⟨u, u2, wc3, wr3, b1, b2, b3, b4, (o4.tr (tc.f.tr a5)).tr b5, (hrf.tr a6).tr b6⟩
    · rw [if_neg hv, if_neg hv]
      obtain ⟨u, u2, wc3, wr3, b1, b2, b3, b4, b5, b6⟩ := ih (k + 1) n acc ac2 wc2 wr2 hac (by omega) (by omega) a3 a4
      exact ⟨u, u2, wc3, wr3, b1, b2, b3, b4, (o4.tr (tc.f.tr a5)).tr b5, (hrf.tr a6).tr b6⟩
theorem whose_loop {N M s Z t Y : Nat} {CC : Nat → Nat → List Int32} {wc0 wr0 : Mem} (hs : s < 4) (ht : t < 4) (hYZ : Y ≤ Z) (hB : Bo 0 N M CC wc0 wr0) (hS : SR wc0 wr0) (hZ : Sn s Z wr0) (hY : wr0 29 0 t = nI Y) (kc kr : Int32 → Mem → Option (Int32 × Mem)) : ∀ (r k n : Nat) (acc : Int32) (wc wr : Mem), k + r = N → r < n → QC wc0 wc → QR wr0 wr → ∃ (v : Int32) (wc' wr' : Mem), h_X4_whose_19 (nI s) (nI t) kc n acc (nI k) wc = kc v wc' ∧ h_X5_whose_19 (nI s) (nI t) kr n acc (nI k) wr = kr v wr' ∧ QC wc0 wc' ∧ QR wr0 wr' ∧ FC wc wc' ∧ FR wr wr' := by
  obtain ⟨g1, g2, g3, g4, g5, g6, g7, g8⟩ := hB.1
  intro r
  induction r with
  | zero =>
    intro k n acc wc wr hk hn hc hr
    obtain ⟨n, rfl⟩ : ∃ m, n = m + 1 := ⟨n - 1, by omega⟩
    refine ⟨acc, wc, wr, ?_, ?_, hc, hr, .rf, .rf⟩
    · unfold h_X4_whose_19
      rw [hc.1 0 0 2 (by omega) (by omega), g2, if_neg (nI_nlt (by omega) (by omega))]
    · unfold h_X5_whose_19
      rw [hr.1 0 (by omega), g3, if_neg (nI_nlt (by omega) (by omega))]
  | succ r ih =>
    intro k n acc wc wr hk hn hc hr
    obtain ⟨n, rfl⟩ : ∃ m, n = m + 1 := ⟨n - 1, by omega⟩
    obtain ⟨r1, c1, as1⟩ := become_c (i := 1) (j := 0) (by decide) wc
    have qc1 : QC wc0 r1 := hc.tr as1.2.2.th.q
    obtain ⟨v, wc2, wr2, a1, a2, a3, a4, a5, -⟩ := other_both (p := k) hs ht hYZ (by omega) ((hB.q hc hr).as as1) (hS.q qc1 hr) ⟨hZ.1, (hr.2.2 29 0 s (by omega)).trans hZ.2.1, fun j hj => by rw [hr.2.2 30 0 _ (by omega)]; exact hZ.2.2 j hj⟩ ((hr.2.2 29 0 t (by omega)).trans hY)
    unfold h_X4_whose_19 h_X5_whose_19
    rw [hc.1 0 0 2 (by omega) (by omega), g2, if_pos (nI_lt (by omega) (by omega)), hr.1 0 (by omega), g3, if_pos (nI_lt (by omega) (by omega)), c1, ob, a1, ob, a2, ob, Int32.or_zero, nI_1]
    dsimp only
    by_cases hv : v = -1
    · rw [if_pos hv, if_pos hv]
      obtain ⟨u, wc3, wr3, b1, b2, b3, b4, b5, b6⟩ := ih (k + 1) n (acc ||| shlI 1 (nI k)) wc2 wr2 (by omega) (by omega) (qc1.tr a3.q) (hr.tr a4)
      exact ⟨u, wc3, wr3, b1, b2, b3, b4, (as1.2.2.th.f.tr a3.f).tr b5, a5.tr b6⟩
    · rw [if_neg hv, if_neg hv]
      obtain ⟨u, wc3, wr3, b1, b2, b3, b4, b5, b6⟩ := ih (k + 1) n acc wc2 wr2 (by omega) (by omega) (qc1.tr a3.q) (hr.tr a4)
      exact ⟨u, wc3, wr3, b1, b2, b3, b4, (as1.2.2.th.f.tr a3.f).tr b5, a5.tr b6⟩
theorem laws_loop {N M s Z t Y p : Nat} {CC : Nat → Nat → List Int32} {wc0 wr0 : Mem} (hs : s < 4) (ht : t < 4) (hYZ : Y ≤ Z) (hP : p < N) (hB : Bo 0 N M CC wc0 wr0) (hS : SR wc0 wr0) (hZ : Sn s Z wr0) (hY : wr0 29 0 t = nI Y) (x5 : Int32) (kc kr : Int32 → Mem → Option (Int32 × Mem)) : ∀ (r k n : Nat) (acc : Int32) (wc wr : Mem), k + r = M → r < n → QC wc0 wc → QX (fun a b c => a = 5 ∧ b = 0 ∧ c = 11) wr0 wr → ∃ (v : Int32) (wc' wr' : Mem), h_X4_laws_23 (nI s) (nI t) (nI p) kc n acc (nI k) wc = kc v wc' ∧ h_X5_laws_29 (nI s) (nI t) (nI p) x5 kr n acc (nI k) wr = kr v wr' ∧ QC wc0 wc' ∧ QX (fun a b c => a = 5 ∧ b = 0 ∧ c = 11) wr0 wr' ∧ FC wc wc' ∧ FR wr wr' := by
  have hN := hB.1.1
  have hp6 : p < 6 := by omega
  have ip : inB (nI p) 6 := nI_in hp6 (by omega)
  have tp : tn (nI p) = p := nI_clamp (by omega)
  have i0 : inB (nI (3 * p)) 18 := nI_in (by omega) (by omega)
  have t0 : tn (nI (3 * p)) = 3 * p := nI_clamp (by omega)
  have i2 : inB (nI (3 * p + 2)) 18 := nI_in (by omega) (by omega)
  have t2 : tn (nI (3 * p + 2)) = 3 * p + 2 := nI_clamp (by omega)
  obtain ⟨g1, g2, g3, g4, g5, g6, g7, g8⟩ := hB.1
  obtain ⟨k1, k2, k3, k4, k5, k6, k7, k8, k9⟩ := g8 p hP
  have hPX : PX (fun a b c => a = 5 ∧ b = 0 ∧ c = 11) := fun a b c h => by omega
  have hM := hB.2.1.1
  have hm1 := hB.2.1.2.1
  have hm2 := hB.2.1.2.2.1
  intro r
  induction r with
  | zero =>
    intro k n acc wc wr hk hn hc hr
    obtain ⟨n, rfl⟩ : ∃ m, n = m + 1 := ⟨n - 1, by omega⟩
    refine ⟨acc, wc, wr, ?_, ?_, hc, hr, .rf, .rf⟩
    · unfold h_X4_laws_23
      rw [hc.2.1 3 0 0 (by omega), hm1, if_neg (nI_nlt (by omega) (by omega))]
    · unfold h_X5_laws_29
      rw [hr.f5 hPX 10 (by omega), hm2, if_neg (nI_nlt (by omega) (by omega))]
  | succ r ih =>
    intro k n acc wc wr hk hn hc hr
    obtain ⟨n, rfl⟩ : ∃ m, n = m + 1 := ⟨n - 1, by omega⟩
    obtain ⟨r1, c1, as1⟩ := become_c (i := 1) (j := 0) (by decide) wc
    obtain ⟨o1, o2, o3, o4⟩ := as1.o hc
    have hr' : QX (fun a b c => a = 5 ∧ b = 0 ∧ c = 11) wr0 (up wr 5 0 11 (nI k)) := hr.up ⟨rfl, rfl, rfl⟩
    have tc : ThC 1 r1 (up r1 0 1 5 (nI k)) := ThC.rf.up (by omega)
    have n22 : ∀ c, c < 18 → (up wr 5 0 11 (nI k)) 22 0 c = wr0 22 0 c := fun c h => hr' 22 0 c (Or.inr (Or.inl ⟨rfl, rfl, h⟩)) (fun z => by omega)
    have n5 : ∀ c, (c = 0 ∨ c = 4 ∨ c = 5 ∨ c = 7 ∨ c = 10 ∨ c = 12) → (up wr 5 0 11 (nI k)) 5 0 c = wr0 5 0 c := fun c h => hr' 5 0 c (Or.inl ⟨rfl, rfl, by omega⟩) (fun z => by omega)
    have nq : ∀ a q, (a = 20 ∨ a = 21) → (up wr 5 0 11 (nI k)) a 0 q = wr0 a 0 q := fun a q ha => hr' a 0 q (Or.inr (Or.inr (by omega))) (fun z => by omega)
    have ns : (up wr 5 0 11 (nI k)) 5 0 11 = nI k := up_s _ _ _ _ _
    have hrf : FR wr (up wr 5 0 11 (nI k)) := FR.rf.up (by omega)
    have hB1 : Bo 1 N M CC (up r1 0 1 5 (nI k)) (up wr 5 0 11 (nI k)) := by
      refine ⟨CR.mod (p := p) hB.1 ?_ ?_ ?_ ?_ (n5 0 (by omega)) (n5 4 (by omega)) (n5 5 (by omega)) (fun q hq hqp => ⟨fun a ha => ?_, nq 20 q (by omega), nq 21 q (by omega), n22 _ (by omega), n22 _ (by omega), n22 _ (by omega)⟩) ⟨?_, ?_, ?_, ?_, ?_, ?_, ?_, ?_, ?_⟩, hB.2.1.x (o3.tr tc.q) hr' hPX, ⟨k, by omega, ns⟩⟩
      · rw [up_j (by decide)]; exact o1 2 (by omega)
      · rw [up_j (by decide)]; exact o1 3 (by omega)
      · rw [up_j (by decide)]; exact o1 4 (by omega)
      · rw [ns, up_s]
      · rw [up_k (by omega)]; exact o2 a q ha (by omega)
      · rw [nq 20 p (by omega), up_k (by decide)]; exact (o2 13 p (by omega) hp6).trans k1
      · rw [nq 21 p (by omega), up_k (by decide)]; exact (o2 14 p (by omega) hp6).trans k2
      · rw [up_k (by decide), n22 _ (by omega)]; exact (o2 15 p (by omega) hp6).trans k3
      · rw [up_k (by decide), n22 _ (by omega)]; exact (o2 16 p (by omega) hp6).trans k4
      · rw [up_k (by decide), n22 _ (by omega)]; exact (o2 17 p (by omega) hp6).trans k5
      · rw [n22 _ (by omega)]; exact k6
      · rw [n22 _ (by omega)]; exact k7
      · rw [n22 _ (by omega)]; exact k8
      · rw [nq 21 p (by omega)]; exact k9
    obtain ⟨v, wc2, wr2, a1, a2, a3, a4, a5, a6⟩ := iter hPX hs ht hYZ hP hS hZ hY hB1 (o3.tr tc.q) hr'
    unfold h_X4_laws_23 h_X5_laws_29
    rw [hc.2.1 3 0 0 (by omega), hm1, if_pos (nI_lt (by omega) (by omega)), hr.f5 hPX 10 (by omega), hm2, if_pos (nI_lt (by omega) (by omega)), c1, ob, a1, ob, a2, ob, Int32.or_zero, nI_1]
    dsimp only
    by_cases hv : v = -1
    · rw [if_pos hv, if_pos hv]
      obtain ⟨u, wc3, wr3, b1, b2, b3, b4, b5, b6⟩ := ih (k + 1) n (acc ||| shlI 1 (nI k)) wc2 wr2 (by omega) (by omega) a3 a4
      exact ⟨u, wc3, wr3, b1, b2, b3, b4, (o4.tr (tc.f.tr a5)).tr b5, (hrf.tr a6).tr b6⟩
    · rw [if_neg hv, if_neg hv]
      obtain ⟨u, wc3, wr3, b1, b2, b3, b4, b5, b6⟩ := ih (k + 1) n acc wc2 wr2 (by omega) (by omega) a3 a4
      exact ⟨u, wc3, wr3, b1, b2, b3, b4, (o4.tr (tc.f.tr a5)).tr b5, (hrf.tr a6).tr b6⟩
theorem rng_01c {x : Int32} : (rng x 0 1 = 0 ∧ ¬ x = 0 ∧ ¬ x = 1) ∨ (x = 0 ∧ ¬ rng x 0 1 = 0) ∨ (x = 1 ∧ ¬ rng x 0 1 = 0) := by
  by_cases h : 0 ≤ x ∧ x ≤ 1
  · obtain ⟨t, ht, rfl⟩ := nI_of2 (M := 1) (n := 1) rfl (Int32.not_lt.mpr h.1) h.2
    match t, ht with
    | 0, _ => exact Or.inr (Or.inl ⟨rfl, fun z => rng_0.mp z h⟩)
    | 1, _ => exact Or.inr (Or.inr ⟨rfl, fun z => rng_0.mp z h⟩)
  · refine Or.inl ⟨rng_0.mpr h, fun z => h ?_, fun z => h ?_⟩
    · subst z; exact ⟨by decide, by decide⟩
    · subst z; exact ⟨by decide, by decide⟩
theorem b_kinds (a1 a2 a3 a4 : Int32) : Both (f_X4_kinds a1 a2 a3 a4) (f_X5_kinds a1 a2 a3 a4) := by
  intro wc wr hR
  obtain ⟨N, M, CC, hB, hT, hS, hPR, hI⟩ := id hR
  obtain ⟨v, e1, e2, e3⟩ := told_ref hB hS a1 a2 a3
  unfold f_X4_kinds f_X5_kinds
  rw [e1, e2, ob, ob]
  dsimp only
  by_cases hv : v = 0
  · obtain ⟨s, Z, t, Y, p, hs, rfl, hZ, ht, rfl, hYZ, hY, hp, rfl⟩ := e3 hv
    rw [if_pos hv, if_pos hv]
    have hN := hB.1.1
    have hp6 : p < 6 := by omega
    have ip : inB (nI p) 6 := nI_in hp6 (by omega)
    have tp : tn (nI p) = p := nI_clamp (by omega)
    have i0 : inB (nI (3 * p)) 18 := nI_in (by omega) (by omega)
    have t0 : tn (nI (3 * p)) = 3 * p := nI_clamp (by omega)
    have i2 : inB (nI (3 * p + 2)) 18 := nI_in (by omega) (by omega)
    have t2 : tn (nI (3 * p + 2)) = 3 * p + 2 := nI_clamp (by omega)
    rcases rng_01c (x := a4) with ⟨h1, h2, h3⟩ | ⟨rfl, h1⟩ | ⟨rfl, h1⟩
    · rw [if_neg h2, if_neg h3, if_pos h1]
      exact ⟨-7, wc, wr, rfl, rfl, hR, .rf, .rf⟩
    · obtain ⟨u, wc2, wr2, c2, r2, qc, qx, fc, fr⟩ := kinds0_loop hs ht hYZ hp hB hS hZ hY (fun x6_12 w13 => some (x6_12, w13)) (fun x8_14 w15 => if inB (nI p) 6 then (if inB (nI p) 6 then (some (x8_14, up (up w15 20 0 p (wr 20 0 p)) 21 0 p (wr 21 0 p))) else none) else none) 6 0 FU 0 wc wr (by omega) (by show 6 < 1000000; omega) .rf .rf
      rw [show nI 0 = 0 from rfl] at c2 r2
      unfold j_X4_kinds_31 j_X4_kinds_46
      simp only [show ¬ (1 : Int32) = 0 by decide, if_true, if_false]
      rw [c2, if_neg h1, if_pos ip, if_pos ip, tp, r2, if_pos ip, if_pos ip]
      refine ⟨u, wc2, _, rfl, rfl, hR.q qc (QX.q fun a b c hr => ?_), fc, (fr.up (by omega)).up (by omega)⟩
      by_cases hx : (a = 20 ∨ a = 21) ∧ b = 0 ∧ c = p
      · obtain ⟨ha, rfl, rfl⟩ := hx
        rcases ha with rfl | rfl
        · rw [up_k (by decide), up_s]
        · rw [up_s]
      · rw [up_n (fun z => hx ⟨by omega, z.2.1, z.2.2⟩), up_n (fun z => hx ⟨by omega, z.2.1, z.2.2⟩)]
        exact qx a b c hr hx
    · obtain ⟨u, wc2, wr2, c2, r2, qc, qx, fc, fr⟩ := kinds1_loop hs ht hYZ hp hB hS hZ hY (fun x6_12 w13 => some (x6_12, w13)) (fun x8_14 w15 => if inB (nI p) 6 then (if inB (nI p) 6 then (some (x8_14, up (up w15 20 0 p (wr 20 0 p)) 21 0 p (wr 21 0 p))) else none) else none) 10 0 FU 0 wc wr (by omega) (by show 10 < 1000000; omega) .rf .rf
      rw [show nI 0 = 0 from rfl] at c2 r2
      unfold j_X4_kinds_31 j_X4_kinds_46
      simp only [show ¬ (1 : Int32) = 0 by decide, if_true, if_false]
      rw [c2, if_neg h1, if_pos ip, if_pos ip, tp, r2, if_pos ip, if_pos ip]
      refine ⟨u, wc2, _, rfl, rfl, hR.q qc (QX.q fun a b c hr => ?_), fc, (fr.up (by omega)).up (by omega)⟩
      by_cases hx : (a = 20 ∨ a = 21) ∧ b = 0 ∧ c = p
      · obtain ⟨ha, rfl, rfl⟩ := hx
        rcases ha with rfl | rfl
        · rw [up_k (by decide), up_s]
        · rw [up_s]
      · rw [up_n (fun z => hx ⟨by omega, z.2.1, z.2.2⟩), up_n (fun z => hx ⟨by omega, z.2.1, z.2.2⟩)]
        exact qx a b c hr hx
  · rw [if_neg hv, if_neg hv]
    exact ⟨v, wc, wr, rfl, rfl, hR, .rf, .rf⟩
theorem b_turned (a1 a2 a3 : Int32) : Both (f_X4_turned a1 a2 a3) (f_X5_turned a1 a2 a3) := by
  intro wc wr hR
  obtain ⟨N, M, CC, hB, hT, hS, hPR, hI⟩ := id hR
  obtain ⟨v, e1, e2, e3⟩ := told_ref hB hS a1 a2 a3
  unfold f_X4_turned f_X5_turned
  rw [e1, e2, ob, ob]
  dsimp only
  by_cases hv : v = 0
  · obtain ⟨s, Z, t, Y, p, hs, rfl, hZ, ht, rfl, hYZ, hY, hp, rfl⟩ := e3 hv
    rw [if_pos hv, if_pos hv]
    have hN := hB.1.1
    have hp6 : p < 6 := by omega
    have ip : inB (nI p) 6 := nI_in hp6 (by omega)
    have tp : tn (nI p) = p := nI_clamp (by omega)
    have i0 : inB (nI (3 * p)) 18 := nI_in (by omega) (by omega)
    have t0 : tn (nI (3 * p)) = 3 * p := nI_clamp (by omega)
    have i2 : inB (nI (3 * p + 2)) 18 := nI_in (by omega) (by omega)
    have t2 : tn (nI (3 * p + 2)) = 3 * p + 2 := nI_clamp (by omega)
    obtain ⟨u, wc2, wr2, c2, r2, qc, qx, fc, fr⟩ := turned_loop hs ht hYZ hp hB hS hZ hY (fun x5_7 w8 => some (x5_7, w8)) (fun x6_8 w9 => if inB (nI (3 * p)) 18 then (some (x6_8, up w9 22 0 (3 * p) (wr 22 0 (3 * p)))) else none) 16 0 FU 0 wc wr (by omega) (by show 16 < 1000000; omega) .rf .rf
    rw [show nI 0 = 0 from rfl] at c2 r2
    rw [c2, m3, if_pos i0, t0, r2, if_pos i0]
    refine ⟨u, wc2, _, rfl, rfl, hR.q qc (QX.q fun a b c hr => ?_), fc, fr.up (by omega)⟩
    by_cases hx : a = 22 ∧ b = 0 ∧ c = 3 * p
    · obtain ⟨rfl, rfl, rfl⟩ := hx
      rw [up_s]
    · rw [up_n hx]
      exact qx a b c hr hx
  · rw [if_neg hv, if_neg hv]
    exact ⟨v, wc, wr, rfl, rfl, hR, .rf, .rf⟩
theorem b_lucks (a1 a2 a3 a4 : Int32) : Both (f_X4_lucks a1 a2 a3 a4) (f_X5_lucks a1 a2 a3 a4) := by
  intro wc wr hR
  obtain ⟨N, M, CC, hB, hT, hS, hPR, hI⟩ := id hR
  obtain ⟨v, e1, e2, e3⟩ := told_ref hB hS a1 a2 a3
  unfold f_X4_lucks f_X5_lucks
  rw [e1, e2, ob, ob]
  dsimp only
  by_cases hv : v = 0
  · obtain ⟨s, Z, t, Y, p, hs, rfl, hZ, ht, rfl, hYZ, hY, hp, rfl⟩ := e3 hv
    rw [if_pos hv, if_pos hv]
    have hN := hB.1.1
    have hp6 : p < 6 := by omega
    have ip : inB (nI p) 6 := nI_in hp6 (by omega)
    have tp : tn (nI p) = p := nI_clamp (by omega)
    have i0 : inB (nI (3 * p)) 18 := nI_in (by omega) (by omega)
    have t0 : tn (nI (3 * p)) = 3 * p := nI_clamp (by omega)
    have i2 : inB (nI (3 * p + 2)) 18 := nI_in (by omega) (by omega)
    have t2 : tn (nI (3 * p + 2)) = 3 * p + 2 := nI_clamp (by omega)
    obtain ⟨u, u2, wc2, wr2, c2, r2, qc, qx, fc, fr⟩ := lucks_loop hs ht hYZ hp hB hS hZ hY a4 (fun x6_9 x7_10 w11 => if a4 = 0 then (some (x6_9, w11)) else (some (x7_10, w11))) (fun x7_12 x8_13 w14 => if inB (nI (3 * p + 2)) 18 then (if a4 = 0 then (some (x7_12, up w14 22 0 (3 * p + 2) (wr 22 0 (3 * p + 2)))) else (some (x8_13, up w14 22 0 (3 * p + 2) (wr 22 0 (3 * p + 2))))) else none) 100 0 FU 0 (-1) wc wr (Or.inl rfl) (by omega) (by show 100 < 1000000; omega) .rf .rf
    rw [show nI 0 = 0 from rfl] at c2 r2
    have q3 : QR wr (up wr2 22 0 (3 * p + 2) (wr 22 0 (3 * p + 2))) := QX.q fun a b c hr => by
      by_cases hx : a = 22 ∧ b = 0 ∧ c = 3 * p + 2
      · obtain ⟨rfl, rfl, rfl⟩ := hx
        rw [up_s]
      · rw [up_n hx]
        exact qx a b c hr hx
    have e4 : (if a4 = 0 then j_X4_lucks_31 (nI s) (nI t) (nI p) a4 wc else if a4 = 1 then j_X4_lucks_31 (nI s) (nI t) (nI p) a4 wc else some (-7, wc)) = if a4 = 0 then some (u, wc2) else if a4 = 1 then some (u2, wc2) else some (-7, wc) := by
      unfold j_X4_lucks_31
      rw [c2]
      split
      · rfl
      · rfl
    rw [e4]
    rcases rng_01c (x := a4) with ⟨h1, h2, h3⟩ | ⟨h0, h1⟩ | ⟨h0, h1⟩
    · rw [if_neg h2, if_neg h3, if_pos h1]
      exact ⟨-7, wc, wr, rfl, rfl, hR, .rf, .rf⟩
    · rw [if_pos h0, if_neg h1, m32, if_pos i2, t2, r2, if_pos i2, if_pos h0]
      exact ⟨u, wc2, _, rfl, rfl, hR.q qc q3, fc, fr.up (by omega)⟩
    · have hn0 : ¬ a4 = 0 := by rw [h0]; decide
      rw [if_neg hn0, if_pos h0, if_neg h1, m32, if_pos i2, t2, r2, if_pos i2, if_neg hn0]
      exact ⟨u2, wc2, _, rfl, rfl, hR.q qc q3, fc, fr.up (by omega)⟩
  · rw [if_neg hv, if_neg hv]
    exact ⟨v, wc, wr, rfl, rfl, hR, .rf, .rf⟩
theorem b_laws (a1 a2 a3 : Int32) : Both (f_X4_laws a1 a2 a3) (f_X5_laws a1 a2 a3) := by
  intro wc wr hR
  obtain ⟨N, M, CC, hB, hT, hS, hPR, hI⟩ := id hR
  obtain ⟨v, e1, e2, e3⟩ := told_ref hB hS a1 a2 a3
  unfold f_X4_laws f_X5_laws
  rw [e1, e2, ob, ob]
  dsimp only
  by_cases hv : v = 0
  · obtain ⟨s, Z, t, Y, p, hs, rfl, hZ, ht, rfl, hYZ, hY, hp, rfl⟩ := e3 hv
    rw [if_pos hv, if_pos hv]
    have hN := hB.1.1
    have hp6 : p < 6 := by omega
    have ip : inB (nI p) 6 := nI_in hp6 (by omega)
    have tp : tn (nI p) = p := nI_clamp (by omega)
    have i0 : inB (nI (3 * p)) 18 := nI_in (by omega) (by omega)
    have t0 : tn (nI (3 * p)) = 3 * p := nI_clamp (by omega)
    have i2 : inB (nI (3 * p + 2)) 18 := nI_in (by omega) (by omega)
    have t2 : tn (nI (3 * p + 2)) = 3 * p + 2 := nI_clamp (by omega)
    obtain ⟨u, wc2, wr2, c2, r2, qc, qx, fc, fr⟩ := laws_loop hs ht hYZ hp hB hS hZ hY (wr 5 0 11) (fun x5_7 w8 => some (x5_7, w8)) (fun x6_6 w7 => some (x6_6, up w7 5 0 11 (wr 5 0 11))) M 0 FU 0 wc wr (by omega) (by show M < 1000000; have := hB.2.1.1; omega) .rf .rf
    rw [show nI 0 = 0 from rfl] at c2 r2
    rw [c2, r2]
    refine ⟨u, wc2, _, rfl, rfl, hR.q qc (QX.q fun a b c hr => ?_), fc, fr.up (by omega)⟩
    by_cases hx : a = 5 ∧ b = 0 ∧ c = 11
    · obtain ⟨rfl, rfl, rfl⟩ := hx
      rw [up_s]
    · rw [up_n hx]
      exact qx a b c hr hx
  · rw [if_neg hv, if_neg hv]
    exact ⟨v, wc, wr, rfl, rfl, hR, .rf, .rf⟩
theorem b_whose (a1 a2 : Int32) : Both (f_X4_whose a1 a2) (f_X5_whose a1 a2) := by
  intro wc wr hR
  obtain ⟨N, M, CC, hB, hT, hS, hPR, hI⟩ := id hR
  obtain ⟨v, e1, e2, e3⟩ := two_ref hS a1 a2
  unfold f_X4_whose f_X5_whose
  rw [e1, e2, ob, ob]
  dsimp only
  by_cases hv : v = 0
  · obtain ⟨s, Z, t, Y, hs, rfl, hZ, ht, rfl, hYZ, hY⟩ := e3 hv
    rw [if_pos hv, if_pos hv]
    obtain ⟨u, wc2, wr2, c2, r2, qc, qx, fc, fr⟩ := whose_loop hs ht hYZ hB hS hZ hY (fun x4_7 w8 => some (x4_7, w8)) (fun x4_6 w7 => some (x4_6, w7)) N 0 FU 0 wc wr (by omega) (by show N < 1000000; have := hB.1.1; omega) .rf .rf
    rw [show nI 0 = 0 from rfl] at c2 r2
    rw [c2, r2]
    exact ⟨u, wc2, wr2, rfl, rfl, hR.q qc qx, fc, fr⟩
  · rw [if_neg hv, if_neg hv]
    exact ⟨v, wc, wr, rfl, rfl, hR, .rf, .rf⟩
