/-! told seasons, were something otherwise: kinds, turned, lucks, whose, laws -/
def Rel (a b c : Nat) : Prop := (a = 5 ∧ b = 0 ∧ (c = 0 ∨ c = 4 ∨ c = 5 ∨ c = 7 ∨ c = 10 ∨ c = 11 ∨ c = 12)) ∨ (a = 22 ∧ b = 0 ∧ c < 18) ∨ a = 20 ∨ a = 21 ∨ (23 ≤ a ∧ a ≤ 30) ∨ a = 32
def QX (P : Nat → Nat → Nat → Prop) (w w' : Mem) : Prop := ∀ a b c, Rel a b c → ¬ P a b c → w' a b c = w a b c
theorem QR.x {P : Nat → Nat → Nat → Prop} {w w' : Mem} (h : QR w w') : QX P w w' := by
  intro a b c hr _
  rcases hr with ⟨rfl, rfl, hc⟩ | ⟨rfl, rfl, hc⟩ | hr
  · exact h.1 c hc
  · exact h.2.1 c hc
  · exact h.2.2 a b c (by omega)
theorem QX.q {w w' : Mem} (h : ∀ a b c, Rel a b c → w' a b c = w a b c) : QR w w' :=
  ⟨fun c hc => h 5 0 c (Or.inl ⟨rfl, rfl, hc⟩), fun c hc => h 22 0 c (Or.inr (Or.inl ⟨rfl, rfl, hc⟩)), fun a b c ha => h a b c (Or.inr (Or.inr (by omega)))⟩
theorem QX.rf {P : Nat → Nat → Nat → Prop} {w : Mem} : QX P w w := fun _ _ _ _ _ => rfl
theorem QX.tr {P : Nat → Nat → Nat → Prop} {w w1 w2 : Mem} (h : QX P w w1) (h2 : QX P w1 w2) : QX P w w2 := fun a b c hr hp => (h2 a b c hr hp).trans (h a b c hr hp)
theorem QX.up {P : Nat → Nat → Nat → Prop} {w w' : Mem} (h : QX P w w') {k i j : Nat} {v : Int32} (hp : P k i j) : QX P w (up w' k i j v) := fun a b c hr hn => by
  rw [up_n (fun z => hn (by rw [z.1, z.2.1, z.2.2]; exact hp))]; exact h a b c hr hn
/-- what may be otherwise in thought -/
def PX (P : Nat → Nat → Nat → Prop) : Prop := ∀ a b c, P a b c → (a = 5 ∧ c = 11) ∨ a = 20 ∨ a = 21 ∨ a = 22
theorem QX.hi {P : Nat → Nat → Nat → Prop} {w w' : Mem} (h : QX P w w') (hP : PX P) (a b c : Nat) (ha : 23 ≤ a ∧ a ≤ 30) : w' a b c = w a b c := h a b c (Or.inr (Or.inr (by omega))) (fun z => by have := hP a b c z; omega)
theorem QX.f5 {P : Nat → Nat → Nat → Prop} {w w' : Mem} (h : QX P w w') (hP : PX P) (c : Nat) (hc : c = 0 ∨ c = 4 ∨ c = 5 ∨ c = 7 ∨ c = 10 ∨ c = 12) : w' 5 0 c = w 5 0 c := h 5 0 c (Or.inl ⟨rfl, rfl, by omega⟩) (fun z => by have := hP 5 0 c z; omega)
theorem SR.x {P : Nat → Nat → Nat → Prop} {wc wr wc' wr' : Mem} (h : SR wc wr) (hc : QC wc wc') (hr : QX P wr wr') (hP : PX P) : SR wc' wr' := by
  intro s hs
  rw [hc.2.1 2 s 0 (by omega), hc.2.1 2 s 1 (by omega), hr.hi hP 28 0 s (by omega), hr.hi hP 29 0 s (by omega)]
  obtain ⟨h1, h2, h3, h4⟩ := h s hs
  exact ⟨h1, h2, h3, fun k hk => by rw [hc.2.1 19 s k (by omega), hr.hi hP 30 0 _ (by omega)]; exact h4 k hk⟩
theorem TR.x {P : Nat → Nat → Nat → Prop} {M : Nat} {CC : Nat → Nat → List Int32} {wc wr wc' wr' : Mem} (h : TR M CC wc wr) (hc : QC wc wc') (hr : QX P wr wr') (hP : PX P) : TR M CC wc' wr' :=
  h.of (hc.2.1 3 0 0 (by omega)) (fun c => hc.2.1 6 0 c (by omega)) (fun c => hc.2.1 7 0 c (by omega)) (hr.f5 hP 10 (by omega)) (fun c => hr.hi hP 24 0 c (by omega)) (fun c => hr.hi hP 25 0 c (by omega))
theorem CR.mod {i N p : Nat} {wc0 wr0 wc' wr' : Mem} (h : CR 0 N wc0 wr0) (c2 : wc' 0 i 2 = wc0 0 0 2) (c3 : wc' 0 i 3 = wc0 0 0 3) (c4 : wc' 0 i 4 = wc0 0 0 4) (c5 : wc' 0 i 5 = wr' 5 0 11) (r0 : wr' 5 0 0 = wr0 5 0 0) (r4 : wr' 5 0 4 = wr0 5 0 4) (r5 : wr' 5 0 5 = wr0 5 0 5)
    (hq : ∀ q, q < N → q ≠ p → (∀ a, (a = 13 ∨ a = 14 ∨ a = 15 ∨ a = 16 ∨ a = 17) → wc' a i q = wc0 a 0 q) ∧ wr' 20 0 q = wr0 20 0 q ∧ wr' 21 0 q = wr0 21 0 q ∧ wr' 22 0 (3 * q) = wr0 22 0 (3 * q) ∧ wr' 22 0 (3 * q + 1) = wr0 22 0 (3 * q + 1) ∧ wr' 22 0 (3 * q + 2) = wr0 22 0 (3 * q + 2))
    (hp : wc' 13 i p = wr' 20 0 p ∧ wc' 14 i p = wr' 21 0 p ∧ wc' 15 i p = wr' 22 0 (3 * p) ∧ wc' 16 i p = wr' 22 0 (3 * p + 1) ∧ wc' 17 i p = wr' 22 0 (3 * p + 2) ∧ S16 (wr' 22 0 (3 * p)) ∧ S16 (wr' 22 0 (3 * p + 1)) ∧ (0 ≤ wr' 22 0 (3 * p + 2) ∧ wr' 22 0 (3 * p + 2) ≤ 99) ∧ (0 ≤ wr' 21 0 p ∧ wr' 21 0 p ≤ 9)) : CR i N wc' wr' := by
  obtain ⟨h1, h2, h3, h4, h5, h6, h7, h8⟩ := h
  refine ⟨h1, c2.trans h2, r0.trans h3, by rw [c3, r4]; exact h4, by rw [r4]; exact h5, by rw [c4, r5]; exact h6, c5, fun q hqN => ?_⟩
  by_cases hqp : q = p
  · subst hqp; exact hp
  · obtain ⟨a1, a2, a3, a4, a5, a6⟩ := hq q hqN hqp
    rw [a1 13 (by omega), a1 14 (by omega), a1 15 (by omega), a1 16 (by omega), a1 17 (by omega), a2, a3, a4, a5, a6]
    exact h8 q hqN
theorem iter {N M s Z t Y p : Nat} {P : Nat → Nat → Nat → Prop} {CC : Nat → Nat → List Int32} {wc0 wr0 : Mem} (hPX : PX P) (hs : s < 4) (ht : t < 4) (hYZ : Y ≤ Z) (hP : p < N) (hS : SR wc0 wr0) (hZ : Sn s Z wr0) (hY : wr0 29 0 t = nI Y) {r' wr' : Mem} (hB : Bo 1 N M CC r' wr') (hc : QC wc0 r') (hr : QX P wr0 wr') : ∃ (v : Int32) (wc2 wr2 : Mem), f_X4_otherwise (nI s) (nI t) (nI p) r' = some (v, wc2) ∧ f_X5_unlike (nI s) (nI t) (nI p) wr' = some (v, wr2) ∧ QC wc0 wc2 ∧ QX P wr0 wr2 ∧ FC r' wc2 ∧ FR wr' wr2 := by
  obtain ⟨v, wc2, wr2, a1, a2, a3, a4, a5, -⟩ := other_both hs ht hYZ hP hB (hS.x hc hr hPX) ⟨hZ.1, (hr.hi hPX 29 0 s (by omega)).trans hZ.2.1, fun j hj => by rw [hr.hi hPX 30 0 _ (by omega)]; exact hZ.2.2 j hj⟩ ((hr.hi hPX 29 0 t (by omega)).trans hY)
  exact ⟨v, wc2, wr2, a1, a2, hc.tr a3.q, hr.tr a4.x, a3.f, a5⟩
/-- the class's coast of thought, as it begins -/
theorem As.o {wc0 wc r1 : Mem} (ha : As 1 0 wc r1) (hc : QC wc0 wc) : (∀ c, (c = 2 ∨ c = 3 ∨ c = 4 ∨ c = 5) → r1 0 1 c = wc0 0 0 c) ∧ (∀ k q, (k = 13 ∨ k = 14 ∨ k = 15 ∨ k = 16 ∨ k = 17) → q < 6 → r1 k 1 q = wc0 k 0 q) ∧ QC wc0 r1 ∧ FC wc r1 :=
  ⟨fun c h => (ha.1 c h).trans (hc.1 0 0 c (by omega) (by omega)), fun k q hk hq => (ha.2.1 k q hk hq).trans (hc.1 k 0 q (by omega) (by omega)), hc.tr ha.2.2.th.q, ha.2.2.th.f⟩
theorem kinds0_loop {N M s Z t Y p : Nat} {CC : Nat → Nat → List Int32} {wc0 wr0 : Mem} (hs : s < 4) (ht : t < 4) (hYZ : Y ≤ Z) (hP : p < N) (hB : Bo 0 N M CC wc0 wr0) (hS : SR wc0 wr0) (hZ : Sn s Z wr0) (hY : wr0 29 0 t = nI Y) (kc kr : Int32 → Mem → Option (Int32 × Mem)) : ∀ (r k n : Nat) (acc : Int32) (wc wr : Mem), k + r = 6 → r < n → QC wc0 wc → QX (fun a b c => (a = 20 ∨ a = 21) ∧ b = 0 ∧ c = p) wr0 wr → ∃ (v : Int32) (wc' wr' : Mem), h_X4_kinds_51 (nI s) (nI t) (nI p) 0 6 kc n acc (nI k) wc = kc v wc' ∧ h_X5_kinds_52 (nI s) (nI t) (nI p) 0 (wr0 20 0 p) (wr0 21 0 p) kr n acc (nI k) wr = kr v wr' ∧ QC wc0 wc' ∧ QX (fun a b c => (a = 20 ∨ a = 21) ∧ b = 0 ∧ c = p) wr0 wr' ∧ FC wc wc' ∧ FR wr wr' := by
  have hN := hB.1.1
  have hp6 : p < 6 := by omega
  have ip : inB (nI p) 6 := nI_in hp6 (by omega)
  have tp : tn (nI p) = p := nI_clamp (by omega)
  have hPX : PX (fun a b c => (a = 20 ∨ a = 21) ∧ b = 0 ∧ c = p) := fun a b c h => by omega
  obtain ⟨g1, g2, g3, g4, g5, g6, g7, g8⟩ := hB.1
  obtain ⟨k1, k2, k3, k4, k5, k6, k7, k8, k9⟩ := g8 p hP
  intro r
  induction r with
  | zero =>
    intro k n acc wc wr hk hn hc hr
    obtain ⟨n, rfl⟩ : ∃ m, n = m + 1 := ⟨n - 1, by omega⟩
    have e : k = 6 := by omega
    subst e
    refine ⟨acc, wc, wr, ?_, ?_, hc, hr, .rf, .rf⟩
    · unfold h_X4_kinds_51
      rw [if_neg (show ¬ nI 6 < 6 by decide)]
    · unfold h_X5_kinds_52 j_X5_kinds_66
      simp only [show ¬ nI 6 < 6 by decide, show ¬ (1 : Int32) = 0 by decide, if_false, if_true]
  | succ r ih =>
    intro k n acc wc wr hk hn hc hr
    obtain ⟨n, rfl⟩ : ∃ m, n = m + 1 := ⟨n - 1, by omega⟩
    obtain ⟨r1, c1, as1⟩ := become_c (i := 1) (j := 0) (by decide) wc
    obtain ⟨o1, o2, o3, o4⟩ := as1.o hc
    have hr' : QX (fun a b c => (a = 20 ∨ a = 21) ∧ b = 0 ∧ c = p) wr0 (up (up wr 20 0 p (nI k)) 21 0 p (wr0 21 0 p)) := (hr.up ⟨Or.inl rfl, rfl, rfl⟩).up ⟨Or.inr rfl, rfl, rfl⟩
    have tc : ThC 1 r1 (up r1 13 1 p (nI k)) := ThC.rf.up (by omega)
    have n22 : ∀ c, c < 18 → (up (up wr 20 0 p (nI k)) 21 0 p (wr0 21 0 p)) 22 0 c = wr0 22 0 c := fun c h => hr' 22 0 c (Or.inr (Or.inl ⟨rfl, rfl, h⟩)) (fun z => by omega)
    have n5 : ∀ c, (c = 0 ∨ c = 4 ∨ c = 5 ∨ c = 7 ∨ c = 10 ∨ c = 11 ∨ c = 12) → (up (up wr 20 0 p (nI k)) 21 0 p (wr0 21 0 p)) 5 0 c = wr0 5 0 c := fun c h => hr' 5 0 c (Or.inl ⟨rfl, rfl, h⟩) (fun z => by omega)
    have n20 : (up (up wr 20 0 p (nI k)) 21 0 p (wr0 21 0 p)) 20 0 p = nI k := by rw [up_k (by decide), up_s]
    have n21 : (up (up wr 20 0 p (nI k)) 21 0 p (wr0 21 0 p)) 21 0 p = wr0 21 0 p := up_s _ _ _ _ _
    have nq : ∀ a q, (a = 20 ∨ a = 21) → q ≠ p → (up (up wr 20 0 p (nI k)) 21 0 p (wr0 21 0 p)) a 0 q = wr0 a 0 q := fun a q ha hq => hr' a 0 q (Or.inr (Or.inr (by omega))) (fun z => hq z.2.2)
    have hrf : FR wr (up (up wr 20 0 p (nI k)) 21 0 p (wr0 21 0 p)) := (FR.rf.up (by omega)).up (by omega)
    have hB1 : Bo 1 N M CC (up r1 13 1 p (nI k)) (up (up wr 20 0 p (nI k)) 21 0 p (wr0 21 0 p)) := by
      refine ⟨CR.mod (p := p) hB.1 ?_ ?_ ?_ ?_ (n5 0 (by omega)) (n5 4 (by omega)) (n5 5 (by omega)) (fun q hq hqp => ⟨fun a ha => ?_, nq 20 q (by omega) hqp, nq 21 q (by omega) hqp, n22 _ (by omega), n22 _ (by omega), n22 _ (by omega)⟩) ⟨?_, ?_, ?_, ?_, ?_, ?_, ?_, ?_, ?_⟩, hB.2.1.x (o3.tr tc.q) hr' hPX, hB.2.2.of (n5 11 (by omega))⟩
      · rw [up_k (by decide)]; exact o1 2 (by omega)
      · rw [up_k (by decide)]; exact o1 3 (by omega)
      · rw [up_k (by decide)]; exact o1 4 (by omega)
      · rw [up_k (by decide), n5 11 (by omega)]; exact (o1 5 (by omega)).trans g7
      · rw [up_j hqp]; exact o2 a q ha (by omega)
      · rw [n20]; exact up_s _ _ _ _ _
      · rw [n21]; rw [up_k (by decide)]; exact (o2 14 p (by omega) hp6).trans k2
      · rw [up_k (by decide), n22 _ (by omega)]; exact (o2 15 p (by omega) hp6).trans k3
      · rw [up_k (by decide), n22 _ (by omega)]; exact (o2 16 p (by omega) hp6).trans k4
      · rw [up_k (by decide), n22 _ (by omega)]; exact (o2 17 p (by omega) hp6).trans k5
      · rw [n22 _ (by omega)]; exact k6
      · rw [n22 _ (by omega)]; exact k7
      · rw [n22 _ (by omega)]; exact k8
      · rw [n21]; exact k9
    obtain ⟨v, wc2, wr2, a1, a2, a3, a4, a5, a6⟩ := iter hPX hs ht hYZ hP hS hZ hY hB1 (o3.tr tc.q) hr'
    unfold h_X4_kinds_51 h_X5_kinds_52 j_X5_kinds_66 j_X5_kinds_86 j_X5_kinds_105 j_X4_kinds_91
    rw [if_pos (show nI k < 6 from nI_lt (a := k) (b := 6) (by omega) (by omega)), c1, ob]
    have s0 : setV r1 13 1 (nI p) (nI k) = up r1 13 1 p (nI k) := setV_n r1 1 (nI k) hp6 (by decide)
    simp only [show nI k < 6 from nI_lt (a := k) (b := 6) (by omega) (by omega), show ¬ (1 : Int32) = 0 by decide, show ¬ (0 : Int32) = 1 by decide, if_true, if_false, if_pos ip, tp, s0, a1, a2, ob, Int32.or_zero, nI_1]
    by_cases hv : v = -1
    · rw [if_pos hv, if_pos hv]
      obtain ⟨u, wc3, wr3, b1, b2, b3, b4, b5, b6⟩ := ih (k + 1) n (acc ||| shlI 1 (nI k)) wc2 wr2 (by omega) (by omega) a3 a4
      exact ⟨u, wc3, wr3, b1, b2, b3, b4, (o4.tr (tc.f.tr a5)).tr b5, (hrf.tr a6).tr b6⟩
    · rw [if_neg hv, if_neg hv]
      obtain ⟨u, wc3, wr3, b1, b2, b3, b4, b5, b6⟩ := ih (k + 1) n acc wc2 wr2 (by omega) (by omega) a3 a4
      exact ⟨u, wc3, wr3, b1, b2, b3, b4, (o4.tr (tc.f.tr a5)).tr b5, (hrf.tr a6).tr b6⟩
theorem kinds1_loop {N M s Z t Y p : Nat} {CC : Nat → Nat → List Int32} {wc0 wr0 : Mem} (hs : s < 4) (ht : t < 4) (hYZ : Y ≤ Z) (hP : p < N) (hB : Bo 0 N M CC wc0 wr0) (hS : SR wc0 wr0) (hZ : Sn s Z wr0) (hY : wr0 29 0 t = nI Y) (kc kr : Int32 → Mem → Option (Int32 × Mem)) : ∀ (r k n : Nat) (acc : Int32) (wc wr : Mem), k + r = 10 → r < n → QC wc0 wc → QX (fun a b c => (a = 20 ∨ a = 21) ∧ b = 0 ∧ c = p) wr0 wr → ∃ (v : Int32) (wc' wr' : Mem), h_X4_kinds_51 (nI s) (nI t) (nI p) 1 10 kc n acc (nI k) wc = kc v wc' ∧ h_X5_kinds_52 (nI s) (nI t) (nI p) 1 (wr0 20 0 p) (wr0 21 0 p) kr n acc (nI k) wr = kr v wr' ∧ QC wc0 wc' ∧ QX (fun a b c => (a = 20 ∨ a = 21) ∧ b = 0 ∧ c = p) wr0 wr' ∧ FC wc wc' ∧ FR wr wr' := by
  have hN := hB.1.1
  have hp6 : p < 6 := by omega
  have ip : inB (nI p) 6 := nI_in hp6 (by omega)
  have tp : tn (nI p) = p := nI_clamp (by omega)
  have hPX : PX (fun a b c => (a = 20 ∨ a = 21) ∧ b = 0 ∧ c = p) := fun a b c h => by omega
  obtain ⟨g1, g2, g3, g4, g5, g6, g7, g8⟩ := hB.1
  obtain ⟨k1, k2, k3, k4, k5, k6, k7, k8, k9⟩ := g8 p hP
  intro r
  induction r with
  | zero =>
    intro k n acc wc wr hk hn hc hr
    obtain ⟨n, rfl⟩ : ∃ m, n = m + 1 := ⟨n - 1, by omega⟩
    have e : k = 10 := by omega
    subst e
    refine ⟨acc, wc, wr, ?_, ?_, hc, hr, .rf, .rf⟩
    · unfold h_X4_kinds_51
      rw [if_neg (show ¬ nI 10 < 10 by decide)]
    · unfold h_X5_kinds_52 j_X5_kinds_66
      simp only [show ¬ nI 10 < 10 by decide, show ¬ (1 : Int32) = 0 by decide, if_false, if_true]
  | succ r ih =>
    intro k n acc wc wr hk hn hc hr
    obtain ⟨n, rfl⟩ : ∃ m, n = m + 1 := ⟨n - 1, by omega⟩
    obtain ⟨r1, c1, as1⟩ := become_c (i := 1) (j := 0) (by decide) wc
    obtain ⟨o1, o2, o3, o4⟩ := as1.o hc
    have hr' : QX (fun a b c => (a = 20 ∨ a = 21) ∧ b = 0 ∧ c = p) wr0 (up (up wr 20 0 p (wr0 20 0 p)) 21 0 p (nI k)) := (hr.up ⟨Or.inl rfl, rfl, rfl⟩).up ⟨Or.inr rfl, rfl, rfl⟩
    have tc : ThC 1 r1 (up r1 14 1 p (nI k)) := ThC.rf.up (by omega)
    have n22 : ∀ c, c < 18 → (up (up wr 20 0 p (wr0 20 0 p)) 21 0 p (nI k)) 22 0 c = wr0 22 0 c := fun c h => hr' 22 0 c (Or.inr (Or.inl ⟨rfl, rfl, h⟩)) (fun z => by omega)
    have n5 : ∀ c, (c = 0 ∨ c = 4 ∨ c = 5 ∨ c = 7 ∨ c = 10 ∨ c = 11 ∨ c = 12) → (up (up wr 20 0 p (wr0 20 0 p)) 21 0 p (nI k)) 5 0 c = wr0 5 0 c := fun c h => hr' 5 0 c (Or.inl ⟨rfl, rfl, h⟩) (fun z => by omega)
    have n20 : (up (up wr 20 0 p (wr0 20 0 p)) 21 0 p (nI k)) 20 0 p = wr0 20 0 p := by rw [up_k (by decide), up_s]
    have n21 : (up (up wr 20 0 p (wr0 20 0 p)) 21 0 p (nI k)) 21 0 p = nI k := up_s _ _ _ _ _
    have nq : ∀ a q, (a = 20 ∨ a = 21) → q ≠ p → (up (up wr 20 0 p (wr0 20 0 p)) 21 0 p (nI k)) a 0 q = wr0 a 0 q := fun a q ha hq => hr' a 0 q (Or.inr (Or.inr (by omega))) (fun z => hq z.2.2)
    have hrf : FR wr (up (up wr 20 0 p (wr0 20 0 p)) 21 0 p (nI k)) := (FR.rf.up (by omega)).up (by omega)
    have hB1 : Bo 1 N M CC (up r1 14 1 p (nI k)) (up (up wr 20 0 p (wr0 20 0 p)) 21 0 p (nI k)) := by
      refine ⟨CR.mod (p := p) hB.1 ?_ ?_ ?_ ?_ (n5 0 (by omega)) (n5 4 (by omega)) (n5 5 (by omega)) (fun q hq hqp => ⟨fun a ha => ?_, nq 20 q (by omega) hqp, nq 21 q (by omega) hqp, n22 _ (by omega), n22 _ (by omega), n22 _ (by omega)⟩) ⟨?_, ?_, ?_, ?_, ?_, ?_, ?_, ?_, ?_⟩, hB.2.1.x (o3.tr tc.q) hr' hPX, hB.2.2.of (n5 11 (by omega))⟩
      · rw [up_k (by decide)]; exact o1 2 (by omega)
      · rw [up_k (by decide)]; exact o1 3 (by omega)
      · rw [up_k (by decide)]; exact o1 4 (by omega)
      · rw [up_k (by decide), n5 11 (by omega)]; exact (o1 5 (by omega)).trans g7
      · rw [up_j hqp]; exact o2 a q ha (by omega)
      · rw [n20]; rw [up_k (by decide)]; exact (o2 13 p (by omega) hp6).trans k1
      · rw [n21]; exact up_s _ _ _ _ _
      · rw [up_k (by decide), n22 _ (by omega)]; exact (o2 15 p (by omega) hp6).trans k3
      · rw [up_k (by decide), n22 _ (by omega)]; exact (o2 16 p (by omega) hp6).trans k4
      · rw [up_k (by decide), n22 _ (by omega)]; exact (o2 17 p (by omega) hp6).trans k5
      · rw [n22 _ (by omega)]; exact k6
      · rw [n22 _ (by omega)]; exact k7
      · rw [n22 _ (by omega)]; exact k8
      · rw [n21]; exact ⟨nI_pos (n := k) (by omega) |> Int32.not_lt.mp, nI_le (a := k) (b := 9) (by omega) (by omega)⟩
    obtain ⟨v, wc2, wr2, a1, a2, a3, a4, a5, a6⟩ := iter hPX hs ht hYZ hP hS hZ hY hB1 (o3.tr tc.q) hr'
    unfold h_X4_kinds_51 h_X5_kinds_52 j_X5_kinds_66 j_X5_kinds_86 j_X5_kinds_105 j_X4_kinds_91_1
    rw [if_pos (show nI k < 10 from nI_lt (a := k) (b := 10) (by omega) (by omega)), c1, ob]
    have s0 : setV r1 14 1 (nI p) (nI k) = up r1 14 1 p (nI k) := setV_n r1 1 (nI k) hp6 (by decide)
    simp only [show nI k < 10 from nI_lt (a := k) (b := 10) (by omega) (by omega), show ¬ (1 : Int32) = 0 by decide, show ¬ (0 : Int32) = 1 by decide, if_true, if_false, if_pos ip, tp, s0, a1, a2, ob, Int32.or_zero, nI_1]
    by_cases hv : v = -1
    · rw [if_pos hv, if_pos hv]
      obtain ⟨u, wc3, wr3, b1, b2, b3, b4, b5, b6⟩ := ih (k + 1) n (acc ||| shlI 1 (nI k)) wc2 wr2 (by omega) (by omega) a3 a4
      exact ⟨u, wc3, wr3, b1, b2, b3, b4, (o4.tr (tc.f.tr a5)).tr b5, (hrf.tr a6).tr b6⟩
    · rw [if_neg hv, if_neg hv]
      obtain ⟨u, wc3, wr3, b1, b2, b3, b4, b5, b6⟩ := ih (k + 1) n acc wc2 wr2 (by omega) (by omega) a3 a4
      exact ⟨u, wc3, wr3, b1, b2, b3, b4, (o4.tr (tc.f.tr a5)).tr b5, (hrf.tr a6).tr b6⟩
