/-! a lesson: both sides -/
theorem lesson_loop (x x2 : Int32) (kf : Int32 → Mem → Option (Int32 × Mem)) (w : Mem) {T : Nat} (hT : T ≤ 50) : ∀ (j t n c : Nat) (f : Int32), t + j = 16 → j < n → c ≤ T → h_X5_lessonOf_36 x2 x (nI T) kf n f (nI c) (nI t) w = kf (lsG x j (nI t) (nI (T - c)) f) w := by
  intro j
  induction j with
  | zero =>
    intro t n c f ht hn hc
    obtain ⟨n, rfl⟩ : ∃ m, n = m + 1 := ⟨n - 1, by omega⟩
    have e : t = 16 := by omega
    subst e
    unfold h_X5_lessonOf_36
    rw [if_neg nI_nlt16]
    rfl
  | succ j ih =>
    intro t n c f ht hn hc
    obtain ⟨n, rfl⟩ : ∃ m, n = m + 1 := ⟨n - 1, by omega⟩
    unfold h_X5_lessonOf_36 lsG
    rw [if_pos (nI_lt16 (by omega))]
    by_cases hcT : c < T
    · rw [if_pos (nI_lt hcT (by omega)), if_pos (show (0 : Int32) < nI (T - c) from nI_lt (a := 0) (by omega) (by omega))]
      show (if bit x (nI t) = 1 then _ else _) = _
      by_cases hb : bit x (nI t) = 1
      · rw [if_pos hb, if_pos hb, nI_1, nI_1, ih (t + 1) n (c + 1) _ (by omega) (by omega) (by omega)]
        obtain ⟨d, hd⟩ : ∃ d, T - c = d + 1 := ⟨T - c - 1, by omega⟩
        rw [hd, pk_m1, show T - (c + 1) = d by omega]
      · rw [if_neg hb, if_neg hb, nI_1, ih (t + 1) n c _ (by omega) (by omega) (by omega)]
    · have e : c = T := by omega
      subst e
      rw [if_neg (nI_nlt (Nat.le_refl _) (by omega)), Nat.sub_self, if_neg (show ¬ (0 : Int32) < nI 0 by decide)]
theorem ls_zero : ∀ (k t : Nat) (l f : Int32), t + k = 16 → lsG 0 k (nI t) l f = f := by
  intro k
  induction k with
  | zero => intro t l f _; rfl
  | succ k ih =>
    intro t l f h
    have hb : ¬ bit 0 (nI t) = 1 := by
      rw [show (0 : Int32) = nI 0 from rfl, bit_N (by omega) (by omega), Nat.zero_div]; decide
    unfold lsG
    rw [if_neg hb, nI_1, ih (t + 1) l f (by omega)]
    split <;> rfl
theorem least_zero (l : Int32) : leastF 0 l = 0 := ls_zero 16 0 l 0 rfl
theorem CR.told {i N b : Nat} {wc wr : Mem} (h : CR i N wc wr) (hb : b < N) {v : Int32} (hv : S16 v) : CR i N (up wc 15 i b (wr 22 0 (3 * b) ||| v)) (up wr 22 0 (3 * b) (wr 22 0 (3 * b) ||| v)) := by
  obtain ⟨g1, g2, g3, g4, g5, g6, g7, g8⟩ := id h
  obtain ⟨k1, k2, k3, k4, k5, k6, k7, k8, k9⟩ := g8 b hb
  have hkn : S16 (wr 22 0 (3 * b) ||| v) := k6.or hv
  generalize wr 22 0 (3 * b) ||| v = kn at *
  refine CR.upd (p := b) (kn := kn) (kp := wr 22 0 (3 * b + 1)) (lk := wr 22 0 (3 * b + 2)) (se := wr 5 0 4) (td := wr 5 0 5) h hkn k7 k8 g5 ?_ ?_ ?_ ?_ ?_ ?_ ?_ ?_ ?_ ?_
  · simp [up]
  · simp [up, g4]
  · simp [up, g6]
  · simp [up]
  · intro q hq
    refine ⟨by simp [up], by simp [up], by simp [up], ?_, ?_⟩
    · by_cases hqp : q = b
      · subst hqp; simp [up, k4]
      · simp [up, hqp]
    · by_cases hqp : q = b
      · subst hqp; simp [up, k5]
      · simp [up, hqp]
  · simp [up]
  · simp [up]
  · simp [up]
  · simp [up]
  · intro q hq
    have n7 : ¬ (3 * q + 1 = 3 * b) := by omega
    have n8 : ¬ (3 * q + 2 = 3 * b) := by omega
    by_cases hqp : q = b
    · subst hqp; simp [up, n7, n8]
    · have n9 : ¬ (3 * q = 3 * b) := by omega
      simp [up, n7, n8, n9, hqp]
theorem Bo.told {i N M b : Nat} {CC : Nat → Nat → List Int32} {wc wr : Mem} (h : Bo i N M CC wc wr) (hb : b < N) {v : Int32} (hv : S16 v) : Bo i N M CC (up wc 15 i b (wr 22 0 (3 * b) ||| v)) (up wr 22 0 (3 * b) (wr 22 0 (3 * b) ||| v)) :=
  ⟨h.1.told hb hv, h.2.1.th (i := i) (ThC.rf.up (by omega)) ThR.rf.up2, h.2.2.th ThR.rf.up2⟩
theorem learns_both {i N M a b : Nat} {CC : Nat → Nat → List Int32} {wc wr : Mem} (h : Bo i N M CC wc wr) (ha : a < N) (hb : b < N) : ∃ (T : Nat) (wc' wr1 : Mem), T ≤ 50 ∧ f_X0_learns i (nI a) (nI b) wc = some (leastF (wr 22 0 (3 * a) &&& (wr 22 0 (3 * b) ^^^ (-1))) (nI T), wc') ∧ (∃ w, f_X5_takesOf (nI b) wr = some (nI T, w) ∧ ScR wr w) ∧ f_X5_lessonOf (nI a) (nI b) wr = some (leastF (wr 22 0 (3 * a) &&& (wr 22 0 (3 * b) ^^^ (-1))) (nI T), up wr1 22 0 (3 * b) (wr1 22 0 (3 * b) ||| leastF (wr 22 0 (3 * a) &&& (wr 22 0 (3 * b) ^^^ (-1))) (nI T))) ∧ ScC wc wc' ∧ ScR wr wr1 := by
  obtain ⟨g1, g2, g3, g4, g5, g6, g7, g8⟩ := h.1
  obtain ⟨v, wc2, wr2, c2, r2, sc2, sr2, T, hT, rfl⟩ := takes_both h hb
  have ha6 : a < 6 := by omega
  have hb6 : b < 6 := by omega
  have ea : atV wc 15 i (nI a) = wr 22 0 (3 * a) := (atV_n wc i ha6 (by decide)).trans (g8 a ha).2.2.1
  have eb : atV wc 15 i (nI b) = wr 22 0 (3 * b) := (atV_n wc i hb6 (by decide)).trans (g8 b hb).2.2.1
  have ia : inB (nI (3 * a)) 18 := nI_in (by omega) (by omega)
  have ib : inB (nI (3 * b)) 18 := nI_in (by omega) (by omega)
  have ta : tn (nI (3 * a)) = 3 * a := nI_clamp (by omega)
  have tb : tn (nI (3 * b)) = 3 * b := nI_clamp (by omega)
  have er : f_X5_lessonOf (nI a) (nI b) wr = some (leastF (wr 22 0 (3 * a) &&& (wr 22 0 (3 * b) ^^^ (-1))) (nI T), up wr2 22 0 (3 * b) (wr2 22 0 (3 * b) ||| leastF (wr 22 0 (3 * a) &&& (wr 22 0 (3 * b) ^^^ (-1))) (nI T))) := by
    unfold f_X5_lessonOf
    rw [m3, m3, if_pos ia, if_pos ib, ta, tb, r2]
    have hl := lesson_loop (wr 22 0 (3 * a) &&& (wr 22 0 (3 * b) ^^^ (-1))) (nI b) (fun x5_7 w8 => j_X5_lessonOf_78 (nI b) x5_7 w8) wr2 hT 16 0 FU 0 0 rfl (by show 16 < 1000000; omega) (by omega)
    rw [show nI 0 = 0 from rfl] at hl
    rw [ob]
    dsimp only
    rw [hl]
    rw [show lsG (wr 22 0 (3 * a) &&& (wr 22 0 (3 * b) ^^^ (-1))) 16 0 (nI (T - 0)) 0 = leastF (wr 22 0 (3 * a) &&& (wr 22 0 (3 * b) ^^^ (-1))) (nI (T - 0)) from rfl]
    unfold j_X5_lessonOf_78
    rw [m3, if_pos ib, if_pos ib, tb, Nat.sub_zero]
  by_cases hz : wr 22 0 (3 * a) &&& (wr 22 0 (3 * b) ^^^ (-1)) = 0
  · refine ⟨T, wc, wr2, hT, ?_, ⟨wr2, r2, sr2⟩, er, .rf, sr2⟩
    unfold f_X0_learns
    rw [ea, eb, if_pos hz, hz, least_zero]
  · refine ⟨T, wc2, wr2, hT, ?_, ⟨wr2, r2, sr2⟩, er, sc2, sr2⟩
    unfold f_X0_learns
    rw [ea, eb, if_neg hz, c2]
    rfl
