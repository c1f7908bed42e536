/-! one lands a thing: both sides -/
theorem ob {A B : Type} (a : A) (f : A → Option B) : Option.bind (some a) f = f a := Eq.trans rfl rfl
theorem oe_s {A B : Type} (a : A) (b : B) (f : A → B) : Option.elim (some a) b f = f a := Eq.trans rfl rfl
theorem oe_n {A B : Type} (b : B) (f : A → B) : Option.elim none b f = b := Eq.trans rfl rfl
/-- only one coast is otherwise, and scratch -/
def ThC (i : Nat) (w w' : Mem) : Prop := ∀ a b c, ¬ (b = i ∧ (a = 0 ∨ a = 13 ∨ a = 14 ∨ a = 15 ∨ a = 16 ∨ a = 17)) → a ≠ 8 → a ≠ 12 → w' a b c = w a b c
/-- only rows, the sea, tides are otherwise, and scratch -/
def ThR (w w' : Mem) : Prop := ∀ a b c, a ≠ 22 → ¬ (a = 5 ∧ b = 0 ∧ (c = 4 ∨ c = 5)) → a ≠ 34 → a ≠ 35 → w' a b c = w a b c
theorem ThC.tr {i : Nat} {w w1 w2 : Mem} (h : ThC i w w1) (h2 : ThC i w1 w2) : ThC i w w2 := fun a b c h1 h8 h12 => (h2 a b c h1 h8 h12).trans (h a b c h1 h8 h12)
theorem ThR.tr {w w1 w2 : Mem} (h : ThR w w1) (h2 : ThR w1 w2) : ThR w w2 := fun a b c h1 h5 h8 h12 => (h2 a b c h1 h5 h8 h12).trans (h a b c h1 h5 h8 h12)
theorem ThC.rf {i : Nat} {w : Mem} : ThC i w w := fun _ _ _ _ _ _ => rfl
theorem ThR.rf {w : Mem} : ThR w w := fun _ _ _ _ _ _ _ => rfl
theorem ScC.th {i : Nat} {w w' : Mem} (h : ScC w w') : ThC i w w' := fun a b c _ h8 h12 => h a b c h8 h12
theorem ScR.th {w w' : Mem} (h : ScR w w') : ThR w w' := fun a b c _ _ h8 h12 => h a b c h8 h12
theorem ThC.up {i k j : Nat} {v : Int32} {w w' : Mem} (h : ThC i w w') (hk : k = 0 ∨ k = 13 ∨ k = 14 ∨ k = 15 ∨ k = 16 ∨ k = 17) : ThC i w (up w' k i j v) := fun a b c h1 h8 h12 => by
  rw [up_n (fun z => h1 ⟨z.2.1, by rw [z.1]; exact hk⟩)]; exact h a b c h1 h8 h12
theorem ThR.up2 {j : Nat} {v : Int32} {w w' : Mem} (h : ThR w w') : ThR w (up w' 22 0 j v) := fun a b c h1 h5 h8 h12 => by
  rw [up_n (fun z => h1 z.1)]; exact h a b c h1 h5 h8 h12
theorem ThR.up5 {j : Nat} {v : Int32} {w w' : Mem} (h : ThR w w') (hj : j = 4 ∨ j = 5) : ThR w (up w' 5 0 j v) := fun a b c h1 h5 h8 h12 => by
  rw [up_n (fun z => h5 ⟨z.1, z.2.1, by rw [z.2.2]; exact hj⟩)]; exact h a b c h1 h5 h8 h12
theorem TR.th {i M : Nat} {CC : Nat → Nat → List Int32} {wc wr wc' wr' : Mem} (h : TR M CC wc wr) (hc : ThC i wc wc') (hr : ThR wr wr') : TR M CC wc' wr' :=
  h.of (hc 3 0 0 (by omega) (by decide) (by decide)) (fun c => hc 6 0 c (by omega) (by decide) (by decide)) (fun c => hc 7 0 c (by omega) (by decide) (by decide)) (hr 5 0 10 (by decide) (by omega) (by decide) (by decide)) (fun c => hr 24 0 c (by decide) (by omega) (by decide) (by decide)) (fun c => hr 25 0 c (by decide) (by omega) (by decide) (by decide))
theorem LR.th {M : Nat} {wr wr' : Mem} (h : LR M wr) (hr : ThR wr wr') : LR M wr' := by
  obtain ⟨t, ht, e⟩ := h
  exact ⟨t, ht, by rw [hr 5 0 11 (by decide) (by omega) (by decide) (by decide)]; exact e⟩
theorem m3 (p : Nat) : 3 * nI p = nI (3 * p) := by rw [show (3 : Int32) = nI 3 from rfl, nI_mul]
theorem m31 (p : Nat) : 3 * nI p + 1 = nI (3 * p + 1) := by rw [m3, nI_1]
theorem m32 (p : Nat) : 3 * nI p + 2 = nI (3 * p + 2) := by rw [m3]; exact nI_add _ 2
theorem landing_both {i N M p th : Nat} {CC : Nat → Nat → List Int32} {wc wr : Mem} (h : Bo i N M CC wc wr) (hP : p < N) (ht : th < 16) : ∃ (v : Int32) (wc' wr' : Mem), f_X0_landing i (nI p) (nI th) wc = some (v, wc') ∧ f_X5_landOf (nI p) (nI th) wr = some (v, wr') ∧ Bo i N M CC wc' wr' ∧ ThC i wc wc' ∧ ThR wr wr' ∧ wr' 5 0 5 = wr 5 0 5 ∧ (v = -1 ∨ ∃ q, q < 16 ∧ v = nI q) := by
  obtain ⟨v, wc1, wr1, c1, r1, sc1, sr1, hv⟩ := lets_both h hP (nI th)
  have hb1 := h.sc sc1 sr1
  obtain ⟨u, wc2, wr2, c2, r2, sc2, sr2⟩ := lucks_both hb1 hP ht
  have hb2 := hb1.sc sc2 sr2
  have hN : wc 0 i 2 = nI N := h.1.2.1
  obtain ⟨hC, hT, hL⟩ := id hb2
  obtain ⟨g1, g2, g3, g4, g5, g6, g7, g8⟩ := id hC
  obtain ⟨k1, k2, k3, k4, k5, k6, k7, k8, k9⟩ := g8 p hP
  have hp6 : p < 6 := by omega
  have e17 : atV wc1 17 i (nI p) = wr2 22 0 (3 * p + 2) := by
    rw [atV_n wc1 i (show p < lenK 17 from hp6) (by decide), ← k5]; exact (sc2 17 i p (by decide) (by decide)).symm
  have a16 : ∀ w : Mem, atV w 16 i (nI p) = w 16 i p := fun w => atV_n w i hp6 (by decide)
  have a15 : ∀ w : Mem, atV w 15 i (nI p) = w 15 i p := fun w => atV_n w i hp6 (by decide)
  have s17 : ∀ (w : Mem) (v : Int32), setV w 17 i (nI p) v = up w 17 i p v := fun w v => setV_n w i v hp6 (by decide)
  have s16 : ∀ (w : Mem) (v : Int32), setV w 16 i (nI p) v = up w 16 i p v := fun w v => setV_n w i v hp6 (by decide)
  have s15 : ∀ (w : Mem) (v : Int32), setV w 15 i (nI p) v = up w 15 i p v := fun w v => setV_n w i v hp6 (by decide)
  have h1 : ¬ hasF (nI p) (nI N) = 0 := by rw [has_1 g1 hP]; decide
  have h2 : ¬ rng (nI th) 0 15 = 0 := by
    rw [rng_0]; exact fun z => z ⟨nI_pos' (by omega), nI_le (a := th) (b := 15) (by omega) (by omega)⟩
  have hl : 0 ≤ wiF (wr2 22 0 (3 * p + 2) + u) 0 99 ∧ wiF (wr2 22 0 (3 * p + 2) + u) 0 99 ≤ 99 := wiF_b (by decide)
  have hkp : S16 (wr2 22 0 (3 * p + 1) ||| shlI 1 (nI th)) := k7.or (.bit ht)
  generalize hL2 : wiF (wr2 22 0 (3 * p + 2) + u) 0 99 = lk at hl
  generalize hK2 : wr2 22 0 (3 * p + 1) ||| shlI 1 (nI th) = kp at hkp
  have i0 : inB (nI (3 * p)) 18 := nI_in (by omega) (by omega)
  have i1 : inB (nI (3 * p + 1)) 18 := nI_in (by omega) (by omega)
  have i2 : inB (nI (3 * p + 2)) 18 := nI_in (by omega) (by omega)
  have t0 : tn (nI (3 * p)) = 3 * p := nI_clamp (by omega)
  have t1 : tn (nI (3 * p + 1)) = 3 * p + 1 := nI_clamp (by omega)
  have t2 : tn (nI (3 * p + 2)) = 3 * p + 2 := nI_clamp (by omega)
  have q5 : wr2 5 0 5 = wr 5 0 5 := (sr2 5 0 5 (by decide) (by decide)).trans (sr1 5 0 5 (by decide) (by decide))
  have tc : ThC i wc wc2 := (sc1.tr sc2).th
  have tr : ThR wr wr2 := (sr1.tr sr2).th
  rcases hv with rfl | ⟨t, ht16, rfl⟩
  · have ec : f_X0_landing i (nI p) (nI th) wc = some (-1, up (up wc2 17 i p lk) 16 i p kp) := by
      unfold f_X0_landing
      rw [hN, if_neg h1, if_neg h2, c1]
      show Option.bind (f_X0_lucksBy i (nI p) (nI th) wc1) _ = _
      rw [c2]
      dsimp only [Option.bind]
      rw [if_pos (by decide)]
      rw [s17, s16, a16, e17, hL2, up_k (by decide), k4, hK2]
    have er : f_X5_landOf (nI p) (nI th) wr = some (-1, up (up wr2 22 0 (3 * p + 1) kp) 22 0 (3 * p + 2) lk) := by
      unfold f_X5_landOf
      rw [r1]
      show Option.bind (f_X5_lucksOf (nI p) (nI th) wr1) _ = _
      rw [r2]
      dsimp only [Option.bind]
      rw [m31, if_pos i1, if_pos i1, if_pos rfl]
      unfold j_X5_landOf_64
      rw [m32, if_pos i2, if_pos i2, t1, t2, hK2, up_j (by omega), hL2]
    have fc : ThC i wc (up (up wc2 17 i p lk) 16 i p kp) := (tc.up (by omega)).up (by omega)
    have fr : ThR wr (up (up wr2 22 0 (3 * p + 1) kp) 22 0 (3 * p + 2) lk) := (tr.up2).up2
    have fc2 : ThC i wc2 (up (up wc2 17 i p lk) 16 i p kp) := (ThC.rf.up (by omega)).up (by omega)
    have fr2 : ThR wr2 (up (up wr2 22 0 (3 * p + 1) kp) 22 0 (3 * p + 2) lk) := (ThR.rf.up2).up2
    refine ⟨-1, _, _, ec, er, ⟨CR.upd (p := p) (kn := wr2 22 0 (3 * p)) (kp := kp) (lk := lk) (se := wr2 5 0 4) (td := wr2 5 0 5) hC k6 hkp hl g5 ?_ ?_ ?_ ?_ ?_ ?_ ?_ ?_ ?_ ?_, hT.th fc2 fr2, hL.th fr2⟩, fc, fr, ?_, Or.inl rfl⟩
    · simp [up]
    · simp [up, g4]
    · simp [up, g6]
    · simp [up]
    · intro q hq
      refine ⟨by simp [up], by simp [up], ?_, by simp [up], by simp [up]⟩
      by_cases hqp : q = p
      · subst hqp; simp [up, k3]
      · simp [up, hqp]
    · simp [up]
    · simp [up]
    · simp [up]
    · simp [up]
    · intro q hq
      have n1 : ¬ (3 * q = 3 * p + 1) := by omega
      have n2 : ¬ (3 * q = 3 * p + 2) := by omega
      have n3 : ¬ (3 * q + 1 = 3 * p + 2) := by omega
      have n4 : ¬ (3 * q + 2 = 3 * p + 1) := by omega
      by_cases hqp : q = p
      · subst hqp; simp [up, n1, n2, n3, n4]
      · have n5 : ¬ (3 * q + 1 = 3 * p + 1) := by omega
        have n6 : ¬ (3 * q + 2 = 3 * p + 2) := by omega
        have n9 : ¬ (3 * q = 3 * p) := by omega
        simp [up, n1, n2, n3, n4, n5, n6, n9, hqp]
    · simp [up, q5]
  · have hS : S16 (wr2 22 0 (3 * p) &&& (shlI 1 (nI t) ^^^ (-1))) := k6.andl _
    have hE : S16 (wr2 5 0 4 ||| shlI 1 (nI t)) := g5.or (.bit ht16)
    have ec : f_X0_landing i (nI p) (nI th) wc = some (nI t, up (up (up (up wc2 17 i p lk) 16 i p kp) 15 i p (wr2 22 0 (3 * p) &&& (shlI 1 (nI t) ^^^ (-1)))) 0 i 3 (wr2 5 0 4 ||| shlI 1 (nI t))) := by
      unfold f_X0_landing
      rw [hN, if_neg h1, if_neg h2, c1]
      show Option.bind (f_X0_lucksBy i (nI p) (nI th) wc1) _ = _
      rw [c2]
      dsimp only [Option.bind]
      rw [if_neg (nI_pos (by omega))]
      rw [s17, s16, a16, a15, e17, hL2, s15, up_k (show (16 : Nat) ≠ 17 by decide), k4, hK2, up_k (show (15 : Nat) ≠ 16 by decide), up_k (show (15 : Nat) ≠ 17 by decide), k3, up_k (show (0 : Nat) ≠ 15 by decide), up_k (show (0 : Nat) ≠ 16 by decide), up_k (show (0 : Nat) ≠ 17 by decide), g4]
    have hne : ¬ nI t = -1 := fun z => absurd (show nI t < 0 by rw [z]; decide) (nI_pos (by omega))
    have er : f_X5_landOf (nI p) (nI th) wr = some (nI t, up (up (up (up wr2 22 0 (3 * p + 1) kp) 22 0 (3 * p) (wr2 22 0 (3 * p) &&& (shlI 1 (nI t) ^^^ (-1)))) 5 0 4 (wr2 5 0 4 ||| shlI 1 (nI t))) 22 0 (3 * p + 2) lk) := by
      unfold f_X5_landOf
      rw [r1]
      show Option.bind (f_X5_lucksOf (nI p) (nI th) wr1) _ = _
      rw [r2]
      dsimp only [Option.bind]
      rw [m31, m3, if_pos i1, if_pos i1, if_neg hne, if_pos i0, if_pos i0]
      unfold j_X5_landOf_64
      rw [m32, if_pos i2, if_pos i2, t1, t2, t0, hK2, up_j (show (3 * p : Nat) ≠ 3 * p + 1 by omega), up_k (show (5 : Nat) ≠ 22 by decide), up_k (show (5 : Nat) ≠ 22 by decide), up_k (show (22 : Nat) ≠ 5 by decide), up_j (show (3 * p + 2 : Nat) ≠ 3 * p by omega), up_j (show (3 * p + 2 : Nat) ≠ 3 * p + 1 by omega), hL2]
    generalize wr2 22 0 (3 * p) &&& (shlI 1 (nI t) ^^^ (-1)) = kn at *
    generalize wr2 5 0 4 ||| shlI 1 (nI t) = se at *
    have fc2 : ThC i wc2 (up (up (up (up wc2 17 i p lk) 16 i p kp) 15 i p kn) 0 i 3 se) := (((ThC.rf.up (by omega)).up (by omega)).up (by omega)).up (by omega)
    have fr2 : ThR wr2 (up (up (up (up wr2 22 0 (3 * p + 1) kp) 22 0 (3 * p) kn) 5 0 4 se) 22 0 (3 * p + 2) lk) := (((ThR.rf.up2).up2).up5 (by omega)).up2
    refine ⟨nI t, _, _, ec, er, ⟨CR.upd (p := p) (kn := kn) (kp := kp) (lk := lk) (se := se) (td := wr2 5 0 5) hC hS hkp hl hE ?_ ?_ ?_ ?_ ?_ ?_ ?_ ?_ ?_ ?_, hT.th fc2 fr2, hL.th fr2⟩, tc.tr fc2, tr.tr fr2, ?_, Or.inr ⟨t, ht16, rfl⟩⟩
    · simp [up]
    · simp [up]
    · simp [up, g6]
    · simp [up]
    · intro q hq
      refine ⟨by simp [up], by simp [up], by simp [up], by simp [up], by simp [up]⟩
    · simp [up]
    · simp [up]
    · simp [up]
    · simp [up]
    · intro q hq
      have n1 : ¬ (3 * q = 3 * p + 1) := by omega
      have n2 : ¬ (3 * q = 3 * p + 2) := by omega
      have n3 : ¬ (3 * q + 1 = 3 * p + 2) := by omega
      have n4 : ¬ (3 * q + 2 = 3 * p + 1) := by omega
      have n7 : ¬ (3 * q + 1 = 3 * p) := by omega
      have n8 : ¬ (3 * q + 2 = 3 * p) := by omega
      by_cases hqp : q = p
      · subst hqp; simp [up, n1, n2, n3, n4, n7, n8]
      · have n5 : ¬ (3 * q + 1 = 3 * p + 1) := by omega
        have n6 : ¬ (3 * q + 2 = 3 * p + 2) := by omega
        have n9 : ¬ (3 * q = 3 * p) := by omega
        simp [up, n1, n2, n3, n4, n5, n6, n7, n8, n9, hqp]
    · simp [up, q5]
