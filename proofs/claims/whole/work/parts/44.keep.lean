/-! in thought: the class goes on in a coast of its own, the reference keeps and lays back -/
def OnC (i : Nat) (w w' : Mem) : Prop := ∀ a b c, ¬ (b = i ∧ (a = 0 ∨ a = 13 ∨ a = 14 ∨ a = 15 ∨ a = 16 ∨ a = 17)) → w' a b c = w a b c
def As (i j : Nat) (w w' : Mem) : Prop := (∀ c, (c = 2 ∨ c = 3 ∨ c = 4 ∨ c = 5) → w' 0 i c = w 0 j c) ∧ (∀ k q, (k = 13 ∨ k = 14 ∨ k = 15 ∨ k = 16 ∨ k = 17) → q < 6 → w' k i q = w k j q) ∧ OnC i w w'
theorem become_loop {i j : Nat} (hij : i ≠ j) (w : Mem) : ∀ (r q n : Nat) (w1 : Mem), q + r = 6 → r < n → (∀ c, (c = 2 ∨ c = 3 ∨ c = 4 ∨ c = 5) → w1 0 i c = w 0 j c) → (∀ k p, (k = 13 ∨ k = 14 ∨ k = 15 ∨ k = 16 ∨ k = 17) → p < q → w1 k i p = w k j p) → OnC i w w1 → ∃ w', h_X0_become_39 i j (fun w2 => some w2) n (nI q) w1 = some w' ∧ As i j w w' := by
  intro r
  induction r with
  | zero =>
    intro q n w1 hq hn h1 h2 h3
    obtain ⟨n, rfl⟩ : ∃ m, n = m + 1 := ⟨n - 1, by omega⟩
    have e : q = 6 := by omega
    subst e
    refine ⟨w1, ?_, h1, h2, h3⟩
    unfold h_X0_become_39
    rw [if_neg (show ¬ nI 6 < 6 by decide)]
  | succ r ih =>
    intro q n w1 hq hn h1 h2 h3
    obtain ⟨n, rfl⟩ : ∃ m, n = m + 1 := ⟨n - 1, by omega⟩
    have hq6 : q < 6 := by omega
    have s13 : ∀ (w : Mem) (v : Int32), setV w 13 i (nI q) v = up w 13 i q v := fun w v => setV_n w i v hq6 (by decide)
    have s14 : ∀ (w : Mem) (v : Int32), setV w 14 i (nI q) v = up w 14 i q v := fun w v => setV_n w i v hq6 (by decide)
    have s15 : ∀ (w : Mem) (v : Int32), setV w 15 i (nI q) v = up w 15 i q v := fun w v => setV_n w i v hq6 (by decide)
    have s16 : ∀ (w : Mem) (v : Int32), setV w 16 i (nI q) v = up w 16 i q v := fun w v => setV_n w i v hq6 (by decide)
    have s17 : ∀ (w : Mem) (v : Int32), setV w 17 i (nI q) v = up w 17 i q v := fun w v => setV_n w i v hq6 (by decide)
    have a13 : ∀ w : Mem, atV w 13 j (nI q) = w 13 j q := fun w => atV_n w j hq6 (by decide)
    have a14 : ∀ w : Mem, atV w 14 j (nI q) = w 14 j q := fun w => atV_n w j hq6 (by decide)
    have a15 : ∀ w : Mem, atV w 15 j (nI q) = w 15 j q := fun w => atV_n w j hq6 (by decide)
    have a16 : ∀ w : Mem, atV w 16 j (nI q) = w 16 j q := fun w => atV_n w j hq6 (by decide)
    have a17 : ∀ w : Mem, atV w 17 j (nI q) = w 17 j q := fun w => atV_n w j hq6 (by decide)
    unfold h_X0_become_39
    rw [if_pos (show nI q < 6 from nI_lt (a := q) (b := 6) hq6 (by omega))]
    simp only [s13, s14, s15, s16, s17, a13, a14, a15, a16, a17, up_k (show (14 : Nat) ≠ 13 by decide), up_k (show (15 : Nat) ≠ 13 by decide), up_k (show (15 : Nat) ≠ 14 by decide), up_k (show (16 : Nat) ≠ 13 by decide), up_k (show (16 : Nat) ≠ 14 by decide), up_k (show (16 : Nat) ≠ 15 by decide), up_k (show (17 : Nat) ≠ 13 by decide), up_k (show (17 : Nat) ≠ 14 by decide), up_k (show (17 : Nat) ≠ 15 by decide), up_k (show (17 : Nat) ≠ 16 by decide), nI_1]
    have f : ∀ k, w1 k j q = w k j q := fun k => h3 k j q (fun z => hij z.1.symm)
    refine ih (q + 1) n _ (by omega) (by omega) ?_ ?_ ?_
    · intro c hc
      rw [up_k (by decide), up_k (by decide), up_k (by decide), up_k (by decide), up_k (by decide)]
      exact h1 c hc
    · intro k p hk hp
      by_cases hpq : p = q
      · subst hpq
        rcases hk with rfl | rfl | rfl | rfl | rfl <;> simp [up, f]
      · have := h2 k p hk (by omega)
        rcases hk with rfl | rfl | rfl | rfl | rfl <;> simp [up, hpq, this]
    · intro a b c habc
      rw [up_n (fun z => habc ⟨z.2.1, by omega⟩), up_n (fun z => habc ⟨z.2.1, by omega⟩), up_n (fun z => habc ⟨z.2.1, by omega⟩), up_n (fun z => habc ⟨z.2.1, by omega⟩), up_n (fun z => habc ⟨z.2.1, by omega⟩)]
      exact h3 a b c habc
theorem become_c {i j : Nat} (hij : i ≠ j) (w : Mem) : ∃ w', f_X0_become i j w = some w' ∧ As i j w w' := by
  have hji : ¬ j = i := fun z => hij z.symm
  unfold f_X0_become
  have e : ∀ (w : Mem) (c d : Nat) (v : Int32), up w 0 i c v 0 j d = w 0 j d := fun w c d v => up_i hji
  simp only [e]
  refine become_loop hij w 6 0 FU _ rfl (by show 6 < 1000000; omega) ?_ ?_ ?_
  · intro c hc
    rcases hc with rfl | rfl | rfl | rfl <;> simp [up]
  · intro k p _ hp; omega
  · intro a b c habc
    rw [up_n (fun z => habc ⟨z.2.1, by omega⟩), up_n (fun z => habc ⟨z.2.1, by omega⟩), up_n (fun z => habc ⟨z.2.1, by omega⟩), up_n (fun z => habc ⟨z.2.1, by omega⟩)]
theorem OnC.th {i : Nat} {w w' : Mem} (h : OnC i w w') : ThC i w w' := fun a b c h1 _ _ => h a b c h1
theorem CR.as {i j N : Nat} {wc wr wc' : Mem} (h : CR j N wc wr) (ha : As i j wc wc') : CR i N wc' wr := by
  obtain ⟨h1, h2, h3, h4, h5, h6, h7, h8⟩ := h
  obtain ⟨a1, a2, a3⟩ := ha
  refine ⟨h1, (a1 2 (by omega)).trans h2, h3, (a1 3 (by omega)).trans h4, h5, (a1 4 (by omega)).trans h6, (a1 5 (by omega)).trans h7, fun p hp => ?_⟩
  have q := h8 p hp
  rw [a2 13 p (by omega) (by omega), a2 14 p (by omega) (by omega), a2 15 p (by omega) (by omega), a2 16 p (by omega) (by omega), a2 17 p (by omega) (by omega)]
  exact q
theorem Bo.as {i j N M : Nat} {CC : Nat → Nat → List Int32} {wc wr wc' : Mem} (h : Bo j N M CC wc wr) (ha : As i j wc wc') : Bo i N M CC wc' wr := ⟨h.1.as ha, h.2.1.th ha.2.2.th ThR.rf, h.2.2⟩
/-- what the reference keeps -/
def Kp (w w' : Mem) : Prop := (∀ c, c < 18 → w' 36 0 c = w 22 0 c) ∧ w' 36 0 18 = w 5 0 4 ∧ w' 36 0 19 = w 5 0 5 ∧ OnlyK 36 w w'
theorem keeps_r (w : Mem) : ∃ w', f_X5_keeps w = some w' ∧ Kp w w' := by
  have loop : ∀ (k : Mem → Option Mem) (r q n : Nat) (w1 : Mem), q + r = 18 → r < n → (∀ c, c < q → w1 36 0 c = w 22 0 c) → OnlyK 36 w w1 → ∃ w', h_X5_keeps_2 k n (nI q) w1 = k w' ∧ (∀ c, c < 18 → w' 36 0 c = w 22 0 c) ∧ OnlyK 36 w w' := by
    intro k r
    induction r with
    | zero =>
      intro q n w1 hq hn h1 h2
      obtain ⟨n, rfl⟩ : ∃ m, n = m + 1 := ⟨n - 1, by omega⟩
      have e : q = 18 := by omega
      subst e
      refine ⟨w1, ?_, h1, h2⟩
      unfold h_X5_keeps_2
      rw [if_neg (show ¬ nI 18 < 18 by decide)]
    | succ r ih =>
      intro q n w1 hq hn h1 h2
      obtain ⟨n, rfl⟩ : ∃ m, n = m + 1 := ⟨n - 1, by omega⟩
      unfold h_X5_keeps_2
      rw [if_pos (show nI q < 18 from nI_lt (a := q) (b := 18) (by omega) (by omega)), if_pos (nI_in (by omega) (by omega)), if_pos (nI_in (by omega) (by omega)), show tn (nI q) = q from nI_clamp (by omega), nI_1]
      refine ih (q + 1) n _ (by omega) (by omega) ?_ h2.up
      intro c hc
      by_cases e : c = q
      · subst e; rw [up_s]; exact h2 22 0 c (by decide)
      · rw [up_j e]; exact h1 c (by omega)
  unfold f_X5_keeps
  obtain ⟨w4, e, h1, h2⟩ := loop (fun w4 => if inB 18 20 then (if inB 19 20 then (some (up (up w4 36 0 (tn 18) (w4 5 0 4)) 36 0 (tn 19) ((up w4 36 0 (tn 18) (w4 5 0 4)) 5 0 5))) else none) else none) 18 0 FU w rfl (by show 18 < 1000000; omega) (fun c hc => by omega) OnlyK.rf
  refine ⟨up (up w4 36 0 18 (w4 5 0 4)) 36 0 19 (w4 5 0 5), e.trans ?_, ?_⟩
  · rw [if_pos (by decide), if_pos (by decide), show tn 18 = 18 by decide, show tn 19 = 19 by decide, up_k (show (5 : Nat) ≠ 36 by decide)]
  · refine ⟨fun c hc => ?_, ?_, ?_, (h2.up).up⟩
    · rw [up_j (by omega), up_j (by omega)]; exact h1 c hc
    · rw [up_j (by omega), up_s]; exact h2 5 0 4 (by decide)
    · rw [up_s]; exact h2 5 0 5 (by decide)
theorem Kp.q {w w' : Mem} (h : Kp w w') : QR w w' := ⟨fun c _ => h.2.2.2 5 0 c (by decide), fun c _ => h.2.2.2 22 0 c (by decide), fun a b c ha => h.2.2.2 a b c (by omega)⟩
theorem Kp.f {w w' : Mem} (h : Kp w w') : FR w w' := fun a b c ha => h.2.2.2 a b c (by omega)
theorem Kp.bo {i N M : Nat} {CC : Nat → Nat → List Int32} {wc wr wr' : Mem} (h : Bo i N M CC wc wr) (hk : Kp wr wr') : Bo i N M CC wc wr' := by
  have hr := hk.q
  exact ⟨h.1.of (fun _ => rfl) (fun _ _ _ => rfl) (fun c h => hr.1 c (by omega)) hr.2.1 (fun c => hr.2.2 20 0 c (by omega)) (fun c => hr.2.2 21 0 c (by omega)),
   h.2.1.of rfl (fun _ => rfl) (fun _ => rfl) (hr.1 10 (by omega)) (fun c => hr.2.2 24 0 c (by omega)) (fun c => hr.2.2 25 0 c (by omega)),
   h.2.2.of (hr.1 11 (by omega))⟩
/-- rows, the sea, tides and what is no part of the bond are otherwise -/
def ThS (w w' : Mem) : Prop := ∀ a b c, a ≠ 22 → ¬ (a = 5 ∧ b = 0 ∧ (c = 4 ∨ c = 5 ∨ 31 ≤ c)) → a ≠ 34 → a ≠ 35 → w' a b c = w a b c
theorem ThS.tr {w w1 w2 : Mem} (h : ThS w w1) (h2 : ThS w1 w2) : ThS w w2 := fun a b c h1 h5 h8 h12 => (h2 a b c h1 h5 h8 h12).trans (h a b c h1 h5 h8 h12)
theorem ThS.rf {w : Mem} : ThS w w := fun _ _ _ _ _ _ _ => rfl
theorem ThR.s {w w' : Mem} (h : ThR w w') : ThS w w' := fun a b c h1 h5 h8 h12 => h a b c h1 (fun z => h5 ⟨z.1, z.2.1, by omega⟩) h8 h12
theorem ThS.up {w w' : Mem} (h : ThS w w') {c0 : Nat} {v : Int32} (hc : 31 ≤ c0) : ThS w (up w' 5 0 c0 v) := fun a b c h1 h5 h8 h12 => by
  rw [up_n (fun z => h5 ⟨z.1, z.2.1, by omega⟩)]; exact h a b c h1 h5 h8 h12
theorem ThS.f {w w' : Mem} (h : ThS w w') : FR w w' := fun a b c ha => h a b c (by omega) (by omega) (by omega) (by omega)
theorem TR.ths {i M : Nat} {CC : Nat → Nat → List Int32} {wc wr wc' wr' : Mem} (h : TR M CC wc wr) (hc : ThC i wc wc') (hr : ThS wr wr') : TR M CC wc' wr' :=
  h.of (hc 3 0 0 (by omega) (by decide) (by decide)) (fun c => hc 6 0 c (by omega) (by decide) (by decide)) (fun c => hc 7 0 c (by omega) (by decide) (by decide)) (hr 5 0 10 (by decide) (by omega) (by decide) (by decide)) (fun c => hr 24 0 c (by decide) (by omega) (by decide) (by decide)) (fun c => hr 25 0 c (by decide) (by omega) (by decide) (by decide))
theorem Bo.s {i N M : Nat} {CC : Nat → Nat → List Int32} {wc wr : Mem} (h : Bo i N M CC wc wr) {c0 : Nat} {v : Int32} (hc : 31 ≤ c0) : Bo i N M CC wc (up wr 5 0 c0 v) := by
  have e : ∀ c, c < 31 → up wr 5 0 c0 v 5 0 c = wr 5 0 c := fun c h => up_j (by omega)
  have e2 : ∀ a c, a ≠ 5 → up wr 5 0 c0 v a 0 c = wr a 0 c := fun a c h => up_k h
  exact ⟨h.1.of (fun _ => rfl) (fun _ _ _ => rfl) (fun c h => e c (by omega)) (fun c _ => e2 22 c (by decide)) (fun c => e2 20 c (by decide)) (fun c => e2 21 c (by decide)),
   h.2.1.of rfl (fun _ => rfl) (fun _ => rfl) (e 10 (by omega)) (fun c => e2 24 c (by decide)) (fun c => e2 25 c (by decide)),
   h.2.2.of (e 11 (by omega))⟩
theorem lays_r {w w1 w2 : Mem} (hk : Kp w w1) (ht : ThS w1 w2) : ∃ w3, f_X5_lays w2 = some w3 ∧ QR w w3 ∧ FR w2 w3 ∧ (∀ c, 31 ≤ c → w3 5 0 c = w2 5 0 c) := by
  have loop : ∀ (k : Mem → Option Mem) (r q n : Nat) (w1 : Mem), q + r = 18 → r < n → (∀ c, c < q → w1 22 0 c = w2 36 0 c) → OnlyK 22 w2 w1 → ∃ w', h_X5_lays_2 k n (nI q) w1 = k w' ∧ (∀ c, c < 18 → w' 22 0 c = w2 36 0 c) ∧ OnlyK 22 w2 w' := by
    intro k r
    induction r with
    | zero =>
      intro q n w1 hq hn h1 h2
      obtain ⟨n, rfl⟩ : ∃ m, n = m + 1 := ⟨n - 1, by omega⟩
      have e : q = 18 := by omega
      subst e
      refine ⟨w1, ?_, h1, h2⟩
      unfold h_X5_lays_2
      rw [if_neg (show ¬ nI 18 < 18 by decide)]
    | succ r ih =>
      intro q n w1 hq hn h1 h2
      obtain ⟨n, rfl⟩ : ∃ m, n = m + 1 := ⟨n - 1, by omega⟩
      unfold h_X5_lays_2
      rw [if_pos (show nI q < 18 from nI_lt (a := q) (b := 18) (by omega) (by omega)), if_pos (nI_in (by omega) (by omega)), if_pos (nI_in (by omega) (by omega)), show tn (nI q) = q from nI_clamp (by omega), nI_1]
      refine ih (q + 1) n _ (by omega) (by omega) ?_ h2.up
      intro c hc
      by_cases e : c = q
      · subst e; rw [up_s]; exact h2 36 0 c (by decide)
      · rw [up_j e]; exact h1 c (by omega)
  unfold f_X5_lays
  obtain ⟨w4, e, h1, h2⟩ := loop (fun w4 => if inB 18 20 then (if inB 19 20 then (some (up (up w4 5 0 4 (w4 36 0 (tn 18))) 5 0 5 ((up w4 5 0 4 (w4 36 0 (tn 18))) 36 0 (tn 19)))) else none) else none) 18 0 FU w2 rfl (by show 18 < 1000000; omega) (fun c hc => by omega) OnlyK.rf
  have g : ∀ c, w2 36 0 c = w1 36 0 c := fun c => ht 36 0 c (by decide) (by omega) (by decide) (by decide)
  refine ⟨up (up w4 5 0 4 (w4 36 0 18)) 5 0 5 (w4 36 0 19), e.trans ?_, ⟨fun c hc => ?_, fun c hc => ?_, fun a b c ha => ?_⟩, fun a b c ha => ?_, fun c hc => ?_⟩
  · rw [if_pos (by decide), if_pos (by decide), show tn 18 = 18 by decide, show tn 19 = 19 by decide, up_k (show (36 : Nat) ≠ 5 by decide)]
  · by_cases h4 : c = 4
    · subst h4; rw [up_j (by omega), up_s, h2 36 0 18 (by decide), g]; exact hk.2.1
    · by_cases h5 : c = 5
      · subst h5; rw [up_s, h2 36 0 19 (by decide), g]; exact hk.2.2.1
      · rw [up_j h5, up_j h4, h2 5 0 c (by decide), ht 5 0 c (by decide) (by omega) (by decide) (by decide)]; exact hk.2.2.2 5 0 c (by decide)
  · rw [up_k (by decide), up_k (by decide), h1 c hc, g]; exact hk.1 c hc
  · rw [up_k (by omega), up_k (by omega), h2 a b c (by omega), ht a b c (by omega) (by omega) (by omega) (by omega)]; exact hk.2.2.2 a b c (by omega)
  · rw [up_k (by omega), up_k (by omega), h2 a b c (by omega)]
  · rw [up_j (by omega), up_j (by omega), h2 5 0 c (by decide)]
