/-! what a law says, on both sides -/
theorem up_k {w : Mem} {k i j : Nat} {v : Int32} {a b c : Nat} (h : a ≠ k) : up w k i j v a b c = w a b c := up_n (fun z => h z.1)
theorem up_j {w : Mem} {k i j : Nat} {v : Int32} {a b c : Nat} (h : c ≠ j) : up w k i j v a b c = w a b c := up_n (fun z => h z.2.2)
theorem up_i {w : Mem} {k i j : Nat} {v : Int32} {a b c : Nat} (h : b ≠ i) : up w k i j v a b c = w a b c := up_n (fun z => h z.2.1)
def nm6 (a0 a1 a2 a3 a4 a5 : Int32) (j : Nat) : Int32 := if j = 0 then a0 else if j = 1 then a1 else if j = 2 then a2 else if j = 3 then a3 else if j = 4 then a4 else a5
def put6 (w : Mem) (k i : Nat) (a0 a1 a2 a3 a4 a5 : Int32) : Mem := up (up (up (up (up (up w k i 0 a0) k i 1 a1) k i 2 a2) k i 3 a3) k i 4 a4) k i 5 a5
theorem put6_o {w : Mem} {k i : Nat} {a0 a1 a2 a3 a4 a5 : Int32} : OnlyK k w (put6 w k i a0 a1 a2 a3 a4 a5) := (((((OnlyK.rf.up).up).up).up).up).up
theorem put6_n {w : Mem} {k i : Nat} {a0 a1 a2 a3 a4 a5 : Int32} : ∀ j, j < 6 → put6 w k i a0 a1 a2 a3 a4 a5 k i j = nm6 a0 a1 a2 a3 a4 a5 j := by
  intro j hj
  unfold put6 nm6
  match j, hj with
  | 0, _ => simp [up]
  | 1, _ => simp [up]
  | 2, _ => simp [up]
  | 3, _ => simp [up]
  | 4, _ => simp [up]
  | 5, _ => simp [up]
theorem set_0 (w : Mem) (i : Nat) (v : Int32) : setV w 12 i 0 v = up w 12 i 0 v := setV_n w (k := 12) i (p := 0) v (by decide) (by decide)
theorem set_1 (w : Mem) (i : Nat) (v : Int32) : setV w 12 i 1 v = up w 12 i 1 v := setV_n w (k := 12) i (p := 1) v (by decide) (by decide)
theorem set_2 (w : Mem) (i : Nat) (v : Int32) : setV w 12 i 2 v = up w 12 i 2 v := setV_n w (k := 12) i (p := 2) v (by decide) (by decide)
theorem set_3 (w : Mem) (i : Nat) (v : Int32) : setV w 12 i 3 v = up w 12 i 3 v := setV_n w (k := 12) i (p := 3) v (by decide) (by decide)
theorem set_4 (w : Mem) (i : Nat) (v : Int32) : setV w 12 i 4 v = up w 12 i 4 v := setV_n w (k := 12) i (p := 4) v (by decide) (by decide)
theorem set_5 (w : Mem) (i : Nat) (v : Int32) : setV w 12 i 5 v = up w 12 i 5 v := setV_n w (k := 12) i (p := 5) v (by decide) (by decide)
/-- only two kinds are otherwise -/
def Only2 (k l : Nat) (w w' : Mem) : Prop := ∀ a b c, a ≠ k → a ≠ l → w' a b c = w a b c
theorem says_24 {i p t part : Nat} {C : Nat → List Int32} {wc wr : Mem} {th : Int32} (hT : TxR t C wc wr) (ht : t < 6) (hp : part < 3) (hP : p < 6) (hl : wc 0 i 5 = nI t) : ∃ wc', j_X0_says_24 i (nI part) (nI p) th 0 wc = some (if part = 2 then wiF (valC (nm6 th (bcF (wc 15 i p)) (bcF (wc 16 i p)) (wc 0 i 4) (wc 17 i p) (wc 14 i p)) (C part)) 0 16 else wiF (valC (nm6 th (bcF (wc 15 i p)) (bcF (wc 16 i p)) (wc 0 i 4) (wc 17 i p) (wc 14 i p)) (C part)) (-99) 99, wc') ∧ Only2 8 12 wc wc' := by
  have hT2 : TxR t C (put6 wc 12 i th (bcF (wc 15 i p)) (bcF (wc 16 i p)) (wc 0 i 4) (wc 17 i p) (wc 14 i p)) wr := by
    refine ⟨hT.1, fun q hq => ?_⟩
    obtain ⟨h1, h2, h3⟩ := hT.2 q hq
    exact ⟨by rw [put6_o 7 0 _ (by decide)]; exact h1, fun j hj => by rw [put6_o 6 0 _ (by decide)]; exact h2 j hj, h3⟩
  obtain ⟨w', h1, h2⟩ := value_c hT2 ht hp put6_n
  have e15 : ∀ w : Mem, atV w 15 i (nI p) = w 15 i p := fun w => atV_n w i hP (by decide)
  have e16 : ∀ w : Mem, atV w 16 i (nI p) = w 16 i p := fun w => atV_n w i hP (by decide)
  have e17 : ∀ w : Mem, atV w 17 i (nI p) = w 17 i p := fun w => atV_n w i hP (by decide)
  have e14 : ∀ w : Mem, atV w 14 i (nI p) = w 14 i p := fun w => atV_n w i hP (by decide)
  refine ⟨w', ?_, fun a b c ha1 ha2 => (h2 a b c ha1).trans (put6_o a b c ha2)⟩
  unfold j_X0_says_24
  simp only [set_0, set_1, set_2, set_3, set_4, set_5, e14, e15, e16, e17, up_k (show (15 : Nat) ≠ 12 by decide), up_k (show (16 : Nat) ≠ 12 by decide), up_k (show (17 : Nat) ≠ 12 by decide), up_k (show (14 : Nat) ≠ 12 by decide), up_k (show (0 : Nat) ≠ 12 by decide), hl]
  rw [show up (up (up (up (up (up wc 12 i 0 th) 12 i 1 (bcF (wc 15 i p))) 12 i 2 (bcF (wc 16 i p))) 12 i 3 (wc 0 i 4)) 12 i 4 (wc 17 i p)) 12 i 5 (wc 14 i p) = put6 wc 12 i th (bcF (wc 15 i p)) (bcF (wc 16 i p)) (wc 0 i 4) (wc 17 i p) (wc 14 i p) from rfl, h1]
  show (if nI part = 2 then _ else _) = _
  by_cases h2p : part = 2
  · subst h2p; rfl
  · have hne : ¬ nI part = 2 := fun z => h2p ((nI_eq (a := part) (b := 2) (by omega) (by omega)).mp z)
    rw [if_neg h2p, if_neg hne]
theorem says_c {i p t part : Nat} {C : Nat → List Int32} {wc wr : Mem} {th : Int32} (hT : TxR t C wc wr) (ht : t < 6) (hp : part < 3) (hP : p < 6) (hl : wc 0 i 5 = nI t) : ∃ wc', f_X0_says i (nI part) (nI p) th wc = some (if part = 2 then wiF (valC (nm6 0 (bcF (wc 15 i p)) (bcF (wc 16 i p)) (wc 0 i 4) (wc 17 i p) (wc 14 i p)) (C part)) 0 16 else wiF (valC (nm6 th (bcF (wc 15 i p)) (bcF (wc 16 i p)) (wc 0 i 4) (wc 17 i p) (wc 14 i p)) (C part)) (-99) 99, wc') ∧ Only2 8 12 wc wc' := by
  unfold f_X0_says
  by_cases h2p : part = 2
  · obtain ⟨w', h1, h2⟩ := says_24 (th := 0) hT ht hp hP hl
    refine ⟨w', ?_, h2⟩
    rw [if_pos h2p] at h1 ⊢
    subst h2p
    rw [if_pos (show nI 2 = 2 from rfl)]
    exact h1
  · obtain ⟨w', h1, h2⟩ := says_24 (th := th) hT ht hp hP hl
    refine ⟨w', ?_, h2⟩
    rw [if_neg h2p] at h1 ⊢
    have hne : ¬ nI part = 2 := fun z => h2p ((nI_eq (a := part) (b := 2) (by omega) (by omega)).mp z)
    rw [if_neg hne]
    exact h1
/-- the reference's -/
theorem asks_15 {p t part : Nat} {C : Nat → List Int32} {wc wr : Mem} {th : Int32} (hT : TxR t C wc wr) (ht : t < 6) (hp : part < 3) (hP : p < 6) (hl : wr 5 0 11 = nI t) : ∃ wr', j_X5_asksOf_15 (nI part) (nI p) th 0 wr = some (if part = 2 then wiF (valC (nm6 th (bitsF (wr 22 0 (3 * p))) (bitsF (wr 22 0 (3 * p + 1))) (wr 5 0 5) (wr 22 0 (3 * p + 2)) (wr 21 0 p)) (C part)) 0 16 else wiF (valC (nm6 th (bitsF (wr 22 0 (3 * p))) (bitsF (wr 22 0 (3 * p + 1))) (wr 5 0 5) (wr 22 0 (3 * p + 2)) (wr 21 0 p)) (C part)) (-99) 99, wr') ∧ Only2 34 35 wr wr' := by
  have hT2 : TxR t C wc (put6 wr 35 0 th (bitsF (wr 22 0 (3 * p))) (bitsF (wr 22 0 (3 * p + 1))) (wr 5 0 5) (wr 22 0 (3 * p + 2)) (wr 21 0 p)) := by
    refine ⟨hT.1, fun q hq => ?_⟩
    obtain ⟨h1, h2, h3, h4, h5, h6⟩ := hT.2 q hq
    exact ⟨h1, h2, by rw [put6_o 25 0 _ (by decide)]; exact h3, by rw [put6_o 25 0 _ (by decide)]; exact h4, fun j hj => by rw [put6_o 24 0 _ (by decide)]; exact h5 j hj, h6⟩
  obtain ⟨w', h1, h2⟩ := says_r hT2 ht hp (by rw [put6_o 5 0 _ (by decide)]; exact hl) put6_n
  refine ⟨w', ?_, fun a b c ha1 ha2 => (h2 a b c ha1).trans (put6_o a b c ha2)⟩
  have e0 : 3 * nI p = nI (3 * p) := by rw [show (3 : Int32) = nI 3 from rfl, nI_mul]
  have e1 : nI (3 * p) + 1 = nI (3 * p + 1) := nI_1 _
  have e2 : nI (3 * p) + 2 = nI (3 * p + 2) := nI_add _ 2
  have t0 : tn (nI (3 * p)) = 3 * p := nI_clamp (by omega)
  have t1 : tn (nI (3 * p + 1)) = 3 * p + 1 := nI_clamp (by omega)
  have t2 : tn (nI (3 * p + 2)) = 3 * p + 2 := nI_clamp (by omega)
  have t3 : tn (nI p) = p := nI_clamp (by omega)
  have z0 : tn 0 = 0 := by decide
  have z1 : tn 1 = 1 := by decide
  have z2 : tn 2 = 2 := by decide
  have z3 : tn 3 = 3 := by decide
  have z4 : tn 4 = 4 := by decide
  have z5 : tn 5 = 5 := by decide
  unfold j_X5_asksOf_15
  rw [e0, e1, e2, t0, t1, t2, t3, z0, z1, z2, z3, z4, z5, if_pos (by decide), if_pos (nI_in (by omega) (by omega)), if_pos (by decide), if_pos (nI_in (by omega) (by omega)), if_pos (by decide), if_pos (by decide), if_pos (nI_in (by omega) (by omega)), if_pos (by decide), if_pos (nI_in (by omega) (by omega)), if_pos (by decide)]
  simp only [up_k (show (22 : Nat) ≠ 35 by decide), up_k (show (21 : Nat) ≠ 35 by decide), up_k (show (5 : Nat) ≠ 35 by decide)]
  rw [show up (up (up (up (up (up wr 35 0 0 th) 35 0 1 (bitsF (wr 22 0 (3 * p)))) 35 0 2 (bitsF (wr 22 0 (3 * p + 1)))) 35 0 3 (wr 5 0 5)) 35 0 4 (wr 22 0 (3 * p + 2))) 35 0 5 (wr 21 0 p) = put6 wr 35 0 th (bitsF (wr 22 0 (3 * p))) (bitsF (wr 22 0 (3 * p + 1))) (wr 5 0 5) (wr 22 0 (3 * p + 2)) (wr 21 0 p) from rfl, h1]
  unfold j_X5_asksOf_106
  show (if nI part = 2 then _ else _) = _
  by_cases h2p : part = 2
  · subst h2p; rfl
  · have hne : ¬ nI part = 2 := fun z => h2p ((nI_eq (a := part) (b := 2) (by omega) (by omega)).mp z)
    rw [if_neg h2p, if_neg hne, if_neg hne]
