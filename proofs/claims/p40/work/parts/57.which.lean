/-! in thought; the best; by how few lessons -/
def OnC (i : Nat) (w w' : Mem) : Prop := ∀ a b c, ¬ (b = i ∧ (a = 0 ∨ a = 13 ∨ a = 14 ∨ a = 15 ∨ a = 16 ∨ a = 17)) → w' a b c = w a b c
def As (i j : Nat) (w w' : Mem) : Prop := (∀ c, (c = 2 ∨ c = 3 ∨ c = 4 ∨ c = 5) → w' 0 i c = w 0 j c) ∧ (∀ k q, (k = 13 ∨ k = 14 ∨ k = 15 ∨ k = 16 ∨ k = 17) → q < 6 → w' k i q = w k j q) ∧ OnC i w w'
theorem become_loop {i j : Nat} (hij : i ≠ j) (w : Mem) : ∀ (r q n : Nat) (w1 : Mem), q + r = 6 → r < n → (∀ c, (c = 2 ∨ c = 3 ∨ c = 4 ∨ c = 5) → w1 0 i c = w 0 j c) → (∀ k p, (k = 13 ∨ k = 14 ∨ k = 15 ∨ k = 16 ∨ k = 17) → p < q → w1 k i p = w k j p) → OnC i w w1 → ∃ w', h_X0_become_39 i j (fun w2 => some w2) n (nI q) w1 = some w' ∧ As i j w w' := by
  intro r
  induction r with
  | zero =>
    intro q n w1 hq hn h1 h2 h3
    obtain ⟨n, rfl⟩ : ∃ m, n = m + 1 := ⟨n - 1, by omega⟩
    have e : q = 6 := by omega
    subst e
    refine ⟨w1, ?_, h1, h2, h3⟩
    unfold h_X0_become_39
    rw [if_neg (show ¬ nI 6 < 6 by decide)]
  | succ r ih =>
    intro q n w1 hq hn h1 h2 h3
    obtain ⟨n, rfl⟩ : ∃ m, n = m + 1 := ⟨n - 1, by omega⟩
    have hq6 : q < 6 := by omega
    have s13 : ∀ (w : Mem) (v : Int32), setV w 13 i (nI q) v = up w 13 i q v := fun w v => setV_n w i v hq6 (by decide)
    have s14 : ∀ (w : Mem) (v : Int32), setV w 14 i (nI q) v = up w 14 i q v := fun w v => setV_n w i v hq6 (by decide)
    have s15 : ∀ (w : Mem) (v : Int32), setV w 15 i (nI q) v = up w 15 i q v := fun w v => setV_n w i v hq6 (by decide)
    have s16 : ∀ (w : Mem) (v : Int32), setV w 16 i (nI q) v = up w 16 i q v := fun w v => setV_n w i v hq6 (by decide)
    have s17 : ∀ (w : Mem) (v : Int32), setV w 17 i (nI q) v = up w 17 i q v := fun w v => setV_n w i v hq6 (by decide)
    have a13 : ∀ w : Mem, atV w 13 j (nI q) = w 13 j q := fun w => atV_n w j hq6 (by decide)
    have a14 : ∀ w : Mem, atV w 14 j (nI q) = w 14 j q := fun w => atV_n w j hq6 (by decide)
    have a15 : ∀ w : Mem, atV w 15 j (nI q) = w 15 j q := fun w => atV_n w j hq6 (by decide)
    have a16 : ∀ w : Mem, atV w 16 j (nI q) = w 16 j q := fun w => atV_n w j hq6 (by decide)
    have a17 : ∀ w : Mem, atV w 17 j (nI q) = w 17 j q := fun w => atV_n w j hq6 (by decide)
    unfold h_X0_become_39
    rw [if_pos (show nI q < 6 from nI_lt (a := q) (b := 6) hq6 (by omega))]
    simp only [s13, s14, s15, s16, s17, a13, a14, a15, a16, a17, up_k (show (14 : Nat) ≠ 13 by decide), up_k (show (15 : Nat) ≠ 13 by decide), up_k (show (15 : Nat) ≠ 14 by decide), up_k (show (16 : Nat) ≠ 13 by decide), up_k (show (16 : Nat) ≠ 14 by decide), up_k (show (16 : Nat) ≠ 15 by decide), up_k (show (17 : Nat) ≠ 13 by decide), up_k (show (17 : Nat) ≠ 14 by decide), up_k (show (17 : Nat) ≠ 15 by decide), up_k (show (17 : Nat) ≠ 16 by decide), nI_1]
    have f : ∀ k, w1 k j q = w k j q := fun k => h3 k j q (fun z => hij z.1.symm)
    refine ih (q + 1) n _ (by omega) (by omega) ?_ ?_ ?_
    · intro c hc
      rw [up_k (by decide), up_k (by decide), up_k (by decide), up_k (by decide), up_k (by decide)]
      exact h1 c hc
    · intro k p hk hp
      by_cases hpq : p = q
      · subst hpq
        rcases hk with rfl | rfl | rfl | rfl | rfl <;> simp [up, f]
      · have := h2 k p hk (by omega)
        rcases hk with rfl | rfl | rfl | rfl | rfl <;> simp [up, hpq, this]
    · intro a b c habc
      rw [up_n (fun z => habc ⟨z.2.1, by omega⟩), up_n (fun z => habc ⟨z.2.1, by omega⟩), up_n (fun z => habc ⟨z.2.1, by omega⟩), up_n (fun z => habc ⟨z.2.1, by omega⟩), up_n (fun z => habc ⟨z.2.1, by omega⟩)]
      exact h3 a b c habc
theorem become_c {i j : Nat} (hij : i ≠ j) (w : Mem) : ∃ w', f_X0_become i j w = some w' ∧ As i j w w' := by
  have hji : ¬ j = i := fun z => hij z.symm
  unfold f_X0_become
  have e : ∀ (w : Mem) (c d : Nat) (v : Int32), up w 0 i c v 0 j d = w 0 j d := fun w c d v => up_i hji
  simp only [e]
  refine become_loop hij w 6 0 FU _ rfl (by show 6 < 1000000; omega) ?_ ?_ ?_
  · intro c hc
    rcases hc with rfl | rfl | rfl | rfl <;> simp [up]
  · intro k p _ hp; omega
  · intro a b c habc
    rw [up_n (fun z => habc ⟨z.2.1, by omega⟩), up_n (fun z => habc ⟨z.2.1, by omega⟩), up_n (fun z => habc ⟨z.2.1, by omega⟩), up_n (fun z => habc ⟨z.2.1, by omega⟩)]
/-- what a question in thought leaves as it is: the coast itself -/
def KC (w w' : Mem) : Prop := ∀ a b c, b = 0 → a ≠ 8 → a ≠ 12 → w' a b c = w a b c
theorem KC.rf {w : Mem} : KC w w := fun _ _ _ _ _ _ => rfl
theorem KC.tr {w w1 w2 : Mem} (h : KC w w1) (h2 : KC w1 w2) : KC w w2 := fun a b c g1 g2 g3 => (h2 a b c g1 g2 g3).trans (h a b c g1 g2 g3)
theorem ScC.kc {w w' : Mem} (h : ScC w w') : KC w w' := fun a b c _ g2 g3 => h a b c g2 g3
theorem OnC.kc {w w' : Mem} (h : OnC 1 w w') : KC w w' := fun a b c g1 _ _ => h a b c (by omega)
theorem CoL.kc {N t : Nat} {κ μ : Nat → Nat} {st : St} {w w' : Mem} (h : CoL 0 N κ μ t st w) (ho : KC w w') : CoL 0 N κ μ t st w' := by
  obtain ⟨h1, h2, h3, h4, h5⟩ := h
  refine ⟨by rw [ho 0 _ _ rfl (by decide) (by decide)]; exact h1, by rw [ho 0 _ _ rfl (by decide) (by decide)]; exact h2, by rw [ho 0 _ _ rfl (by decide) (by decide)]; exact h3, by rw [ho 0 _ _ rfl (by decide) (by decide)]; exact h4, fun p hp => ?_⟩
  rw [ho 13 _ _ rfl (by decide) (by decide), ho 14 _ _ rfl (by decide) (by decide), ho 15 _ _ rfl (by decide) (by decide), ho 16 _ _ rfl (by decide) (by decide), ho 17 _ _ rfl (by decide) (by decide)]
  exact h5 p hp
theorem TXq.kc {q : Int32 → Int32} {t : Nat} {C : Nat → List Int32} {w w' : Mem} (h : TXq q t C w) (hk : KC w w') : TXq q t C w' := h.of (fun c => hk 6 0 c rfl (by decide) (by decide)) (fun c => hk 7 0 c rfl (by decide) (by decide))
theorem HR.kc {N : Nat} {κ μ : Nat → Nat} {st : St} {w w' : Mem} (h : HR N κ μ st w) (hk : KC w w') : HR N κ μ st w' := h.sc (fun c => hk 20 0 c rfl (by decide) (by decide))
theorem CoL.as {N t : Nat} {κ μ : Nat → Nat} {st : St} {w w' : Mem} (h : CoL 0 N κ μ t st w) (hN : N ≤ 4) (ha : As 1 0 w w') : CoL 1 N κ μ t st w' := by
  obtain ⟨h1, h2, h3, h4, h5⟩ := h
  obtain ⟨a1, a2, a3⟩ := ha
  refine ⟨(a1 2 (by omega)).trans h1, (a1 3 (by omega)).trans h2, (a1 4 (by omega)).trans h3, (a1 5 (by omega)).trans h4, fun p hp => ?_⟩
  rw [a2 13 p (by omega) (by omega), a2 14 p (by omega) (by omega), a2 15 p (by omega) (by omega), a2 16 p (by omega) (by omega), a2 17 p (by omega) (by omega)]
  exact h5 p hp
theorem holds_N {x t : Nat} (hx : x < 65536) (ht : t < 16) : holdsF (nI x) (nI t) = 0 ↔ ¬ x.testBit t = true := by
  have hm := Nat.mod_lt (x / 2 ^ t) (show 0 < 2 by omega)
  rw [hb_eq (nI x) ht, b2i_0, bit_N (by omega) (by omega), tbN_of]
  exact not_congr (nI_eq (a := x / 2 ^ t % 2) (b := 1) (by omega) (by omega))
/-- the best of things not kept -/
theorem which_loop {q : Int32 → Int32} {N t p : Nat} {κ μ : Nat → Nat} {C : Nat → List Int32} {st : St} (hO : OkS N κ μ st) (hp : p < N) : ∀ (m j fuel v : Nat) (x3 : Int32) (w : Mem), j + m = 16 → m < fuel → v ≤ 99 → CoL 0 N κ μ t st w → TXq q t C w → ∃ v' w', h_X4_which_44 (nI p) 1 (fun x3_8 x4_9 w10 => if (1 : Int32) = 0 then (some (x3_8, w10)) else (some (x4_9, w10))) fuel x3 (nI v) (nI j) w = some (nI v', w') ∧ ScC w w' ∧ v' ≤ 99 ∧ (¬ x3 < 0 → v ≤ v') ∧ (j = 0 → x3 < 0 → ¬ (sE st p).testBit 0 = true → lL q κ μ st p 0 ≤ v') := by
  have hN := hO.2.1
  obtain ⟨b1, b2, b3, b4, b5⟩ := hO.2.2.2.2 p hp
  intro m
  induction m with
  | zero =>
    intro j fuel v x3 w hj hf hv hC hT
    obtain ⟨fuel, rfl⟩ : ∃ m, fuel = m + 1 := ⟨fuel - 1, by omega⟩
    refine ⟨v, w, ?_, .rf, hv, fun _ => Nat.le_refl _, fun h => by omega⟩
    unfold h_X4_which_44
    rw [if_neg (show ¬ nI j < 16 from nI_nlt (a := j) (b := 16) (by omega) (by omega)), if1]
  | succ m ih =>
    intro j fuel v x3 w hj hf hv hC hT
    obtain ⟨fuel, rfl⟩ : ∃ m, fuel = m + 1 := ⟨fuel - 1, by omega⟩
    have e16 : atV w 16 0 (nI p) = nI (sE st p) := by rw [atV_n w 0 (show p < lenK 16 by show p < 6; omega) (by decide)]; exact (hC.2.2.2.2 p hp).2.2.2.1
    have e17 : atV w 17 0 (nI p) = nI (sL st p) := by rw [atV_n w 0 (show p < lenK 17 by show p < 6; omega) (by decide)]; exact (hC.2.2.2.2 p hp).2.2.2.2
    unfold h_X4_which_44
    rw [if_pos (show nI j < 16 from nI_lt (a := j) (b := 16) (by omega) (by omega)), e16, e17]
    by_cases hk : (sE st p).testBit j = true
    · rw [if_neg (fun z => (holds_N b4 (by omega)).mp z hk), nI_1]
      obtain ⟨v', w', r1, r2, r3, r4, r5⟩ := ih (j + 1) fuel v x3 w (by omega) (by omega) hv hC hT
      exact ⟨v', w', r1, r2, r3, r4, fun h0 _ h2 => by subst h0; exact absurd hk h2⟩
    · rw [if_pos ((holds_N b4 (by omega)).mpr hk)]
      obtain ⟨w1, l1, l2⟩ := lucks_cS hO hC hT hp (show j < 16 by omega)
      have hlb := lucks_b q j hO hp
      have eL : wiF (nI (sL st p) + iI (lucksN q κ μ st p j)) 0 99 = nI (lL q κ μ st p j) := by
        rw [iI_n, iI, iI, ← Int32.ofInt_add, ← lL_e j hO hp]
        have h := wiF_i (z := (sL st p : Int) + lucksN q κ μ st p j) (a := 0) (b := 99) (by omega) (by omega) (by omega) (by omega)
        rw [show iI 0 = (0 : Int32) by decide, show iI 99 = (99 : Int32) by decide] at h
        exact h
      have hlL := lL_le q κ μ st p j
      rw [l1, Option.bind_some]
      dsimp only
      rw [eL]
      unfold j_X4_which_111
      rw [nI_1]
      obtain ⟨v', w', r1, r2, r3, r4, r5⟩ := ih (j + 1) fuel (lL q κ μ st p j) (nI j) w1 (by omega) (by omega) hlL (hC.sc l2) (hT.sc l2)
      have r4' := r4 (nI_pos (by omega))
      by_cases h3 : x3 < 0
      · rw [if_pos h3]
        exact ⟨v', w', r1, l2.tr r2, r3, fun z => absurd h3 z, fun h0 _ _ => by subst h0; exact r4'⟩
      · rw [if_neg h3]
        by_cases hg : lL q κ μ st p j ≤ v
        · rw [if_pos (nI_le hg (by omega))]
          obtain ⟨v2, w2, s1, s2, s3, s4, s5⟩ := ih (j + 1) fuel v x3 w1 (by omega) (by omega) hv (hC.sc l2) (hT.sc l2)
          exact ⟨v2, w2, s1, l2.tr s2, s3, s4, fun _ z => absurd z h3⟩
        · rw [if_neg (fun z => hg (by
            by_cases g : lL q κ μ st p j ≤ v
            · exact g
            · exact absurd (nI_lt (a := v) (b := lL q κ μ st p j) (by omega) (by omega)) (Int32.not_lt.mpr z)))]
          exact ⟨v', w', r1, l2.tr r2, r3, fun _ => by omega, fun _ z => absurd z h3⟩
theorem which_c {q : Int32 → Int32} {N t p : Nat} {κ μ : Nat → Nat} {C : Nat → List Int32} {st : St} {w : Mem} (hO : OkS N κ μ st) (hC : CoL 0 N κ μ t st w) (hT : TXq q t C w) (hp : p < N) : ∃ v w', f_X4_which (nI p) 1 w = some (nI v, w') ∧ ScC w w' ∧ v ≤ 99 ∧ (¬ (sE st p).testBit 0 = true → lL q κ μ st p 0 ≤ v) := by
  have hN := hO.2.1
  have b5 := (hO.2.2.2.2 p hp).2.2.2.2
  obtain ⟨v', w', r1, r2, r3, r4, r5⟩ := which_loop hO hp 16 0 FU (sL st p) (-1) w (by omega) (by show _ < 1000000; omega) b5 hC hT
  refine ⟨v', w', ?_, r2, r3, r5 rfl (by decide)⟩
  unfold f_X4_which j_X4_which_26
  rw [hC.1, has_1 (by omega) hp, if1, if1, if_pos rfl, atV_n w 0 (show p < lenK 17 by show p < 6; omega) (by decide), (hC.2.2.2.2 p hp).2.2.2.2]
  exact r1
