/-! the fishers come; the sheet -/
/-- only one sheet is otherwise -/
def OnS (t : Nat) (w w' : Mem) : Prop := ∀ a b c, ¬ (b = t ∧ (a = 2 ∨ a = 19)) → w' a b c = w a b c
theorem becomes_c {t : Nat} (ht : t < 4) (x y : Int32) (w : Mem) : ∃ w', f_X2_becomes t x y w = some w' ∧ w' 2 t 0 = x ∧ w' 2 t 1 = y ∧ (∀ j, j < 40 → w' 19 t j = 0) ∧ OnS t w w' := by
  have loop : ∀ (r q n : Nat) (w1 : Mem), q + r = 40 → r < n → w1 2 t 0 = x → w1 2 t 1 = y → (∀ j, j < q → w1 19 t j = 0) → OnS t w w1 → ∃ w', h_X2_becomes_12 t (fun w2 => some w2) n (nI q) w1 = some w' ∧ w' 2 t 0 = x ∧ w' 2 t 1 = y ∧ (∀ j, j < 40 → w' 19 t j = 0) ∧ OnS t w w' := by
    intro r
    induction r with
    | zero =>
      intro q n w1 hq hn h1 h2 h3 h4
      obtain ⟨n, rfl⟩ : ∃ m, n = m + 1 := ⟨n - 1, by omega⟩
      have e : q = 40 := by omega
      subst e
      refine ⟨w1, ?_, h1, h2, h3, h4⟩
      unfold h_X2_becomes_12
      rw [if_neg (show ¬ nI 40 < 40 by decide)]
    | succ r ih =>
      intro q n w1 hq hn h1 h2 h3 h4
      obtain ⟨n, rfl⟩ : ∃ m, n = m + 1 := ⟨n - 1, by omega⟩
      unfold h_X2_becomes_12
      rw [if_pos (show nI q < 40 from nI_lt (b := 40) (by omega) (by omega)), setV_n w1 t 0 (show q < lenK 19 by show q < 40; omega) (by decide), nI_1]
      refine ih (q + 1) n _ (by omega) (by omega) (by rw [up_k (by decide)]; exact h1) (by rw [up_k (by decide)]; exact h2) (fun j hj => ?_) (fun a b c habc => ?_)
      · by_cases e : j = q
        · subst e; exact up_s _ _ _ _ _
        · rw [up_j e]; exact h3 j (by omega)
      · rw [up_n (fun z => habc ⟨z.2.1, Or.inr z.1⟩)]; exact h4 a b c habc
  unfold f_X2_becomes
  refine loop 40 0 FU _ rfl (by show 40 < 1000000; omega) (by rw [up_j (by decide), up_s]) (up_s _ _ _ _ _) (fun j hj => by omega) (fun a b c habc => ?_)
  rw [up_n (fun z => habc ⟨z.2.1, Or.inl z.1⟩), up_n (fun z => habc ⟨z.2.1, Or.inl z.1⟩)]
def KT (w w' : Mem) : Prop := ∀ a b c, a ≠ 2 → a ≠ 19 → w' a b c = w a b c
theorem KT.rf {w : Mem} : KT w w := fun _ _ _ _ _ => rfl
theorem KT.tr {w w1 w2 : Mem} (h : KT w w1) (h2 : KT w1 w2) : KT w w2 := fun a b c g1 g2 => (h2 a b c g1 g2).trans (h a b c g1 g2)
theorem KT.set (w : Mem) (i : Nat) (x v : Int32) : KT w (setV w 19 i x v) := by
  intro a b c g1 g2
  rw [setV_eq]
  unfold setV0
  split
  · rfl
  · split
    · exact up_k g2
    · rfl
theorem write_T (i : Nat) (x v : Int32) (w : Mem) : ∃ w', f_X2_write i x v w = some w' ∧ KT w w' := by
  unfold f_X2_write
  split
  · exact ⟨_, rfl, .set _ _ _ _⟩
  · split
    · exact ⟨_, rfl, .set _ _ _ _⟩
    · exact ⟨_, rfl, .set _ _ _ _⟩
theorem rowF_0 : rowF 0 = some 0 := by decide
theorem cell_T (x v : Int32) (w : Mem) : ∃ r w', f_X4_cell 0 x v w = some (r, w') ∧ KT w w' := by
  unfold f_X4_cell
  rw [rowF_0]
  show ∃ r w', (if (w 2 0 0) = (-1) then (some ((-11), w)) else (if x < 0 then (some ((-12), w)) else (if x < (w 2 0 1) then (Option.bind (f_X2_write 0 x v w) (fun r5 => some (1, r5))) else (some ((-12), w))))) = some (r, w') ∧ KT w w'
  split
  · exact ⟨_, _, rfl, .rf⟩
  · split
    · exact ⟨_, _, rfl, .rf⟩
    · split
      · obtain ⟨w1, h1, h2⟩ := write_T 0 x v w
        rw [h1]
        exact ⟨_, _, rfl, h2⟩
      · exact ⟨_, _, rfl, .rf⟩
theorem length_q (q : Int32 → Int32) (w : Mem) : f_L_length q w = some (nI (cut (shrI (q 5) 19) 7), w) := by
  unfold f_L_length
  rw [show f_L_at q 5 w = some (q 5, w) from at_n q 5 (by omega) w, Option.bind_some]
  dsimp only
  rw [show (shrI (q 5) 19 &&& 7 : Int32) = nI (cut (shrI (q 5) 19) 7) from and_cut _ (m := 7) (by decide)]
theorem thing_q (q : Int32 → Int32) (x : Int32) (w : Mem) : ∃ v, f_L_thing q x w = some (v, w) := by
  unfold f_L_thing
  rw [show f_L_at q 6 w = some (q 6, w) from at_n q 6 (by omega) w, Option.bind_some]
  exact ⟨_, rfl⟩
theorem cells_T (q : Int32 → Int32) (k : Mem → Option (Option (Nat × Nat) × Mem)) : ∀ (m x fuel : Nat) (w : Mem), x + m = cut (shrI (q 5) 19) 7 → m < fuel → ∃ w', h_L_build_250 q k fuel (nI x) w = k w' ∧ KT w w' := by
  have hc := cut_le (shrI (q 5) 19) 7
  intro m
  induction m with
  | zero =>
    intro x fuel w hx hf
    obtain ⟨fuel, rfl⟩ : ∃ m, fuel = m + 1 := ⟨fuel - 1, by omega⟩
    refine ⟨w, ?_, .rf⟩
    unfold h_L_build_250
    rw [length_q, Option.bind_some]
    dsimp only
    rw [if_neg (nI_nlt (by omega) (by omega))]
  | succ m ih =>
    intro x fuel w hx hf
    obtain ⟨fuel, rfl⟩ : ∃ m, fuel = m + 1 := ⟨fuel - 1, by omega⟩
    obtain ⟨v, hv⟩ := thing_q q (nI x) w
    obtain ⟨r, w1, h1, h2⟩ := cell_T (nI x) v w
    obtain ⟨w2, g1, g2⟩ := ih (x + 1) fuel w1 (by omega) (by omega)
    refine ⟨w2, ?_, h2.tr g2⟩
    unfold h_L_build_250
    rw [length_q, Option.bind_some]
    dsimp only
    rw [if_pos (nI_lt (by omega) (by omega)), hv, Option.bind_some]
    dsimp only
    rw [h1, Option.bind_some, nI_1]
    exact g1
theorem bC_T (q : Int32 → Int32) (w : Mem) : ∃ w', f_bC q w = some (some (4, 0), w') ∧ KT w w' := by
  have hc := cut_le (shrI (q 5) 19) 7
  obtain ⟨w1, h1, -, -, -, h2⟩ := becomes_c (t := 0) (by omega) 0 (nI (cut (shrI (q 5) 19) 7)) w
  have k1 : KT w w1 := fun a b c g1 g2 => h2 a b c (by omega)
  obtain ⟨w2, g1, g2⟩ := cells_T q (fun w7 => some (some (4, 0), w7)) (cut (shrI (q 5) 19) 7) 0 FU w1 (by omega) (by show _ < 1000000; omega)
  refine ⟨w2, ?_, k1.tr g2⟩
  have hs : f_X4_sheet 0 0 (nI (cut (shrI (q 5) 19) 7)) w = some (1, w1) := by
    unfold f_X4_sheet
    rw [rowF_0]
    show (if (0 : Int32) < (-1) then (some ((-2), w)) else (if (0 : Int32) ≤ 2 then (if (0 : Int32) = (-1) then (Option.bind (f_X2_becomes 0 (-1) 0 w) (fun r5 => some (1, r5))) else (if nI (cut (shrI (q 5) 19) 7) ≤ 40 then (if nI (cut (shrI (q 5) 19) 7) < 0 then (some ((-14), w)) else (Option.bind (f_X2_becomes 0 0 (nI (cut (shrI (q 5) 19) 7)) w) (fun r8 => some (1, r8)))) else (some ((-2), w)))) else (some ((-2), w)))) = _
    rw [if_neg (by decide), if_pos (by decide), if_neg (by decide), if_pos (show nI (cut (shrI (q 5) 19) 7) ≤ 40 from nI_le (b := 40) (by omega) (by omega)), if_neg (nI_pos (by omega)), h1]
    rfl
  unfold f_bC
  rw [length_q, Option.bind_some]
  dsimp only
  rw [hs, Option.bind_some]
  exact g1
theorem put_1 {N p v : Nat} {w : Mem} (hN : N ≤ 4) (hp : p < N) (h : w 0 0 2 = nI N) (hv : v < 65536) : ∃ r, f_X4_put (nI p) 1 (nI v) w = some (r, up w 16 0 p (nI v)) := by
  have r : rng (nI v) 0 65535 = 1 := b2i_t ⟨nI_pos' (by omega), nI_le (a := v) (b := 65535) (by omega) (by omega)⟩
  unfold f_X4_put j_X4_put_38
  rw [h, has_1 (by omega) hp, if1, if_neg (by decide), if_pos rfl, r, if1, setV_n w 0 _ (show p < lenK 16 by show p < 6; omega) (by decide)]
  exact ⟨_, rfl⟩
theorem put_2 {N p v : Nat} {w : Mem} (hN : N ≤ 4) (hp : p < N) (h : w 0 0 2 = nI N) (hv : v ≤ 99) : ∃ r, f_X4_put (nI p) 2 (nI v) w = some (r, up w 17 0 p (nI v)) := by
  unfold f_X4_put j_X4_put_38 j_X4_put_63
  rw [h, has_1 (by omega) hp, if1, if_neg (by decide), if_neg (by decide), if_pos rfl, if_neg (nI_pos (by omega)), if_pos (show nI v ≤ 99 from nI_le (a := v) (b := 99) (by omega) (by omega)), setV_n w 0 _ (show p < lenK 17 by show p < 6; omega) (by decide)]
  exact ⟨_, rfl⟩
theorem build_loop (q : Int32 → Int32) (k : Mem → Option (Option (Nat × Nat) × Mem)) : ∀ (m p fuel : Nat) (w : Mem), p + m = Nq q → m < fuel → CoL 0 p (κq q) (μq q) 0 (stq q) w → ∃ w', h_L_build_30 q k fuel (nI p) w = k w' ∧ CoL 0 (Nq q) (κq q) (μq q) 0 (stq q) w' ∧ KB w w' := by
  have hN := (Nq_b q).2
  have hQ := QPq q
  have hS := QSq q
  have hO := OkSq q
  intro m
  induction m with
  | zero =>
    intro p fuel w hp hf hC
    obtain ⟨fuel, rfl⟩ : ∃ m, fuel = m + 1 := ⟨fuel - 1, by omega⟩
    obtain rfl : p = Nq q := by omega
    refine ⟨w, ?_, hC, .rf⟩
    unfold h_L_build_30
    rw [hQ.1, Option.bind_some]
    dsimp only
    rw [if_neg (nI_nlt (by omega) (by omega))]
  | succ m ih =>
    intro p fuel w hpm hf hC
    obtain ⟨fuel, rfl⟩ : ∃ m, fuel = m + 1 := ⟨fuel - 1, by omega⟩
    have hp : p < Nq q := by omega
    obtain ⟨b1, b2, b3, b4, b5⟩ := hO.2.2.2.2 p hp
    have hf := fisher_c (N := p) (κ := κq q) (μ := μq q) (st := stq q) (t := 0) (by omega) b1 b2 b3 hC.1
    generalize hw1 : up (up (up (up (up (up w 13 0 p (nI (κq q p))) 14 0 p (nI (μq q p))) 15 0 p (nI (sK (stq q) p))) 16 0 p 0) 17 0 p 50) 0 0 2 (nI (p + 1)) = w1 at hf
    have e2 : w1 0 0 2 = nI (p + 1) := by rw [← hw1]; exact up_s ..
    obtain ⟨r2, p1⟩ := put_1 (N := p + 1) (p := p) (v := sE (stq q) p) (by omega) (by omega) e2 b4
    obtain ⟨r3, p2⟩ := put_2 (N := p + 1) (p := p) (v := sL (stq q) p) (w := up w1 16 0 p (nI (sE (stq q) p))) (by omega) (by omega) (by rw [up_k (by decide)]; exact e2) b5
    have k1 : KB w w1 := by rw [← hw1]; exact (((((KB.rf.up (by omega)).up (by omega)).up (by omega)).up (by omega)).up (by omega)).up (by omega)
    have hC2 : CoL 0 (p + 1) (κq q) (μq q) 0 (stq q) (up (up w1 16 0 p (nI (sE (stq q) p))) 17 0 p (nI (sL (stq q) p))) := by
      obtain ⟨h1, h2, h3, h4, h5⟩ := hC
      have o : ∀ c, c ≠ 2 → w1 0 0 c = w 0 0 c := fun c hc => by rw [← hw1, up_j hc, up_k (by decide), up_k (by decide), up_k (by decide), up_k (by decide), up_k (by decide)]
      refine ⟨by rw [up_k (by decide), up_k (by decide)]; exact e2, by rw [up_k (by decide), up_k (by decide), o 3 (by decide)]; exact h2, by rw [up_k (by decide), up_k (by decide), o 4 (by decide)]; exact h3, by rw [up_k (by decide), up_k (by decide), o 5 (by decide)]; exact h4, fun x hx => ?_⟩
      have c13 : w1 13 0 x = if x = p then nI (κq q p) else w 13 0 x := by
        rw [← hw1, up_k (by decide), up_k (by decide), up_k (by decide), up_k (by decide), up_k (by decide)]
        by_cases g : x = p
        · subst g; rw [up_s, if_pos rfl]
        · rw [up_j g, if_neg g]
      have c14 : w1 14 0 x = if x = p then nI (μq q p) else w 14 0 x := by
        rw [← hw1, up_k (by decide), up_k (by decide), up_k (by decide), up_k (by decide)]
        by_cases g : x = p
        · subst g; rw [up_s, if_pos rfl]
        · rw [up_j g, up_k (by decide), if_neg g]
      have c15 : w1 15 0 x = if x = p then nI (sK (stq q) p) else w 15 0 x := by
        rw [← hw1, up_k (by decide), up_k (by decide), up_k (by decide)]
        by_cases g : x = p
        · subst g; rw [up_s, if_pos rfl]
        · rw [up_j g, up_k (by decide), up_k (by decide), if_neg g]
      have o16 : x ≠ p → w1 16 0 x = w 16 0 x := fun g => by
        rw [← hw1, up_k (by decide), up_k (by decide), up_j g, up_k (by decide), up_k (by decide), up_k (by decide)]
      have o17 : x ≠ p → w1 17 0 x = w 17 0 x := fun g => by
        rw [← hw1, up_k (by decide), up_j g, up_k (by decide), up_k (by decide), up_k (by decide), up_k (by decide)]
      by_cases g : x = p
      · rw [if_pos g] at c13 c14 c15
        subst g
        exact ⟨by rw [up_k (by decide), up_k (by decide)]; exact c13, by rw [up_k (by decide), up_k (by decide)]; exact c14, by rw [up_k (by decide), up_k (by decide)]; exact c15, by rw [up_k (by decide), up_s], by rw [up_s]⟩
      · rw [if_neg g] at c13 c14 c15
        obtain ⟨d1, d2, d3, d4, d5⟩ := h5 x (by omega)
        exact ⟨by rw [up_k (by decide), up_k (by decide), c13]; exact d1, by rw [up_k (by decide), up_k (by decide), c14]; exact d2, by rw [up_k (by decide), up_k (by decide), c15]; exact d3, by rw [up_k (by decide), up_j g, o16 g]; exact d4, by rw [up_j g, up_k (by decide), o17 g]; exact d5⟩
    obtain ⟨w', g1, g2, g3⟩ := ih (p + 1) fuel _ (by omega) (by omega) hC2
    refine ⟨w', ?_, g2, (k1.up (by omega)).up (by omega) |>.tr g3⟩
    unfold h_L_build_30
    rw [hQ.1, Option.bind_some]
    dsimp only
    rw [if_pos (nI_lt hp (by omega)), (hQ.2 p hp _).1, Option.bind_some]
    dsimp only
    rw [(hQ.2 p hp _).2, Option.bind_some]
    dsimp only
    rw [(hS.2.2 p hp _).1, Option.bind_some]
    dsimp only
    rw [hf, Option.bind_some]
    dsimp only
    rw [(hS.2.2 p hp _).2.1, Option.bind_some]
    dsimp only
    rw [p1, Option.bind_some]
    dsimp only
    rw [(hS.2.2 p hp _).2.2, Option.bind_some]
    dsimp only
    rw [p2, Option.bind_some, nI_1]
    exact g1
