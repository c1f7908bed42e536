/-! a coast is built; where no text is read -/
noncomputable def W0 : Mem := w_X4_0 (clr M00 4 0)
theorem W0_a : W0 0 0 2 = 0 ∧ W0 0 0 5 = 0 ∧ W0 6 0 0 = -1 ∧ W0 6 0 1 = 5 ∧ W0 6 0 2 = 2 ∧ W0 7 0 0 = 1 ∧ W0 7 0 1 = 2 ∧ W0 7 0 2 = 3 ∧ W0 3 0 0 = 1 := by
  unfold W0
  refine ⟨?_, ?_, ?_, ?_, ?_, ?_, ?_, ?_, ?_⟩ <;> decide +kernel
def Cpl (k : Nat) : List Int32 := if k = 0 then [-1] else if k = 1 then [5] else [2]
theorem shore_w (q : Int32 → Int32) (w : Mem) (k92 : Mem → Option (Option (Nat × Nat) × Mem)) (h2 : w 0 0 2 = 0) (h5 : w 0 0 5 = 0) : ∃ w', f_bA q k92 w = k92 w' ∧ CoL 0 (Nq q) (κq q) (μq q) 0 (stq q) w' ∧ KB w w' := by
  have hS := QSq q
  have hT := sTq q
  have hO := OkSq q
  have e1 : f_X4_shore 0 (nI (sT (stq q))) w = some (w 0 0 4, up w 0 0 4 (nI (sT (stq q)))) := by
    unfold f_X4_shore
    rw [if_pos rfl, if_neg (nI_pos (by omega)), if_pos (show nI (sT (stq q)) ≤ 999 from nI_le (b := 999) (by omega) (by omega))]
  have r : rng (nI (sS (stq q))) 0 65535 = 1 := by
    have := hO.2.2.1
    exact b2i_t ⟨nI_pos' (by omega), nI_le (a := sS (stq q)) (b := 65535) (by omega) (by omega)⟩
  have e2 : f_X4_shore 1 (nI (sS (stq q))) (up w 0 0 4 (nI (sT (stq q)))) = some ((up w 0 0 4 (nI (sT (stq q)))) 0 0 3, up (up w 0 0 4 (nI (sT (stq q)))) 0 0 3 (nI (sS (stq q)))) := by
    unfold f_X4_shore j_X4_shore_37
    rw [if_neg (by decide), if_pos rfl, r, if1]
  have hC : CoL 0 0 (κq q) (μq q) 0 (stq q) (up (up w 0 0 4 (nI (sT (stq q)))) 0 0 3 (nI (sS (stq q)))) := by
    refine ⟨by rw [up_j (by decide), up_j (by decide), h2]; rfl, up_s .., by rw [up_j (by decide), up_s], by rw [up_j (by decide), up_j (by decide), h5]; rfl, fun p hp => by omega⟩
  obtain ⟨w', g1, g2, g3⟩ := build_loop q k92 (Nq q) 0 FU _ (by omega) (by have := (Nq_b q).2; show Nq q < 1000000; omega) hC
  refine ⟨w', ?_, g2, ((KB.rf.up (by omega)).up (by omega)).tr g3⟩
  unfold f_bA
  rw [hS.2.1, Option.bind_some]
  dsimp only
  rw [e1, Option.bind_some]
  dsimp only
  rw [hS.1, Option.bind_some]
  dsimp only
  rw [e2, Option.bind_some]
  exact g1
theorem CoL.kt {N t : Nat} {κ μ : Nat → Nat} {st : St} {w w' : Mem} (h : CoL 0 N κ μ t st w) (ho : KT w w') : CoL 0 N κ μ t st w' := by
  obtain ⟨h1, h2, h3, h4, h5⟩ := h
  refine ⟨by rw [ho 0 _ _ (by decide) (by decide)]; exact h1, by rw [ho 0 _ _ (by decide) (by decide)]; exact h2, by rw [ho 0 _ _ (by decide) (by decide)]; exact h3, by rw [ho 0 _ _ (by decide) (by decide)]; exact h4, fun p hp => ?_⟩
  rw [ho 13 _ _ (by decide) (by decide), ho 14 _ _ (by decide) (by decide), ho 15 _ _ (by decide) (by decide), ho 16 _ _ (by decide) (by decide), ho 17 _ _ (by decide) (by decide)]
  exact h5 p hp
theorem clr20 (w : Mem) : ∀ a b c, a ≠ 20 → clr w 20 0 a b c = w a b c := fun a b c h => if_neg (fun z => h z.1)
/-- what is owed, once the text is there -/
theorem debt_of {q : Int32 → Int32} {t : Nat} {C : Nat → List Int32} {w : Mem} (hC : CoL 0 (Nq q) (κq q) (μq q) t (stq q) w) (hT : TXq q t C w) (he : f_build q M00 = f_bC q w) : ∃ w1, f_build q M00 = some (some (4, 0), w1) ∧ ∃ w2, f_law q (clr w1 20 0) = some (1, w2) := by
  obtain ⟨w1, h1, h2⟩ := bC_T q w
  refine ⟨w1, he.trans h1, ?_⟩
  have hC1 := hC.kt h2
  have hT1 : TXq q t C w1 := hT.of (fun c => h2 6 0 c (by decide) (by decide)) (fun c => h2 7 0 c (by decide) (by decide))
  exact law_one (QPq q) (QSq q) (OkSq q) (hC1.ro (clr20 w1)) (hT1.ro (clr20 w1)) (sTq q)
theorem Says_pl {q : Int32 → Int32} (hpl : plainQ q) : Says q Cpl := by
  intro th n k T L m h1 h2 h3 h4 h5 h6
  unfold vLets vLucks vTakes
  rw [if_pos hpl, if_pos hpl, if_pos hpl]
  refine ⟨?_, ?_, ?_⟩
  · rw [← iI_n]; rfl
  · rfl
  · rfl
theorem okC1 {c : Int32} (h1 : ¬ c < -6) (h2 : c ≤ 9999) : okC [c] 0 := by
  unfold okC
  rw [if_neg h1]
  exact ⟨h2, by omega, Nat.le_refl _⟩
theorem debt_plain (q : Int32 → Int32) (hpl : plainQ q) : ∃ w1, f_build q M00 = some (some (4, 0), w1) ∧ ∃ w2, f_law q (clr w1 20 0) = some (1, w2) := by
  obtain ⟨a1, a2, a3, a4, a5, a6, a7, a8, a9⟩ := W0_a
  obtain ⟨w, h1, h2, h3⟩ := shore_w q W0 (f_b92 q) a1 a2
  have k6 : ∀ c, w 6 0 c = W0 6 0 c := fun c => h3 6 0 c (by decide) (by omega)
  have k7 : ∀ c, w 7 0 c = W0 7 0 c := fun c => h3 7 0 c (by decide) (by omega)
  have hT : TXq q 0 Cpl w := by
    refine ⟨by omega, ⟨by decide, fun p hp => ?_⟩, Says_pl hpl⟩
    match p, hp with
    | 0, _ => exact ⟨by rw [k7]; exact a6, fun j hj => by (match j, hj with | 0, _ => rw [k6]; exact a3), okC1 (by decide) (by decide)⟩
    | 1, _ => exact ⟨by rw [k7]; exact a7, fun j hj => by (match j, hj with | 0, _ => rw [k6]; exact a4), okC1 (by decide) (by decide)⟩
    | 2, _ => exact ⟨by rw [k7]; exact a8, fun j hj => by (match j, hj with | 0, _ => rw [k6]; exact a5), okC1 (by decide) (by decide)⟩
  refine debt_of h2 hT (h1.trans ?_)
  unfold f_b92
  rw [plain_eq, if_pos hpl, Option.bind_some]
  exact if_neg (show ¬ (1 : Int32) = 0 by decide)
