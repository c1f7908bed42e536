/-! the start: the law that both have at first -/
theorem eval_part {T : Nat → Int32} {n t p : Nat} (hn : n ≤ 160) (ht : t < 6) (hp3 : p < 3) {a b d : Nat} {O : List Int32} {wr : Mem} (hr : RB T n t a O wr) (ha : a ≤ n) (hO : O.length < 100) (h1 : TK T n a = nI (3 + p)) (hb : BH T n a = b) (hbn : b ≤ n) {cc : Int32} (h2 : (TK T n b = 2 ∧ cc = 100000 + NM T n b) ∨ (TK T n b < 0 ∧ cc = -1 - TK T n b)) (hd : BH T n b = d) (hdn : d ≤ n) (h3 : TK T n d = 59) (m' : Nat) :
    ∃ wr2, h_X5_text_26 K101 (m' + 2) 1 (nI p) wr = h_X5_text_26 K101 (m' + 1) 1 (nI (p + 1)) wr2 ∧ RB T n t (BH T n d) (O ++ [cc]) wr2 ∧ wr2 25 0 (4 * t + p) = nI O.length ∧ (∀ c, c ≠ 4 * t + p → wr2 25 0 c = wr 25 0 c) ∧ FrY t wr wr2 := by
  obtain ⟨hT, h19, h27, h10, h24⟩ := hr
  obtain ⟨r1, e1, e2, e3, e4, e5, e6⟩ := next_r hT ha h19
  have lt3 : nI p < 3 := nI_lt (b := 3) hp3 (by omega)
  have r10 : r1 5 0 10 = nI t := (e6 5 0 10 (by decide)).trans h10
  have r27 : r1 5 0 27 = nI O.length := (e6 5 0 27 (by decide)).trans h27
  have i25 : inB (4 * nI t + nI p) 24 := by rw [show (4 : Int32) = nI 4 from rfl, nI_mul, nI_add]; exact nI_in (by omega) (by omega)
  have t25 : tn (4 * nI t + nI p) = 4 * t + p := by rw [show (4 : Int32) = nI 4 from rfl, nI_mul, nI_add]; exact nI_clamp (by omega)
  have htk345 : TK T n a = 3 ∨ TK T n a = 4 ∨ TK T n a = 5 := by
    rw [h1]
    match p, hp3 with
    | 0, _ => exact Or.inl rfl
    | 1, _ => exact Or.inr (Or.inl rfl)
    | 2, _ => exact Or.inr (Or.inr rfl)
  have hRT : RT (TK T n a) = 3 := by rcases htk345 with h | h | h <;> rw [h] <;> rfl
  have hv : r1 5 0 22 = nI p := by
    rw [e5.2.2 htk345, h1, show (3 : Int32) = nI 3 from rfl, nI_sub (by omega)]; congr 1; omega
  have hrs : RSt T n t b [] O (up (up (up r1 25 0 (4 * t + p) (nI O.length)) 5 0 25 0) 5 0 26 0) := by
    refine ⟨⟨hT.1, ?_, fun i hi => ?_, fun c hc => ?_⟩, ?_, ?_, trivial, up_s _ _ _ _ _, ?_, ?_, fun j hj => ?_⟩
    · rw [up_j (by decide), up_j (by decide), up_k (by decide), e6 5 0 7 (by decide)]; exact hT.2.1
    · rw [up_k (by decide), up_k (by decide), up_k (by decide), e6 23 0 i (by omega)]; exact hT.2.2.1 i hi
    · rw [up_k (by decide), up_k (by decide), up_k (by decide), e6 32 0 c (by omega)]; exact hT.2.2.2 c hc
    · rw [up_j (by decide), up_j (by decide), up_k (by decide)]; exact e4.trans (by rw [hb])
    · rw [up_j (by decide), up_s]; rfl
    · rw [up_j (by decide), up_j (by decide), up_k (by decide), r27]
    · rw [up_j (by decide), up_j (by decide), up_k (by decide)]; exact r10
    · rw [up_k (by decide), up_k (by decide), up_k (by decide), e6 24 0 _ (by omega)]; exact h24 j hj
  have fr0 : FrY t wr (up (up (up r1 25 0 (4 * t + p) (nI O.length)) 5 0 25 0) 5 0 26 0) := by
    intro x y z hx hy hz hu
    rw [up_n (fun q => hx ⟨q.1, q.2.1, by omega, by omega⟩), up_n (fun q => hx ⟨q.1, q.2.1, by omega, by omega⟩), up_n (fun q => hu ⟨q.1, q.2.1, by omega⟩), e6 x y z (fun q => hx ⟨q.1, q.2.1, by omega, by omega⟩)]
  have hR0 : h_X5_text_26 K101 (m' + 2) 1 (nI p) wr = Option.bind (h_X5_eRead_14 KK FU 1 1 (up (up (up r1 25 0 (4 * t + p) (nI O.length)) 5 0 25 0) 5 0 26 0)) (fun r9 => if r9.1 = 0 then (h_X5_text_26 K101 (m' + 1) 0 (nI p + 1) r9.2) else (h_X5_text_26 K101 (m' + 1) 1 (nI p + 1) r9.2)) := by
    conv => lhs; unfold h_X5_text_26
    rw [if_pos lt3, if_neg (show ¬ (1 : Int32) = 0 by decide), e1, ob, e2, if_pos hRT, hv, if_pos rfl]
    unfold j_X5_text_60
    rw [r10, if_pos i25, if_neg (show ¬ (1 : Int32) = 0 by decide), t25, r27, eRead_KK]
  have w25 : ∀ c, up (up (up r1 25 0 (4 * t + p) (nI O.length)) 5 0 25 0) 5 0 26 0 25 0 c = if c = 4 * t + p then nI O.length else wr 25 0 c := by
    intro c
    rw [up_k (by decide), up_k (by decide)]
    by_cases hc : c = 4 * t + p
    · subst hc; rw [up_s, if_pos rfl]
    · rw [up_j hc, if_neg hc, e6 25 0 c (by omega)]
  generalize up (up (up r1 25 0 (4 * t + p) (nI O.length)) 5 0 25 0) 5 0 26 0 = w0 at hrs fr0 hR0 w25
  obtain ⟨q1, g1, g2, g3, g4, g5, g6⟩ := next_rs hrs hbn
  obtain ⟨q2, p1, p2, p3, -⟩ := puts_r g2 ht (by omega) cc
  obtain ⟨q3, u1, u2, u3, -⟩ := unwinds_st ht (l := 7) (by omega) (by omega) p2 (by rw [len1]; show 0 + _ ≤ _; omega)
  have u2' : RSt T n t d [] (O ++ [cc]) q3 := by rw [← hd]; exact u2
  obtain ⟨q4, v1, v2, v3, v4, -, v6⟩ := next_rs u2' hdn
  obtain ⟨q5, x1, x2, x3, -⟩ := unwinds_st ht (l := 1) (by omega) (by omega) v2 (by rw [len1]; show 0 + _ ≤ _; omega)
  have turn1 : ∀ x, h_X5_eRead_14 KK (x + 1) 1 1 w0 = h_X5_eRead_14 KK x 0 1 q3 := by
    intro x
    rw [turn_w x 1 g1, g3]
    have go : j_X5_eRead_61 (h_X5_eRead_14 KK x) 1 cc q1 = h_X5_eRead_14 KK x 0 1 q3 := by
      unfold j_X5_eRead_61
      rw [p1, ob, show (7 : Int32) = nI 7 from rfl, u1, ob]
    rcases h2 with ⟨h2, rfl⟩ | ⟨h2, rfl⟩
    · rw [h2, if_pos (show RT 2 = 1 from rfl)]
      unfold j_X5_eRead_38
      rw [g3, h2, if_pos (show RT 2 = 1 from rfl), g5.2.1 h2]
      exact go
    · have hR2 : RT (TK T n b) = 2 := by unfold RT; rw [if_pos h2]
      rw [hR2, if_neg (show ¬ (2 : Int32) = 1 by decide), if_pos rfl]
      unfold j_X5_eRead_38
      rw [g3, hR2, if_neg (show ¬ (2 : Int32) = 1 by decide), g5.1 h2]
      exact go
  have turn2 : ∀ x, h_X5_eRead_14 KK (x + 1) 0 1 q3 = some (1, q5) := by
    intro x
    rw [turn_n x 1 v1, v3, h3, if_pos (show RT 59 = 59 from rfl)]
    unfold KK
    rw [show (1 : Int32) = nI 1 from rfl, x1, ob, if_pos (show q5 5 0 25 = 0 from x2.2.2.1)]
  have hE : h_X5_eRead_14 KK FU 1 1 w0 = some (1, q5) := by
    rw [show FU = 999998 + 1 + 1 from rfl, turn1, turn2]
  refine ⟨q5, ?_, x2.b, ?_, fun c hc => ?_, (((((fr0.tr g6.y).tr p3.y).tr u3.y).tr v6.y).tr x3.y)⟩
  · rw [hR0, hE, ob]
    dsimp only
    rw [if_neg (show ¬ (1 : Int32) = 0 by decide), nI_1]
  · rw [x3 25 0 _ (by omega) (by omega) (by omega), v6 25 0 _ (by omega) (by omega) (by omega), u3 25 0 _ (by omega) (by omega) (by omega), p3 25 0 _ (by omega) (by omega) (by omega), g6 25 0 _ (by omega) (by omega) (by omega), w25, if_pos rfl]
  · rw [x3 25 0 _ (by omega) (by omega) (by omega), v6 25 0 _ (by omega) (by omega) (by omega), u3 25 0 _ (by omega) (by omega) (by omega), p3 25 0 _ (by omega) (by omega) (by omega), g6 25 0 _ (by omega) (by omega) (by omega), w25, if_neg hc]
/-- the tape at first -/
def T0 (i : Nat) : Int32 := ([108, 101, 116, 115, 32, 116, 104, 105, 110, 103, 32, 59, 32, 108, 117, 99, 107, 115, 32, 53, 32, 59, 32, 116, 97, 107, 101, 115, 32, 50, 32, 59] : List Int32).getD i 0
def W0 : Mem := up (cpN 32 (w_X5_0_6 M0)) 5 0 7 32
set_option maxRecDepth 100000 in
theorem w0_tape : ∀ i, i < 32 → W0 23 0 i = T0 i := by decide +kernel
set_option maxRecDepth 100000 in
theorem w0_words : ∀ c, c < 96 → W0 32 0 c = wdL.getD c 0 := by decide +kernel
set_option maxRecDepth 100000 in
theorem w0_5 : W0 5 0 0 = 0 ∧ W0 5 0 4 = 0 ∧ W0 5 0 5 = 0 ∧ W0 5 0 7 = 32 ∧ W0 5 0 10 = 0 ∧ W0 5 0 11 = 0 ∧ W0 5 0 12 = 0 := by decide +kernel
set_option maxRecDepth 100000 in
theorem w0_c : W0 0 0 2 = 0 ∧ W0 0 0 3 = 0 ∧ W0 0 0 4 = 0 ∧ W0 0 0 5 = 0 ∧ W0 3 0 0 = 1 ∧ W0 1 0 1 = 0 ∧ W0 4 0 5 = 0 ∧ W0 7 0 0 = 1 ∧ W0 7 0 1 = 2 ∧ W0 7 0 2 = 3 ∧ W0 6 0 0 = -1 ∧ W0 6 0 1 = 5 ∧ W0 6 0 2 = 2 := by decide +kernel
set_option maxRecDepth 100000 in
theorem w0_s : ∀ s, s < 4 → W0 2 s 0 = -1 ∧ W0 28 0 s = -1 ∧ W0 2 s 1 = 0 ∧ W0 29 0 s = 0 ∧ ∀ k, k < 40 → W0 19 s k = 0 ∧ W0 30 0 (40 * s + k) = 0 := by decide +kernel
theorem tk0 : TK T0 32 0 = 3 ∧ BH T0 32 0 = 4 ∧ TK T0 32 4 = -1 ∧ BH T0 32 4 = 10 ∧ TK T0 32 10 = 59 ∧ BH T0 32 10 = 12 ∧ TK T0 32 12 = 4 ∧ BH T0 32 12 = 18 ∧ TK T0 32 18 = 2 ∧ NM T0 32 18 = 5 ∧ BH T0 32 18 = 20 ∧ TK T0 32 20 = 59 ∧ BH T0 32 20 = 22 ∧ TK T0 32 22 = 5 ∧ BH T0 32 22 = 28 ∧ TK T0 32 28 = 2 ∧ NM T0 32 28 = 2 ∧ BH T0 32 28 = 30 ∧ TK T0 32 30 = 59 ∧ BH T0 32 30 = 32 ∧ TK T0 32 32 = 0 := by decide +kernel
