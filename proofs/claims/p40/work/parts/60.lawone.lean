/-! the law says one -/
theorem h60 : ∀ N, N < 5 → 1 ≤ N → hasF 6 (nI N) = 0 ∧ hasF 0 (nI N) = 1 := by decide
theorem stI {n : Nat} (h : n < 2 ^ 31) : Int32.toInt64 (Int64.toInt32 (Int32.toInt64 (nI n))) = Int32.toInt64 (nI n) := by rw [nI_l h, lN_i, nI_l h]
theorem stJ {n : Nat} (h : n < 2 ^ 31) : Int64.toInt32 (Int32.toInt64 (nI n)) = nI n := by rw [nI_l h, lN_i]
theorem start_loop {q : Int32 → Int32} {N : Nat} {κ μ : Nat → Nat} {st : St} (k : Mem → Option Mem) (hQ : QP q N κ μ) (hS : QS q N st) (hO : OkS N κ μ st) : ∀ (m p fuel : Nat) (w : Mem), p + m = N → m < fuel → (∀ x, x < p → w 20 0 (3 * x) = nI (sK st x) ∧ w 20 0 (3 * x + 1) = nI (sE st x) ∧ w 20 0 (3 * x + 2) = nI (sL st x) ∧ w 20 0 (12 + x) = nI (κ x) ∧ w 20 0 (16 + x) = nI (μ x)) → ∃ w', h_L_start_2 q k fuel (nI p) w = k w' ∧ OnlyK 20 w w' ∧ ∀ x, x < N → w' 20 0 (3 * x) = nI (sK st x) ∧ w' 20 0 (3 * x + 1) = nI (sE st x) ∧ w' 20 0 (3 * x + 2) = nI (sL st x) ∧ w' 20 0 (12 + x) = nI (κ x) ∧ w' 20 0 (16 + x) = nI (μ x) := by
  have hN := hO.2.1
  intro m
  induction m with
  | zero =>
    intro p fuel w hp hf hx
    obtain ⟨fuel, rfl⟩ : ∃ m, fuel = m + 1 := ⟨fuel - 1, by omega⟩
    refine ⟨w, ?_, .rf, fun x h => hx x (by omega)⟩
    unfold h_L_start_2
    rw [hQ.1, Option.bind_some]
    dsimp only
    rw [if_neg (nI_nlt (by omega) (by omega))]
  | succ m ih =>
    intro p fuel w hpm hf hx
    obtain ⟨fuel, rfl⟩ : ∃ m, fuel = m + 1 := ⟨fuel - 1, by omega⟩
    have hp : p < N := by omega
    obtain ⟨b1, b2, b3, b4, b5⟩ := hO.2.2.2.2 p hp
    have hq := fun w => hS.2.2 p hp w
    have hk := fun w => hQ.2 p hp w
    unfold h_L_start_2
    rw [hQ.1, Option.bind_some]
    dsimp only
    rw [if_pos (nI_lt hp (by omega)), (hq _).1, Option.bind_some]
    dsimp only
    rw [t3, t31, t32, t12, t16, tnn (by omega), tnn (by omega), tnn (by omega), tnn (by omega), tnn (by omega)]
    refine (congrArg (fun z => ∃ w', z = k w' ∧ OnlyK 20 w w' ∧ ∀ x, x < N → w' 20 0 (3 * x) = nI (sK st x) ∧ w' 20 0 (3 * x + 1) = nI (sE st x) ∧ w' 20 0 (3 * x + 2) = nI (sL st x) ∧ w' 20 0 (12 + x) = nI (κ x) ∧ w' 20 0 (16 + x) = nI (μ x)) (if_pos ⟨i60 (by omega), stI (by omega)⟩)).mpr ?_
    rw [stJ (by omega), (hq _).2.1, Option.bind_some]
    dsimp only
    refine (congrArg (fun z => ∃ w', z = k w' ∧ OnlyK 20 w w' ∧ ∀ x, x < N → w' 20 0 (3 * x) = nI (sK st x) ∧ w' 20 0 (3 * x + 1) = nI (sE st x) ∧ w' 20 0 (3 * x + 2) = nI (sL st x) ∧ w' 20 0 (12 + x) = nI (κ x) ∧ w' 20 0 (16 + x) = nI (μ x)) (if_pos ⟨i60 (by omega), stI (by omega)⟩)).mpr ?_
    rw [stJ (by omega), (hq _).2.2, Option.bind_some]
    dsimp only
    refine (congrArg (fun z => ∃ w', z = k w' ∧ OnlyK 20 w w' ∧ ∀ x, x < N → w' 20 0 (3 * x) = nI (sK st x) ∧ w' 20 0 (3 * x + 1) = nI (sE st x) ∧ w' 20 0 (3 * x + 2) = nI (sL st x) ∧ w' 20 0 (12 + x) = nI (κ x) ∧ w' 20 0 (16 + x) = nI (μ x)) (if_pos ⟨i60 (by omega), stI (by omega)⟩)).mpr ?_
    rw [stJ (by omega), (hk _).1, Option.bind_some]
    dsimp only
    refine (congrArg (fun z => ∃ w', z = k w' ∧ OnlyK 20 w w' ∧ ∀ x, x < N → w' 20 0 (3 * x) = nI (sK st x) ∧ w' 20 0 (3 * x + 1) = nI (sE st x) ∧ w' 20 0 (3 * x + 2) = nI (sL st x) ∧ w' 20 0 (12 + x) = nI (κ x) ∧ w' 20 0 (16 + x) = nI (μ x)) (if_pos ⟨i60 (by omega), stI (by omega)⟩)).mpr ?_
    rw [stJ (by omega), (hk _).2, Option.bind_some]
    dsimp only
    refine (congrArg (fun z => ∃ w', z = k w' ∧ OnlyK 20 w w' ∧ ∀ x, x < N → w' 20 0 (3 * x) = nI (sK st x) ∧ w' 20 0 (3 * x + 1) = nI (sE st x) ∧ w' 20 0 (3 * x + 2) = nI (sL st x) ∧ w' 20 0 (12 + x) = nI (κ x) ∧ w' 20 0 (16 + x) = nI (μ x)) (if_pos ⟨i60 (by omega), stI (by omega)⟩)).mpr ?_
    rw [stJ (by omega), nI_1]
    obtain ⟨w', g1, g2, g3⟩ := ih (p + 1) fuel (up (up (up (up (up w 20 0 (3 * p) (nI (sK st p))) 20 0 (3 * p + 1) (nI (sE st p))) 20 0 (3 * p + 2) (nI (sL st p))) 20 0 (12 + p) (nI (κ p))) 20 0 (16 + p) (nI (μ p))) (by omega) (by omega) (by
      intro x h
      by_cases g : x = p
      · subst g
        refine ⟨?_, ?_, ?_, ?_, up_s ..⟩
        · rw [up_j (by omega), up_j (by omega), up_j (by omega), up_j (by omega), up_s]
        · rw [up_j (by omega), up_j (by omega), up_j (by omega), up_s]
        · rw [up_j (by omega), up_j (by omega), up_s]
        · rw [up_j (by omega), up_s]
      · obtain ⟨c1, c2, c3, c4, c5⟩ := hx x (by omega)
        refine ⟨?_, ?_, ?_, ?_, ?_⟩
        · rw [up_j (by omega), up_j (by omega), up_j (by omega), up_j (by omega), up_j (by omega)]; exact c1
        · rw [up_j (by omega), up_j (by omega), up_j (by omega), up_j (by omega), up_j (by omega)]; exact c2
        · rw [up_j (by omega), up_j (by omega), up_j (by omega), up_j (by omega), up_j (by omega)]; exact c3
        · rw [up_j (by omega), up_j (by omega), up_j (by omega), up_j (by omega), up_j (by omega)]; exact c4
        · rw [up_j (by omega), up_j (by omega), up_j (by omega), up_j (by omega), up_j (by omega)]; exact c5)
    exact ⟨w', g1, fun a b c ha => (g2 a b c ha).trans (((((OnlyK.rf.up).up).up).up).up a b c ha), g3⟩
theorem start_L {q : Int32 → Int32} {N : Nat} {κ μ : Nat → Nat} {st : St} (hQ : QP q N κ μ) (hS : QS q N st) (hO : OkS N κ μ st) (w : Mem) : ∃ w', f_L_start q w = some w' ∧ HR N κ μ st w' ∧ OnlyK 20 w w' := by
  have hN := hO.2.1
  have b3 := hO.2.2.1
  have b4 := hO.2.2.2.1
  obtain ⟨w1, g1, g2, g3⟩ := start_loop (fun w13 => Option.bind (f_L_sea q w13) (fun r14 => if inB 20 60 ∧ Int32.toInt64 (Int64.toInt32 (Int32.toInt64 r14.1)) = (Int32.toInt64 r14.1) then (Option.bind (f_L_tide q (up r14.2 20 0 (tn 20) (Int64.toInt32 (Int32.toInt64 r14.1)))) (fun r16 => if inB 21 60 ∧ Int32.toInt64 (Int64.toInt32 (Int32.toInt64 r16.1)) = (Int32.toInt64 r16.1) then (some (up r16.2 20 0 (tn 21) (Int64.toInt32 (Int32.toInt64 r16.1)))) else none)) else none)) hQ hS hO N 0 FU w (by omega) (by show N < 1000000; omega) (fun x h => by omega)
  refine ⟨up (up w1 20 0 20 (nI (sS st))) 20 0 21 (nI (sT st)), ?_, ⟨?_, up_s .., fun x hx => ?_⟩, fun a b c ha => ((OnlyK.up (OnlyK.up OnlyK.rf)) a b c ha).trans (g2 a b c ha)⟩
  · unfold f_L_start
    refine Eq.trans g1 ?_
    rw [hS.1, Option.bind_some]
    dsimp only
    refine (if_pos ⟨i20, stI (by omega)⟩).trans ?_
    rw [stJ (by omega), hS.2.1, Option.bind_some, t20, t21]
    dsimp only
    refine (if_pos ⟨i21, stI (by omega)⟩).trans ?_
    rw [stJ (by omega)]
  · rw [up_j (by omega), up_s]
  · rw [up_j (by omega), up_j (by omega), up_j (by omega), up_j (by omega), up_j (by omega), up_j (by omega), up_j (by omega), up_j (by omega), up_j (by omega), up_j (by omega)]
    exact g3 x hx
theorem law_one {q : Int32 → Int32} {N t : Nat} {κ μ : Nat → Nat} {C : Nat → List Int32} {st : St} {w : Mem} (hQ : QP q N κ μ) (hS : QS q N st) (hO : OkS N κ μ st) (hC : CoL 0 N κ μ t st w) (hT : TXq q t C w) (hT8 : sT st < 700) : ∃ w2, f_law q w = some (1, w2) := by
  have hN := hO.2.1
  have hN1 := hO.1
  obtain ⟨w1, l1, l2, l3⟩ := start_L hQ hS hO w
  have hC1 := hC.ro l3
  have hT1 := hT.ro l3
  have hlen : ∀ w, f_L_length q w = some ((shrI (q 5) 19) &&& 7, w) := fun w => by
    unfold f_L_length
    rw [show f_L_at q 5 w = some (q 5, w) from at_n q 5 (by omega) w]
    rfl
  have hx : nI (orN (sK st) N) ||| nI (sS st) = nI (allN N st) := nI_or _ _
  unfold f_law
  rw [hQ.1, Option.bind_some]
  dsimp only
  rw [hlen, Option.bind_some]
  dsimp only
  rw [l1, Option.bind_some]
  rw [talk_c hO hC1, Option.bind_some]
  dsimp only
  rw [hS.1, Option.bind_some]
  dsimp only
  rw [hx]
  obtain ⟨w2, m1, m2⟩ := law50 (t := t) (κ := κ) (μ := μ) (C := C) _ (nI (allN N st)) hS hO N 0 FU w1 (by omega) (by show N < 1000000; omega) hC1 hT1
  have hC2 := hC1.kc m2
  have hT2 := hT1.kc m2
  have hH2 := l2.kc m2
  refine (congrArg (fun z => ∃ w2, z = some ((1 : Int32), w2)) m1).mpr ?_
  obtain ⟨st3, w3, n1, n2, n3, n4, n5, n6⟩ := law194 (nI (allN N st)) _ hQ 5 0 FU st w2 (by omega) (by show 5 < 1000000; omega) hO hC2 hH2 hT2 (by omega)
  refine (congrArg (fun z => ∃ w2, z = some ((1 : Int32), w2)) n1).mpr ?_
  rw [talk_c n2 n3, Option.bind_some]
  dsimp only
  rw [if_pos i20, t20]
  have hx3 : nI (orN (sK st3) N) ||| nI (sS st3) = nI (allN N st) := by rw [nI_or, ← n6]; rfl
  refine (congrArg (fun z => ∃ w2, z = some ((1 : Int32), w2)) (if_pos (by rw [n4.1, stJ (by have := n2.2.2.1; omega)]; exact hx3))).mpr ?_
  obtain ⟨w4, o1, o2⟩ := same_L hQ n2 n3 n4 n5
  have h2 := (n3.sc o2).1
  obtain ⟨hz, h1⟩ := h60 N (by omega) hN1
  rw [o1, Option.bind_some]
  dsimp only
  rw [if1]
  have r16 : rng 16 0 15 = 0 := by decide
  have r0 : rng 0 0 15 = 1 := by decide
  have a1 : f_X4_land 6 0 w4 = some (-5, w4) := by unfold f_X4_land; rw [h2, hz, if_pos rfl]
  have a2 : f_X4_land 0 16 w4 = some (-6, w4) := by unfold f_X4_land; rw [h2, h1, if1, r16, if_pos rfl]
  have a3 : f_X4_teach 6 0 w4 = some (-5, w4) := by unfold f_X4_teach; rw [h2, hz, if_pos rfl]
  have a4 : f_X4_teach 0 6 w4 = some (-5, w4) := by unfold f_X4_teach; rw [h2, h1, if1, hz, if_pos rfl]
  have a5 : f_X4_teach 0 0 w4 = some (-5, w4) := by unfold f_X4_teach; rw [h2, h1, if1, if1, if_pos rfl]
  have a6 : f_X4_lands 6 0 0 w4 = some (-5000, w4) := by unfold f_X4_lands; rw [h2, hz, if_pos rfl]
  have a7 : f_X4_lands 0 16 0 w4 = some (-5000, w4) := by unfold f_X4_lands; rw [h2, h1, if1, r16, if_pos rfl]
  have a8 : f_X4_lands 0 0 2 w4 = some (-7000, w4) := by unfold f_X4_lands; rw [h2, h1, if1, r0, if1, if_neg (by decide), if_neg (by decide)]
  have a9 : f_X4_shore 2 0 w4 = some (-2, w4) := by unfold f_X4_shore j_X4_shore_37; rw [if_neg (by decide), if_neg (by decide)]
  have b1 : f_X4_shore 0 1000 w4 = some (-2, w4) := by unfold f_X4_shore j_X4_shore_37; rw [if_pos rfl, if_neg (by decide), if_neg (by decide), if_neg (by decide)]
  have b2 : f_X4_shore 1 65536 w4 = some (-2, w4) := by unfold f_X4_shore j_X4_shore_37; rw [if_neg (by decide), if_pos rfl, if_pos (by decide)]
  have b3 : f_X4_put 6 0 0 w4 = some (-5, w4) := by unfold f_X4_put; rw [h2, hz, if_pos rfl]
  have b4 : f_X4_put 0 3 0 w4 = some (-7, w4) := by unfold f_X4_put j_X4_put_38 j_X4_put_63; rw [h2, h1, if1, if_neg (by decide), if_neg (by decide), if_neg (by decide)]
  have b5 : f_X4_put 0 0 65536 w4 = some (-7, w4) := by unfold f_X4_put j_X4_put_38 j_X4_put_63; rw [h2, h1, if1, if_pos rfl, if_pos (by decide), if_neg (by decide), if_neg (by decide)]
  have b6 : f_X4_put 0 1 (-1) w4 = some (-7, w4) := by unfold f_X4_put j_X4_put_38 j_X4_put_63; rw [h2, h1, if1, if_neg (by decide), if_pos rfl, if_pos (by decide), if_neg (by decide)]
  have b7 : f_X4_put 0 2 100 w4 = some (-7, w4) := by unfold f_X4_put j_X4_put_38 j_X4_put_63; rw [h2, h1, if1, if_neg (by decide), if_neg (by decide), if_pos rfl, if_neg (by decide), if_neg (by decide)]
  have b8 : f_X4_told 6 0 w4 = some (-5, w4) := by unfold f_X4_told; rw [h2, hz, if_pos rfl]
  have b9 : f_X4_told 0 7 w4 = some (-7, w4) := by unfold f_X4_told; rw [h2, h1, if1, swE_0]; rfl
  refine ⟨w4, ?_⟩
  rw [a1, Option.bind_some]; dsimp only
  rw [if_pos rfl, a2, Option.bind_some]; dsimp only
  rw [if_pos rfl, a3, Option.bind_some]; dsimp only
  rw [if_pos rfl, a4, Option.bind_some]; dsimp only
  rw [if_pos rfl, a5, Option.bind_some]; dsimp only
  rw [if_pos rfl, a6, Option.bind_some]; dsimp only
  rw [if_pos rfl, a7, Option.bind_some]; dsimp only
  rw [if_pos rfl, a8, Option.bind_some]; dsimp only
  rw [if_pos rfl, a9, Option.bind_some]; dsimp only
  rw [if_pos rfl, b1, Option.bind_some]; dsimp only
  rw [if_pos rfl, b2, Option.bind_some]; dsimp only
  rw [if_pos rfl, b3, Option.bind_some]; dsimp only
  rw [if_pos rfl, b4, Option.bind_some]; dsimp only
  rw [if_pos rfl, b5, Option.bind_some]; dsimp only
  rw [if_pos rfl, b6, Option.bind_some]; dsimp only
  rw [if_pos rfl, b7, Option.bind_some]; dsimp only
  rw [if_pos rfl, b8, Option.bind_some]; dsimp only
  rw [if_pos rfl, b9, Option.bind_some]; dsimp only
  rw [if_pos rfl]
