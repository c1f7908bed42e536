/-! the law's tide; what the law holds against the class -/
theorem pass_L {q : Int32 → Int32} {N : Nat} {κ μ : Nat → Nat} {st : St} {w : Mem} (hO : OkS N κ μ st) (hH : HR N κ μ st w) (hM : ∀ w, f_L_many q w = some (nI N, w)) (hT9 : sT st + 1 < 900) : ∃ w', f_L_pass q w = some (pick (BL (sS st)) 0, w') ∧ HR N κ μ (tideS N st) w' ∧ OnlyK 20 w w' := by
  have hN := hO.2.1
  have hN1 := hO.1
  have hS := hO.2.2.1
  have hH1 : HR N κ μ (sK st, sE st, sL st, sS st, sT st + 1) (up w 20 0 21 (nI (sT st + 1))) := hH.upT hN
  have hO1 : OkS N κ μ (sK st, sE st, sL st, sS st, sT st + 1) := ⟨hO.1, hO.2.1, hO.2.2.1, hT9, hO.2.2.2.2⟩
  have k1 : OnlyK 20 w (up w 20 0 21 (nI (sT st + 1))) := OnlyK.rf.up
  unfold f_L_pass
  rw [t21, t20, if_pos i21, hH.2.1, nI_l (by omega), lN_1, if_pos ⟨i21, stLN (by omega)⟩, lN_i, if_pos i20, hH1.1, nI_l (n := sS _) (show sS st < 2 ^ 31 by omega)]
  have e0 : lg_cmp (lN (sS st)) 0 = 0 ↔ sS st = 0 := cmpE (b := 0) (by omega) (by omega)
  unfold tideS
  cases h : (BL (sS st))[0]? with
  | none =>
    rw [if_pos (show lg_cmp (lN (sS (sK st, sE st, sL st, sS st, sT st + 1))) 0 = 0 from e0.mpr (bl_e hS h))]
    exact ⟨_, by unfold pick; rw [h], hH1, k1⟩
  | some b =>
    obtain ⟨g1, g2⟩ := bl_tb h
    have g3 := tb_ge g1
    have hp := Nat.two_pow_pos b
    rw [if_neg (show ¬ lg_cmp (lN (sS (sK st, sE st, sL st, sS st, sT st + 1))) 0 = 0 from fun z => by have := e0.mp z; omega)]
    have hl : ∀ k, h_L_pass_23 q k FU 0 1 (up w 20 0 21 (nI (sT st + 1))) = k (nI (few (sK st) N)) (up w 20 0 21 (nI (sT st + 1))) := by
      intro k
      have hl2 := pass_loop (w := up w 20 0 21 (nI (sT st + 1))) k hO1 hH1 (hM _) (N - 1) 1 FU (by omega) (by omega) (by show _ < 1000000; omega)
      rw [few_1] at hl2
      exact hl2
    have ep : pick (BL (sS st)) 0 = nI b := by unfold pick; rw [h]
    have hf := few_lt (sK st) N hN1
    have hH2 := hH1.upS (a := andn (sS st) (2 ^ b)) hN
    have hc := cb_hd hS h
    have ha := andn_le (sS st) (2 ^ b)
    have hKf := or16 (hO.2.2.2.2 _ hf).2.2.1 (p16 g2)
    refine ⟨_, (hl _).trans ?_, hH2.upK (p := few (sK st) N) hf hN, (k1.up).up⟩
    rw [if_pos i20, hH1.1, nI_l (n := sS _) (show sS st < 2 ^ 31 by omega), show f_J13_numberOfTrailingZeros (lN (sS (sK st, sE st, sL st, sS st, sT st + 1))) _ = some (pick (BL (sS st)) 0, _) from ntz_L hS (by omega) _, Option.bind_some]
    dsimp only
    have es : ((up w 20 0 21 (nI (sT st + 1))) 20 0 20).toInt64 &&& (((up w 20 0 21 (nI (sT st + 1))) 20 0 20).toInt64 - 1) = lN (andn (sS st) (2 ^ b)) := by
      rw [hH1.1, nI_l (n := sS _) (show sS st < 2 ^ 31 by omega)]
      exact (cb_L (sS st) (by omega) (by omega)).trans (by rw [hc])
    rw [ep, if_pos i20, if_pos i20]
    refine (if_pos ⟨i20, by rw [es]; exact stLN (by omega)⟩).trans ?_
    rw [es, lN_i, t3, tnn (show 3 * few (sK st) N < 2 ^ 31 by omega)]
    rw [if_pos (i60 (show 3 * few (sK st) N < 60 by omega)), (hH2.2.2 _ hf).1, nI_l (n := sK _ _) (show sK st (few (sK st) N) < 2 ^ 31 by have := (hO.2.2.2.2 _ hf).2.2.1; omega), lN_shl (by omega), lN_or, if_pos ⟨i60 (show 3 * few (sK st) N < 60 by omega), stLN (show sK st (few (sK st) N) ||| 2 ^ b < 2 ^ 31 by omega)⟩, lN_i]
def QP (q : Int32 → Int32) (N : Nat) (κ μ : Nat → Nat) : Prop := (∀ w, f_L_many q w = some (nI N, w)) ∧ ∀ p, p < N → ∀ w, f_L_kind q (nI p) w = some (nI (κ p), w) ∧ f_L_more q (nI p) w = some (nI (μ p), w)
theorem swE_0 {ρ : Type} (x : Int32) (a b c d e f g z : Option ρ) : swE x 0 [a, b, c, d, e, f, g] z = if x = 0 then a else if x = 1 then b else if x = 2 then c else if x = 3 then d else if x = 4 then e else if x = 5 then f else if x = 6 then g else z := rfl
theorem swE_06 {ρ : Type} (x : Int32) (a b c d e f z : Option ρ) : swE x 0 [a, b, c, d, e, f] z = if x = 0 then a else if x = 1 then b else if x = 2 then c else if x = 3 then d else if x = 4 then e else if x = 5 then f else z := rfl
theorem told_c {N t p j : Nat} {κ μ : Nat → Nat} {st : St} {w : Mem} (hO : OkS N κ μ st) (hC : CoL 0 N κ μ t st w) (hp : p < N) (hj : j < 6) : f_X4_told (nI p) (nI j) w = some (nI (if j = 0 then sK st p else if j = 1 then sE st p else if j = 2 then sL st p else if j = 3 then κ p else if j = 4 then μ p else andn (sE st p) (sK st p)), w) := by
  have hN := hO.2.1
  obtain ⟨b1, b2, b3, b4, b5⟩ := hO.2.2.2.2 p hp
  obtain ⟨d1, d2, d3, d4, d5⟩ := hC.2.2.2.2 p hp
  have ea : ∀ k, k < 37 → p < lenK k → atV w k 0 (nI p) = w k 0 p := fun k hk h => atV_n w 0 h hk
  unfold f_X4_told
  rw [hC.1, has_1 (by omega) hp, if1, swE_0]
  have hn : f_X0_nameless 0 (nI p) w = some (nI (andn (sE st p) (sK st p)), w) := by
    unfold f_X0_nameless
    rw [ea 16 (by decide) (show p < 6 by omega), ea 15 (by decide) (show p < 6 by omega), d4, d3, andn_I b4]
  rw [ea 15 (by decide) (show p < 6 by omega), ea 16 (by decide) (show p < 6 by omega), ea 17 (by decide) (show p < 6 by omega), ea 13 (by decide) (show p < 6 by omega), ea 14 (by decide) (show p < 6 by omega), d1, d2, d3, d4, d5, hn]
  match j, hj with
  | 0, _ => rfl
  | 1, _ => rfl
  | 2, _ => rfl
  | 3, _ => rfl
  | 4, _ => rfl
  | 5, _ => rfl
theorem told_6 {q : Int32 → Int32} {N t p : Nat} {κ μ : Nat → Nat} {C : Nat → List Int32} {st : St} {w : Mem} (hO : OkS N κ μ st) (hC : CoL 0 N κ μ t st w) (hT : TXq q t C w) (hp : p < N) : ∃ w', f_X4_told (nI p) 6 w = some (nI (takesN q κ μ st p), w') ∧ ScC w w' := by
  have hN := hO.2.1
  obtain ⟨w1, l1, l2⟩ := takes_cS hO hC hT hp
  refine ⟨w1, ?_, l2⟩
  unfold f_X4_told
  rw [hC.1, has_1 (by omega) hp, if1, swE_0, l1]
  rfl
theorem lands_0 {q : Int32 → Int32} {N t p th : Nat} {κ μ : Nat → Nat} {C : Nat → List Int32} {st : St} {w : Mem} (hO : OkS N κ μ st) (hC : CoL 0 N κ μ t st w) (hT : TXq q t C w) (hp : p < N) (hth : th < 16) : ∃ w', f_X4_lands (nI p) (nI th) 0 w = some (letsN q κ μ st p th, w') ∧ ScC w w' := by
  have hN := hO.2.1
  obtain ⟨w1, l1, l2⟩ := lets_cS hO hC hT hp hth
  refine ⟨w1, ?_, l2⟩
  unfold f_X4_lands
  rw [hC.1, has_1 (by omega) hp, if1, rng15 hth, if1, if_pos rfl, l1]
  rfl
theorem lands_1 {q : Int32 → Int32} {N t p th : Nat} {κ μ : Nat → Nat} {C : Nat → List Int32} {st : St} {w : Mem} (hO : OkS N κ μ st) (hC : CoL 0 N κ μ t st w) (hT : TXq q t C w) (hp : p < N) (hth : th < 16) : ∃ w', f_X4_lands (nI p) (nI th) 1 w = some (iI (lucksN q κ μ st p th), w') ∧ ScC w w' := by
  have hN := hO.2.1
  obtain ⟨w1, l1, l2⟩ := lucks_cS hO hC hT hp hth
  refine ⟨w1, ?_, l2⟩
  unfold f_X4_lands
  rw [hC.1, has_1 (by omega) hp, if1, rng15 hth, if1, if_neg (by decide), if_pos rfl, l1]
  rfl
theorem same13 {q : Int32 → Int32} {N t p : Nat} {κ μ : Nat → Nat} {st : St} {w : Mem} (k : Mem → Option (Int32 × Mem)) (hO : OkS N κ μ st) (hC : CoL 0 N κ μ t st w) (hH : HR N κ μ st w) (hp : p < N) : ∀ (m j fuel : Nat), j + m = 3 → m < fuel → h_L_same_13 q (nI p) k fuel (nI j) w = k w := by
  have hN := hO.2.1
  obtain ⟨b1, b2, b3, b4, b5⟩ := hO.2.2.2.2 p hp
  obtain ⟨r1, r2, r3, r4, r5⟩ := hH.2.2 p hp
  intro m
  induction m with
  | zero =>
    intro j fuel hj hf
    obtain ⟨fuel, rfl⟩ : ∃ m, fuel = m + 1 := ⟨fuel - 1, by omega⟩
    obtain rfl : j = 3 := by omega
    unfold h_L_same_13
    rw [if_neg (show ¬ nI 3 < 3 by decide)]
  | succ m ih =>
    intro j fuel hj hf
    obtain ⟨fuel, rfl⟩ : ∃ m, fuel = m + 1 := ⟨fuel - 1, by omega⟩
    unfold h_L_same_13
    rw [if_pos (show nI j < 3 from nI_lt (a := j) (b := 3) (by omega) (by omega)), told_c hO hC hp (by omega), Option.bind_some]
    dsimp only
    rw [t3, nI_add, if_pos (i60 (by omega)), tnn (by omega), nI_1]
    have e : lg_cmp (nI (if j = 0 then sK st p else if j = 1 then sE st p else if j = 2 then sL st p else if j = 3 then κ p else if j = 4 then μ p else andn (sE st p) (sK st p))).toInt64 (w 20 0 (3 * p + j)).toInt64 = 0 := by
      match j, hj with
      | 0, _ => rw [if_pos rfl, show w 20 0 (3 * p + 0) = nI (sK st p) from r1, nI_l (by omega)]; exact (cmpE (by omega) (by omega)).mpr rfl
      | 1, _ => rw [if_neg (by omega), if_pos rfl, r2, nI_l (by omega)]; exact (cmpE (by omega) (by omega)).mpr rfl
      | 2, _ => rw [if_neg (by omega), if_neg (by omega), if_pos rfl, r3, nI_l (by omega)]; exact (cmpE (by omega) (by omega)).mpr rfl
      | j + 3, h => omega
    rw [if_pos e]
    exact ih (j + 1) fuel (by omega) (by omega)
theorem rm16 {T : Nat} (h : T < 900) : Int64.toInt32 (rmL (lN T) 16) = nI (T % 16) := by
  rw [show rmL (lN T) 16 = lN (T % 16) from pk_lRem (b := 16) (by omega) (by omega) (by omega), lN_i]
theorem same2 {q : Int32 → Int32} {N t : Nat} {κ μ : Nat → Nat} {C : Nat → List Int32} {st : St} (k : Mem → Option (Int32 × Mem)) (hQ : QP q N κ μ) (hO : OkS N κ μ st) : ∀ (m p fuel : Nat) (w : Mem), p + m = N → m < fuel → CoL 0 N κ μ t st w → HR N κ μ st w → TXq q t C w → ∃ w', h_L_same_2 q k fuel (nI p) w = k w' ∧ ScC w w' := by
  have hN := hO.2.1
  intro m
  induction m with
  | zero =>
    intro p fuel w hp hf hC hH hT
    obtain ⟨fuel, rfl⟩ : ∃ m, fuel = m + 1 := ⟨fuel - 1, by omega⟩
    refine ⟨w, ?_, .rf⟩
    unfold h_L_same_2
    rw [hQ.1, Option.bind_some]
    dsimp only
    rw [if_neg (nI_nlt (by omega) (by omega))]
  | succ m ih =>
    intro p fuel w hp hf hC hH hT
    obtain ⟨fuel, rfl⟩ : ∃ m, fuel = m + 1 := ⟨fuel - 1, by omega⟩
    have hp2 : p < N := by omega
    obtain ⟨b1, b2, b3, b4, b5⟩ := hO.2.2.2.2 p hp2
    have hT9 := hO.2.2.2.1
    have ha := andn_le (sE st p) (sK st p)
    have htk := takesN_b q hO hp2
    have hth : sT st % 16 < 16 := Nat.mod_lt _ (by omega)
    have hlb := lucks_b q (sT st % 16) hO hp2
    obtain ⟨w1, l1, l2⟩ := told_6 hO hC hT hp2
    have hC1 := hC.sc l2
    have hT1 := hT.sc l2
    have hH1 := hH.kp l2.kp
    obtain ⟨w2, m1, m2⟩ := lands_0 hO hC1 hT1 hp2 hth
    have hC2 := hC1.sc m2
    have hT2 := hT1.sc m2
    have hH2 := hH1.kp m2.kp
    obtain ⟨w3, n1, n2⟩ := lands_1 hO hC2 hT2 hp2 hth
    have hC3 := hC2.sc n2
    have hT3 := hT2.sc n2
    have hH3 := hH2.kp n2.kp
    obtain ⟨w4, o1, o2⟩ := ih (p + 1) fuel w3 (by omega) (by omega) hC3 hH3 hT3
    refine ⟨w4, ?_, ((l2.tr m2).tr n2).tr o2⟩
    unfold h_L_same_2
    rw [hQ.1, Option.bind_some]
    dsimp only
    rw [if_pos (nI_lt hp2 (by omega)), show h_L_same_13 q (nI p) _ FU 0 w = _ from same13 _ hO hC hH hp2 3 0 FU (by omega) (by show _ < 1000000; omega), show f_X4_told (nI p) 3 w = some (nI (κ p), w) from told_c hO hC hp2 (j := 3) (by omega), Option.bind_some]
    dsimp only
    rw [(hQ.2 p hp2 w).1, Option.bind_some]
    dsimp only
    rw [if_pos rfl, show f_X4_told (nI p) 4 w = some (nI (μ p), w) from told_c hO hC hp2 (j := 4) (by omega), Option.bind_some]
    dsimp only
    rw [(hQ.2 p hp2 w).2, Option.bind_some]
    dsimp only
    rw [if_pos rfl, show f_X4_told (nI p) 5 w = some (nI (andn (sE st p) (sK st p)), w) from told_c hO hC hp2 (j := 5) (by omega), Option.bind_some]
    dsimp only
    rw [t3, t31, if_pos (i60 (by omega)), if_pos (i60 (by omega)), tnn (by omega), tnn (by omega)]
    refine (if_pos (by rw [(hH.2.2 p hp2).1, (hH.2.2 p hp2).2.1, nI_l (by omega), nI_l (by omega), nI_l (by omega), andn_L b4]; exact (cmpE (by omega) (by omega)).mpr rfl)).trans ?_
    rw [l1, Option.bind_some]
    dsimp only
    rw [takes_L hO hH1 hp2, Option.bind_some]
    dsimp only
    rw [nI_l (by omega), if_pos ((cmpE (by omega) (by omega)).mpr rfl), if_pos i21, if_pos (by decide), t21, hH1.2.1, nI_l (by omega), rm16 hT9, m1, Option.bind_some]
    dsimp only
    rw [lets_L hO hH2 hp2 hth, Option.bind_some]
    dsimp only
    rw [if_pos rfl, n1, Option.bind_some]
    dsimp only
    rw [lucks_L hO hH3 hp2 hth, Option.bind_some]
    dsimp only
    rw [iI_L (by omega) (by omega), if_pos ((cmp_eq (by omega) (by omega)).mpr rfl), nI_1]
    exact o1
theorem count_c {N t j : Nat} {κ μ : Nat → Nat} {st : St} {w : Mem} (hO : OkS N κ μ st) (hC : CoL 0 N κ μ t st w) (hj : j < 3) : f_X4_count (nI j) w = some (nI (if j = 0 then N else if j = 1 then bsN (sS st) 16 else sT st), w) := by
  unfold f_X4_count
  rw [swE_06, hC.1, hC.2.1, hC.2.2.1, bcF_bs hO.2.2.1]
  match j, hj with
  | 0, _ => rfl
  | 1, _ => rfl
  | 2, _ => rfl
theorem same_L {q : Int32 → Int32} {N t : Nat} {κ μ : Nat → Nat} {C : Nat → List Int32} {st : St} {w : Mem} (hQ : QP q N κ μ) (hO : OkS N κ μ st) (hC : CoL 0 N κ μ t st w) (hH : HR N κ μ st w) (hT : TXq q t C w) : ∃ w', f_L_same q w = some (1, w') ∧ ScC w w' := by
  have hN := hO.2.1
  have hS := hO.2.2.1
  have hT9 := hO.2.2.2.1
  have hb := bsN_le (sS st) 16
  obtain ⟨w1, l1, l2⟩ := same2 (fun w29 => Option.bind (f_X4_count 0 w29) (fun r30 => Option.bind (f_L_many q r30.2) (fun r31 => if r30.1 = r31.1 then (Option.bind (f_X4_count 1 r31.2) (fun r33 => if inB 20 60 then (Option.bind (f_J13_bitCount (Int32.toInt64 (r33.2 20 0 (tn 20))) r33.2) (fun r35 => if r33.1 = r35.1 then (Option.bind (f_X4_count 2 r35.2) (fun r37 => if inB 21 60 then (if (lg_cmp (Int32.toInt64 r37.1) (Int32.toInt64 (r37.2 20 0 (tn 21)))) = 0 then (some (1, r37.2)) else (some (0, r37.2))) else none)) else (some (0, r35.2)))) else none)) else (some (0, r31.2))))) hQ hO N 0 FU w (by omega) (by show _ < 1000000; omega) hC hH hT
  have hC1 := hC.sc l2
  have hH1 := hH.kp l2.kp
  refine ⟨w1, ?_, l2⟩
  unfold f_L_same
  refine Eq.trans l1 ?_
  rw [show f_X4_count 0 w1 = some (nI N, w1) from count_c hO hC1 (j := 0) (by omega), Option.bind_some]
  dsimp only
  rw [hQ.1, Option.bind_some]
  dsimp only
  rw [if_pos rfl, show f_X4_count 1 w1 = some (nI (bsN (sS st) 16), w1) from count_c hO hC1 (j := 1) (by omega), Option.bind_some]
  dsimp only
  rw [if_pos i20, t20, hH1.1, nI_l (by omega), bitCount_L hS, Option.bind_some]
  dsimp only
  rw [if_pos rfl, show f_X4_count 2 w1 = some (nI (sT st), w1) from count_c hO hC1 (j := 2) (by omega), Option.bind_some]
  dsimp only
  rw [if_pos i21, t21]
  exact if_pos (by rw [hH1.2.1, nI_l (by omega)]; exact (cmpE (by omega) (by omega)).mpr rfl)
