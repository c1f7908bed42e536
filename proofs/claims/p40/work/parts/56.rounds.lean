/-! the names there are stay the same; the five rounds -/
def orN (K : Nat → Nat) : Nat → Nat
  | 0 => 0
  | n + 1 => orN K n ||| K n
def allN (N : Nat) (st : St) : Nat := orN (sK st) N ||| sS st
theorem orN_t (K : Nat → Nat) (i : Nat) : ∀ n, (orN K n).testBit i = true ↔ ∃ p, p < n ∧ (K p).testBit i = true := by
  intro n
  induction n with
  | zero => exact ⟨fun h => absurd h (by show ¬ (0 : Nat).testBit i = true; rw [Nat.zero_testBit]; decide), fun ⟨p, h, _⟩ => by omega⟩
  | succ n ih =>
    show (orN K n ||| K n).testBit i = true ↔ _
    rw [Nat.testBit_or, Bool.or_eq_true, ih]
    constructor
    · rintro (⟨p, h1, h2⟩ | h)
      · exact ⟨p, by omega, h2⟩
      · exact ⟨n, by omega, h⟩
    · rintro ⟨p, h1, h2⟩
      by_cases h : p = n
      · subst h; exact Or.inr h2
      · exact Or.inl ⟨p, by omega, h2⟩
theorem allN_t (N : Nat) (st : St) (i : Nat) : (allN N st).testBit i = true ↔ (∃ p, p < N ∧ (sK st p).testBit i = true) ∨ (sS st).testBit i = true := by
  unfold allN
  rw [Nat.testBit_or, Bool.or_eq_true, orN_t]
theorem allN_eq {N : Nat} {st st' : St} (h : ∀ i, ((∃ p, p < N ∧ (sK st p).testBit i = true) ∨ (sS st).testBit i = true) ↔ ((∃ p, p < N ∧ (sK st' p).testBit i = true) ∨ (sS st').testBit i = true)) : allN N st' = allN N st := by
  refine Nat.eq_of_testBit_eq (fun i => ?_)
  rw [Bool.eq_iff_iff, allN_t, allN_t]
  exact (h i).symm
theorem t2p {b i : Nat} : (2 ^ b).testBit i = true ↔ b = i := by rw [Nat.testBit_two_pow, decide_eq_true_iff]
theorem andn_tt {D c : Nat} (hD : D < 65536) (i : Nat) : (andn D c).testBit i = true ↔ D.testBit i = true ∧ ¬ c.testBit i = true := by
  rw [andn_t hD, Bool.and_eq_true, Bool.not_eq_true', Bool.not_eq_true]
theorem or_tt {a b : Nat} (i : Nat) : (a ||| b).testBit i = true ↔ a.testBit i = true ∨ b.testBit i = true := by
  rw [Nat.testBit_or, Bool.or_eq_true]
theorem lname_tb {q : Int32 → Int32} {κ μ : Nat → Nat} {st : St} {p th b : Nat} (h : lname q κ μ st p th = some b) : (sK st p).testBit b = true := by
  unfold lname at h
  by_cases h0 : sK st p = 0
  · rw [if_pos h0] at h; cases h
  · rw [if_neg h0] at h; exact (bl_tb h).1
theorem landS_all {q : Int32 → Int32} {N p : Nat} {κ μ : Nat → Nat} {st : St} (th : Nat) (hO : OkS N κ μ st) (hp : p < N) : allN N (landS q κ μ st p th) = allN N st := by
  unfold landS
  cases h : lname q κ μ st p th with
  | none => rfl
  | some b =>
    have hb := lname_tb h
    have bK := (hO.2.2.2.2 p hp).2.2.1
    refine allN_eq (fun i => ?_)
    show _ ↔ ((∃ x, x < N ∧ (pfN (sK st) p (andn (sK st p) (2 ^ b)) x).testBit i = true) ∨ (sS st ||| 2 ^ b).testBit i = true)
    rw [or_tt, t2p]
    constructor
    · rintro (⟨x, h1, h2⟩ | h1)
      · by_cases g : x = p
        · subst g
          by_cases g2 : b = i
          · exact Or.inr (Or.inr g2)
          · refine Or.inl ⟨x, h1, ?_⟩
            rw [pfN_s, andn_tt bK, t2p]
            exact ⟨h2, g2⟩
        · exact Or.inl ⟨x, h1, by rw [pfN_n g]; exact h2⟩
      · exact Or.inr (Or.inl h1)
    · rintro (⟨x, h1, h2⟩ | h1 | h1)
      · by_cases g : x = p
        · subst g
          rw [pfN_s, andn_tt bK] at h2
          exact Or.inl ⟨x, h1, h2.1⟩
        · rw [pfN_n g] at h2
          exact Or.inl ⟨x, h1, h2⟩
      · exact Or.inr h1
      · subst h1; exact Or.inl ⟨p, hp, hb⟩
theorem lessonS_all {q : Int32 → Int32} {N a b : Nat} {κ μ : Nat → Nat} {st : St} (hO : OkS N κ μ st) (ha : a < N) (hb : b < N) : allN N (lessonS q κ μ st a b) = allN N st := by
  have bK := (hO.2.2.2.2 a ha).2.2.1
  have hD := andn_le (sK st a) (sK st b)
  have hl : ∀ i, (lrn q κ μ st a b).testBit i = true → (sK st a).testBit i = true := by
    intro i h
    obtain ⟨g1, g2⟩ := cbN_bl (takesN q κ μ st b) (andn (sK st a) (sK st b)) (by omega)
    unfold lrn at h
    rw [← andn_sub (D := andn (sK st a) (sK st b)) (by omega) (Sb_cbN _ _) g1, andn_tt (by omega), andn_tt bK] at h
    exact h.1.1
  refine allN_eq (fun i => ?_)
  show _ ↔ ((∃ x, x < N ∧ (pfN (sK st) b (sK st b ||| lrn q κ μ st a b) x).testBit i = true) ∨ (sS st).testBit i = true)
  constructor
  · rintro (⟨x, h1, h2⟩ | h1)
    · refine Or.inl ⟨x, h1, ?_⟩
      by_cases g : x = b
      · subst g; rw [pfN_s, or_tt]; exact Or.inl h2
      · rw [pfN_n g]; exact h2
    · exact Or.inr h1
  · rintro (⟨x, h1, h2⟩ | h1)
    · by_cases g : x = b
      · subst g
        rw [pfN_s, or_tt] at h2
        rcases h2 with h2 | h2
        · exact Or.inl ⟨x, h1, h2⟩
        · exact Or.inl ⟨a, ha, hl i h2⟩
      · rw [pfN_n g] at h2; exact Or.inl ⟨x, h1, h2⟩
    · exact Or.inr h1
theorem tideS_all {N : Nat} {κ μ : Nat → Nat} {st : St} (hO : OkS N κ μ st) : allN N (tideS N st) = allN N st := by
  have hS := hO.2.2.1
  have hf := few_lt (sK st) N hO.1
  unfold tideS
  cases h : (BL (sS st))[0]? with
  | none => rfl
  | some b =>
    have hb := (bl_tb h).1
    refine allN_eq (fun i => ?_)
    show _ ↔ ((∃ x, x < N ∧ (pfN (sK st) (few (sK st) N) (sK st (few (sK st) N) ||| 2 ^ b) x).testBit i = true) ∨ (andn (sS st) (2 ^ b)).testBit i = true)
    rw [andn_tt hS, t2p]
    constructor
    · rintro (⟨x, h1, h2⟩ | h1)
      · refine Or.inl ⟨x, h1, ?_⟩
        by_cases g : x = few (sK st) N
        · subst g; rw [pfN_s, or_tt]; exact Or.inl h2
        · rw [pfN_n g]; exact h2
      · by_cases g : b = i
        · refine Or.inl ⟨_, hf, ?_⟩
          rw [pfN_s, or_tt, t2p]; exact Or.inr g
        · exact Or.inr ⟨h1, g⟩
    · rintro (⟨x, h1, h2⟩ | h1)
      · by_cases g : x = few (sK st) N
        · subst g
          rw [pfN_s, or_tt, t2p] at h2
          rcases h2 with h2 | h2
          · exact Or.inl ⟨_, h1, h2⟩
          · subst h2; exact Or.inr hb
        · rw [pfN_n g] at h2; exact Or.inl ⟨x, h1, h2⟩
      · exact Or.inr h1.1
theorem holds_all : ∀ N, N < 5 → ∀ x, x < 6 → holdsF (nI (2 ^ N - 1)) (nI x) = if x < N then 1 else 0 := by decide +kernel
theorem talk_loop {N t : Nat} {κ μ : Nat → Nat} {st : St} {w : Mem} (a2 : Int32) (k : Int32 → Int32 → Int32 → Mem → Option (Int32 × Mem)) (hO : OkS N κ μ st) (hC : CoL 0 N κ μ t st w) : ∀ (m x fuel : Nat) (x3 x5 : Int32), x + m = 6 → m < fuel → ∃ y3 y5, h_X4_talk_41 (nI (2 ^ N - 1)) a2 k fuel x3 (nI (orN (sK st) (min x N))) x5 (nI x) w = k y3 (nI (orN (sK st) N)) y5 w := by
  have hN := hO.2.1
  intro m
  induction m with
  | zero =>
    intro x fuel x3 x5 hx hf
    obtain ⟨fuel, rfl⟩ : ∃ m, fuel = m + 1 := ⟨fuel - 1, by omega⟩
    refine ⟨x3, x5, ?_⟩
    unfold h_X4_talk_41
    rw [if_neg (show ¬ nI x < 6 from nI_nlt (a := x) (b := 6) (by omega) (by omega)), Nat.min_eq_right (by omega)]
  | succ m ih =>
    intro x fuel x3 x5 hx hf
    obtain ⟨fuel, rfl⟩ : ∃ m, fuel = m + 1 := ⟨fuel - 1, by omega⟩
    unfold h_X4_talk_41
    rw [if_pos (show nI x < 6 from nI_lt (a := x) (b := 6) (by omega) (by omega)), holds_all N (by omega) x (by omega), nI_1]
    by_cases g : x < N
    · rw [if_pos g, if1, atV_n w 0 (show x < lenK 15 by show x < 6; omega) (by decide), (hC.2.2.2.2 x g).2.2.1, nI_or]
      have e : orN (sK st) (min (x + 1) N) = orN (sK st) (min x N) ||| sK st x := by
        rw [Nat.min_eq_left (by omega), Nat.min_eq_left (by omega)]; rfl
      rw [← e]
      exact ih (x + 1) fuel _ _ (by omega) (by omega)
    · rw [if_neg g, if_pos rfl]
      have e : min x N = min (x + 1) N := by omega
      rw [e]
      exact ih (x + 1) fuel _ _ (by omega) (by omega)
theorem all_e : ∀ N, N < 5 → shlI 1 (nI N) - 1 = nI (2 ^ N - 1) := by decide
theorem all_lt : ∀ N, N < 5 → ¬ (nI (2 ^ N - 1) < 0) ∧ nI (2 ^ N - 1) < shlI 1 (nI N) := by decide
theorem talk_c {N t : Nat} {κ μ : Nat → Nat} {st : St} {w : Mem} (hO : OkS N κ μ st) (hC : CoL 0 N κ μ t st w) : f_X4_talk (shlI 1 (nI N) - 1) 1 w = some (nI (orN (sK st) N), w) := by
  have hN := hO.2.1
  have h4 := all_lt N (by omega)
  unfold f_X4_talk
  rw [all_e N (by omega), if_neg h4.1, hC.1, if_pos h4.2, if_neg (by decide), if_pos (by decide)]
  obtain ⟨y3, y5, h⟩ := talk_loop 1 (fun x3_7 x4_8 x5_9 w10 => swE 1 0 [some (x3_7, w10), some (x4_8, w10), some (65535 &&& (x4_8 ^^^ (-1)), w10)] (some (x4_8 &&& (x5_9 ^^^ (-1)), w10))) hO hC 6 0 FU 65535 0 (by omega) (by show _ < 1000000; omega)
  exact h
theorem j325 {q : Int32 → Int32} {N t r : Nat} {κ μ : Nat → Nat} {C : Nat → List Int32} {st : St} {w : Mem} (k : Int32 → Mem → Option (Int32 × Mem)) (x3 x6 : Int32) {s0 s1 : Int64} (hs : lg_cmp s1 s0 = 0) (hQ : QP q N κ μ) (hO : OkS N κ μ st) (hC : CoL 0 N κ μ t st w) (hH : HR N κ μ st w) (hT : TXq q t C w) (hT9 : sT st + 1 < 900) : ∃ w', j_L_law_325 q k x3 x6 (nI r) s0 s1 w = k (nI (r + 1)) w' ∧ CoL 0 N κ μ t (tideS N st) w' ∧ HR N κ μ (tideS N st) w' ∧ TXq q t C w' := by
  obtain ⟨w1, l1, l2⟩ := same_L hQ hO hC hH hT
  have hC1 := hC.sc l2
  have hT1 := hT.sc l2
  have hH1 := hH.kp l2.kp
  obtain ⟨w2, m1, m2, m3⟩ := X4_tide_c hO hC1 hT9
  have hT2 := hT1.kp m3
  have hH2 := hH1.kp m3
  obtain ⟨w3, n1, n2, n3⟩ := pass_L hO hH2 hQ.1 hT9
  refine ⟨w3, ?_, m2.ro n3, n2, hT2.ro n3⟩
  unfold j_L_law_325
  rw [if_pos hs, l1, Option.bind_some]
  dsimp only
  rw [if1, m1, Option.bind_some]
  dsimp only
  rw [n1, Option.bind_some]
  dsimp only
  rw [if_pos rfl, nI_1]
theorem law194 {q : Int32 → Int32} {N t : Nat} {κ μ : Nat → Nat} {C : Nat → List Int32} (x6 : Int32) (k : Mem → Option (Int32 × Mem)) (hQ : QP q N κ μ) : ∀ (m r fuel : Nat) (st : St) (w : Mem), r + m = 5 → m < fuel → OkS N κ μ st → CoL 0 N κ μ t st w → HR N κ μ st w → TXq q t C w → sT st + m < 800 → ∃ st' w', h_L_law_194 q (nI N) x6 k fuel (nI r) w = k w' ∧ OkS N κ μ st' ∧ CoL 0 N κ μ t st' w' ∧ HR N κ μ st' w' ∧ TXq q t C w' ∧ allN N st' = allN N st := by
  intro m
  induction m with
  | zero =>
    intro r fuel st w hr hf hO hC hH hT hT8
    obtain ⟨fuel, rfl⟩ : ∃ m, fuel = m + 1 := ⟨fuel - 1, by omega⟩
    refine ⟨st, w, ?_, hO, hC, hH, hT, rfl⟩
    unfold h_L_law_194
    rw [if_neg (show ¬ nI r < 5 from nI_nlt (a := r) (b := 5) (by omega) (by omega))]
  | succ m ih =>
    intro r fuel st w hr hf hO hC hH hT hT8
    obtain ⟨fuel, rfl⟩ : ∃ m, fuel = m + 1 := ⟨fuel - 1, by omega⟩
    have hN := hO.2.1
    have hN1 := hO.1
    obtain ⟨w1, l1, l2⟩ := same_L hQ hO hC hH hT
    have hC1 := hC.sc l2
    have hT1 := hT.sc l2
    have hH1 := hH.kp l2.kp
    have ea : ∀ c : Nat, rmI (nI c) (nI N) = nI (c % N) ∨ ¬ c < 2 ^ 31 := fun c => by
      by_cases h : c < 2 ^ 31
      · exact Or.inl (pk_rem h (by omega) (by omega))
      · exact Or.inr h
    obtain ⟨a, ha, eA⟩ : ∃ a, a < N ∧ rmI ((shrI (q 8) (6 * nI r)) &&& 3) (nI N) = nI a := by
      have h1 := cut_le (shrI (q 8) (6 * nI r)) 3
      refine ⟨cut (shrI (q 8) (6 * nI r)) 3 % N, Nat.mod_lt _ (by omega), ?_⟩
      rw [show (shrI (q 8) (6 * nI r) &&& 3 : Int32) = nI (cut (shrI (q 8) (6 * nI r)) 3) from and_cut _ (m := 3) (by decide)]
      exact pk_rem (by omega) (by omega) (by omega)
    obtain ⟨b, hb, eB⟩ : ∃ b, b < N ∧ rmI ((shrI (q 8) ((6 * nI r) + 2)) &&& 3) (nI N) = nI b := by
      have h1 := cut_le (shrI (q 8) ((6 * nI r) + 2)) 3
      refine ⟨cut (shrI (q 8) ((6 * nI r) + 2)) 3 % N, Nat.mod_lt _ (by omega), ?_⟩
      rw [show (shrI (q 8) ((6 * nI r) + 2) &&& 3 : Int32) = nI (cut (shrI (q 8) ((6 * nI r) + 2)) 3) from and_cut _ (m := 3) (by decide)]
      exact pk_rem (by omega) (by omega) (by omega)
    obtain ⟨th, hth, eT⟩ : ∃ th, th < 16 ∧ ((shrI (q 8) ((6 * nI r) + 4)) &&& 3) + (3 * nI r) = nI th := by
      have h1 := cut_le (shrI (q 8) ((6 * nI r) + 4)) 3
      refine ⟨cut (shrI (q 8) ((6 * nI r) + 4)) 3 + 3 * r, by omega, ?_⟩
      rw [show (shrI (q 8) ((6 * nI r) + 4) &&& 3 : Int32) = nI (cut (shrI (q 8) ((6 * nI r) + 4)) 3) from and_cut _ (m := 3) (by decide), t3, nI_add]
    have a8 : ∀ w, f_L_at q 8 w = some (q 8, w) := fun w => at_n q 8 (by omega) w
    have hN0 : ¬ nI N = 0 := nI_ne0 (by omega) (by omega)
    obtain ⟨w2, m1, m2, m3⟩ := X4_land_c hO hC1 hT1 ha hth
    have hT2 := hT1.kp m3
    have hH2 := hH1.kp m3
    obtain ⟨w3, n1, n2, n3⟩ := land_L hO hH2 ha hth
    have hC3 := m2.ro n3
    have hT3 := hT2.ro n3
    have hO3 := landS_ok (q := q) hO ha hth
    have hA3 := landS_all (q := q) th hO ha
    have hT83 := landS_T q κ μ st a th
    generalize landS q κ μ st a th = st3 at *
    have step : ∃ st4 w4, OkS N κ μ st4 ∧ CoL 0 N κ μ t st4 w4 ∧ HR N κ μ st4 w4 ∧ TXq q t C w4 ∧ allN N st4 = allN N st3 ∧ sT st4 = sT st3 ∧ ∃ s0 s1, lg_cmp s1 s0 = 0 ∧ h_L_law_194 q (nI N) x6 k (fuel + 1) (nI r) w = j_L_law_325 q (h_L_law_194 q (nI N) x6 k fuel) (nI N) x6 (nI r) s0 s1 w4 := by
      have pre : h_L_law_194 q (nI N) x6 k (fuel + 1) (nI r) w = Option.bind (f_X4_teach (nI a) (nI b) w3) (fun r38 => if nI a = nI b then (j_L_law_325 q (h_L_law_194 q (nI N) x6 k fuel) (nI N) x6 (nI r) (-5) (Int32.toInt64 r38.1) r38.2) else (Option.bind (f_L_lesson q (nI a) (nI b) r38.2) (fun r46 => j_L_law_325 q (h_L_law_194 q (nI N) x6 k fuel) (nI N) x6 (nI r) r46.1 (Int32.toInt64 r38.1) r46.2))) := by
        conv => lhs; unfold h_L_law_194
        rw [if_pos (show nI r < 5 from nI_lt (a := r) (b := 5) (by omega) (by omega)), l1, Option.bind_some]
        dsimp only
        rw [if1, a8, Option.bind_some]
        dsimp only
        rw [if_pos hN0, a8, Option.bind_some]
        dsimp only
        rw [if_pos hN0, a8, Option.bind_some]
        dsimp only
        rw [eA, eB, eT, m1, Option.bind_some]
        dsimp only
        rw [n1, Option.bind_some]
        dsimp only
        rw [if_pos rfl]
      rw [pre]
      by_cases hab : a = b
      · subst hab
        refine ⟨st3, w3, hO3, hC3, n2, hT3, rfl, rfl, -5, Int32.toInt64 (-5), by decide, ?_⟩
        rw [X4_teach_s hO3 hC3 ha, Option.bind_some, if_pos rfl]
      · have hl := lrn_lt q (b := b) hO3 ha
        obtain ⟨w4, p1, p2, p3⟩ := X4_teach_c hO3 hC3 hT3 ha hb hab
        have hT4 := hT3.kp p3
        have hH4 := n2.kp p3
        obtain ⟨w5, q1, q2, q3⟩ := lesson_L hO3 hH4 ha hb
        refine ⟨_, w5, lessonS_ok (q := q) (b := b) hO3 ha, p2.ro q3, q2, hT4.ro q3, lessonS_all hO3 ha hb, rfl, lN (lrn q κ μ st3 a b), (nI (lrn q κ μ st3 a b)).toInt64, by rw [nI_l (by omega)]; exact (cmpE (by omega) (by omega)).mpr rfl, ?_⟩
        rw [p1, Option.bind_some]
        dsimp only
        rw [if_neg (fun z => hab ((nI_eq (by omega) (by omega)).mp z)), q1, Option.bind_some]
    obtain ⟨st4, w4, hO4, hC4, hH4, hT4, hA4, hT84, s0, s1, hs, he⟩ := step
    obtain ⟨w5, u1, u2, u3, u4⟩ := j325 (r := r) (h_L_law_194 q (nI N) x6 k fuel) (nI N) x6 hs hQ hO4 hC4 hH4 hT4 (by omega)
    have hT85 := tideS_T N st4
    obtain ⟨st', w', v1, v2, v3, v4, v5, v6⟩ := ih (r + 1) fuel (tideS N st4) w5 (by omega) (by omega) (tideS_ok hO4 (by omega)) u2 u3 u4 (by omega)
    exact ⟨st', w', he.trans (u1.trans v1), v2, v3, v4, v5, v6.trans ((tideS_all hO4).trans (hA4.trans hA3))⟩
