/-! a tide: the class; the law -/
def few (K : Nat → Nat) : Nat → Nat
  | 0 => 0
  | n + 1 => if bsN (K n) 16 < bsN (K (few K n)) 16 then n else few K n
theorem few_lt (K : Nat → Nat) : ∀ n, 1 ≤ n → few K n < n := by
  intro n
  induction n with
  | zero => intro h; omega
  | succ n ih =>
    intro _
    show (if bsN (K n) 16 < bsN (K (few K n)) 16 then n else few K n) < n + 1
    split
    · omega
    · rcases Nat.eq_zero_or_pos n with h | h
      · subst h; show (0 : Nat) < 1; omega
      · have := ih h; omega
theorem few_1 (K : Nat → Nat) : few K 1 = 0 := by
  show (if bsN (K 0) 16 < bsN (K 0) 16 then 0 else 0) = 0
  split <;> rfl
theorem bl_mem : ∀ (f n o b : Nat), b ∈ bl f n o → n / 2 ^ (b - o) % 2 = 1 := by
  intro f
  induction f with
  | zero => intro n o b h; cases h
  | succ f ih =>
    intro n o b h
    have h2 : b ∈ (if n % 2 = 1 then o :: bl f (n / 2) (o + 1) else bl f (n / 2) (o + 1)) := h
    have tl : b ∈ bl f (n / 2) (o + 1) → n / 2 ^ (b - o) % 2 = 1 := by
      intro h3
      have h4 := ih _ _ _ h3
      have h5 := bl_in _ _ _ _ h3
      rw [Nat.div_div_eq_div_mul, show 2 * 2 ^ (b - (o + 1)) = 2 ^ (b - o) by rw [show b - o = b - (o + 1) + 1 by omega, Nat.pow_succ]; omega] at h4
      exact h4
    split at h2
    · rename_i hb
      rcases List.mem_cons.mp h2 with h3 | h3
      · subst h3; rw [Nat.sub_self, Nat.pow_zero, Nat.div_one]; exact hb
      · exact tl h3
    · exact tl h2
theorem tbN_of {n b : Nat} : n.testBit b = true ↔ n / 2 ^ b % 2 = 1 := by
  rw [Nat.testBit_eq_decide_div_mod_eq, decide_eq_true_iff]
theorem bl_tb {n b j : Nat} (h : (BL n)[j]? = some b) : n.testBit b = true ∧ b < 16 := by
  have h1 := List.mem_of_getElem? h
  have h2 := bl_in 16 _ 0 b h1
  exact ⟨tbN_of.mpr (bl_mem 16 n 0 b h1), by omega⟩
theorem Sb_2 {n b : Nat} (h : n.testBit b = true) : Sb (2 ^ b) n := by
  intro i hi
  rw [Nat.testBit_two_pow, decide_eq_true_iff] at hi
  subst hi; exact h
theorem tb_ge {n b : Nat} (h : n.testBit b = true) : 2 ^ b ≤ n := Nat.ge_two_pow_of_testBit h
theorem cb_hd {n b : Nat} (hn : n < 65536) (h : (BL n)[0]? = some b) : cb n = andn n (2 ^ b) := by
  have h1 := bl_tb h
  rw [andn_sub hn (Sb_2 h1.1) (tb_ge h1.1)]
  have h0 : 0 < n := by
    rcases Nat.eq_zero_or_pos n with h2 | h2
    · subst h2; rw [show BL 0 = [] from bl_0 16 0] at h; cases h
    · exact h2
  have h2 := bl_cb 16 n 0 hn h0
  have h3 := vs_BL hn
  have h4 := vs_BL (n := cb n) (by have := cb_le n; omega)
  rw [show BL (cb n) = (BL n).tail from h2] at h4
  cases he : BL n with
  | nil => rw [he] at h; cases h
  | cons x l =>
    rw [he] at h h3 h4
    have hx : x = b := by injection h
    subst hx
    have h5 : 2 ^ x + vs l = n := h3
    have h6 : vs l = cb n := h4
    omega
def tideS (N : Nat) (st : St) : St := match (BL (sS st))[0]? with
  | none => (sK st, sE st, sL st, sS st, sT st + 1)
  | some b => (pfN (sK st) (few (sK st) N) (sK st (few (sK st) N) ||| 2 ^ b), sE st, sL st, andn (sS st) (2 ^ b), sT st + 1)
theorem tideS_T (N : Nat) (st : St) : sT (tideS N st) = sT st + 1 := by
  unfold tideS
  cases (BL (sS st))[0]? <;> rfl
theorem tideS_ok {N : Nat} {κ μ : Nat → Nat} {st : St} (hO : OkS N κ μ st) (hT : sT st + 1 < 900) : OkS N κ μ (tideS N st) := by
  obtain ⟨o1, o2, o3, o4, o5⟩ := id hO
  unfold tideS
  cases h : (BL (sS st))[0]? with
  | none => exact ⟨o1, o2, o3, hT, o5⟩
  | some b =>
    have hb := (bl_tb h).2
    refine ⟨o1, o2, ?_, hT, fun x hx => ⟨(o5 x hx).1, (o5 x hx).2.1, ?_, (o5 x hx).2.2.2⟩⟩
    · have := andn_le (sS st) (2 ^ b); show andn (sS st) (2 ^ b) < 65536; omega
    · show pfN (sK st) (few (sK st) N) (sK st (few (sK st) N) ||| 2 ^ b) x < 65536
      by_cases g : x = few (sK st) N
      · rw [← g, pfN_s]; exact or16 (o5 x hx).2.2.1 (p16 hb)
      · rw [pfN_n g]; exact (o5 x hx).2.2.1
theorem bl_e {n : Nat} (h : n < 65536) (h0 : (BL n)[0]? = none) : n = 0 := by
  rcases Nat.eq_zero_or_pos n with h2 | h2
  · exact h2
  · have h3 := List.getElem?_eq_none_iff.mp h0
    exact absurd (List.length_eq_zero_iff.mp (Nat.le_zero.mp h3)) (bl_ne 16 n 0 h h2)
theorem washes_loop {i N t : Nat} {κ μ : Nat → Nat} {st : St} {w : Mem} (k : Int32 → Mem → Option (Int32 × Mem)) (hO : OkS N κ μ st) (hC : CoL i N κ μ t st w) : ∀ (m x2 fuel : Nat), x2 + m = N → 1 ≤ x2 → m < fuel → h_X0_washes_30 i k fuel (nI (few (sK st) x2)) (nI x2) w = k (nI (few (sK st) N)) w := by
  have hN := hO.2.1
  have e15 : ∀ {p : Nat}, p < N → bcF (atV w 15 i (nI p)) = nI (bsN (sK st p) 16) := fun {p} hp => by
    rw [atV_n w i (show p < lenK 15 by show p < 6; omega) (by decide), (hC.2.2.2.2 p hp).2.2.1, bcF_bs (hO.2.2.2.2 p hp).2.2.1]
  intro m
  induction m with
  | zero =>
    intro x2 fuel h1 h2 h3
    obtain ⟨fuel, rfl⟩ : ∃ m, fuel = m + 1 := ⟨fuel - 1, by omega⟩
    unfold h_X0_washes_30
    rw [hC.1, if_neg (nI_nlt (by omega) (by omega)), show x2 = N by omega]
  | succ m ih =>
    intro x2 fuel h1 h2 h3
    obtain ⟨fuel, rfl⟩ : ∃ m, fuel = m + 1 := ⟨fuel - 1, by omega⟩
    have hf := few_lt (sK st) x2 h2
    have b1 := bsN_le (sK st x2) 16
    have b2 := bsN_le (sK st (few (sK st) x2)) 16
    have ef : few (sK st) (x2 + 1) = if bsN (sK st x2) 16 < bsN (sK st (few (sK st) x2)) 16 then x2 else few (sK st) x2 := rfl
    unfold h_X0_washes_30
    rw [hC.1, if_pos (nI_lt (by omega) (by omega)), e15 (by omega), e15 (by omega), nI_1]
    by_cases g : bsN (sK st x2) 16 < bsN (sK st (few (sK st) x2)) 16
    · rw [if_pos (nI_lt g (by omega))]
      rw [if_pos g] at ef
      have h := ih (x2 + 1) fuel (by omega) (by omega) (by omega)
      rw [ef] at h
      exact h
    · rw [if_neg (nI_nlt (by omega) (by omega))]
      rw [if_neg g] at ef
      have h := ih (x2 + 1) fuel (by omega) (by omega) (by omega)
      rw [ef] at h
      exact h
theorem washes_c {i N t : Nat} {κ μ : Nat → Nat} {st : St} {w : Mem} (hO : OkS N κ μ st) (hC : CoL i N κ μ t st w) (hT9 : sT st + 1 < 900) : ∃ w', f_X0_washes i w = some (pick (BL (sS st)) 0, w') ∧ CoL i N κ μ t (tideS N st) w' ∧ KpC w w' := by
  have hN := hO.2.1
  have hN1 := hO.1
  have hS := hO.2.2.1
  have hC1 : CoL i N κ μ t (sK st, sE st, sL st, sS st, sT st + 1) (up w 0 i 4 (nI (sT st + 1))) := hC.upT
  have hO1 : OkS N κ μ (sK st, sE st, sL st, sS st, sT st + 1) := ⟨hO.1, hO.2.1, hO.2.2.1, hT9, hO.2.2.2.2⟩
  have k1 : KpC w (up w 0 i 4 (nI (sT st + 1))) := KpC.rf.up (by omega)
  unfold f_X0_washes
  rw [hC.2.2.1, nI_1, hC1.1, if_neg (nI_ne0 (by omega) (by omega)), hC1.2.1]
  unfold tideS pick
  cases h : (BL (sS st))[0]? with
  | none =>
    rw [if_pos (show nI (sS st) = 0 by rw [bl_e hS h]; rfl)]
    exact ⟨_, rfl, hC1, k1⟩
  | some b =>
    obtain ⟨g1, g2⟩ := bl_tb h
    have g3 := tb_ge g1
    have hp := Nat.two_pow_pos b
    rw [if_neg (show ¬ nI (sS st) = 0 from nI_ne0 (by omega) (by omega))]
    have hl := washes_loop (fun x1_5 w6 => Option.bind (f_X0_isTold i x1_5 (shlI 1 (nthF (w6 0 i 3) 0)) (up w6 0 i 3 ((w6 0 i 3) &&& ((shlI 1 (nthF (w6 0 i 3) 0)) ^^^ (-1))))) (fun r7 => some (nthF (w6 0 i 3) 0, r7))) hO1 hC1 (N - 1) 1 FU (by omega) (by omega) (by show _ < 1000000; omega)
    rw [few_1] at hl
    have en : nthF (nI (sS st)) 0 = nI b := by
      rw [show (0 : Int32) = nI 0 from rfl, nthF_bl (by omega) (by omega)]; unfold pick; rw [h]
    have hf := few_lt (sK st) N hN1
    have hC2 := hC1.upS (a := andn (sS st) (2 ^ b))
    refine ⟨_, hl.trans ?_, hC2.upK, (k1.up (by omega)).up (by omega)⟩
    rw [hC1.2.1, show nthF (nI (sS (sK st, sE st, sL st, sS st, sT st + 1))) 0 = nI b from en, nI_shl (by omega), andn_I (show sS st < 65536 from hS)]
    unfold f_X0_isTold
    rw [atV_n _ i (show few (sK st) N < lenK 15 by show _ < 6; omega) (by decide), (hC2.2.2.2.2 _ hf).2.2.1, nI_or, setV_n _ i _ (show few (sK st) N < lenK 15 by show _ < 6; omega) (by decide)]
    rfl
theorem X4_tide_c {N t : Nat} {κ μ : Nat → Nat} {st : St} {w : Mem} (hO : OkS N κ μ st) (hC : CoL 0 N κ μ t st w) (hT9 : sT st + 1 < 900) : ∃ w', f_X4_tide w = some (pick (BL (sS st)) 0, w') ∧ CoL 0 N κ μ t (tideS N st) w' ∧ KpC w w' := by
  obtain ⟨w1, l1, l2, l3⟩ := washes_c hO hC hT9
  refine ⟨w1, ?_, l2, l3⟩
  unfold f_X4_tide
  rw [hC.2.2.1, if_pos (show nI (sT st) < 999 from nI_lt (a := sT st) (b := 999) (by omega) (by omega)), l1]
  rfl
theorem pass_loop {q : Int32 → Int32} {N : Nat} {κ μ : Nat → Nat} {st : St} {w : Mem} (k : Int32 → Mem → Option (Int32 × Mem)) (hO : OkS N κ μ st) (hH : HR N κ μ st w) (hM : f_L_many q w = some (nI N, w)) : ∀ (m x2 fuel : Nat), x2 + m = N → 1 ≤ x2 → m < fuel → h_L_pass_23 q k fuel (nI (few (sK st) x2)) (nI x2) w = k (nI (few (sK st) N)) w := by
  have hN := hO.2.1
  have e15 : ∀ {p : Nat}, p < N → f_J13_bitCount (w 20 0 (3 * p)).toInt64 w = some (nI (bsN (sK st p) 16), w) := fun {p} hp => by
    have hK := (hO.2.2.2.2 p hp).2.2.1
    rw [(hH.2.2 p hp).1, nI_l (by omega), bitCount_L hK]
  intro m
  induction m with
  | zero =>
    intro x2 fuel h1 h2 h3
    obtain ⟨fuel, rfl⟩ : ∃ m, fuel = m + 1 := ⟨fuel - 1, by omega⟩
    unfold h_L_pass_23
    rw [hM, Option.bind_some]
    dsimp only
    rw [if_neg (nI_nlt (by omega) (by omega)), show x2 = N by omega]
  | succ m ih =>
    intro x2 fuel h1 h2 h3
    obtain ⟨fuel, rfl⟩ : ∃ m, fuel = m + 1 := ⟨fuel - 1, by omega⟩
    have hf := few_lt (sK st) x2 h2
    have b1 := bsN_le (sK st x2) 16
    have b2 := bsN_le (sK st (few (sK st) x2)) 16
    have ef : few (sK st) (x2 + 1) = if bsN (sK st x2) 16 < bsN (sK st (few (sK st) x2)) 16 then x2 else few (sK st) x2 := rfl
    unfold h_L_pass_23
    rw [hM, Option.bind_some]
    dsimp only
    rw [if_pos (nI_lt (by omega) (by omega)), t3, t3, tnn (by omega), tnn (by omega), if_pos (i60 (by omega)), e15 (by omega), Option.bind_some]
    dsimp only
    rw [if_pos (i60 (by omega)), e15 (by omega), Option.bind_some, nI_1]
    dsimp only
    by_cases g : bsN (sK st x2) 16 < bsN (sK st (few (sK st) x2)) 16
    · rw [if_pos (nI_lt g (by omega))]
      rw [if_pos g] at ef
      have h := ih (x2 + 1) fuel (by omega) (by omega) (by omega)
      rw [ef] at h
      exact h
    · rw [if_neg (nI_nlt (by omega) (by omega))]
      rw [if_neg g] at ef
      have h := ih (x2 + 1) fuel (by omega) (by omega) (by omega)
      rw [ef] at h
      exact h
