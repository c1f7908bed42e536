/-! the law's own numbers: lets, lucks, takes -/
def HR (N : Nat) (κ μ : Nat → Nat) (st : St) (w : Mem) : Prop := w 20 0 20 = nI (sS st) ∧ w 20 0 21 = nI (sT st) ∧ ∀ p, p < N → w 20 0 (3 * p) = nI (sK st p) ∧ w 20 0 (3 * p + 1) = nI (sE st p) ∧ w 20 0 (3 * p + 2) = nI (sL st p) ∧ w 20 0 (12 + p) = nI (κ p) ∧ w 20 0 (16 + p) = nI (μ p)
theorem HR.sc {N : Nat} {κ μ : Nat → Nat} {st : St} {w w' : Mem} (h : HR N κ μ st w) (hc : ∀ c, w' 20 0 c = w 20 0 c) : HR N κ μ st w' := by
  obtain ⟨h1, h2, h3⟩ := h
  refine ⟨by rw [hc]; exact h1, by rw [hc]; exact h2, fun p hp => ?_⟩
  rw [hc, hc, hc, hc, hc]
  exact h3 p hp
theorem at_n (q : Int32 → Int32) (k : Nat) (hk : k < 2 ^ 31) (w : Mem) : f_L_at q (nI k) w = some (q (nI k), w) := by
  unfold f_L_at
  rw [if_neg (nI_pos hk)]
theorem at_0q (q : Int32 → Int32) (w : Mem) : f_L_at q 0 w = some (q 0, w) := at_n q 0 (by omega) w
theorem plain_eq (q : Int32 → Int32) (w : Mem) : f_L_plain q w = some (if plainQ q then 1 else 0, w) := by
  unfold f_L_plain
  rw [at_0q]
  show (if (shrI (q 0) 2) &&& 1 = 0 then some ((1 : Int32), w) else some (0, w)) = _
  by_cases h : plainQ q
  · rw [if_pos h, if_pos h]
  · rw [if_neg h, if_neg h]
theorem i60 {k : Nat} (h : k < 60) : inB (nI k) 60 := nI_in h (by omega)
theorem t3 (p : Nat) : 3 * nI p = nI (3 * p) := by rw [show (3 : Int32) = nI 3 from rfl, nI_mul]
theorem t31 (p : Nat) : nI (3 * p) + 1 = nI (3 * p + 1) := nI_1 _
theorem t32 (p : Nat) : nI (3 * p) + 2 = nI (3 * p + 2) := nI_add _ 2
theorem t12 (p : Nat) : 12 + nI p = nI (12 + p) := nI_add 12 p
theorem t16 (p : Nat) : 16 + nI p = nI (16 + p) := nI_add 16 p
theorem tnn {k : Nat} (h : k < 2 ^ 31) : tn (nI k) = k := nI_clamp h
theorem t20 : tn 20 = 20 := by decide
theorem t21 : tn 21 = 21 := by decide
theorem i20 : inB 20 60 := by decide
theorem i21 : inB 21 60 := by decide
theorem rm2_e : ∀ a : Nat, a < 199 → ∀ k, k < 17 → k ≠ 0 → rmL (rmL (iL ((a : Int) - 99)) (lN k) + lN k) (lN k) = lN (((a : Int) - 99) % (k : Int)).toNat := by decide +kernel
theorem rm2_z {z : Int} {k : Nat} (h1 : -99 ≤ z) (h2 : z ≤ 99) (hk : k < 17) (h0 : k ≠ 0) : rmL (rmL (iL z) (lN k) + lN k) (lN k) = lN (z % (k : Int)).toNat := by
  have h := rm2_e (z + 99).toNat (by omega) k hk h0
  rw [show (((z + 99).toNat : Int)) - 99 = z by omega] at h
  exact h
theorem cb_L (n : Nat) (h : n < 2 ^ 31) (h0 : 0 < n) : lN n &&& (lN n - 1) = lN (cb n) := by
  rw [show (1 : Int64) = lN 1 from rfl, lN_sub h0, lN_and]; rfl
theorem cmpN {a b : Nat} (ha : a < 2 ^ 31) (hb : b < 2 ^ 31) : lg_cmp (lN a) (lN b) < 0 ↔ a < b := by
  rw [iL_n, iL_n, cmp_lt (by omega) (by omega)]; omega
theorem cmpE {a b : Nat} (ha : a < 2 ^ 31) (hb : b < 2 ^ 31) : lg_cmp (lN a) (lN b) = 0 ↔ a = b := by
  rw [iL_n, iL_n, cmp_eq (by omega) (by omega)]; omega
theorem cmpL {a b : Nat} (ha : a < 2 ^ 31) (hb : b < 2 ^ 31) : lg_cmp (lN a) (lN b) ≤ 0 ↔ a ≤ b := by
  rw [iL_n, iL_n, cmp_le (by omega) (by omega)]; omega
theorem lets_loop (q : Int32 → Int32) (k : Int64 → Mem → Option (Int32 × Mem)) (w : Mem) {j : Nat} (hj : j < 2 ^ 30) : ∀ (m i n fuel : Nat), i + m = j → m ≤ (BL n).length → n < 65536 → m < fuel → h_L_lets_162 q (lN j) k fuel (lN n) (lN i) w = k (lN (cbN m n)) w := by
  intro m
  induction m with
  | zero =>
    intro i n fuel hi _ _ hf
    obtain ⟨fuel, rfl⟩ : ∃ m, fuel = m + 1 := ⟨fuel - 1, by omega⟩
    unfold h_L_lets_162
    rw [if_neg (fun z => by have := (cmpN (by omega) (by omega)).mp z; omega)]
    rfl
  | succ m ih =>
    intro i n fuel hi hl hn hf
    obtain ⟨fuel, rfl⟩ : ∃ m, fuel = m + 1 := ⟨fuel - 1, by omega⟩
    have h0 : 0 < n := by
      rcases Nat.eq_zero_or_pos n with h | h
      · subst h; rw [show BL 0 = [] from bl_0 16 0] at hl; simp at hl
      · exact h
    unfold h_L_lets_162
    rw [if_pos ((cmpN (by omega) (by omega)).mpr (by omega)), cb_L n (by omega) h0, lN_1]
    have e1 : BL (cb n) = (BL n).tail := bl_cb 16 n 0 hn h0
    rw [ih (i + 1) (cb n) fuel (by omega) (by rw [e1, List.length_tail]; omega) (by have := cb_le n; omega) (by omega)]
    rfl
theorem j152_eq {q : Int32 → Int32} {N p j : Nat} {κ μ : Nat → Nat} {st : St} {w : Mem} (hH : HR N κ μ st w) (hp : p < N) (hN : N ≤ 4) (hK : sK st p < 65536) (hj : j < (BL (sK st p)).length) : j_L_lets_152 q (nI p) (lN j) w = some (pick (BL (sK st p)) j, w) := by
  have hl16 : (BL (sK st p)).length ≤ 16 := by rw [bl_len]; exact bsN_le _ _
  unfold j_L_lets_152
  rw [t3, if_pos (i60 (by omega)), tnn (by omega), (hH.2.2 p hp).1, nI_l (by omega)]
  have h := lets_loop q (fun x12_20 w21 => Option.bind (f_J13_numberOfTrailingZeros x12_20 w21) (fun r22 => some (r22.1, r22.2))) w (j := j) (by omega) j 0 (sK st p) FU (by omega) (by omega) hK (by show j < 1000000; omega)
  refine Eq.trans h ?_
  obtain ⟨c1, c2⟩ := cbN_bl j (sK st p) hK
  have h0 : 0 < cbN j (sK st p) := by
    rcases Nat.eq_zero_or_pos (cbN j (sK st p)) with hz | hz
    · rw [hz, show BL 0 = [] from bl_0 16 0] at c2
      have := congrArg List.length c2
      rw [List.length_drop] at this
      simp at this
      omega
    · exact hz
  rw [ntz_L (by omega) h0]
  show some (pick (BL (cbN j (sK st p))) 0, w) = _
  rw [c2]
  unfold pick
  rw [List.getElem?_drop]
  rfl
theorem ix_lt (q : Int32 → Int32) {N p th : Nat} {κ μ : Nat → Nat} {st : St} (hO : OkS N κ μ st) (hp : p < N) (h0 : ¬ sK st p = 0) : ixN q κ μ st p th < (BL (sK st p)).length := by
  obtain ⟨b1, b2, b3, b4, b5⟩ := hO.2.2.2.2 p hp
  have hk1 := bsN_pos b3 (by omega)
  rw [bl_len]
  unfold ixN
  dsimp only
  generalize bsN (sK st p) 16 = n at *
  have hf : (hld (vLets q th n (sT st)) (-99) 99 % (n : Int)).toNat < n := by
    have h5 := Int.emod_nonneg (hld (vLets q th n (sT st)) (-99) 99) (show (n : Int) ≠ 0 by omega)
    have h6 := Int.emod_lt_of_pos (hld (vLets q th n (sT st)) (-99) 99) (show (0 : Int) < n by omega)
    omega
  generalize (hld (vLets q th n (sT st)) (-99) 99 % (n : Int)).toNat = f at hf
  have hm := Nat.mod_lt (μ p) (show 0 < n by omega)
  split
  · omega
  · split
    · split <;> omega
    · split <;> omega
theorem j68_eq {q : Int32 → Int32} {N p th : Nat} {κ μ : Nat → Nat} {st : St} {w : Mem} {z : Int} (hO : OkS N κ μ st) (hH : HR N κ μ st w) (hp : p < N) (h0 : ¬ sK st p = 0) (hz1 : -99 ≤ z) (hz2 : z ≤ 99) (hz : z = hld (vLets q th (bsN (sK st p) 16) (sT st)) (-99) 99) : j_L_lets_68 q (nI p) (lN (bsN (sK st p) 16)) (lN (κ p)) (iL z) w = some (pick (BL (sK st p)) (ixN q κ μ st p th), w) := by
  obtain ⟨b1, b2, b3, b4, b5⟩ := hO.2.2.2.2 p hp
  have hN := hO.2.1
  have hk1 := bsN_pos b3 (by omega)
  have hk16 := bsN_le (sK st p) 16
  have hix := ix_lt q (th := th) hO hp h0
  unfold ixN at hix ⊢
  dsimp only at hix ⊢
  rw [← hz] at hix ⊢
  have hne : ¬ lN (bsN (sK st p) 16) = 0 := fun z => by have := (lN_eq (a := bsN (sK st p) 16) (b := 0) (by omega) (by omega)).mp z; omega
  have er := rm2_z hz1 hz2 (k := bsN (sK st p) 16) (by omega) (by omega)
  unfold j_L_lets_68
  rw [if_pos hne, if_pos hne, er]
  have hf : (z % ((bsN (sK st p) 16 : Nat) : Int)).toNat < bsN (sK st p) 16 := by
    have h5 := Int.emod_nonneg z (show ((bsN (sK st p) 16 : Nat) : Int) ≠ 0 by omega)
    have h6 := Int.emod_lt_of_pos z (show (0 : Int) < ((bsN (sK st p) 16 : Nat) : Int) by omega)
    omega
  generalize hfe : (z % ((bsN (sK st p) 16 : Nat) : Int)).toNat = f at hf hix ⊢
  have hlen : (BL (sK st p)).length = bsN (sK st p) 16 := bl_len 16 _ 0
  rw [hlen] at hix
  generalize hn : bsN (sK st p) 16 = n at *
  have fin : ∀ j, j < n → j_L_lets_152 q (nI p) (lN j) w = some (pick (BL (sK st p)) j, w) := fun j hj => j152_eq hH hp hN b3 (by rw [hlen]; exact hj)
  have c1 : lg_cmp (lN (κ p)) 1 = 0 ↔ κ p = 1 := cmpE (b := 1) (by omega) (by omega)
  have c3 : lg_cmp (lN (κ p)) 3 = 0 ↔ κ p = 3 := cmpE (b := 3) (by omega) (by omega)
  have c5 : lg_cmp (lN (κ p)) 5 = 0 ↔ κ p = 5 := cmpE (b := 5) (by omega) (by omega)
  have j132 : ∀ j, j < n → κ p ≠ 5 → j_L_lets_132 q (nI p) (lN n) (lN (κ p)) (lN j) w = some (pick (BL (sK st p)) j, w) := by
    intro j hj h5
    unfold j_L_lets_132
    rw [if_neg (fun z => h5 (c5.mp z))]
    exact fin j hj
  have e1 : lN n - 1 - lN f = lN (n - 1 - f) := by rw [show (1 : Int64) = lN 1 from rfl, lN_sub (by omega), lN_sub (by omega)]
  by_cases g1 : κ p = 1
  · rw [if_pos (c1.mpr g1), if_pos g1] at *
    unfold j_L_lets_99 j_L_lets_108
    rw [e1, if_neg (fun z => by have := c3.mp z; omega)]
    exact j132 _ (by omega) (by omega)
  · rw [if_neg (fun z => g1 (c1.mp z)), if_neg g1]
    rw [if_neg g1] at hix
    by_cases g3 : κ p = 3
    · rw [if_pos (c3.mpr g3), if_pos g3]
      unfold j_L_lets_99 j_L_lets_108
      rw [e1, if_pos (c3.mpr g3)]
      have c9 : lg_cmp (lN n) 1 ≤ 0 ↔ n ≤ 1 := cmpL (b := 1) (by omega) (by omega)
      by_cases g : n ≤ 1
      · rw [if_pos (c9.mpr g), if_pos (by omega), show n - 1 - f = 0 by omega]
        exact j132 0 (by omega) (by omega)
      · rw [if_neg (fun z => g (c9.mp z)), if_neg (by omega)]
        have e2 : f_J9_maxL 1 (lN (n - 1 - f)) w = some (lN (max (n - 1 - f) 1), w) := by
          have c8 : lg_cmp 1 (lN (n - 1 - f)) < 0 ↔ 1 < n - 1 - f := cmpN (a := 1) (by omega) (by omega)
          unfold f_J9_maxL
          by_cases h : 1 < n - 1 - f
          · rw [if_pos (c8.mpr h), Nat.max_eq_left (by omega)]
          · rw [if_neg (fun z => h (c8.mp z)), Nat.max_eq_right (by omega)]; rfl
        rw [e2]
        exact j132 _ (by omega) (by omega)
    · rw [if_neg (fun z => g3 (c3.mp z)), if_neg g3]
      rw [if_neg g3] at hix
      unfold j_L_lets_108
      rw [if_neg (fun z => g3 (c3.mp z))]
      by_cases g5 : κ p = 5
      · rw [if_pos g5] at hix ⊢
        unfold j_L_lets_132
        rw [if_pos (c5.mpr g5), t16, if_pos (i60 (by omega)), if_pos hne, tnn (by omega), (hH.2.2 p hp).2.2.2.2, nI_l (by omega), show rmL (lN (μ p)) (lN n) = lN (μ p % n) from pk_lRem (by omega) (by omega) (by omega)]
        exact fin _ hix
      · rw [if_neg g5]
        exact j132 f hf g5
theorem lets_L {q : Int32 → Int32} {N p th : Nat} {κ μ : Nat → Nat} {st : St} {w : Mem} (hO : OkS N κ μ st) (hH : HR N κ μ st w) (hp : p < N) (hth : th < 16) : f_L_lets q (nI p) (nI th) w = some (letsN q κ μ st p th, w) := by
  obtain ⟨b1, b2, b3, b4, b5⟩ := hO.2.2.2.2 p hp
  have hN := hO.2.1
  have hT := hO.2.2.2.1
  have hk16 := bsN_le (sK st p) 16
  obtain ⟨r1, r2, r3, r4, r5⟩ := hH.2.2 p hp
  have e0 : lg_cmp (lN (bsN (sK st p) 16)) 0 = 0 ↔ bsN (sK st p) 16 = 0 := cmpE (b := 0) (by omega) (by omega)
  unfold f_L_lets letsN
  rw [t3, if_pos (i60 (by omega)), tnn (by omega), r1, nI_l (by omega), bitCount_L b3]
  show (if lg_cmp (nI (bsN (sK st p) 16)).toInt64 0 = 0 then _ else _) = _
  rw [nI_l (by omega)]
  by_cases h0 : sK st p = 0
  · rw [if_pos (e0.mpr (by rw [h0]; exact bsN_0)), if_pos h0]
  · have hk1 := bsN_pos b3 (by omega)
    rw [if_neg (fun z => by have := e0.mp z; omega), if_neg h0, t12, if_pos (i60 (by omega)), plain_eq]
    have e12 : Int32.toInt64 (w 20 0 (tn (nI (12 + p)))) = lN (κ p) := by rw [tnn (by omega), r4, nI_l (by omega)]
    by_cases hpl : plainQ q
    · rw [if_pos hpl]
      rw [Option.bind_some]
      refine (if_neg (show ¬ (1 : Int32) = 0 by decide)).trans ?_
      show j_L_lets_68 q (nI p) (lN (bsN (sK st p) 16)) (Int32.toInt64 (w 20 0 (tn (nI (12 + p))))) (nI th).toInt64 w = _
      rw [e12, nI_l (by omega), iL_n th]
      refine j68_eq hO hH hp h0 (by omega) (by omega) ?_
      unfold vLets
      rw [if_pos hpl, hld_in (by omega) (by omega)]
    · rw [if_neg hpl]
      have hv := vLets_b q (th := th) (n := bsN (sK st p) 16) (T := sT st) hth hk16 (by omega)
      have hh := hld_b (z := vLets q th (bsN (sK st p) 16) (sT st)) (a := -99) (b := 99) (by omega)
      have hkq := kqs q
      have ev : ((nI th * (shrI (q 0) 3 &&& 3)).toInt64 - lN (bsN (sK st p) 16)) + Int32.toInt64 (w 20 0 (tn 21)) = iL (vLets q th (bsN (sK st p) 16) (sT st)) := by
        have hm : th * kq0 q ≤ 15 * 3 := Nat.mul_le_mul (by omega) (by omega)
        rw [show (shrI (q 0) 3 &&& 3 : Int32) = nI (kq0 q) from and_cut (shrI (q 0) 3) (m := 3) (by decide), nI_mul, nI_l (by omega), t21, hH.2.1, nI_l (by omega)]
        unfold vLets
        rw [if_neg hpl, iL_n, iL_n, iL_n, iL, iL, iL, iL, ← Int64.ofInt_sub, ← Int64.ofInt_add]
        congr 1
      rw [Option.bind_some]
      refine (if_pos rfl).trans ?_
      show Option.bind (f_L_at q 0 w) (fun r7 => if inB 21 60 then (Option.bind (f_L_held ((((nI th * ((shrI r7.1 3) &&& 3)).toInt64) - lN (bsN (sK st p) 16)) + (Int32.toInt64 (r7.2 20 0 (tn 21)))) (-99) 99 r7.2) (fun r9 => j_L_lets_68 q (nI p) (lN (bsN (sK st p) 16)) (Int32.toInt64 (w 20 0 (tn (nI (12 + p))))) (Int32.toInt64 r9.1) r9.2)) else none) = _
      rw [at_0q]
      show (if inB 21 60 then (Option.bind (f_L_held ((((nI th * ((shrI (q 0) 3) &&& 3)).toInt64) - lN (bsN (sK st p) 16)) + (Int32.toInt64 (w 20 0 (tn 21)))) (-99) 99 w) (fun r9 => j_L_lets_68 q (nI p) (lN (bsN (sK st p) 16)) (Int32.toInt64 (w 20 0 (tn (nI (12 + p))))) (Int32.toInt64 r9.1) r9.2)) else none) = _
      rw [if_pos i21, ev]
      have hq := held_eq (z := vLets q th (bsN (sK st p) 16) (sT st)) (a := -99) (b := 99) (by omega) (by omega) (by omega) (by omega) w
      rw [show iI (-99) = (-99 : Int32) by decide, show iI 99 = (99 : Int32) by decide] at hq
      rw [hq]
      show j_L_lets_68 q (nI p) (lN (bsN (sK st p) 16)) (Int32.toInt64 (w 20 0 (tn (nI (12 + p))))) (Int32.toInt64 (iI (hld (vLets q th (bsN (sK st p) 16) (sT st)) (-99) 99))) w = _
      rw [e12, iI_L (by omega) (by omega)]
      exact j68_eq hO hH hp h0 hh.1 hh.2 rfl
