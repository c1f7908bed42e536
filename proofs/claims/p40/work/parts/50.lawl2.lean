/-! the law's own numbers: lucks, takes -/
theorem shrL_amt : ∀ k, k < 31 → (((nI k).toInt64 &&& 63).toBitVec.smod 64).toNat = k := by decide +kernel
theorem lN_shr {n k : Nat} (h : n < 2 ^ 31) (hk : k < 31) : shrL (lN n) (nI k) = lN (n / 2 ^ k) := by
  have hd : n / 2 ^ k ≤ n := Nat.div_le_self _ _
  apply Int64.toInt_inj.mp
  have e : (shrL (lN n) (nI k)).toInt = (lN n).toInt >>> k := by
    have h1 := shrL_amt k hk
    unfold shrL
    generalize (nI k).toInt64 &&& 63 = D at h1
    rw [← h1]
    exact BitVec.toInt_sshiftRight ..
  rw [e, Int.shiftRight_eq_div_pow, lN_toInt h, lN_toInt (by omega)]
  rfl
theorem lN_bit {n k : Nat} (h : n < 2 ^ 31) (hk : k < 31) : shrL (lN n) (nI k) &&& 1 = lN (n / 2 ^ k % 2) := by
  rw [lN_shr h hk, show (1 : Int64) = lN 1 from rfl, lN_and, Nat.and_one_is_mod]
theorem div2L_e : ∀ a : Nat, a < 199 → (iL ((a : Int) - 99)) / 2 = iL (((a : Int) - 99).tdiv 2) := by decide +kernel
theorem div2L {z : Int} (h1 : -99 ≤ z) (h2 : z ≤ 99) : iL z / 2 = iL (z.tdiv 2) := by
  have h := div2L_e (z + 99).toNat (by omega)
  rw [show (((z + 99).toNat : Int)) - 99 = z by omega] at h
  exact h
theorem iL_sub (a b : Int) : iL a - iL b = iL (a - b) := (Int64.ofInt_sub a b).symm
theorem iL_add (a b : Int) : iL a + iL b = iL (a + b) := (Int64.ofInt_add a b).symm
theorem e_mu {N p : Nat} {κ μ : Nat → Nat} {st : St} {w : Mem} (hH : HR N κ μ st w) (hp : p < N) (hN : N ≤ 4) (hm : μ p < 10) : Int32.toInt64 (w 20 0 (tn (nI (16 + p)))) = lN (μ p) := by
  rw [tnn (by omega), (hH.2.2 p hp).2.2.2.2, nI_l (by omega)]
theorem j72_eq {q : Int32 → Int32} {N p th : Nat} {κ μ : Nat → Nat} {st : St} {w : Mem} (hO : OkS N κ μ st) (hH : HR N κ μ st w) (hp : p < N) (hth : th < 16) : j_L_lucks_72 q (nI p) (nI th) (lN (κ p)) (iL (vLucks q (bsN (sE st p) 16))) w = some (iL (lucksN q κ μ st p th), w) := by
  obtain ⟨b1, b2, b3, b4, b5⟩ := hO.2.2.2.2 p hp
  have hN := hO.2.1
  obtain ⟨r1, r2, r3, r4, r5⟩ := hH.2.2 p hp
  have hv := vLucks_b q (bsN (sE st p) 16)
  unfold lucksN
  dsimp only
  generalize vLucks q (bsN (sE st p) 16) = v at *
  have hmu := e_mu hH hp hN b2
  have kc : ∀ a : Nat, a < 10 → (lg_cmp (lN (κ p)) (lN a) = 0 ↔ κ p = a) := fun a ha => cmpE (by omega) (by omega)
  have k1 : lg_cmp (lN (κ p)) 1 = 0 ↔ κ p = 1 := kc 1 (by omega)
  have k2 : lg_cmp (lN (κ p)) 2 = 0 ↔ κ p = 2 := kc 2 (by omega)
  have k3 : lg_cmp (lN (κ p)) 3 = 0 ↔ κ p = 3 := kc 3 (by omega)
  have k4 : lg_cmp (lN (κ p)) 4 = 0 ↔ κ p = 4 := kc 4 (by omega)
  have i16 : inB (nI (16 + p)) 60 := i60 (by omega)
  have e174 : j_L_lucks_174 q (iL v) w = some (iL (v.tdiv 2), w) := by
    unfold j_L_lucks_174
    rw [if_pos (by decide), div2L (by omega) (by omega)]
  have e156 : j_L_lucks_156 q (lN (κ p)) (iL v) w = some (if κ p = 2 ∨ κ p = 4 then iL (v.tdiv 2) else iL v, w) := by
    unfold j_L_lucks_156
    rw [e174]
    by_cases g2 : κ p = 2
    · rw [if_pos (k2.mpr g2), if_pos (Or.inl g2)]
    · rw [if_neg (fun z => g2 (k2.mp z))]
      by_cases g4 : κ p = 4
      · rw [if_pos (k4.mpr g4), if_pos (Or.inr g4)]
      · rw [if_neg (fun z => g4 (k4.mp z)), if_neg (by omega)]
  have fin : ∀ s : Int32, s = (if sK st p / 2 ^ th % 2 = 1 then 1 else 0) → j_L_lucks_93 q (nI p) (lN (κ p)) (iL v) s w = some (iL (if κ p = 1 ∨ κ p = 3 then (if sK st p / 2 ^ th % 2 = 1 then v else v - μ p) else if κ p = 2 then v.tdiv 2 else if κ p = 4 then (if sK st p / 2 ^ th % 2 = 1 then (μ p : Int) else v.tdiv 2) else v), w) := by
    intro s hs
    have e111 : j_L_lucks_111 q (nI p) (iL v) s w = some (iL (if sK st p / 2 ^ th % 2 = 1 then v else v - μ p), w) := by
      unfold j_L_lucks_111
      subst hs
      by_cases gb : sK st p / 2 ^ th % 2 = 1
      · rw [if_pos gb, if_pos gb, if_neg (by decide)]
      · rw [if_neg gb, if_neg gb, if_pos rfl, t16, if_pos i16, hmu, iL_n, iL_sub]
    unfold j_L_lucks_93
    rw [e111, e156]
    by_cases g1 : κ p = 1
    · rw [if_pos (k1.mpr g1), if_pos (Or.inl g1)]
    · rw [if_neg (fun z => g1 (k1.mp z))]
      by_cases g3 : κ p = 3
      · rw [if_pos (k3.mpr g3), if_pos (Or.inr g3)]
      · rw [if_neg (fun z => g3 (k3.mp z)), if_neg (show ¬ (κ p = 1 ∨ κ p = 3) by omega)]
        by_cases g4 : κ p = 4
        · rw [if_pos (k4.mpr g4), if_neg (show ¬ κ p = 2 by omega), if_pos g4]
          subst hs
          by_cases gb : sK st p / 2 ^ th % 2 = 1
          · rw [if_pos gb, if_pos gb, if_neg (by decide), t16, if_pos i16, hmu, iL_n]
          · rw [if_neg gb, if_neg gb, if_pos rfl, if_pos (Or.inr g4)]
        · rw [if_neg (fun z => g4 (k4.mp z))]
          by_cases g2 : κ p = 2
          · rw [if_pos (Or.inl g2), if_pos g2]
          · rw [if_neg (by omega), if_neg g2, if_neg g4]
  unfold j_L_lucks_72
  rw [t3, if_pos (i60 (by omega)), tnn (by omega), r1, nI_l (by omega), lN_bit (by omega) (by omega)]
  have hm := Nat.mod_lt (sK st p / 2 ^ th) (show 0 < 2 by omega)
  have kb : lg_cmp (lN (sK st p / 2 ^ th % 2)) 1 = 0 ↔ sK st p / 2 ^ th % 2 = 1 := cmpE (b := 1) (by omega) (by omega)
  by_cases gb : sK st p / 2 ^ th % 2 = 1
  · rw [if_pos (kb.mpr gb)]; exact fin 1 (by rw [if_pos gb])
  · rw [if_neg (fun z => gb (kb.mp z))]; exact fin 0 (by rw [if_neg gb])
theorem lucks_L {q : Int32 → Int32} {N p th : Nat} {κ μ : Nat → Nat} {st : St} {w : Mem} (hO : OkS N κ μ st) (hH : HR N κ μ st w) (hp : p < N) (hth : th < 16) : f_L_lucks q (nI p) (nI th) w = some (iL (lucksN q κ μ st p th), w) := by
  obtain ⟨b1, b2, b3, b4, b5⟩ := hO.2.2.2.2 p hp
  have hN := hO.2.1
  obtain ⟨r1, r2, r3, r4, r5⟩ := hH.2.2 p hp
  have hkq := kqs q
  have h72 := j72_eq (q := q) hO hH hp hth
  have hb := bsN_le (sE st p) 16
  have e12 : Int32.toInt64 (w 20 0 (tn (nI (12 + p)))) = lN (κ p) := by rw [tnn (by omega), r4, nI_l (by omega)]
  have b : Int32.toInt64 (w 20 0 (tn (nI (3 * p + 1)))) = lN (sE st p) := by rw [tnn (by omega), r2, nI_l (by omega)]
  unfold f_L_lucks
  rw [t12, if_pos (i60 (by omega)), plain_eq, Option.bind_some, e12]
  by_cases hpl : plainQ q
  · rw [if_pos hpl]
    refine (if_neg (show ¬ (1 : Int32) = 0 by decide)).trans ?_
    unfold vLucks at h72
    rw [if_pos hpl] at h72
    exact h72
  · rw [if_neg hpl]
    refine (if_pos rfl).trans ?_
    rw [at_0q, Option.bind_some, t3, t31, if_pos (i60 (by omega))]
    show Option.bind (f_J13_bitCount (Int32.toInt64 (w 20 0 (tn (nI (3 * p + 1))))) w) _ = _
    rw [b, bitCount_L b4, Option.bind_some]
    dsimp only
    rw [at_0q, Option.bind_some]
    dsimp only
    rw [at_0q, Option.bind_some]
    dsimp only
    rw [show (shrI (q 0) 9 &&& 7 : Int32) = nI (kq2 q) from and_cut (shrI (q 0) 9) (m := 7) (by decide), show (shrI (q 0) 12 &&& 7 : Int32) = nI (kq3 q) from and_cut (shrI (q 0) 12) (m := 7) (by decide), show (shrI (q 0) 5 &&& 15 : Int32) = nI (kq1 q) from and_cut (shrI (q 0) 5) (m := 15) (by decide)]
    unfold vLucks at h72
    rw [if_neg hpl] at h72
    have e7 : ∀ z : Nat, z ≤ 7 → (nI (kq1 q) - nI z).toInt64 = iL ((kq1 q : Int) - (z : Int)) := by
      intro z hz
      rw [iI_n, iI_n, iI, iI, ← Int32.ofInt_sub]
      exact iI_L (by omega) (by omega)
    unfold j_L_lucks_70
    by_cases g : bsN (sE st p) 16 < kq2 q
    · rw [if_pos (nI_lt g (by omega)), e7 _ (by omega)]
      rw [if_pos g] at h72
      exact h72
    · rw [if_neg (nI_nlt (by omega) (by omega)), show (0 : Int32) = nI 0 from rfl, e7 0 (by omega)]
      rw [if_neg g] at h72
      exact h72
theorem j60_eq {q : Int32 → Int32} {N p v : Nat} {κ μ : Nat → Nat} {st : St} {w : Mem} (hO : OkS N κ μ st) (hH : HR N κ μ st w) (hp : p < N) (hv : v = (vTakes q (sL st p)).toNat) : j_L_takes_60 q (nI p) (lN (κ p)) (lN v) w = some (lN (takesN q κ μ st p), w) := by
  obtain ⟨b1, b2, b3, b4, b5⟩ := hO.2.2.2.2 p hp
  have hN := hO.2.1
  have hT := hO.2.2.2.1
  have hvb := vTakes_b q (sL st p)
  unfold takesN
  dsimp only
  rw [← hv]
  have hmu := e_mu hH hp hN b2
  have kc : ∀ a : Nat, a < 10 → (lg_cmp (lN (κ p)) (lN a) = 0 ↔ κ p = a) := fun a ha => cmpE (by omega) (by omega)
  have k2 : lg_cmp (lN (κ p)) 2 = 0 ↔ κ p = 2 := kc 2 (by omega)
  have k3 : lg_cmp (lN (κ p)) 3 = 0 ↔ κ p = 3 := kc 3 (by omega)
  have k4 : lg_cmp (lN (κ p)) 4 = 0 ↔ κ p = 4 := kc 4 (by omega)
  have k5 : lg_cmp (lN (κ p)) 5 = 0 ↔ κ p = 5 := kc 5 (by omega)
  have i16 : inB (nI (16 + p)) 60 := i60 (by omega)
  unfold j_L_takes_60
  rw [t16, hmu]
  by_cases g2 : κ p = 2
  · rw [if_pos (k2.mpr g2), if_pos g2, if_pos i16, lN_add]
  · rw [if_neg (fun z => g2 (k2.mp z)), if_neg g2]
    by_cases g4 : κ p = 4
    · rw [if_pos (k4.mpr g4), if_neg (show ¬ κ p = 3 by omega), if_pos g4, if_pos i16, lN_add, show (2 : Int64) = lN 2 from rfl, lN_mul]
    · rw [if_neg (fun z => g4 (k4.mp z))]
      by_cases g3 : κ p = 3
      · rw [if_pos (k3.mpr g3), if_pos g3, if_pos i21, if_pos (by decide), t21, hH.2.1, nI_l (by omega), show rmL (lN (sT st)) 3 = lN (sT st % 3) from pk_lRem (b := 3) (by omega) (by omega) (by omega)]
        have h3 := Nat.mod_lt (sT st) (show 0 < 3 by omega)
        have k0 : lg_cmp (lN (sT st % 3)) 0 = 0 ↔ sT st % 3 = 0 := cmpE (b := 0) (by omega) (by omega)
        by_cases g : sT st % 3 = 0
        · rw [if_pos (k0.mpr g), if_pos g]
        · rw [if_neg (fun z => g (k0.mp z)), if_neg g]; rfl
      · rw [if_neg (fun z => g3 (k3.mp z)), if_neg g3, if_neg g4]
        by_cases g5 : κ p = 5
        · rw [if_pos (k5.mpr g5), if_pos g5]; rfl
        · rw [if_neg (fun z => g5 (k5.mp z)), if_neg g5]
theorem takes_L {q : Int32 → Int32} {N p : Nat} {κ μ : Nat → Nat} {st : St} {w : Mem} (hO : OkS N κ μ st) (hH : HR N κ μ st w) (hp : p < N) : f_L_takes q (nI p) w = some (lN (takesN q κ μ st p), w) := by
  obtain ⟨b1, b2, b3, b4, b5⟩ := hO.2.2.2.2 p hp
  have hN := hO.2.1
  obtain ⟨r1, r2, r3, r4, r5⟩ := hH.2.2 p hp
  have hkq := kqs q
  have e12 : Int32.toInt64 (w 20 0 (tn (nI (12 + p)))) = lN (κ p) := by rw [tnn (by omega), r4, nI_l (by omega)]
  have b : Int32.toInt64 (w 20 0 (tn (nI (3 * p + 2)))) = lN (sL st p) := by rw [tnn (by omega), r3, nI_l (by omega)]
  unfold f_L_takes
  rw [t12, if_pos (i60 (by omega)), plain_eq, Option.bind_some, e12]
  by_cases hpl : plainQ q
  · rw [if_pos hpl]
    refine (if_neg (show ¬ (1 : Int32) = 0 by decide)).trans ?_
    refine j60_eq (v := 2) hO hH hp ?_
    unfold vTakes
    rw [if_pos hpl]
    rfl
  · rw [if_neg hpl]
    refine (if_pos rfl).trans ?_
    rw [at_0q, Option.bind_some, t3, t32, if_pos (i60 (by omega))]
    show Option.bind (f_L_at q 0 w) _ = _
    rw [at_0q, Option.bind_some]
    dsimp only
    rw [b, show (shrI (q 0) 17 &&& 63 : Int32) = nI (kq5 q) from and_cut (shrI (q 0) 17) (m := 63) (by decide), show (shrI (q 0) 15 &&& 3 : Int32) = nI (kq4 q) from and_cut (shrI (q 0) 15) (m := 3) (by decide), nI_l (by omega), nI_l (by omega)]
    have hj : ∀ v, v = (vTakes q (sL st p)).toNat → j_L_takes_60 q (nI p) (lN (κ p)) (lN v) w = some (lN (takesN q κ μ st p), w) := fun v => j60_eq hO hH hp
    unfold vTakes at hj
    rw [if_neg hpl] at hj
    unfold j_L_takes_59
    by_cases g : sL st p < kq5 q
    · rw [if_pos ((cmpN (by omega) (by omega)).mpr g), show (1 : Int64) = lN 1 from rfl, lN_add]
      exact hj _ (by rw [if_pos g]; omega)
    · rw [if_neg (fun z => g ((cmpN (by omega) (by omega)).mp z)), show (0 : Int64) = lN 0 from rfl, lN_add]
      exact hj _ (by rw [if_neg g]; omega)
