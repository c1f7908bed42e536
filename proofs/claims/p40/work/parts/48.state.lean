/-! the coast as plain numbers; what is let go, the luck, what one takes: the class -/
abbrev St : Type := (Nat → Nat) × (Nat → Nat) × (Nat → Nat) × Nat × Nat
abbrev sK (st : St) : Nat → Nat := st.1
abbrev sE (st : St) : Nat → Nat := st.2.1
abbrev sL (st : St) : Nat → Nat := st.2.2.1
abbrev sS (st : St) : Nat := st.2.2.2.1
abbrev sT (st : St) : Nat := st.2.2.2.2
abbrev plainQ (q : Int32 → Int32) : Prop := shrI (q 0) 2 &&& 1 = 0
def vLets (q : Int32 → Int32) (th n T : Nat) : Int := if plainQ q then (th : Int) else (th : Int) * (kq0 q : Int) - n + T
def vLucks (q : Int32 → Int32) (k : Nat) : Int := if plainQ q then 5 else (kq1 q : Int) - (if k < kq2 q then (kq3 q : Int) else 0)
def vTakes (q : Int32 → Int32) (L : Nat) : Int := if plainQ q then 2 else (kq4 q : Int) + (if L < kq5 q then 1 else 0)
/-- what the parts of a text come to -/
def Says (q : Int32 → Int32) (C : Nat → List Int32) : Prop := ∀ th n k T L m : Nat, th < 16 → n ≤ 16 → k ≤ 16 → T < 1000 → L < 100 → m < 10 → valC (nm6 (nI th) (nI n) (nI k) (nI T) (nI L) (nI m)) (C 0) = iI (vLets q th n T) ∧ valC (nm6 (nI th) (nI n) (nI k) (nI T) (nI L) (nI m)) (C 1) = iI (vLucks q k) ∧ valC (nm6 (nI th) (nI n) (nI k) (nI T) (nI L) (nI m)) (C 2) = iI (vTakes q L)
def TXq (q : Int32 → Int32) (t : Nat) (C : Nat → List Int32) (w : Mem) : Prop := t < 6 ∧ TxC t C w ∧ Says q C
/-- bounds -/
def OkS (N : Nat) (κ μ : Nat → Nat) (st : St) : Prop := 1 ≤ N ∧ N ≤ 4 ∧ sS st < 65536 ∧ sT st < 900 ∧ ∀ p, p < N → κ p < 6 ∧ μ p < 10 ∧ sK st p < 65536 ∧ sE st p < 65536 ∧ sL st p ≤ 99
def CoL (i N : Nat) (κ μ : Nat → Nat) (t : Nat) (st : St) (w : Mem) : Prop := w 0 i 2 = nI N ∧ w 0 i 3 = nI (sS st) ∧ w 0 i 4 = nI (sT st) ∧ w 0 i 5 = nI t ∧ ∀ p, p < N → w 13 i p = nI (κ p) ∧ w 14 i p = nI (μ p) ∧ w 15 i p = nI (sK st p) ∧ w 16 i p = nI (sE st p) ∧ w 17 i p = nI (sL st p)
theorem CoL.sc {i N : Nat} {κ μ : Nat → Nat} {t : Nat} {st : St} {w w' : Mem} (h : CoL i N κ μ t st w) (hc : ScC w w') : CoL i N κ μ t st w' := by
  obtain ⟨h1, h2, h3, h4, h5⟩ := h
  refine ⟨by rw [hc 0 i 2 (by decide) (by decide)]; exact h1, by rw [hc 0 i 3 (by decide) (by decide)]; exact h2, by rw [hc 0 i 4 (by decide) (by decide)]; exact h3, by rw [hc 0 i 5 (by decide) (by decide)]; exact h4, fun p hp => ?_⟩
  rw [hc 13 i p (by decide) (by decide), hc 14 i p (by decide) (by decide), hc 15 i p (by decide) (by decide), hc 16 i p (by decide) (by decide), hc 17 i p (by decide) (by decide)]
  exact h5 p hp
theorem TxC.of {t : Nat} {C : Nat → List Int32} {w w' : Mem} (h : TxC t C w) (h6 : ∀ c, w' 6 0 c = w 6 0 c) (h7 : ∀ c, w' 7 0 c = w 7 0 c) : TxC t C w' :=
  ⟨h.1, fun q hq => ⟨by rw [h7]; exact (h.2 q hq).1, fun j hj => by rw [h6]; exact (h.2 q hq).2.1 j hj, (h.2 q hq).2.2⟩⟩
theorem TXq.of {q : Int32 → Int32} {t : Nat} {C : Nat → List Int32} {w w' : Mem} (h : TXq q t C w) (h6 : ∀ c, w' 6 0 c = w 6 0 c) (h7 : ∀ c, w' 7 0 c = w 7 0 c) : TXq q t C w' := ⟨h.1, h.2.1.of h6 h7, h.2.2⟩
theorem TXq.sc {q : Int32 → Int32} {t : Nat} {C : Nat → List Int32} {w w' : Mem} (h : TXq q t C w) (hc : ScC w w') : TXq q t C w' := h.of (fun c => hc 6 0 c (by decide) (by decide)) (fun c => hc 7 0 c (by decide) (by decide))
theorem kqs (q : Int32 → Int32) : kq0 q ≤ 3 ∧ kq1 q ≤ 15 ∧ kq2 q ≤ 7 ∧ kq3 q ≤ 7 ∧ kq4 q ≤ 3 ∧ kq5 q ≤ 63 := ⟨cut_le _ _, cut_le _ _, cut_le _ _, cut_le _ _, cut_le _ _, cut_le _ _⟩
theorem vLets_b (q : Int32 → Int32) {th n T : Nat} (h1 : th < 16) (h2 : n ≤ 16) (h3 : T < 1000) : -20 ≤ vLets q th n T ∧ vLets q th n T < 2000 := by
  unfold vLets
  have hk := (kqs q).1
  split
  · omega
  · have h5 : (th : Int) * (kq0 q : Int) ≤ 15 * 3 := Int.mul_le_mul (by omega) (by omega) (by omega) (by omega)
    have h6 : 0 ≤ (th : Int) * (kq0 q : Int) := Int.mul_nonneg (by omega) (by omega)
    omega
theorem vLucks_b (q : Int32 → Int32) (k : Nat) : -7 ≤ vLucks q k ∧ vLucks q k ≤ 15 := by
  have hk := kqs q
  unfold vLucks
  split
  · omega
  · split <;> omega
theorem vTakes_b (q : Int32 → Int32) (L : Nat) : 0 ≤ vTakes q L ∧ vTakes q L ≤ 4 := by
  have hk := kqs q
  unfold vTakes
  split
  · omega
  · split <;> omega
theorem hld_b {z a b : Int} (h : a ≤ b) : a ≤ hld z a b ∧ hld z a b ≤ b := by unfold hld; omega
theorem hld_in {z a b : Int} (h1 : a ≤ z) (h2 : z ≤ b) : hld z a b = z := by unfold hld; omega
/-- which of the names -/
def ixN (q : Int32 → Int32) (κ μ : Nat → Nat) (st : St) (p th : Nat) : Nat :=
  let n := bsN (sK st p) 16
  let f := (hld (vLets q th n (sT st)) (-99) 99 % (n : Int)).toNat
  if κ p = 1 then n - 1 - f else if κ p = 3 then (if n < 2 then 0 else max (n - 1 - f) 1) else if κ p = 5 then μ p % n else f
def letsN (q : Int32 → Int32) (κ μ : Nat → Nat) (st : St) (p th : Nat) : Int32 := if sK st p = 0 then -1 else pick (BL (sK st p)) (ixN q κ μ st p th)
def lucksN (q : Int32 → Int32) (κ μ : Nat → Nat) (st : St) (p th : Nat) : Int :=
  let v := vLucks q (bsN (sE st p) 16)
  let kn := sK st p / 2 ^ th % 2 = 1
  if κ p = 1 ∨ κ p = 3 then (if kn then v else v - μ p) else if κ p = 2 then v.tdiv 2 else if κ p = 4 then (if kn then (μ p : Int) else v.tdiv 2) else v
def takesN (q : Int32 → Int32) (κ μ : Nat → Nat) (st : St) (p : Nat) : Nat :=
  let v := (vTakes q (sL st p)).toNat
  if κ p = 2 then v + μ p else if κ p = 3 then (if sT st % 3 = 0 then v else 0) else if κ p = 4 then 2 * (v + μ p) else if κ p = 5 then 1 else v
theorem bsN_pos {n : Nat} (h : n < 65536) (h0 : 0 < n) : 1 ≤ bsN n 16 := by
  rw [← bl_len 16 n 0]
  exact List.length_pos_iff.mpr (bl_ne 16 n 0 h h0)
theorem bsN_0 : bsN 0 16 = 0 := by decide
theorem fmR_e : ∀ a, a < 199 → ∀ k, k < 17 → k ≠ 0 → fmR (nI a - 99) (nI k) = nI (((a : Int) - 99) % (k : Int)).toNat := by decide +kernel
theorem fmR_z {z : Int} {k : Nat} (h1 : -99 ≤ z) (h2 : z ≤ 99) (hk : k < 17) (h0 : k ≠ 0) : fmR (iI z) (nI k) = nI (z % (k : Int)).toNat := by
  obtain ⟨a, ha, e⟩ : ∃ a : Nat, a < 199 ∧ z = (a : Int) - 99 := ⟨(z + 99).toNat, by omega, by omega⟩
  have h := fmR_e a ha k hk h0
  rw [← e] at h
  rw [← h]
  congr 1
  subst e
  rw [iI, Int32.ofInt_sub]
  rfl
theorem wiF_99 {z : Int} (hz : -2 ^ 31 ≤ z ∧ z < 2 ^ 31) : wiF (iI z) (-99) 99 = iI (hld z (-99) 99) := by
  have h := wiF_i (a := -99) (b := 99) hz (by omega) (by omega) (by omega)
  rw [show iI (-99) = (-99 : Int32) by decide, show iI 99 = (99 : Int32) by decide] at h
  exact h
theorem wiF_16 {z : Int} (hz : -2 ^ 31 ≤ z ∧ z < 2 ^ 31) : wiF (iI z) 0 16 = iI (hld z 0 16) := by
  have h := wiF_i (a := 0) (b := 16) hz (by omega) (by omega) (by omega)
  rw [show iI 0 = (0 : Int32) by decide, show iI 16 = (16 : Int32) by decide] at h
  exact h
theorem says_cS {q : Int32 → Int32} {i N t p th part : Nat} {κ μ : Nat → Nat} {C : Nat → List Int32} {st : St} {w : Mem} (hO : OkS N κ μ st) (hC : CoL i N κ μ t st w) (hT : TXq q t C w) (hp : p < N) (hth : th < 16) (hpt : part < 3) : ∃ w', f_X0_says i (nI part) (nI p) (nI th) w = some (if part = 2 then iI (hld (vTakes q (sL st p)) 0 16) else iI (hld (if part = 0 then vLets q th (bsN (sK st p) 16) (sT st) else vLucks q (bsN (sE st p) 16)) (-99) 99), w') ∧ ScC w w' := by
  obtain ⟨o1, o2, o3, o4, o5⟩ := hO
  obtain ⟨b1, b2, b3, b4, b5⟩ := o5 p hp
  obtain ⟨c1, c2, c3, c4, c5⟩ := hC
  obtain ⟨d1, d2, d3, d4, d5⟩ := c5 p hp
  obtain ⟨w', s1, s2⟩ := says_c (i := i) (p := p) (th := nI th) hT.2.1 hT.1 hpt (by omega) c4
  refine ⟨w', ?_, s2⟩
  rw [s1, d3, d4, c3, d5, d2, bcF_bs b3, bcF_bs b4]
  have g := hT.2.2
  have hb1 := bsN_le (sK st p) 16
  have hb2 := bsN_le (sE st p) 16
  by_cases h2 : part = 2
  · rw [if_pos h2, if_pos h2]
    subst h2
    have g2 := (g 0 _ _ (sT st) (sL st p) (μ p) (by omega) hb1 hb2 (by omega) (by omega) b2).2.2
    rw [show (0 : Int32) = nI 0 from rfl, g2]
    have hv := vTakes_b q (sL st p)
    show some (wiF (iI (vTakes q (sL st p))) 0 16, w') = _
    rw [wiF_16 (by omega)]
  · rw [if_neg h2, if_neg h2]
    by_cases h0 : part = 0
    · subst h0
      rw [if_pos rfl]
      have g2 := (g th _ _ (sT st) (sL st p) (μ p) hth hb1 hb2 (by omega) (by omega) b2).1
      rw [g2]
      have hv := vLets_b q (th := th) (n := bsN (sK st p) 16) (T := sT st) hth hb1 (by omega)
      rw [wiF_99 (by omega)]
    · have h1 : part = 1 := by omega
      subst h1
      rw [if_neg (by omega)]
      have g2 := (g th _ _ (sT st) (sL st p) (μ p) hth hb1 hb2 (by omega) (by omega) b2).2.1
      rw [g2]
      have hv := vLucks_b q (bsN (sE st p) 16)
      rw [wiF_99 (by omega)]
theorem lets_cS {q : Int32 → Int32} {i N t p th : Nat} {κ μ : Nat → Nat} {C : Nat → List Int32} {st : St} {w : Mem} (hO : OkS N κ μ st) (hC : CoL i N κ μ t st w) (hT : TXq q t C w) (hp : p < N) (hth : th < 16) : ∃ w', f_X0_letsGo i (nI p) (nI th) w = some (letsN q κ μ st p th, w') ∧ ScC w w' := by
  obtain ⟨b1, b2, b3, b4, b5⟩ := hO.2.2.2.2 p hp
  have hN := hO.2.1
  have hC2 := hC
  obtain ⟨c1, c2, c3, c4, c5⟩ := hC
  obtain ⟨d1, d2, d3, d4, d5⟩ := c5 p hp
  have hk16 := bsN_le (sK st p) 16
  unfold letsN
  by_cases h0 : sK st p = 0
  · rw [if_pos h0]
    refine ⟨w, ?_, .rf⟩
    unfold f_X0_letsGo
    rw [atV_n w i (show p < lenK 15 by show p < 6; omega) (by decide), d3, h0, bcF_bs (by omega), bsN_0, if_pos (show nI 0 < 1 by decide)]
  · rw [if_neg h0]
    have hk1 := bsN_pos b3 (by omega)
    obtain ⟨w', s1, s2⟩ := says_cS (part := 0) hO hC2 hT hp hth (by omega)
    rw [if_neg (by omega), if_pos rfl] at s1
    have hv := hld_b (z := vLets q th (bsN (sK st p) 16) (sT st)) (a := -99) (b := 99) (by omega)
    have hl := lets_c (i := i) (p := p) (k := bsN (sK st p) 16) (th := nI th) (v := iI (hld (vLets q th (bsN (sK st p) 16) (sT st)) (-99) 99)) (by omega) (by rw [d3, bcF_bs b3]) hk1 hk16 s1 s2 (by
      constructor
      · rw [Int32.le_iff_toInt_le, iI_to (by omega) (by omega)]; exact hv.1
      · rw [Int32.le_iff_toInt_le, iI_to (by omega) (by omega)]; exact hv.2)
    refine ⟨w', ?_, s2⟩
    rw [hl, d1, d2, d3, fmR_z hv.1 hv.2 (by omega) (by omega), letV_eq]
    unfold ixN
    dsimp only
    generalize hn : bsN (sK st p) 16 = n at *
    have hf : (hld (vLets q th n (sT st)) (-99) 99 % (n : Int)).toNat < n := by
      have h5 := Int.emod_nonneg (hld (vLets q th n (sT st)) (-99) 99) (show (n : Int) ≠ 0 by omega)
      have h6 := Int.emod_lt_of_pos (hld (vLets q th n (sT st)) (-99) 99) (show (0 : Int) < n by omega)
      omega
    generalize (hld (vLets q th n (sT st)) (-99) 99 % (n : Int)).toNat = f at hf
    have e1 : nI n - 1 - nI f = nI (n - 1 - f) := by rw [show (1 : Int32) = nI 1 from rfl, nI_sub (by omega), nI_sub (by omega)]
    have kp : ∀ a : Nat, a < 10 → (nI (κ p) = nI a ↔ κ p = a) := fun a ha => nI_eq (by omega) (by omega)
    have k1 : nI (κ p) = 1 ↔ κ p = 1 := kp 1 (by omega)
    have k2 : nI (κ p) = 2 ↔ κ p = 2 := kp 2 (by omega)
    have k3 : nI (κ p) = 3 ↔ κ p = 3 := kp 3 (by omega)
    have k4 : nI (κ p) = 4 ↔ κ p = 4 := kp 4 (by omega)
    have k5 : nI (κ p) = 5 ↔ κ p = 5 := kp 5 (by omega)
    rw [e1]
    refine congrArg (fun z => some (z, w')) ?_
    by_cases g1 : κ p = 1
    · rw [if_pos (k1.mpr g1), if_pos g1]; exact nthF_bl (by omega) (by omega)
    · rw [if_neg (fun z => g1 (k1.mp z)), if_neg g1]
      by_cases g3 : κ p = 3
      · rw [if_neg (fun z => by have := k2.mp z; omega), if_pos (k3.mpr g3), if_pos g3]
        by_cases g : n < 2
        · rw [if_pos (show nI n < 2 from nI_lt (a := n) (b := 2) g (by omega)), if_pos g]
          exact nthF_bl (j := 0) (by omega) (by omega)
        · rw [if_neg (show ¬ nI n < 2 from nI_nlt (a := n) (b := 2) (by omega) (by omega)), if_neg g]
          have e2 : mxF (nI (n - 1 - f)) 1 = nI (max (n - 1 - f) 1) := by
            unfold mxF
            by_cases g9 : n - 1 - f < 1
            · rw [if_pos (show nI (n - 1 - f) < 1 from nI_lt (a := n - 1 - f) (b := 1) g9 (by omega)), Nat.max_eq_right (by omega)]; rfl
            · rw [if_neg (show ¬ nI (n - 1 - f) < 1 from nI_nlt (a := n - 1 - f) (b := 1) (by omega) (by omega)), Nat.max_eq_left (by omega)]
          rw [e2]
          exact nthF_bl (by omega) (by omega)
      · rw [if_neg g3]
        by_cases g5 : κ p = 5
        · rw [if_neg (fun z => by have := k2.mp z; omega), if_neg (fun z => g3 (k3.mp z)), if_neg (fun z => by have := k4.mp z; omega), if_pos (k5.mpr g5), if_pos g5]
          rw [show rmI (nI (μ p)) (nI n) = nI (μ p % n) from pk_rem (by omega) (by omega) (by omega)]
          have := Nat.mod_lt (μ p) (show 0 < n by omega)
          exact nthF_bl (by omega) (by omega)
        · rw [if_neg g5]
          have e3 : nthF (nI (sK st p)) (nI f) = pick (BL (sK st p)) f := nthF_bl (by omega) (by omega)
          rw [if_neg (fun z => g3 (k3.mp z)), if_neg (fun z => g5 (k5.mp z))]
          repeat' split
          all_goals exact e3
theorem div2 : ∀ a : Nat, a < 199 → (iI ((a : Int) - 99)) / 2 = iI (((a : Int) - 99).tdiv 2) := by decide +kernel
theorem div2_z {z : Int} (h1 : -99 ≤ z) (h2 : z ≤ 99) : iI z / 2 = iI (z.tdiv 2) := by
  have h := div2 (z + 99).toNat (by omega)
  rw [show (((z + 99).toNat : Int)) - 99 = z by omega] at h
  exact h
theorem lucks_cS {q : Int32 → Int32} {i N t p th : Nat} {κ μ : Nat → Nat} {C : Nat → List Int32} {st : St} {w : Mem} (hO : OkS N κ μ st) (hC : CoL i N κ μ t st w) (hT : TXq q t C w) (hp : p < N) (hth : th < 16) : ∃ w', f_X0_lucksBy i (nI p) (nI th) w = some (iI (lucksN q κ μ st p th), w') ∧ ScC w w' := by
  obtain ⟨b1, b2, b3, b4, b5⟩ := hO.2.2.2.2 p hp
  have hN := hO.2.1
  have hC2 := hC
  obtain ⟨c1, c2, c3, c4, c5⟩ := hC
  obtain ⟨d1, d2, d3, d4, d5⟩ := c5 p hp
  obtain ⟨w', s1, s2⟩ := says_cS (part := 1) hO hC2 hT hp hth (by omega)
  rw [if_neg (by omega), if_neg (by omega)] at s1
  have hv := vLucks_b q (bsN (sE st p) 16)
  rw [hld_in (by omega) (by omega)] at s1
  have hl := lucks_c (i := i) (p := p) (th := th) (by omega) hth s1 s2
  refine ⟨w', ?_, s2⟩
  rw [hl, d1, d2, d3, bit_N (by omega) (by omega)]
  refine congrArg (fun z => some (z, w')) ?_
  unfold luckV lucksN
  dsimp only
  generalize vLucks q (bsN (sE st p) 16) = v at *
  have kp : ∀ a : Nat, a < 10 → (nI (κ p) = nI a ↔ κ p = a) := fun a ha => nI_eq (by omega) (by omega)
  have k1 : nI (κ p) = 1 ↔ κ p = 1 := kp 1 (by omega)
  have k2 : nI (κ p) = 2 ↔ κ p = 2 := kp 2 (by omega)
  have k3 : nI (κ p) = 3 ↔ κ p = 3 := kp 3 (by omega)
  have k4 : nI (κ p) = 4 ↔ κ p = 4 := kp 4 (by omega)
  have hb : b2i (nI (sK st p / 2 ^ th % 2) = 1) = 0 ↔ ¬ sK st p / 2 ^ th % 2 = 1 := by
    rw [b2i_0]
    have hm := Nat.mod_lt (sK st p / 2 ^ th) (show 0 < 2 by omega)
    exact not_congr (nI_eq (a := sK st p / 2 ^ th % 2) (b := 1) (by omega) (by omega))
  have e1 : iI v - nI (μ p) = iI (v - (μ p : Int)) := by rw [iI_n, iI, iI, iI, ← Int32.ofInt_sub]
  have e2 := div2_z (z := v) (by omega) (by omega)
  have e3 : nI (μ p) = iI (μ p : Int) := iI_n _
  by_cases g1 : κ p = 1
  · rw [if_pos (k1.mpr g1), if_pos (Or.inl g1)]
    by_cases gb : sK st p / 2 ^ th % 2 = 1
    · rw [if_neg (fun z => (hb.mp z) gb), if_pos gb]
    · rw [if_pos (hb.mpr gb), if_neg gb, e1]
  · rw [if_neg (fun z => g1 (k1.mp z))]
    by_cases g2 : κ p = 2
    · rw [if_pos (k2.mpr g2), if_neg (by omega), if_pos g2, e2]
    · rw [if_neg (fun z => g2 (k2.mp z))]
      by_cases g3 : κ p = 3
      · rw [if_pos (k3.mpr g3), if_pos (Or.inr g3)]
        by_cases gb : sK st p / 2 ^ th % 2 = 1
        · rw [if_neg (fun z => (hb.mp z) gb), if_pos gb]
        · rw [if_pos (hb.mpr gb), if_neg gb, e1]
      · rw [if_neg (fun z => g3 (k3.mp z)), if_neg (show ¬ (κ p = 1 ∨ κ p = 3) by omega), if_neg g2]
        by_cases g4 : κ p = 4
        · rw [if_pos (k4.mpr g4), if_pos g4]
          by_cases gb : sK st p / 2 ^ th % 2 = 1
          · rw [if_neg (fun z => (hb.mp z) gb), if_pos gb, e3]
          · rw [if_pos (hb.mpr gb), if_neg gb, e2]
        · rw [if_neg (fun z => g4 (k4.mp z)), if_neg g4]
theorem takes_cS {q : Int32 → Int32} {i N t p : Nat} {κ μ : Nat → Nat} {C : Nat → List Int32} {st : St} {w : Mem} (hO : OkS N κ μ st) (hC : CoL i N κ μ t st w) (hT : TXq q t C w) (hp : p < N) : ∃ w', f_X0_takesOf i (nI p) w = some (nI (takesN q κ μ st p), w') ∧ ScC w w' := by
  obtain ⟨b1, b2, b3, b4, b5⟩ := hO.2.2.2.2 p hp
  have hN := hO.2.1
  have hTT := hO.2.2.2.1
  have hC2 := hC
  obtain ⟨c1, c2, c3, c4, c5⟩ := hC
  obtain ⟨d1, d2, d3, d4, d5⟩ := c5 p hp
  obtain ⟨w', s1, s2⟩ := says_cS (part := 2) (th := 0) hO hC2 hT hp (by omega) (by omega)
  rw [if_pos rfl] at s1
  have hv := vTakes_b q (sL st p)
  rw [hld_in (by omega) (by omega)] at s1
  have hl := takes_c (i := i) (p := p) (v := iI (vTakes q (sL st p))) (by omega) s1 s2
  refine ⟨w', ?_, s2⟩
  rw [hl, d1, d2, c3]
  refine congrArg (fun z => some (z, w')) ?_
  unfold takeV takesN
  dsimp only
  obtain ⟨v, hv2⟩ : ∃ v : Nat, vTakes q (sL st p) = (v : Int) := ⟨(vTakes q (sL st p)).toNat, by omega⟩
  rw [hv2, ← iI_n, Int.toNat_natCast]
  have kp : ∀ a : Nat, a < 10 → (nI (κ p) = nI a ↔ κ p = a) := fun a ha => nI_eq (by omega) (by omega)
  have k2 : nI (κ p) = 2 ↔ κ p = 2 := kp 2 (by omega)
  have k3 : nI (κ p) = 3 ↔ κ p = 3 := kp 3 (by omega)
  have k4 : nI (κ p) = 4 ↔ κ p = 4 := kp 4 (by omega)
  have k5 : nI (κ p) = 5 ↔ κ p = 5 := kp 5 (by omega)
  have er : rmI (nI (sT st)) 3 = nI (sT st % 3) := pk_rem (a := sT st) (d := 3) (by omega) (by omega) (by omega)
  have e0 : nI (sT st % 3) = 0 ↔ sT st % 3 = 0 := nI_eq (a := sT st % 3) (b := 0) (by omega) (by omega)
  rw [er, nI_add, show (2 : Int32) * nI (v + μ p) = nI (2 * (v + μ p)) by rw [show (2 : Int32) = nI 2 from rfl, nI_mul]]
  by_cases g2 : κ p = 2
  · rw [if_pos (k2.mpr g2), if_pos g2]
  · rw [if_neg (fun z => g2 (k2.mp z)), if_neg g2]
    by_cases g3 : κ p = 3
    · rw [if_pos (k3.mpr g3), if_pos g3]
      by_cases g : sT st % 3 = 0
      · rw [if_pos (e0.mpr g), if_pos g]
      · rw [if_neg (fun z => g (e0.mp z)), if_neg g]; rfl
    · rw [if_neg (fun z => g3 (k3.mp z)), if_neg g3]
      by_cases g4 : κ p = 4
      · rw [if_pos (k4.mpr g4), if_pos g4]
      · rw [if_neg (fun z => g4 (k4.mp z)), if_neg g4]
        by_cases g5 : κ p = 5
        · rw [if_pos (k5.mpr g5), if_pos g5]; rfl
        · rw [if_neg (fun z => g5 (k5.mp z)), if_neg g5]
