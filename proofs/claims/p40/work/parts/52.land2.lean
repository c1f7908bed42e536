/-! a landing: the class; the law -/
theorem if1 {α : Type} (a b : α) : (if (1 : Int32) = 0 then a else b) = b := if_neg (by decide)
theorem rng15 {th : Nat} (h : th < 16) : rng (nI th) 0 15 = 1 := b2i_t ⟨nI_pos' (by omega), nI_le (a := th) (b := 15) (by omega) (by omega)⟩
theorem lL_e {q : Int32 → Int32} {N p : Nat} {κ μ : Nat → Nat} {st : St} (th : Nat) (hO : OkS N κ μ st) (hp : p < N) : iI (hld ((sL st p : Int) + lucksN q κ μ st p th) 0 99) = nI (lL q κ μ st p th) := by
  have := hld_b (z := (sL st p : Int) + lucksN q κ μ st p th) (a := 0) (b := 99) (by omega)
  rw [iI_n]
  unfold lL
  congr 1
  omega
theorem land_c {q : Int32 → Int32} {i N t p th : Nat} {κ μ : Nat → Nat} {C : Nat → List Int32} {st : St} {w : Mem} (hO : OkS N κ μ st) (hC : CoL i N κ μ t st w) (hT : TXq q t C w) (hp : p < N) (hth : th < 16) : ∃ w', f_X0_landing i (nI p) (nI th) w = some (letsN q κ μ st p th, w') ∧ CoL i N κ μ t (landS q κ μ st p th) w' ∧ KpC w w' := by
  have hN := hO.2.1
  obtain ⟨b1, b2, b3, b4, b5⟩ := hO.2.2.2.2 p hp
  obtain ⟨w1, l1, l2⟩ := lets_cS hO hC hT hp hth
  have hC1 := hC.sc l2
  obtain ⟨w2, m1, m2⟩ := lucks_cS hO hC1 (hT.sc l2) hp hth
  have hC2 := hC1.sc m2
  have hlb := lucks_b q th hO hp
  have e17 : ∀ w : Mem, atV w 17 i (nI p) = w 17 i p := fun w => atV_n w i (show p < lenK 17 by show p < 6; omega) (by decide)
  have e16 : ∀ w : Mem, atV w 16 i (nI p) = w 16 i p := fun w => atV_n w i (show p < lenK 16 by show p < 6; omega) (by decide)
  have e15 : ∀ w : Mem, atV w 15 i (nI p) = w 15 i p := fun w => atV_n w i (show p < lenK 15 by show p < 6; omega) (by decide)
  have s17 : ∀ (w : Mem) v, setV w 17 i (nI p) v = up w 17 i p v := fun w v => setV_n w i v (show p < lenK 17 by show p < 6; omega) (by decide)
  have s16 : ∀ (w : Mem) v, setV w 16 i (nI p) v = up w 16 i p v := fun w v => setV_n w i v (show p < lenK 16 by show p < 6; omega) (by decide)
  have s15 : ∀ (w : Mem) v, setV w 15 i (nI p) v = up w 15 i p v := fun w v => setV_n w i v (show p < lenK 15 by show p < 6; omega) (by decide)
  have eL : wiF (w1 17 i p + iI (lucksN q κ μ st p th)) 0 99 = nI (lL q κ μ st p th) := by
    rw [(hC1.2.2.2.2 p hp).2.2.2.2, iI_n, iI, iI, ← Int32.ofInt_add, ← lL_e th hO hp]
    have h := wiF_i (z := (sL st p : Int) + lucksN q κ μ st p th) (a := 0) (b := 99) (by omega) (by omega) (by omega) (by omega)
    rw [show iI 0 = (0 : Int32) by decide, show iI 99 = (99 : Int32) by decide] at h
    exact h
  have eE : ∀ w9 : Mem, w9 16 i p = nI (sE st p) → w9 16 i p ||| shlI 1 (nI th) = nI (sE st p ||| 2 ^ th) := fun w9 h9 => by rw [h9, nI_shl (by omega), nI_or]
  unfold f_X0_landing
  rw [hC.1, has_1 (by omega) hp, if1, rng15 hth, if1, l1, Option.bind_some]
  dsimp only
  rw [m1, Option.bind_some]
  dsimp only
  rw [e17, eL, s17, e16, s16, eE _ (by rw [up_k (by decide)]; exact (hC2.2.2.2.2 p hp).2.2.2.1)]
  have hC3 := (hC2.upL (p := p) (a := lL q κ μ st p th)).upE (p := p) (a := sE st p ||| 2 ^ th)
  have hk : KpC w (up (up w2 17 i p (nI (lL q κ μ st p th))) 16 i p (nI (sE st p ||| 2 ^ th))) := ((l2.kp.tr m2.kp).up (by omega)).up (by omega)
  unfold landS
  cases h : lname q κ μ st p th with
  | none =>
    rw [lname_none h, if_pos (by decide)]
    exact ⟨_, rfl, hC3, hk⟩
  | some b =>
    obtain ⟨h1, h2⟩ := lname_some h
    rw [h1, if_neg (nI_pos (by omega)), e15, (hC3.2.2.2.2 p hp).2.2.1, nI_shl (by omega), andn_I (show sK st p < 65536 from b3), s15]
    have hC4 := hC3.upK (p := p) (a := andn (sK st p) (2 ^ b))
    rw [hC4.2.1, nI_or]
    exact ⟨_, rfl, hC4.upS, (hk.up (by omega)).up (by omega)⟩
theorem X4_land_c {q : Int32 → Int32} {N t p th : Nat} {κ μ : Nat → Nat} {C : Nat → List Int32} {st : St} {w : Mem} (hO : OkS N κ μ st) (hC : CoL 0 N κ μ t st w) (hT : TXq q t C w) (hp : p < N) (hth : th < 16) : ∃ w', f_X4_land (nI p) (nI th) w = some (letsN q κ μ st p th, w') ∧ CoL 0 N κ μ t (landS q κ μ st p th) w' ∧ KpC w w' := by
  have hN := hO.2.1
  obtain ⟨w1, l1, l2, l3⟩ := land_c hO hC hT hp hth
  refine ⟨w1, ?_, l2, l3⟩
  unfold f_X4_land
  rw [hC.1, has_1 (by omega) hp, if1, rng15 hth, if1, l1]
  rfl
theorem stLN {n : Nat} (h : n < 2 ^ 31) : Int32.toInt64 (Int64.toInt32 (lN n)) = lN n := by rw [lN_i, nI_l h]
theorem land_L {q : Int32 → Int32} {N p th : Nat} {κ μ : Nat → Nat} {st : St} {w : Mem} (hO : OkS N κ μ st) (hH : HR N κ μ st w) (hp : p < N) (hth : th < 16) : ∃ w', f_L_land q (nI p) (nI th) w = some (letsN q κ μ st p th, w') ∧ HR N κ μ (landS q κ μ st p th) w' ∧ OnlyK 20 w w' := by
  have hN := hO.2.1
  obtain ⟨b1, b2, b3, b4, b5⟩ := hO.2.2.2.2 p hp
  obtain ⟨r1, r2, r3, r4, r5⟩ := hH.2.2 p hp
  have hlb := lucks_b q th hO hp
  have hlL := lL_le q κ μ st p th
  have o1 := or16 b4 (p16 hth)
  have eh : f_L_held ((w 20 0 (3 * p + 2)).toInt64 + iL (lucksN q κ μ st p th)) 0 99 w = some (nI (lL q κ μ st p th), w) := by
    rw [r3, nI_l (by omega), iL_n, iL_add, ← lL_e th hO hp]
    have h := held_eq (z := (sL st p : Int) + lucksN q κ μ st p th) (a := 0) (b := 99) (by omega) (by omega) (by omega) (by omega) w
    rw [show iI 0 = (0 : Int32) by decide, show iI 99 = (99 : Int32) by decide] at h
    exact h
  unfold f_L_land
  rw [lets_L hO hH hp hth, Option.bind_some, t3, t31, t32, tnn (by omega), tnn (by omega), tnn (by omega), t20]
  dsimp only
  rw [if_pos (i60 (by omega)), lucks_L hO hH hp hth, Option.bind_some]
  dsimp only
  rw [eh, Option.bind_some]
  dsimp only
  rw [nI_l (n := lL q κ μ st p th) (by omega), lN_i, if_pos ⟨i60 (by omega), nI_l (by omega)⟩, if_pos (i60 (by omega))]
  have hH2 := hH.upL (p := p) (a := lL q κ μ st p th) hp hN
  rw [(hH2.2.2 p hp).2.1, nI_l (n := sE _ p) (show sE st p < 2 ^ 31 by omega), lN_shl (by omega), lN_or]
  have hH3 := hH2.upE (p := p) (a := sE st p ||| 2 ^ th) hp hN
  have ho : OnlyK 20 w (up (up w 20 0 (3 * p + 2) (nI (lL q κ μ st p th))) 20 0 (3 * p + 1) (nI (sE st p ||| 2 ^ th))) := (OnlyK.rf.up).up
  have e3 : (lN (sE st p ||| 2 ^ th)).toInt32 = nI (sE st p ||| 2 ^ th) := lN_i _
  rw [if_pos ⟨i60 (by omega), stLN (by show sE st p ||| 2 ^ th < 2 ^ 31; omega)⟩]
  show ∃ w', (if letsN q κ μ st p th < 0 then some (letsN q κ μ st p th, up (up w 20 0 (3 * p + 2) (nI (lL q κ μ st p th))) 20 0 (3 * p + 1) (lN (sE st p ||| 2 ^ th)).toInt32) else _) = _ ∧ _
  rw [e3]
  unfold landS
  cases h : lname q κ μ st p th with
  | none =>
    rw [lname_none h, if_pos (by decide)]
    exact ⟨_, rfl, hH3, ho⟩
  | some b =>
    obtain ⟨h1, h2⟩ := lname_some h
    rw [h1, if_neg (nI_pos (by omega)), if_pos (i60 (by omega))]
    have ha := andn_le (sK st p) (2 ^ b)
    have hS := or16 hO.2.2.1 (p16 h2)
    rw [(hH3.2.2 p hp).1, nI_l (n := sK _ p) (show sK st p < 2 ^ 31 by omega), lN_shl (by omega), andn_L (show sK st p < 65536 from b3), if_pos ⟨i60 (by omega), stLN (by show andn (sK st p) (2 ^ b) < 2 ^ 31; omega)⟩, if_pos i20, lN_i]
    have hH4 := hH3.upK (p := p) (a := andn (sK st p) (2 ^ b)) hp hN
    rw [show (up (up (up w 20 0 (3 * p + 2) (nI (lL q κ μ st p th))) 20 0 (3 * p + 1) (nI (sE st p ||| 2 ^ th))) 20 0 (3 * p) (nI (andn (sK st p) (2 ^ b)))) 20 0 20 = nI (sS st) from hH4.1, nI_l (n := sS st) (by have := hO.2.2.1; omega), lN_or, if_pos ⟨i20, stLN (by omega)⟩, lN_i]
    exact ⟨_, rfl, hH4.upS hN, (ho.up).up⟩
