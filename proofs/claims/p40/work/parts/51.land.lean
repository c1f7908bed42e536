/-! a landing: the class and the law come to the same coast -/
def andn (K m : Nat) : Nat := K &&& (m ^^^ 65535)
theorem andn_w {K m w : Nat} (hK : K < 65536) (hw : 16 ≤ w) : K &&& (m ^^^ (2 ^ w - 1)) = andn K m := by
  unfold andn
  refine Nat.eq_of_testBit_eq (fun i => ?_)
  rw [show (65535 : Nat) = 2 ^ 16 - 1 from rfl, Nat.testBit_and, Nat.testBit_and, Nat.testBit_xor, Nat.testBit_xor, Nat.testBit_two_pow_sub_one, Nat.testBit_two_pow_sub_one]
  by_cases h : i < 16
  · rw [decide_eq_true h, decide_eq_true (show i < w by omega)]
  · have h2 : K.testBit i = false := Nat.testBit_lt_two_pow (Nat.lt_of_lt_of_le hK (Nat.pow_le_pow_right (n := 2) (by omega) (show 16 ≤ i by omega)))
    rw [h2, Bool.false_and, Bool.false_and]
theorem andn_le (K m : Nat) : andn K m ≤ K := Nat.and_le_left
theorem andn_I {K m : Nat} (hK : K < 65536) : nI K &&& (nI m ^^^ (-1)) = nI (andn K m) := by
  rw [show (-1 : Int32) = nI (2 ^ 32 - 1) from rfl, nI_xor, nI_and, andn_w hK (by omega)]
theorem andn_L {K m : Nat} (hK : K < 65536) : lN K &&& (lN m ^^^ (-1)) = lN (andn K m) := by
  rw [show (-1 : Int64) = lN (2 ^ 64 - 1) by decide, lN_xor, lN_and, andn_w hK (by omega)]
def pfN (f : Nat → Nat) (p v : Nat) : Nat → Nat := fun x => if x = p then v else f x
theorem pfN_s (f : Nat → Nat) (p v : Nat) : pfN f p v p = v := if_pos rfl
theorem pfN_n {f : Nat → Nat} {p v x : Nat} (h : x ≠ p) : pfN f p v x = f x := if_neg h
def lname (q : Int32 → Int32) (κ μ : Nat → Nat) (st : St) (p th : Nat) : Option Nat := if sK st p = 0 then none else (BL (sK st p))[ixN q κ μ st p th]?
theorem lname_none {q : Int32 → Int32} {κ μ : Nat → Nat} {st : St} {p th : Nat} (h : lname q κ μ st p th = none) : letsN q κ μ st p th = -1 := by
  unfold lname at h
  unfold letsN
  by_cases h0 : sK st p = 0
  · rw [if_pos h0]
  · rw [if_neg h0] at h ⊢
    unfold pick
    rw [h]
theorem lname_some {q : Int32 → Int32} {κ μ : Nat → Nat} {st : St} {p th b : Nat} (h : lname q κ μ st p th = some b) : letsN q κ μ st p th = nI b ∧ b < 16 := by
  unfold lname at h
  unfold letsN
  by_cases h0 : sK st p = 0
  · rw [if_pos h0] at h; cases h
  · rw [if_neg h0] at h ⊢
    refine ⟨by unfold pick; rw [h], ?_⟩
    have := bl_in 16 _ 0 b (List.mem_of_getElem? h)
    omega
def lL (q : Int32 → Int32) (κ μ : Nat → Nat) (st : St) (p th : Nat) : Nat := (hld ((sL st p : Int) + lucksN q κ μ st p th) 0 99).toNat
def landS (q : Int32 → Int32) (κ μ : Nat → Nat) (st : St) (p th : Nat) : St := match lname q κ μ st p th with
  | none => (sK st, pfN (sE st) p (sE st p ||| 2 ^ th), pfN (sL st) p (lL q κ μ st p th), sS st, sT st)
  | some b => (pfN (sK st) p (andn (sK st p) (2 ^ b)), pfN (sE st) p (sE st p ||| 2 ^ th), pfN (sL st) p (lL q κ μ st p th), sS st ||| 2 ^ b, sT st)
theorem p16 {b : Nat} (h : b < 16) : 2 ^ b < 65536 := Nat.lt_of_le_of_lt (Nat.pow_le_pow_right (n := 2) (by omega) (show b ≤ 15 by omega)) (by omega)
theorem or16 {a b : Nat} (ha : a < 65536) (hb : b < 65536) : a ||| b < 65536 := Nat.or_lt_two_pow (n := 16) ha hb
theorem lL_le (q : Int32 → Int32) (κ μ : Nat → Nat) (st : St) (p th : Nat) : lL q κ μ st p th ≤ 99 := by
  have := hld_b (z := (sL st p : Int) + lucksN q κ μ st p th) (a := 0) (b := 99) (by omega)
  unfold lL; omega
theorem landS_ok {q : Int32 → Int32} {N p th : Nat} {κ μ : Nat → Nat} {st : St} (hO : OkS N κ μ st) (hp : p < N) (hth : th < 16) : OkS N κ μ (landS q κ μ st p th) := by
  obtain ⟨o1, o2, o3, o4, o5⟩ := hO
  have hE : ∀ x, x < N → pfN (sE st) p (sE st p ||| 2 ^ th) x < 65536 := by
    intro x hx
    by_cases h : x = p
    · subst h; rw [pfN_s]; exact or16 (o5 x hx).2.2.2.1 (p16 hth)
    · rw [pfN_n h]; exact (o5 x hx).2.2.2.1
  have hL : ∀ x, x < N → pfN (sL st) p (lL q κ μ st p th) x ≤ 99 := by
    intro x hx
    by_cases h : x = p
    · subst h; rw [pfN_s]; exact lL_le ..
    · rw [pfN_n h]; exact (o5 x hx).2.2.2.2
  unfold landS
  cases h : lname q κ μ st p th with
  | none => exact ⟨o1, o2, o3, o4, fun x hx => ⟨(o5 x hx).1, (o5 x hx).2.1, (o5 x hx).2.2.1, hE x hx, hL x hx⟩⟩
  | some b =>
    have hb := (lname_some h).2
    refine ⟨o1, o2, or16 o3 (p16 hb), o4, fun x hx => ⟨(o5 x hx).1, (o5 x hx).2.1, ?_, hE x hx, hL x hx⟩⟩
    show pfN (sK st) p (andn (sK st p) (2 ^ b)) x < 65536
    by_cases h : x = p
    · subst h; rw [pfN_s]; have := andn_le (sK st x) (2 ^ b); have := (o5 x hx).2.2.1; omega
    · rw [pfN_n h]; exact (o5 x hx).2.2.1
theorem landS_T (q : Int32 → Int32) (κ μ : Nat → Nat) (st : St) (p th : Nat) : sT (landS q κ μ st p th) = sT st := by
  unfold landS
  cases lname q κ μ st p th <;> rfl
/-- one cell is put: the class -/
theorem CoL.upL {i N t p a : Nat} {κ μ : Nat → Nat} {st : St} {w : Mem} (h : CoL i N κ μ t st w) : CoL i N κ μ t (sK st, sE st, pfN (sL st) p a, sS st, sT st) (up w 17 i p (nI a)) := by
  obtain ⟨h1, h2, h3, h4, h5⟩ := h
  refine ⟨by rw [up_k (by decide)]; exact h1, by rw [up_k (by decide)]; exact h2, by rw [up_k (by decide)]; exact h3, by rw [up_k (by decide)]; exact h4, fun x hx => ?_⟩
  obtain ⟨d1, d2, d3, d4, d5⟩ := h5 x hx
  refine ⟨by rw [up_k (by decide)]; exact d1, by rw [up_k (by decide)]; exact d2, by rw [up_k (by decide)]; exact d3, by rw [up_k (by decide)]; exact d4, ?_⟩
  show _ = nI (pfN (sL st) p a x)
  by_cases g : x = p
  · subst g; rw [up_s, pfN_s]
  · rw [up_j g, pfN_n g]; exact d5
theorem CoL.upE {i N t p a : Nat} {κ μ : Nat → Nat} {st : St} {w : Mem} (h : CoL i N κ μ t st w) : CoL i N κ μ t (sK st, pfN (sE st) p a, sL st, sS st, sT st) (up w 16 i p (nI a)) := by
  obtain ⟨h1, h2, h3, h4, h5⟩ := h
  refine ⟨by rw [up_k (by decide)]; exact h1, by rw [up_k (by decide)]; exact h2, by rw [up_k (by decide)]; exact h3, by rw [up_k (by decide)]; exact h4, fun x hx => ?_⟩
  obtain ⟨d1, d2, d3, d4, d5⟩ := h5 x hx
  refine ⟨by rw [up_k (by decide)]; exact d1, by rw [up_k (by decide)]; exact d2, by rw [up_k (by decide)]; exact d3, ?_, by rw [up_k (by decide)]; exact d5⟩
  show _ = nI (pfN (sE st) p a x)
  by_cases g : x = p
  · subst g; rw [up_s, pfN_s]
  · rw [up_j g, pfN_n g]; exact d4
theorem CoL.upK {i N t p a : Nat} {κ μ : Nat → Nat} {st : St} {w : Mem} (h : CoL i N κ μ t st w) : CoL i N κ μ t (pfN (sK st) p a, sE st, sL st, sS st, sT st) (up w 15 i p (nI a)) := by
  obtain ⟨h1, h2, h3, h4, h5⟩ := h
  refine ⟨by rw [up_k (by decide)]; exact h1, by rw [up_k (by decide)]; exact h2, by rw [up_k (by decide)]; exact h3, by rw [up_k (by decide)]; exact h4, fun x hx => ?_⟩
  obtain ⟨d1, d2, d3, d4, d5⟩ := h5 x hx
  refine ⟨by rw [up_k (by decide)]; exact d1, by rw [up_k (by decide)]; exact d2, ?_, by rw [up_k (by decide)]; exact d4, by rw [up_k (by decide)]; exact d5⟩
  show _ = nI (pfN (sK st) p a x)
  by_cases g : x = p
  · subst g; rw [up_s, pfN_s]
  · rw [up_j g, pfN_n g]; exact d3
theorem CoL.upS {i N t a : Nat} {κ μ : Nat → Nat} {st : St} {w : Mem} (h : CoL i N κ μ t st w) : CoL i N κ μ t (sK st, sE st, sL st, a, sT st) (up w 0 i 3 (nI a)) := by
  obtain ⟨h1, h2, h3, h4, h5⟩ := h
  refine ⟨by rw [up_j (by decide)]; exact h1, up_s .., by rw [up_j (by decide)]; exact h3, by rw [up_j (by decide)]; exact h4, fun x hx => ?_⟩
  rw [up_k (by decide), up_k (by decide), up_k (by decide), up_k (by decide), up_k (by decide)]
  exact h5 x hx
theorem CoL.upT {i N t a : Nat} {κ μ : Nat → Nat} {st : St} {w : Mem} (h : CoL i N κ μ t st w) : CoL i N κ μ t (sK st, sE st, sL st, sS st, a) (up w 0 i 4 (nI a)) := by
  obtain ⟨h1, h2, h3, h4, h5⟩ := h
  refine ⟨by rw [up_j (by decide)]; exact h1, by rw [up_j (by decide)]; exact h2, up_s .., by rw [up_j (by decide)]; exact h4, fun x hx => ?_⟩
  rw [up_k (by decide), up_k (by decide), up_k (by decide), up_k (by decide), up_k (by decide)]
  exact h5 x hx
/-- one cell is put: the law's row -/
theorem HR.upK {N p a : Nat} {κ μ : Nat → Nat} {st : St} {w : Mem} (h : HR N κ μ st w) (hp : p < N) (hN : N ≤ 4) : HR N κ μ (pfN (sK st) p a, sE st, sL st, sS st, sT st) (up w 20 0 (3 * p) (nI a)) := by
  obtain ⟨h1, h2, h3⟩ := h
  refine ⟨by rw [up_j (by omega)]; exact h1, by rw [up_j (by omega)]; exact h2, fun x hx => ?_⟩
  obtain ⟨d1, d2, d3, d4, d5⟩ := h3 x hx
  refine ⟨?_, by rw [up_j (by omega)]; exact d2, by rw [up_j (by omega)]; exact d3, by rw [up_j (by omega)]; exact d4, by rw [up_j (by omega)]; exact d5⟩
  show _ = nI (pfN (sK st) p a x)
  by_cases g : x = p
  · subst g; rw [up_s, pfN_s]
  · rw [up_j (by omega), pfN_n g]; exact d1
theorem HR.upE {N p a : Nat} {κ μ : Nat → Nat} {st : St} {w : Mem} (h : HR N κ μ st w) (hp : p < N) (hN : N ≤ 4) : HR N κ μ (sK st, pfN (sE st) p a, sL st, sS st, sT st) (up w 20 0 (3 * p + 1) (nI a)) := by
  obtain ⟨h1, h2, h3⟩ := h
  refine ⟨by rw [up_j (by omega)]; exact h1, by rw [up_j (by omega)]; exact h2, fun x hx => ?_⟩
  obtain ⟨d1, d2, d3, d4, d5⟩ := h3 x hx
  refine ⟨by rw [up_j (by omega)]; exact d1, ?_, by rw [up_j (by omega)]; exact d3, by rw [up_j (by omega)]; exact d4, by rw [up_j (by omega)]; exact d5⟩
  show _ = nI (pfN (sE st) p a x)
  by_cases g : x = p
  · subst g; rw [up_s, pfN_s]
  · rw [up_j (by omega), pfN_n g]; exact d2
theorem HR.upL {N p a : Nat} {κ μ : Nat → Nat} {st : St} {w : Mem} (h : HR N κ μ st w) (hp : p < N) (hN : N ≤ 4) : HR N κ μ (sK st, sE st, pfN (sL st) p a, sS st, sT st) (up w 20 0 (3 * p + 2) (nI a)) := by
  obtain ⟨h1, h2, h3⟩ := h
  refine ⟨by rw [up_j (by omega)]; exact h1, by rw [up_j (by omega)]; exact h2, fun x hx => ?_⟩
  obtain ⟨d1, d2, d3, d4, d5⟩ := h3 x hx
  refine ⟨by rw [up_j (by omega)]; exact d1, by rw [up_j (by omega)]; exact d2, ?_, by rw [up_j (by omega)]; exact d4, by rw [up_j (by omega)]; exact d5⟩
  show _ = nI (pfN (sL st) p a x)
  by_cases g : x = p
  · subst g; rw [up_s, pfN_s]
  · rw [up_j (by omega), pfN_n g]; exact d3
theorem HR.upS {N a : Nat} {κ μ : Nat → Nat} {st : St} {w : Mem} (h : HR N κ μ st w) (hN : N ≤ 4) : HR N κ μ (sK st, sE st, sL st, a, sT st) (up w 20 0 20 (nI a)) := by
  obtain ⟨h1, h2, h3⟩ := h
  refine ⟨up_s .., by rw [up_j (by omega)]; exact h2, fun x hx => ?_⟩
  rw [up_j (by omega), up_j (by omega), up_j (by omega), up_j (by omega), up_j (by omega)]
  exact h3 x hx
theorem HR.upT {N a : Nat} {κ μ : Nat → Nat} {st : St} {w : Mem} (h : HR N κ μ st w) (hN : N ≤ 4) : HR N κ μ (sK st, sE st, sL st, sS st, a) (up w 20 0 21 (nI a)) := by
  obtain ⟨h1, h2, h3⟩ := h
  refine ⟨by rw [up_j (by omega)]; exact h1, up_s .., fun x hx => ?_⟩
  rw [up_j (by omega), up_j (by omega), up_j (by omega), up_j (by omega), up_j (by omega)]
  exact h3 x hx
/-- what a step of the class keeps -/
def KpC (w w' : Mem) : Prop := ∀ a b c, a = 6 ∨ a = 7 ∨ a = 20 → w' a b c = w a b c
theorem KpC.rf {w : Mem} : KpC w w := fun _ _ _ _ => rfl
theorem KpC.tr {w w1 w2 : Mem} (h : KpC w w1) (h2 : KpC w1 w2) : KpC w w2 := fun a b c g => (h2 a b c g).trans (h a b c g)
theorem ScC.kp {w w' : Mem} (h : ScC w w') : KpC w w' := fun a b c g => h a b c (by omega) (by omega)
theorem KpC.up {w w' : Mem} {k i j : Nat} {v : Int32} (h : KpC w w') (hk : k ≠ 6 ∧ k ≠ 7 ∧ k ≠ 20) : KpC w (up w' k i j v) := fun a b c g => by rw [up_k (by omega)]; exact h a b c g
theorem HR.kp {N : Nat} {κ μ : Nat → Nat} {st : St} {w w' : Mem} (h : HR N κ μ st w) (hk : KpC w w') : HR N κ μ st w' := h.sc (fun c => hk 20 0 c (by omega))
theorem TXq.kp {q : Int32 → Int32} {t : Nat} {C : Nat → List Int32} {w w' : Mem} (h : TXq q t C w) (hk : KpC w w') : TXq q t C w' := h.of (fun c => hk 6 0 c (by omega)) (fun c => hk 7 0 c (by omega))
theorem CoL.ro {i N t : Nat} {κ μ : Nat → Nat} {st : St} {w w' : Mem} (h : CoL i N κ μ t st w) (ho : OnlyK 20 w w') : CoL i N κ μ t st w' := by
  obtain ⟨h1, h2, h3, h4, h5⟩ := h
  refine ⟨by rw [ho 0 _ _ (by decide)]; exact h1, by rw [ho 0 _ _ (by decide)]; exact h2, by rw [ho 0 _ _ (by decide)]; exact h3, by rw [ho 0 _ _ (by decide)]; exact h4, fun p hp => ?_⟩
  rw [ho 13 _ _ (by decide), ho 14 _ _ (by decide), ho 15 _ _ (by decide), ho 16 _ _ (by decide), ho 17 _ _ (by decide)]
  exact h5 p hp
theorem TXq.ro {q : Int32 → Int32} {t : Nat} {C : Nat → List Int32} {w w' : Mem} (h : TXq q t C w) (hk : OnlyK 20 w w') : TXq q t C w' := h.of (fun c => hk 6 0 c (by omega)) (fun c => hk 7 0 c (by omega))
theorem lucks_b (q : Int32 → Int32) {N p : Nat} {κ μ : Nat → Nat} {st : St} (th : Nat) (hO : OkS N κ μ st) (hp : p < N) : -20 ≤ lucksN q κ μ st p th ∧ lucksN q κ μ st p th ≤ 20 := by
  have hm := (hO.2.2.2.2 p hp).2.1
  have hv := vLucks_b q (bsN (sE st p) 16)
  unfold lucksN
  dsimp only
  generalize vLucks q (bsN (sE st p) 16) = v at *
  have h4 : -8 ≤ v.tdiv 2 ∧ v.tdiv 2 ≤ 8 := by
    have h5 : ∀ a : Nat, a < 24 → -8 ≤ ((a : Int) - 8).tdiv 2 ∧ ((a : Int) - 8).tdiv 2 ≤ 8 := by decide
    have h6 := h5 (v + 8).toNat (by omega)
    rw [show (((v + 8).toNat : Int)) - 8 = v by omega] at h6
    exact h6
  repeat' split
  all_goals omega
