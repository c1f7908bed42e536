/-! a lesson: the class; the law -/
theorem takesN_b (q : Int32 → Int32) {N p : Nat} {κ μ : Nat → Nat} {st : St} (hO : OkS N κ μ st) (hp : p < N) : takesN q κ μ st p < 100 := by
  have hm := (hO.2.2.2.2 p hp).2.1
  have hv := vTakes_b q (sL st p)
  unfold takesN
  dsimp only
  generalize vTakes q (sL st p) = v at *
  repeat' split
  all_goals omega
def Sb (a b : Nat) : Prop := ∀ i, a.testBit i = true → b.testBit i = true
theorem Sb_cb (n : Nat) : Sb (cb n) n := by
  intro i h
  unfold cb at h
  rw [Nat.testBit_and, Bool.and_eq_true] at h
  exact h.1
theorem Sb_cbN : ∀ l n, Sb (cbN l n) n := by
  intro l
  induction l with
  | zero => intro n i h; exact h
  | succ l ih => intro n i h; exact Sb_cb n i (ih (cb n) i h)
theorem or_add {a c : Nat} (ha : a < 65536) (hc : c < 65536) (h : a &&& c = 0) : a + c = a ||| c := by
  have h1 := BitVec.add_eq_or_of_and_eq_zero (BitVec.ofNat 32 a) (BitVec.ofNat 32 c) (by rw [← BitVec.ofNat_and, h])
  have h2 := congrArg BitVec.toNat h1
  have h3 := or16 ha hc
  rw [← BitVec.ofNat_add, ← BitVec.ofNat_or, BitVec.toNat_ofNat, BitVec.toNat_ofNat, Nat.mod_eq_of_lt (by omega), Nat.mod_eq_of_lt (by omega)] at h2
  exact h2
theorem t65535 (i : Nat) : (65535 : Nat).testBit i = decide (i < 16) := Nat.testBit_two_pow_sub_one 16 i
theorem hi16 {a : Nat} (h : a < 65536) {i : Nat} (hi : ¬ i < 16) : a.testBit i = false := Nat.testBit_lt_two_pow (Nat.lt_of_lt_of_le h (Nat.pow_le_pow_right (n := 2) (by omega) (show 16 ≤ i by omega)))
theorem andn_t {D c : Nat} (hD : D < 65536) (i : Nat) : (andn D c).testBit i = (D.testBit i && !c.testBit i) := by
  unfold andn
  rw [Nat.testBit_and, Nat.testBit_xor, t65535]
  by_cases h : i < 16
  · rw [decide_eq_true h, Bool.xor_true]
  · rw [hi16 hD h, Bool.false_and, Bool.false_and]
theorem andn_sub {D c : Nat} (hD : D < 65536) (hs : Sb c D) (hc : c ≤ D) : andn D c = D - c := by
  have h1 : andn D c &&& c = 0 := by
    refine Nat.eq_of_testBit_eq (fun i => ?_)
    rw [Nat.testBit_and, andn_t hD, Nat.zero_testBit]
    cases c.testBit i
    · rw [Bool.and_false]
    · rw [Bool.not_true, Bool.and_false, Bool.false_and]
  have h2 : andn D c ||| c = D := by
    refine Nat.eq_of_testBit_eq (fun i => ?_)
    rw [Nat.testBit_or, andn_t hD]
    have h3 := hs i
    cases h4 : c.testBit i
    · rw [Bool.not_false, Bool.and_true, Bool.or_false]
    · rw [Bool.or_true, h3 h4]
  have h3 := or_add (a := andn D c) (c := c) (by have := andn_le D c; omega) (by omega) h1
  omega
def lrn (q : Int32 → Int32) (κ μ : Nat → Nat) (st : St) (a b : Nat) : Nat := andn (sK st a) (sK st b) - cbN (takesN q κ μ st b) (andn (sK st a) (sK st b))
def lessonS (q : Int32 → Int32) (κ μ : Nat → Nat) (st : St) (a b : Nat) : St := (pfN (sK st) b (sK st b ||| lrn q κ μ st a b), sE st, sL st, sS st, sT st)
theorem lrn_lt (q : Int32 → Int32) {N a b : Nat} {κ μ : Nat → Nat} {st : St} (hO : OkS N κ μ st) (ha : a < N) : lrn q κ μ st a b < 65536 := by
  have h1 := andn_le (sK st a) (sK st b)
  have h2 := (hO.2.2.2.2 a ha).2.2.1
  unfold lrn; omega
theorem lessonS_ok {q : Int32 → Int32} {N a b : Nat} {κ μ : Nat → Nat} {st : St} (hO : OkS N κ μ st) (ha : a < N) : OkS N κ μ (lessonS q κ μ st a b) := by
  obtain ⟨o1, o2, o3, o4, o5⟩ := id hO
  refine ⟨o1, o2, o3, o4, fun x hx => ⟨(o5 x hx).1, (o5 x hx).2.1, ?_, (o5 x hx).2.2.2⟩⟩
  show pfN (sK st) b (sK st b ||| lrn q κ μ st a b) x < 65536
  by_cases h : x = b
  · subst h; rw [pfN_s]; exact or16 (o5 x hx).2.2.1 (lrn_lt q hO ha)
  · rw [pfN_n h]; exact (o5 x hx).2.2.1
theorem cbN_0 : ∀ l, cbN l 0 = 0 := by
  intro l
  induction l with
  | zero => rfl
  | succ l ih => show cbN l (cb 0) = 0; rw [cb_0]; exact ih
theorem learns_c {q : Int32 → Int32} {i N t a b : Nat} {κ μ : Nat → Nat} {C : Nat → List Int32} {st : St} {w : Mem} (hO : OkS N κ μ st) (hC : CoL i N κ μ t st w) (hT : TXq q t C w) (ha : a < N) (hb : b < N) : ∃ w', f_X0_learns i (nI a) (nI b) w = some (nI (lrn q κ μ st a b), w') ∧ ScC w w' := by
  have hN := hO.2.1
  obtain ⟨c1, c2, c3, c4, c5⟩ := id hC
  have e15 : ∀ (w : Mem) {p : Nat}, p < N → atV w 15 i (nI p) = w 15 i p := fun w p hp => atV_n w i (show p < lenK 15 by show p < 6; omega) (by decide)
  have bK := (hO.2.2.2.2 a ha).2.2.1
  have hD := andn_le (sK st a) (sK st b)
  unfold f_X0_learns lrn
  rw [e15 w ha, e15 w hb, (c5 a ha).2.2.1, (c5 b hb).2.2.1, andn_I bK]
  by_cases h0 : andn (sK st a) (sK st b) = 0
  · rw [h0, if_pos (show nI 0 = 0 from rfl), Nat.zero_sub]
    exact ⟨w, rfl, .rf⟩
  · rw [if_neg (nI_ne0 (by omega) (by omega))]
    obtain ⟨w1, l1, l2⟩ := takes_cS hO hC hT hb
    have ht := takesN_b q hO hb
    rw [l1, Option.bind_some]
    dsimp only
    rw [leastF_cb (by omega) (by omega)]
    exact ⟨w1, rfl, l2⟩
theorem teach_c {q : Int32 → Int32} {i N t a b : Nat} {κ μ : Nat → Nat} {C : Nat → List Int32} {st : St} {w : Mem} (hO : OkS N κ μ st) (hC : CoL i N κ μ t st w) (hT : TXq q t C w) (ha : a < N) (hb : b < N) : ∃ w' w2, f_X0_learns i (nI a) (nI b) w = some (nI (lrn q κ μ st a b), w') ∧ f_X0_isTold i (nI b) (nI (lrn q κ μ st a b)) w' = some w2 ∧ CoL i N κ μ t (lessonS q κ μ st a b) w2 ∧ KpC w w2 := by
  have hN := hO.2.1
  obtain ⟨w1, l1, l2⟩ := learns_c hO hC hT ha hb
  refine ⟨w1, up w1 15 i b (nI (sK st b ||| lrn q κ μ st a b)), l1, ?_, (hC.sc l2).upK, l2.kp.up (by omega)⟩
  unfold f_X0_isTold
  rw [atV_n w1 i (show b < lenK 15 by show b < 6; omega) (by decide), ((hC.sc l2).2.2.2.2 b hb).2.2.1, nI_or, setV_n w1 i _ (show b < lenK 15 by show b < 6; omega) (by decide)]
theorem X4_teach_c {q : Int32 → Int32} {N t a b : Nat} {κ μ : Nat → Nat} {C : Nat → List Int32} {st : St} {w : Mem} (hO : OkS N κ μ st) (hC : CoL 0 N κ μ t st w) (hT : TXq q t C w) (ha : a < N) (hb : b < N) (hab : a ≠ b) : ∃ w', f_X4_teach (nI a) (nI b) w = some (nI (lrn q κ μ st a b), w') ∧ CoL 0 N κ μ t (lessonS q κ μ st a b) w' ∧ KpC w w' := by
  have hN := hO.2.1
  obtain ⟨w1, w2, l1, l2, l3, l4⟩ := teach_c hO hC hT ha hb
  refine ⟨w2, ?_, l3, l4⟩
  unfold f_X4_teach
  rw [hC.1, has_1 (by omega) ha, if1, has_1 (by omega) hb, if1, if_neg (fun z => hab ((nI_eq (by omega) (by omega)).mp z)), l1, Option.bind_some]
  dsimp only
  rw [l2]
  rfl
theorem X4_teach_s {N t a : Nat} {κ μ : Nat → Nat} {st : St} {w : Mem} (hO : OkS N κ μ st) (hC : CoL 0 N κ μ t st w) (ha : a < N) : f_X4_teach (nI a) (nI a) w = some (-5, w) := by
  have hN := hO.2.1
  unfold f_X4_teach
  rw [hC.1, has_1 (by omega) ha, if1, if1, if_pos rfl]
theorem lesson_loop (q : Int32 → Int32) (x3 : Int32) (x4 : Int64) (k : Int64 → Mem → Option (Int64 × Mem)) (w : Mem) : ∀ (m n fuel : Nat), m < 2 ^ 30 → n < 65536 → m < fuel → h_L_lesson_29 q x3 x4 k fuel (lN n) (lN m) w = k (lN (cbN m n)) w := by
  intro m
  induction m with
  | zero =>
    intro n fuel _ _ hf
    obtain ⟨fuel, rfl⟩ : ∃ m, fuel = m + 1 := ⟨fuel - 1, by omega⟩
    unfold h_L_lesson_29
    rw [if_pos (show lg_cmp (lN 0) 0 ≤ 0 from (cmpL (a := 0) (b := 0) (by omega) (by omega)).mpr (by omega))]
    rfl
  | succ m ih =>
    intro n fuel hm hn hf
    obtain ⟨fuel, rfl⟩ : ∃ m, fuel = m + 1 := ⟨fuel - 1, by omega⟩
    unfold h_L_lesson_29
    have e1 : lN n &&& (lN n - 1) = lN (cb n) := by
      rcases Nat.eq_zero_or_pos n with h | h
      · subst h; decide
      · exact cb_L n (by omega) h
    rw [if_neg (fun z : lg_cmp (lN (m + 1)) 0 ≤ 0 => by have := (cmpL (a := m + 1) (b := 0) (by omega) (by omega)).mp z; omega), e1, show (1 : Int64) = lN 1 from rfl, lN_sub (by omega), Nat.add_sub_cancel, ih (cb n) fuel (by omega) (by have := cb_le n; omega) (by omega)]
    rfl
theorem lesson_L {q : Int32 → Int32} {N a b : Nat} {κ μ : Nat → Nat} {st : St} {w : Mem} (hO : OkS N κ μ st) (hH : HR N κ μ st w) (ha : a < N) (hb : b < N) : ∃ w', f_L_lesson q (nI a) (nI b) w = some (lN (lrn q κ μ st a b), w') ∧ HR N κ μ (lessonS q κ μ st a b) w' ∧ OnlyK 20 w w' := by
  have hN := hO.2.1
  have bK := (hO.2.2.2.2 a ha).2.2.1
  have bK2 := (hO.2.2.2.2 b hb).2.2.1
  have hD := andn_le (sK st a) (sK st b)
  have ht := takesN_b q hO hb
  have hl := lrn_lt q (b := b) hO ha
  have ho := or16 bK2 hl
  unfold f_L_lesson
  rw [t3, t3, tnn (by omega), tnn (by omega), if_pos (i60 (by omega)), if_pos (i60 (by omega)), takes_L hO hH hb, Option.bind_some, (hH.2.2 a ha).1, (hH.2.2 b hb).1, nI_l (by omega), nI_l (by omega), andn_L bK]
  dsimp only
  rw [lesson_loop q (nI b) _ _ w (takesN q κ μ st b) (andn (sK st a) (sK st b)) FU (by omega) (by omega) (by show _ < 1000000; omega)]
  obtain ⟨g1, g2⟩ := cbN_bl (takesN q κ μ st b) (andn (sK st a) (sK st b)) (by omega)
  rw [if_pos (i60 (by omega)), andn_L (K := andn (sK st a) (sK st b)) (by omega), andn_sub (D := andn (sK st a) (sK st b)) (by omega) (Sb_cbN _ _) g1, (hH.2.2 b hb).1, nI_l (by omega), lN_or]
  show ∃ w', (if inB (nI (3 * b)) 60 ∧ (lN (sK st b ||| lrn q κ μ st a b)).toInt32.toInt64 = lN (sK st b ||| lrn q κ μ st a b) then some (lN (lrn q κ μ st a b), up w 20 0 (3 * b) (lN (sK st b ||| lrn q κ μ st a b)).toInt32) else none) = _ ∧ _
  rw [if_pos ⟨i60 (by omega), stLN (by omega)⟩, lN_i]
  exact ⟨_, rfl, hH.upK hb hN, OnlyK.rf.up⟩
