/-! by how few lessons; when -/
theorem ld_0 (m i : Nat) (a b c d : Int32) (w : Mem) : ld (m + 1) 0 i a b c d w = f_X4_lessonsTo (ld m) i a b c w := Eq.trans rfl rfl
theorem ld_1 (m i : Nat) (a b c d : Int32) (w : Mem) : ld (m + 1) 1 i a b c d w = f_X4_lessonsFrom (ld m) i a b c d w := Eq.trans rfl rfl
/-- none of them knows it -/
def Nob (N th : Nat) (st : St) : Prop := ∀ x, x < N → ¬ (sK st x).testBit th = true
theorem lrn_sub {q : Int32 → Int32} {N a b i : Nat} {κ μ : Nat → Nat} {st : St} (hO : OkS N κ μ st) (ha : a < N) (h : (lrn q κ μ st a b).testBit i = true) : (sK st a).testBit i = true := by
  have bK := (hO.2.2.2.2 a ha).2.2.1
  have hD := andn_le (sK st a) (sK st b)
  obtain ⟨g1, g2⟩ := cbN_bl (takesN q κ μ st b) (andn (sK st a) (sK st b)) (by omega)
  unfold lrn at h
  rw [← andn_sub (D := andn (sK st a) (sK st b)) (by omega) (Sb_cbN _ _) g1, andn_tt (by omega), andn_tt bK] at h
  exact h.1.1
theorem Nob.lesson {q : Int32 → Int32} {N th a b : Nat} {κ μ : Nat → Nat} {st : St} (hO : OkS N κ μ st) (ha : a < N) (h : Nob N th st) : Nob N th (lessonS q κ μ st a b) := by
  intro x hx hb
  by_cases g : x = b
  · subst g
    rw [show sK (lessonS q κ μ st a x) x = sK st x ||| lrn q κ μ st a x from pfN_s .., or_tt] at hb
    rcases hb with hb | hb
    · exact h x hx hb
    · exact h a ha (lrn_sub hO ha hb)
  · rw [show sK (lessonS q κ μ st a b) x = sK st x from pfN_n g] at hb
    exact h x hx hb
def ToR (q : Int32 → Int32) (N t : Nat) (κ μ : Nat → Nat) (C : Nat → List Int32) (p th f : Nat) : Prop := ∀ (md : Nat) (st : St) (w : Mem), 2 * f ≤ md → OkS N κ μ st → CoL 1 N κ μ t st w → TXq q t C w → ∃ c w', ld md 0 1 (nI p) (nI th) (nI f) 0 w = some (nI c, w') ∧ ScC w w' ∧ c < 100 ^ f ∧ (Nob N th st → c = 0)
theorem from_C {q : Int32 → Int32} {N t p th f : Nat} {κ μ : Nat → Nat} {C : Nat → List Int32} (hth : th < 16) (hp : p < N) (hf : f < 3) (ih : 0 < f → ToR q N t κ μ C p th f) {a b md : Nat} {st : St} {w : Mem} (hmd : 2 * f + 1 ≤ md) (hO : OkS N κ μ st) (hC : CoL 1 N κ μ t st w) (hT : TXq q t C w) (ha : a < N) (hb : b < N) : ∃ c w', ld md 1 1 (nI (10 * a + b)) (nI p) (nI th) (nI (f + 1)) w = some (nI c, w') ∧ ScC w w' ∧ c < 100 ^ (f + 1) ∧ (Nob N th st → c = 0) := by
  have hN := hO.2.1
  obtain ⟨md, rfl⟩ : ∃ q, md = q + 1 := ⟨md - 1, by omega⟩
  have hp100 : 0 < 100 ^ (f + 1) := Nat.pow_pos (by omega)
  have e10 : nI (10 * a + b) / 10 = nI a := by
    rw [show (10 : Int32) = nI 10 from rfl, pk_div (by omega) (by omega) (by omega)]; congr 1; omega
  have em10 : rmI (nI (10 * a + b)) 10 = nI b := by
    rw [show rmI (nI (10 * a + b)) 10 = nI ((10 * a + b) % 10) from pk_rem (d := 10) (by omega) (by omega) (by omega)]; congr 1; omega
  have n10 : ¬ (10 : Int32) = 0 := by decide
  have bK := (hO.2.2.2.2 a ha).2.2.1
  have bKb := (hO.2.2.2.2 b hb).2.2.1
  have hl := lrn_lt q (b := b) hO ha
  have zero : ∀ w', ScC w w' → ∃ c w2, some ((0 : Int32), w') = some (nI c, w2) ∧ ScC w w2 ∧ c < 100 ^ (f + 1) ∧ (Nob N th st → c = 0) := fun w' h => ⟨0, w', rfl, h, hp100, fun _ => rfl⟩
  have j53 : ∃ c w', j_X4_lessonsFrom_53 (ld md) 1 (nI (10 * a + b)) (nI p) (nI th) (nI (f + 1)) (nI a) (nI b) w = some (nI c, w') ∧ ScC w w' ∧ c < 100 ^ (f + 1) ∧ (Nob N th st → c = 0) := by
    obtain ⟨w1, l1, l2⟩ := learns_c hO hC hT ha hb
    have hC1 := hC.sc l2
    unfold j_X4_lessonsFrom_53
    rw [l1, Option.bind_some]
    dsimp only
    by_cases f0 : f = 0
    · subst f0
      rw [if_pos (show nI (0 + 1) = 1 from rfl)]
      by_cases hh : (lrn q κ μ st a b).testBit th = true
      · rw [if_neg (fun z => (holds_N hl hth).mp z hh), nI_1]
        exact ⟨10 * a + b + 1, w1, rfl, l2, by show _ < 100; omega, fun h => absurd (lrn_sub hO ha hh) (h a ha)⟩
      · rw [if_pos ((holds_N hl hth).mpr hh)]
        exact zero w1 l2
    · rw [if_neg (fun z => f0 (by have := (nI_eq (a := f + 1) (b := 1) (by omega) (by omega)).mp z; omega))]
      by_cases hz : nI (lrn q κ μ st a b) = 0
      · rw [if_pos hz]; exact zero w1 l2
      · rw [if_neg hz]
        have hb15 : b < lenK 15 := by show b < 6; omega
        rw [atV_n w1 1 hb15 (by decide), (hC1.2.2.2.2 b hb).2.2.1, nI_or, setV_n w1 1 _ hb15 (by decide), show nI (f + 1) - 1 = nI f from nI_pred f]
        have hC2 : CoL 1 N κ μ t (lessonS q κ μ st a b) (up w1 15 1 b (nI (sK st b ||| lrn q κ μ st a b))) := hC1.upK
        have k2 : KpC w (up w1 15 1 b (nI (sK st b ||| lrn q κ μ st a b))) := l2.kp.up (by omega)
        obtain ⟨c, w3, r1, r2, r3, r4⟩ := ih (by omega) md _ _ (by omega) (lessonS_ok (q := q) (b := b) hO ha) hC2 (hT.kp k2)
        have sc : ScC w (setV w3 15 1 (nI b) (nI (sK st b))) := by
          rw [setV_n w3 1 _ hb15 (by decide)]
          intro x y z h8 h12
          by_cases g : x = 15 ∧ y = 1 ∧ z = b
          · obtain ⟨rfl, rfl, rfl⟩ := g
            rw [up_s, (hC.2.2.2.2 z hb).2.2.1]
          · rw [up_n g, r2 x y z h8 h12, up_n g]
            exact l2 x y z h8 h12
        rw [r1, Option.bind_some]
        dsimp only
        by_cases hc0 : c = 0
        · rw [if_pos (show nI c = 0 by rw [hc0]; rfl)]
          exact zero _ sc
        · have hnob : Nob N th st → False := fun h => hc0 (r4 (h.lesson hO ha))
          have hc31 : c < 2 ^ 31 := Nat.lt_of_lt_of_le r3 (Nat.le_trans (Nat.pow_le_pow_right (by omega) (show f ≤ 2 by omega)) (by decide))
          rw [if_neg (nI_ne0 (by omega) hc31)]
          by_cases f1 : f = 1
          · subst f1
            rw [if_pos (show nI (1 + 1) = 2 from rfl), nI_1, show (100 : Int32) = nI 100 from rfl, nI_mul, nI_add]
            exact ⟨_, _, rfl, sc, by show _ < 10000; have : c < 100 := r3; omega, fun h => (hnob h).elim⟩
          · have f2 : f = 2 := by omega
            subst f2
            rw [if_neg (show ¬ nI (2 + 1) = 2 by decide), nI_1, show (10000 : Int32) = nI 10000 from rfl, nI_mul, nI_add]
            exact ⟨_, _, rfl, sc, by show _ < 1000000; have : c < 10000 := r3; omega, fun h => (hnob h).elim⟩
  rw [ld_1]
  unfold f_X4_lessonsFrom
  rw [if_pos n10, if_pos n10, e10, em10]
  by_cases hab : nI a = nI b
  · rw [if_pos hab]; exact zero w .rf
  · rw [if_neg hab]
    by_cases g1 : nI (f + 1) = 1
    · rw [if_pos g1]
      by_cases g2 : nI b = nI p
      · rw [if_pos g2]
        by_cases g3 : holdsF (atV w 15 1 (nI a)) (nI th) = 0
        · rw [if_pos g3]; exact zero w .rf
        · rw [if_neg g3]; exact j53
      · rw [if_neg g2]; exact zero w .rf
    · rw [if_neg g1]; exact j53
theorem p100 {c f : Nat} (hf : f ≤ 3) (h : c < 100 ^ f) : c < 2 ^ 31 := Nat.lt_of_lt_of_le h (Nat.le_trans (Nat.pow_le_pow_right (by omega) hf) (by decide))
theorem to_S {q : Int32 → Int32} {N t p th f : Nat} {κ μ : Nat → Nat} {C : Nat → List Int32} (hth : th < 16) (hp : p < N) (hf : f < 3) (ih : 0 < f → ToR q N t κ μ C p th f) : ToR q N t κ μ C p th (f + 1) := by
  intro md st w hmd hO hC hT
  have hN := hO.2.1
  obtain ⟨md, rfl⟩ : ∃ q, md = q + 1 := ⟨md - 1, by omega⟩
  have l31 : ∀ (a : Nat) (k : Mem → Option (Int32 × Mem)), a < N → ∀ (m b fuel : Nat) (w1 : Mem), b + m = N → m < fuel → ScC w w1 → ∃ w', ScC w w' ∧ ((∃ c, c < 100 ^ (f + 1) ∧ (Nob N th st → c = 0) ∧ h_X4_lessonsTo_31 (ld md) 1 (nI p) (nI th) (nI (f + 1)) (nI a) k fuel (nI b) w1 = some (nI c, w')) ∨ h_X4_lessonsTo_31 (ld md) 1 (nI p) (nI th) (nI (f + 1)) (nI a) k fuel (nI b) w1 = k w') := by
    intro a k ha m
    induction m with
    | zero =>
      intro b fuel w1 hb hfu hs
      obtain ⟨fuel, rfl⟩ : ∃ m, fuel = m + 1 := ⟨fuel - 1, by omega⟩
      refine ⟨w1, hs, Or.inr ?_⟩
      unfold h_X4_lessonsTo_31
      rw [(hC.sc hs).1, if_neg (nI_nlt (by omega) (by omega))]
    | succ m ihm =>
      intro b fuel w1 hb hfu hs
      obtain ⟨fuel, rfl⟩ : ∃ m, fuel = m + 1 := ⟨fuel - 1, by omega⟩
      obtain ⟨c, w2, r1, r2, r3, r4⟩ := from_C hth hp hf ih (md := md) (by omega) hO (hC.sc hs) (hT.sc hs) ha (show b < N by omega)
      have hc := p100 (show f + 1 ≤ 3 by omega) r3
      unfold h_X4_lessonsTo_31
      rw [(hC.sc hs).1, if_pos (nI_lt (by omega) (by omega)), show (10 : Int32) * nI a + nI b = nI (10 * a + b) by rw [show (10 : Int32) = nI 10 from rfl, nI_mul, nI_add], r1, Option.bind_some]
      dsimp only
      by_cases hc0 : c = 0
      · rw [if_pos (show nI c ≤ 0 by rw [hc0]; decide), nI_1]
        exact ihm (b + 1) fuel w2 (by omega) (by omega) (hs.tr r2)
      · rw [if_neg (show ¬ nI c ≤ 0 from fun z => absurd (nI_lt (a := 0) (b := c) (by omega) hc) (Int32.not_lt.mpr z))]
        exact ⟨w2, hs.tr r2, Or.inl ⟨c, r3, r4, rfl⟩⟩
  have l19 : ∀ (m a fuel : Nat) (w1 : Mem), a + m = N → m < fuel → ScC w w1 → ∃ c w', h_X4_lessonsTo_19 (ld md) 1 (nI p) (nI th) (nI (f + 1)) (fun w8 => some (0, w8)) fuel (nI a) w1 = some (nI c, w') ∧ ScC w w' ∧ c < 100 ^ (f + 1) ∧ (Nob N th st → c = 0) := by
    intro m
    induction m with
    | zero =>
      intro a fuel w1 ha hfu hs
      obtain ⟨fuel, rfl⟩ : ∃ m, fuel = m + 1 := ⟨fuel - 1, by omega⟩
      refine ⟨0, w1, ?_, hs, Nat.pow_pos (by omega), fun _ => rfl⟩
      unfold h_X4_lessonsTo_19
      rw [(hC.sc hs).1, if_neg (nI_nlt (by omega) (by omega))]
      rfl
    | succ m ihm =>
      intro a fuel w1 ha hfu hs
      obtain ⟨fuel, rfl⟩ : ∃ m, fuel = m + 1 := ⟨fuel - 1, by omega⟩
      obtain ⟨w2, s2, h⟩ := l31 a (fun w7 => (h_X4_lessonsTo_19 (ld md) 1 (nI p) (nI th) (nI (f + 1)) (fun w8 => some (0, w8)) fuel) (nI a + 1) w7) (by omega) N 0 FU w1 (by omega) (by show N < 1000000; omega) hs
      unfold h_X4_lessonsTo_19
      rw [(hC.sc hs).1, if_pos (nI_lt (by omega) (by omega))]
      rcases h with ⟨c, c1, c2, c3⟩ | h
      · exact ⟨c, w2, c3, s2, c1, c2⟩
      · obtain ⟨c, w', g1, g2⟩ := ihm (a + 1) fuel w2 (by omega) (by omega) s2
        refine ⟨c, w', ?_, g2⟩
        refine Eq.trans h ?_
        show h_X4_lessonsTo_19 (ld md) 1 (nI p) (nI th) (nI (f + 1)) (fun w8 => some (0, w8)) fuel (nI a + 1) w2 = _
        rw [nI_1]
        exact g1
  obtain ⟨c, w', g1, g2⟩ := l19 N 0 FU w (by omega) (by show N < 1000000; omega) .rf
  refine ⟨c, w', ?_, g2⟩
  rw [ld_0]
  unfold f_X4_lessonsTo
  rw [if_neg (show ¬ nI (f + 1) < 1 from nI_nlt (a := f + 1) (b := 1) (by omega) (by omega)), if_pos (show nI (f + 1) ≤ 3 from nI_le (a := f + 1) (b := 3) (by omega) (by omega))]
  exact g1
theorem to_C {q : Int32 → Int32} {N t p th : Nat} {κ μ : Nat → Nat} {C : Nat → List Int32} (hth : th < 16) (hp : p < N) : ∀ f, f < 3 → ToR q N t κ μ C p th (f + 1) := by
  intro f
  induction f with
  | zero => exact fun hf => to_S hth hp hf (fun z => absurd z (by omega))
  | succ f ih => exact fun hf => to_S hth hp hf (fun _ => ih (by omega))
theorem lessons_loop {q : Int32 → Int32} {N t p th : Nat} {κ μ : Nat → Nat} {C : Nat → List Int32} {st : St} (hO : OkS N κ μ st) (hth : th < 16) (hp : p < N) : ∀ (m f fuel : Nat) (w : Mem), f + m = 3 → m < fuel → CoL 1 N κ μ t st w → TXq q t C w → ∃ u w', h_X4_lessons_67 (nI p) (nI th) 0 (fun w10 => some (-1, w10)) fuel (nI (f + 1)) w = some (u, w') ∧ ScC w w' ∧ ¬ u = 0 ∧ (¬ u ≤ 0 → ¬ Nob N th st) := by
  intro m
  induction m with
  | zero =>
    intro f fuel w hf hfu hC hT
    obtain ⟨fuel, rfl⟩ : ∃ m, fuel = m + 1 := ⟨fuel - 1, by omega⟩
    refine ⟨-1, w, ?_, .rf, by decide, fun h => absurd (by decide) h⟩
    unfold h_X4_lessons_67
    rw [if_neg (show ¬ nI (f + 1) ≤ 3 from fun z => absurd (nI_lt (a := 3) (b := f + 1) (by omega) (by omega)) (Int32.not_lt.mpr z))]
  | succ m ih =>
    intro f fuel w hf hfu hC hT
    obtain ⟨fuel, rfl⟩ : ∃ m, fuel = m + 1 := ⟨fuel - 1, by omega⟩
    obtain ⟨c, w1, r1, r2, r3, r4⟩ := to_C (q := q) (t := t) (κ := κ) (μ := μ) (C := C) hth hp f (by omega) 8 st w (by omega) hO hC hT
    have hc := p100 (show f + 1 ≤ 3 by omega) r3
    unfold h_X4_lessons_67
    rw [if_pos (show nI (f + 1) ≤ 3 from nI_le (a := f + 1) (b := 3) (by omega) (by omega)), r1, Option.bind_some]
    dsimp only
    by_cases hc0 : c = 0
    · rw [if_pos (show nI c ≤ 0 by rw [hc0]; decide), nI_1]
      obtain ⟨u, w', g1, g2, g3⟩ := ih (f + 1) fuel w1 (by omega) (by omega) (hC.sc r2) (hT.sc r2)
      exact ⟨u, w', g1, r2.tr g2, g3⟩
    · rw [if_neg (show ¬ nI c ≤ 0 from fun z => absurd (nI_lt (a := 0) (b := c) (by omega) hc) (Int32.not_lt.mpr z)), if_pos rfl]
      exact ⟨nI (f + 1), w1, rfl, r2, nI_ne0 (by omega) (by omega), fun _ h => hc0 (r4 h)⟩
theorem lessons_K {q : Int32 → Int32} {N t p th : Nat} {κ μ : Nat → Nat} {C : Nat → List Int32} {st : St} {w : Mem} (hO : OkS N κ μ st) (hC : CoL 0 N κ μ t st w) (hT : TXq q t C w) (hp : p < N) (hth : th < 16) : ∃ u w', f_X4_lessons (nI p) (nI th) 0 w = some (u, w') ∧ KC w w' ∧ (u = 0 ↔ (sK st p).testBit th = true) ∧ (¬ u ≤ 0 → ¬ Nob N th st) := by
  have hN := hO.2.1
  have b3 := (hO.2.2.2.2 p hp).2.2.1
  unfold f_X4_lessons j_X4_lessons_33
  rw [hC.1, has_1 (by omega) hp, if1, rng15 hth, if1, if_pos rfl, atV_n w 0 (show p < lenK 15 by show p < 6; omega) (by decide), (hC.2.2.2.2 p hp).2.2.1]
  by_cases hk : (sK st p).testBit th = true
  · rw [if_neg (fun z => (holds_N b3 hth).mp z hk)]
    exact ⟨0, w, rfl, .rf, ⟨fun _ => hk, fun _ => rfl⟩, fun h => absurd (by decide) h⟩
  · rw [if_pos ((holds_N b3 hth).mpr hk)]
    obtain ⟨w1, c1, c2⟩ := become_c (i := 1) (j := 0) (by decide) w
    have k1 : KC w w1 := c2.2.2.kc
    obtain ⟨u, w2, g1, g2, g3, g4⟩ := lessons_loop hO hth hp 3 0 FU w1 (by omega) (by show _ < 1000000; omega) (hC.as hN c2) (hT.kc k1)
    rw [c1, Option.bind_some]
    exact ⟨u, w2, g1, k1.tr g2.kc, ⟨fun z => absurd z g3, fun z => absurd z hk⟩, g4⟩
theorem any_loop {i N t : Nat} {κ μ : Nat → Nat} {st : St} {w : Mem} (k : Int32 → Mem → Option (Int32 × Mem)) (hO : OkS N κ μ st) (hC : CoL i N κ μ t st w) : ∀ (m x fuel : Nat), x + m = N → m < fuel → h_X0_knownToAny_4 i k fuel (nI (orN (sK st) x)) (nI x) w = k (nI (orN (sK st) N)) w := by
  have hN := hO.2.1
  intro m
  induction m with
  | zero =>
    intro x fuel hx hf
    obtain ⟨fuel, rfl⟩ : ∃ m, fuel = m + 1 := ⟨fuel - 1, by omega⟩
    unfold h_X0_knownToAny_4
    rw [hC.1, if_neg (nI_nlt (by omega) (by omega)), show x = N by omega]
  | succ m ih =>
    intro x fuel hx hf
    obtain ⟨fuel, rfl⟩ : ∃ m, fuel = m + 1 := ⟨fuel - 1, by omega⟩
    unfold h_X0_knownToAny_4
    rw [hC.1, if_pos (nI_lt (by omega) (by omega)), atV_n w i (show x < lenK 15 by show x < 6; omega) (by decide), (hC.2.2.2.2 x (by omega)).2.2.1, nI_or, nI_1]
    exact ih (x + 1) fuel (by omega) (by omega)
theorem orN_lt {K : Nat → Nat} : ∀ n, (∀ x, x < n → K x < 65536) → orN K n < 65536 := by
  intro n
  induction n with
  | zero => intro _; show (0 : Nat) < 65536; omega
  | succ n ih => intro h; exact or16 (ih (fun x hx => h x (by omega))) (h n (by omega))
theorem when_K {q : Int32 → Int32} {N t th : Nat} {κ μ : Nat → Nat} {C : Nat → List Int32} {st : St} {w : Mem} (hO : OkS N κ μ st) (hC : CoL 0 N κ μ t st w) (hT : TXq q t C w) (hth : th < 16) (hn : ¬ Nob N th st) : ∃ w', f_X4_when (nI th) w = some (0, w') ∧ KC w w' := by
  have hN := hO.2.1
  obtain ⟨w1, c1, c2⟩ := become_c (i := 1) (j := 0) (by decide) w
  have k1 : KC w w1 := c2.2.2.kc
  refine ⟨w1, ?_, k1⟩
  have hC1 := hC.as hN c2
  have ha := any_loop (fun x1_2 w3 => some (x1_2, w3)) hO hC1 N 0 FU (by omega) (by show N < 1000000; omega)
  have hk : f_X0_knownToAny 1 w1 = some (nI (orN (sK st) N), w1) := ha
  have ho : orN (sK st) N < 65536 := orN_lt N (fun x hx => (hO.2.2.2.2 x hx).2.2.1)
  have hb : (orN (sK st) N).testBit th = true := by
    rw [orN_t]
    exact Classical.byContradiction fun h => hn (fun x hx hb => h ⟨x, hx, hb⟩)
  unfold f_X4_when
  rw [if_neg (show ¬ nI th < -1 from fun z => absurd (Int32.lt_trans z (by decide : (-1 : Int32) < 0)) (nI_pos (by omega))), if_pos (show nI th < 16 from nI_lt (a := th) (b := 16) (by omega) (by omega)), c1, Option.bind_some]
  show h_X4_when_27 (nI th) (fun w10 => some ((-1), w10)) (999999 + 1) 0 w1 = _
  unfold h_X4_when_27
  rw [if_pos (by decide), if_neg (nI_pos (by omega)), hk, Option.bind_some]
  dsimp only
  rw [if_neg (fun z => (holds_N ho hth).mp z hb)]
