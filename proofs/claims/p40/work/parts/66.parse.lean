/-! sums, comparisons, the parts of the text -/
theorem sum_step {m n : Nat} {a c v x2 : Int32} {ts1 ts2 : List (Int32 × Int32)} {os1 os2 : List Int32} {w : Mem} (k : Mem → Option (Int32 × Mem)) (hc : c = 43 ∨ c = 45) (hx : x2 < 160) (h : PP 4 m a ts1 os1 ts2 os2) (hl : os2.length < 60) (hs : Sm ((c, v) :: ts1) w) (ho : Ou os1 w) : ∃ w', h_X1_readsSum_16 (rd m) a k (n + 1) x2 w = h_X1_readsSum_16 (rd m) a k n (x2 + 1) w' ∧ Sm ts2 w' ∧ Ou (os2 ++ [if c = 43 then -12 else -13]) w' ∧ NY w w' := by
  obtain ⟨w3, m1, m2, m3⟩ := hs.nx
  obtain ⟨w4, o1, o2, o3, o4⟩ := h w3 m3 (ho.nx m2)
  obtain ⟨w5, p1, p2, p3, p4⟩ := write_c (v := if c = 43 then -12 else -13) o3 o2 hl
  refine ⟨w5, ?_, p3, p2, (m2.ny.tr o4).tr p4⟩
  have h5 : w 1 0 5 = c := hs.1
  conv => lhs; unfold h_X1_readsSum_16
  unfold j_X1_readsSum_41
  rw [if_pos hx, m1, Option.bind_some, o1, Option.bind_some]
  dsimp only
  rw [if1]
  rcases hc with rfl | rfl
  · rw [if_pos rfl] at p1
    rw [if_pos h5, if_pos h5, p1, Option.bind_some]
  · rw [if_neg (show ¬ (45 : Int32) = 43 by decide)] at p1
    rw [if_neg (show ¬ w 1 0 5 = 43 by rw [h5]; decide), if_pos h5, if_neg (show ¬ w 1 0 5 = 43 by rw [h5]; decide), p1, Option.bind_some]
theorem sum_stop {m n : Nat} {a x2 : Int32} {t : Int32 × Int32} {ts : List (Int32 × Int32)} {w : Mem} (k : Mem → Option (Int32 × Mem)) (hx : x2 < 160) (ht : ¬ t.1 = 43 ∧ ¬ t.1 = 45) (hs : Sm (t :: ts) w) : h_X1_readsSum_16 (rd m) a k (n + 1) x2 w = k w := by
  unfold h_X1_readsSum_16
  rw [if_pos hx, if_neg (show ¬ w 1 0 5 = 43 by rw [hs.1]; exact ht.1), if_neg (show ¬ w 1 0 5 = 45 by rw [hs.1]; exact ht.2)]
theorem sum_0 {m : Nat} {a : Int32} {ts ts' : List (Int32 × Int32)} {t : Int32 × Int32} {os os' : List Int32} (ht : ¬ t.1 = 43 ∧ ¬ t.1 = 45) (h : PP 4 m a ts os (t :: ts') os') : PP 3 (m + 1) a ts os (t :: ts') os' := by
  intro w hs ho
  obtain ⟨w2, n1, n2, n3, n4⟩ := h w hs ho
  refine ⟨w2, ?_, n2, n3, n4⟩
  show f_X1_readsSum (rd m) a w = _
  unfold f_X1_readsSum
  rw [n1, Option.bind_some]
  dsimp only
  rw [if1]
  exact sum_stop (n := 999999) _ (by decide) ht n2
theorem sum_1 {m : Nat} {a c v : Int32} {ts ts1 ts' : List (Int32 × Int32)} {t : Int32 × Int32} {os os1 os' : List Int32} (hc : c = 43 ∨ c = 45) (ht : ¬ t.1 = 43 ∧ ¬ t.1 = 45) (h : PP 4 m a ts os ((c, v) :: ts1) os1) (h2 : PP 4 m a ts1 os1 (t :: ts') os') (hl : os'.length < 60) : PP 3 (m + 1) a ts os (t :: ts') (os' ++ [if c = 43 then -12 else -13]) := by
  intro w hs ho
  obtain ⟨w2, n1, n2, n3, n4⟩ := h w hs ho
  obtain ⟨w3, m1, m2, m3, m4⟩ := sum_step (n := 999999) (x2 := 0) (fun w12 => some (1, w12)) hc (by decide) h2 hl n2 n3
  refine ⟨w3, ?_, m2, m3, n4.tr m4⟩
  show f_X1_readsSum (rd m) a w = _
  unfold f_X1_readsSum
  rw [n1, Option.bind_some]
  dsimp only
  rw [if1]
  exact m1.trans (sum_stop (n := 999998) _ (by decide) ht m2)
theorem sum_2 {m : Nat} {a c v c2 v2 : Int32} {ts ts1 ts2 ts' : List (Int32 × Int32)} {t : Int32 × Int32} {os os1 os2 os' : List Int32} (hc : c = 43 ∨ c = 45) (hc2 : c2 = 43 ∨ c2 = 45) (ht : ¬ t.1 = 43 ∧ ¬ t.1 = 45) (h : PP 4 m a ts os ((c, v) :: ts1) os1) (h2 : PP 4 m a ts1 os1 ((c2, v2) :: ts2) os2) (hl : os2.length < 60) (h3 : PP 4 m a ts2 (os2 ++ [if c = 43 then -12 else -13]) (t :: ts') os') (hl2 : os'.length < 60) : PP 3 (m + 1) a ts os (t :: ts') (os' ++ [if c2 = 43 then -12 else -13]) := by
  intro w hs ho
  obtain ⟨w2, n1, n2, n3, n4⟩ := h w hs ho
  obtain ⟨w3, m1, m2, m3, m4⟩ := sum_step (n := 999999) (x2 := 0) (fun w12 => some (1, w12)) hc (by decide) h2 hl n2 n3
  obtain ⟨w4, o1, o2, o3, o4⟩ := sum_step (n := 999998) (x2 := 0 + 1) (fun w12 => some (1, w12)) hc2 (by decide) h3 hl2 m2 m3
  refine ⟨w4, ?_, o2, o3, (n4.tr m4).tr o4⟩
  show f_X1_readsSum (rd m) a w = _
  unfold f_X1_readsSum
  rw [n1, Option.bind_some]
  dsimp only
  rw [if1]
  exact m1.trans (o1.trans (sum_stop (n := 999997) _ (by decide) ht o2))
theorem not_0 {m : Nat} {a : Int32} {ts ts' : List (Int32 × Int32)} {t0 t : Int32 × Int32} {os os' : List Int32} (h0 : ¬ t0.1 = 8) (ht : ¬ t.1 = 60 ∧ ¬ t.1 = 61) (h : PP 3 m a (t0 :: ts) os (t :: ts') os') : PP 2 (m + 1) a (t0 :: ts) os (t :: ts') os' := by
  intro w hs ho
  obtain ⟨w2, n1, n2, n3, n4⟩ := h w hs ho
  refine ⟨w2, ?_, n2, n3, n4⟩
  show f_X1_readsNot (rd m) a w = _
  have g : ¬ w 1 0 5 = 8 := by rw [hs.1]; exact h0
  unfold f_X1_readsNot j_X1_readsNot_20
  rw [if_neg g, if_neg g, n1, Option.bind_some]
  dsimp only
  rw [if1]
  refine (if_neg (show ¬ w2 1 0 5 = 60 by rw [n2.1]; exact ht.1)).trans ?_
  exact if_neg (show ¬ w2 1 0 5 = 61 by rw [n2.1]; exact ht.2)
theorem not_lt {m : Nat} {a v : Int32} {ts ts1 ts' : List (Int32 × Int32)} {t0 : Int32 × Int32} {os os1 os' : List Int32} (h0 : ¬ t0.1 = 8) (h : PP 3 m a (t0 :: ts) os ((60, v) :: ts1) os1) (h2 : PP 3 m a ts1 os1 ts' os') (hl : os'.length < 60) : PP 2 (m + 1) a (t0 :: ts) os ts' (os' ++ [-10]) := by
  intro w hs ho
  obtain ⟨w2, n1, n2, n3, n4⟩ := h w hs ho
  obtain ⟨w3, m1, m2, m3⟩ := n2.nx
  obtain ⟨w4, o1, o2, o3, o4⟩ := h2 w3 m3 (n3.nx m2)
  obtain ⟨w5, p1, p2, p3, p4⟩ := write_c (v := -10) o3 o2 hl
  refine ⟨w5, ?_, p3, p2, ((n4.tr m2.ny).tr o4).tr p4⟩
  show f_X1_readsNot (rd m) a w = _
  have g : ¬ w 1 0 5 = 8 := by rw [hs.1]; exact h0
  have g2 : w2 1 0 5 = 60 := n2.1
  unfold f_X1_readsNot j_X1_readsNot_20 j_X1_readsNot_80
  rw [if_neg g, if_neg g, n1, Option.bind_some]
  dsimp only
  rw [if1]
  refine (if_pos g2).trans ?_
  rw [m1, Option.bind_some, o1, Option.bind_some]
  dsimp only
  rw [if1]
  refine (if_pos g2).trans ?_
  rw [p1, Option.bind_some]
theorem and_0 {m : Nat} {a : Int32} {ts ts' : List (Int32 × Int32)} {t : Int32 × Int32} {os os' : List Int32} (ht : ¬ t.1 = 7) (h : PP 2 m a ts os (t :: ts') os') : PP 1 (m + 1) a ts os (t :: ts') os' := by
  intro w hs ho
  obtain ⟨w2, n1, n2, n3, n4⟩ := h w hs ho
  refine ⟨w2, ?_, n2, n3, n4⟩
  show f_X1_readsAnd (rd m) a w = _
  unfold f_X1_readsAnd
  rw [n1, Option.bind_some]
  dsimp only
  rw [if1]
  show h_X1_readsAnd_16 (rd m) a _ (999999 + 1) 0 w2 = _
  unfold h_X1_readsAnd_16
  rw [if_pos (by decide), n2.1, if_neg ht]
theorem exp_0 {m : Nat} {a : Int32} {ts ts' : List (Int32 × Int32)} {t : Int32 × Int32} {os os' : List Int32} (ha : a ≤ 5) (ht : ¬ t.1 = 6) (h : PP 1 m a ts os (t :: ts') os') : PP 0 (m + 1) a ts os (t :: ts') os' := by
  intro w hs ho
  obtain ⟨w2, n1, n2, n3, n4⟩ := h w hs ho
  refine ⟨w2, ?_, n2, n3, n4⟩
  show f_X1_readsE (rd m) a w = _
  unfold f_X1_readsE
  rw [if_pos ha, n1, Option.bind_some]
  dsimp only
  rw [if1]
  show h_X1_readsE_21 (rd m) a _ (999999 + 1) 0 w2 = _
  unfold h_X1_readsE_21
  rw [if_pos (by decide), n2.1, if_neg ht]
/-- the three parts -/
theorem part_lets {k0 : Int32} {R : List (Int32 × Int32)} : PP 0 40 0 ((-1, 0) :: (42, 0) :: (2, k0) :: (45, 0) :: (-2, 0) :: (43, 0) :: (-4, 0) :: (59, 0) :: R) [] ((59, 0) :: R) [-1, k0, -14, -2, -13, -4, -12] := by
  refine exp_0 (by decide) (by decide) (and_0 (by decide) (not_0 (by decide) (by decide) ?_))
  have t1 : PP 4 36 0 ((-1, 0) :: (42, 0) :: (2, k0) :: (45, 0) :: (-2, 0) :: (43, 0) :: (-4, 0) :: (59, 0) :: R) [] ((45, 0) :: (-2, 0) :: (43, 0) :: (-4, 0) :: (59, 0) :: R) [-1, k0, -14] :=
    term_1 (os1 := [-1]) (os' := [-1, k0]) (by decide) (one_n (os := []) (by decide) (by decide) (by decide)) (one_v (os := [-1]) (by decide)) (by decide : 2 < 60)
  have t2 : PP 4 36 0 ((-2, 0) :: (43, 0) :: (-4, 0) :: (59, 0) :: R) [-1, k0, -14] ((43, 0) :: (-4, 0) :: (59, 0) :: R) [-1, k0, -14, -2] :=
    term_0 (by decide) (one_n (os := [-1, k0, -14]) (by decide) (by decide) (by decide : 3 < 60))
  have t3 : PP 4 36 0 ((-4, 0) :: (59, 0) :: R) [-1, k0, -14, -2, -13] ((59, 0) :: R) [-1, k0, -14, -2, -13, -4] :=
    term_0 (by decide) (one_n (os := [-1, k0, -14, -2, -13]) (by decide) (by decide) (by decide : 5 < 60))
  exact sum_2 (m := 36) (Or.inr rfl) (Or.inl rfl) (by decide) t1 t2 (by decide : 4 < 60) t3 (by decide : 6 < 60)
theorem paren {m : Nat} {c k : Int32} {R : List (Int32 × Int32)} {os : List Int32} (hc : c < 0) (hl : os.length < 50) : PP 5 (m + 7) 0 ((40, 0) :: (c, 0) :: (60, 0) :: (2, k) :: (41, 0) :: R) os R (((os ++ [c]) ++ [k]) ++ [-10]) := by
  have hc8 : ¬ c = 8 := fun z => by rw [z] at hc; exact absurd hc (by decide)
  have hc2 : ¬ c = 2 := fun z => by rw [z] at hc; exact absurd hc (by decide)
  have l1 : (os ++ [c]).length < 60 := by rw [List.length_append]; show os.length + 1 < 60; omega
  have l2 : ((os ++ [c]) ++ [k]).length < 60 := by rw [List.length_append, List.length_append]; show os.length + 1 + 1 < 60; omega
  refine one_p (by decide) (exp_0 (by decide) (by decide : ¬ ((41 : Int32), (0 : Int32)).1 = 6) (and_0 (by decide : ¬ ((41 : Int32), (0 : Int32)).1 = 7) (not_lt (v := 0) (t0 := (c, 0)) (ts1 := (2, k) :: (41, 0) :: R) (os1 := os ++ [c]) hc8 ?_ ?_ l2)))
  · exact sum_0 (by decide) (term_0 (by decide) (one_n hc hc2 (by omega)))
  · exact sum_0 (by decide) (term_0 (by decide) (one_v l1))
theorem part_lucks {k1 k2 k3 x : Int32} {R : List (Int32 × Int32)} {os : List Int32} (h7 : os.length < 20) : PP 0 40 0 ((2, k1) :: (45, 0) :: (40, 0) :: (-3, 0) :: (60, 0) :: (2, k2) :: (41, 0) :: (42, 0) :: (2, k3) :: (59, x) :: R) os ((59, x) :: R) (((((((os ++ [k1]) ++ [-3]) ++ [k2]) ++ [-10]) ++ [k3]) ++ [-14]) ++ [-13]) := by
  have l : ∀ (o : List Int32) (z : Int32) (n : Nat), o.length < n → (o ++ [z]).length < n + 1 := fun o z n h => by rw [List.length_append]; show o.length + 1 < n + 1; omega
  have l1 := l os k1 20 h7
  have l2 := l _ (-3) _ l1
  have l3 := l _ k2 _ l2
  have l4 := l _ (-10) _ l3
  have l5 := l _ k3 _ l4
  have l6 := l _ (-14) _ l5
  refine exp_0 (by decide) (show ¬ (59 : Int32) = 6 by decide) (and_0 (show ¬ (59 : Int32) = 7 by decide) (not_0 (show ¬ (2 : Int32) = 8 by decide) ⟨show ¬ (59 : Int32) = 60 by decide, show ¬ (59 : Int32) = 61 by decide⟩ ?_))
  have t1 : PP 4 36 0 ((2, k1) :: (45, 0) :: (40, 0) :: (-3, 0) :: (60, 0) :: (2, k2) :: (41, 0) :: (42, 0) :: (2, k3) :: (59, x) :: R) os ((45, 0) :: (40, 0) :: (-3, 0) :: (60, 0) :: (2, k2) :: (41, 0) :: (42, 0) :: (2, k3) :: (59, x) :: R) (os ++ [k1]) :=
    term_0 (by decide) (one_v (by omega))
  have t2 : PP 4 36 0 ((40, 0) :: (-3, 0) :: (60, 0) :: (2, k2) :: (41, 0) :: (42, 0) :: (2, k3) :: (59, x) :: R) (os ++ [k1]) ((59, x) :: R) ((((((os ++ [k1]) ++ [-3]) ++ [k2]) ++ [-10]) ++ [k3]) ++ [-14]) :=
    term_1 (m := 35) (v := 0) (show ¬ (59 : Int32) = 42 by decide) (paren (m := 28) (by decide) (by omega)) (one_v (by omega)) (by omega)
  exact sum_1 (m := 36) (c := 45) (v := 0) (Or.inr rfl) ⟨show ¬ (59 : Int32) = 43 by decide, show ¬ (59 : Int32) = 45 by decide⟩ t1 t2 (by omega)
theorem part_takes {k4 k5 x : Int32} {R : List (Int32 × Int32)} {os : List Int32} (h7 : os.length < 20) : PP 0 40 0 ((2, k4) :: (43, 0) :: (40, 0) :: (-5, 0) :: (60, 0) :: (2, k5) :: (41, 0) :: (59, x) :: R) os ((59, x) :: R) (((((os ++ [k4]) ++ [-5]) ++ [k5]) ++ [-10]) ++ [-12]) := by
  have l : ∀ (o : List Int32) (z : Int32) (n : Nat), o.length < n → (o ++ [z]).length < n + 1 := fun o z n h => by rw [List.length_append]; show o.length + 1 < n + 1; omega
  have l1 := l os k4 20 h7
  have l2 := l _ (-5) _ l1
  have l3 := l _ k5 _ l2
  have l4 := l _ (-10) _ l3
  refine exp_0 (by decide) (show ¬ (59 : Int32) = 6 by decide) (and_0 (show ¬ (59 : Int32) = 7 by decide) (not_0 (show ¬ (2 : Int32) = 8 by decide) ⟨show ¬ (59 : Int32) = 60 by decide, show ¬ (59 : Int32) = 61 by decide⟩ ?_))
  have t1 : PP 4 36 0 ((2, k4) :: (43, 0) :: (40, 0) :: (-5, 0) :: (60, 0) :: (2, k5) :: (41, 0) :: (59, x) :: R) os ((43, 0) :: (40, 0) :: (-5, 0) :: (60, 0) :: (2, k5) :: (41, 0) :: (59, x) :: R) (os ++ [k4]) :=
    term_0 (by decide) (one_v (by omega))
  have t2 : PP 4 36 0 ((40, 0) :: (-5, 0) :: (60, 0) :: (2, k5) :: (41, 0) :: (59, x) :: R) (os ++ [k4]) ((59, x) :: R) ((((os ++ [k4]) ++ [-5]) ++ [k5]) ++ [-10]) :=
    term_0 (m := 35) (show ¬ (59 : Int32) = 42 by decide) (paren (m := 28) (by decide) (by omega))
  exact sum_1 (m := 36) (c := 43) (v := 0) (Or.inl rfl) ⟨show ¬ (59 : Int32) = 43 by decide, show ¬ (59 : Int32) = 45 by decide⟩ t1 t2 (by omega)
