/-! what is owed stands: the start, and all calls
-/
theorem owedS : OwedS (fun w => R w w) := by
  obtain ⟨z0, z4, z5, z7, z10, z11, z12⟩ := w0_5
  obtain ⟨k2, k3, k4, k5, t1, r1, im, e0, e1, e2, c0, c1, c2⟩ := w0_c
  obtain ⟨q1, q2, q3, q4, q5, q6, q7, q8, q9, q10, q11, q12, q13, q14, q15, q16, q17, q18, q19, q20, q21⟩ := tk0
  have hTr : TpR T0 32 W0 := ⟨by omega, z7, w0_tape, w0_words⟩
  have hr0 : RB T0 32 0 0 [] (up (up W0 5 0 19 0) 5 0 27 0) :=
    ⟨(hTr.up (by decide)).up (by decide), by rw [up_j (by decide), up_s]; rfl, up_s _ _ _ _ _, by rw [up_j (by decide), up_j (by decide)]; exact z10, fun j hj => absurd hj (Nat.not_lt_zero j)⟩
  obtain ⟨w1, x1, x2, x3, x4, x5⟩ := eval_part (p := 0) (b := 4) (d := 10) (cc := 0) (by omega) (by omega) (by omega) hr0 (by omega) (by decide) q1 q2 (by omega) (Or.inr ⟨by rw [q3]; decide, by rw [q3]; decide⟩) q4 (by omega) q5 999998
  rw [q6] at x2
  obtain ⟨w2, y1, y2, y3, y4, y5⟩ := eval_part (p := 1) (b := 18) (d := 20) (cc := 100005) (by omega) (by omega) (by omega) x2 (by omega) (by decide) q7 q8 (by omega) (Or.inl ⟨q9, by rw [q10]; decide⟩) q11 (by omega) q12 999997
  rw [q13] at y2
  obtain ⟨w3, u1, u2, u3, u4, u5⟩ := eval_part (p := 2) (b := 28) (d := 30) (cc := 100002) (by omega) (by omega) (by omega) y2 (by omega) (by decide) q14 q15 (by omega) (Or.inl ⟨q16, by rw [q17]; decide⟩) q18 (by omega) q19 999996
  rw [q20] at u2
  obtain ⟨hT3, h19, h27, h10, h24⟩ := u2
  obtain ⟨r4, f1, f2, f3, f4, -, f6⟩ := next_r hT3 (by omega) h19
  have h104 : r4 5 0 10 = nI 0 := (f6 5 0 10 (by decide)).trans h10
  have fr0 : FrY 0 W0 (up (up W0 5 0 19 0) 5 0 27 0) := fun x y z hx hy hz hu => by
    rw [up_n (fun q => hx ⟨q.1, q.2.1, by omega, by omega⟩), up_n (fun q => hx ⟨q.1, q.2.1, by omega, by omega⟩)]
  have fr : FrY 0 W0 r4 := (((fr0.tr x5).tr y5).tr u5).tr f6.x.y
  have hk2 : h_X5_text_26 K101 (999996 + 1) 1 (nI (2 + 1)) w3 = K101 1 w3 := by
    unfold h_X5_text_26
    rw [if_neg (show ¬ nI (2 + 1) < 3 by decide)]
  have hgo : f_X5_text W0 = some (nI 0, up (up (up r4 25 0 (4 * 0 + 3) (r4 5 0 27)) 5 0 7 0) 5 0 10 (nI (0 + 1))) := by
    unfold f_X5_text
    rw [z10, if_neg (show ¬ (0 : Int32) = 6 by decide)]
    have eK : h_X5_text_26 (fun x1_11 w12 => j_X5_text_101 x1_11 w12) FU 1 0 (up (up W0 5 0 19 0) 5 0 27 0) = h_X5_text_26 K101 (999998 + 2) 1 (nI 0) (up (up W0 5 0 19 0) 5 0 27 0) := by
      unfold K101
      rfl
    rw [eK, x1]
    have y1' : h_X5_text_26 K101 (999998 + 1) 1 (nI (0 + 1)) w1 = h_X5_text_26 K101 (999997 + 1) 1 (nI (1 + 1)) w2 := y1
    have u1' : h_X5_text_26 K101 (999997 + 1) 1 (nI (1 + 1)) w2 = h_X5_text_26 K101 (999996 + 1) 1 (nI (2 + 1)) w3 := u1
    rw [y1', u1', hk2]
    unfold K101 j_X5_text_101 j_X5_text_121
    rw [if_neg (show ¬ (1 : Int32) = 0 by decide), f1, ob, f2, if_pos (show RT (TK T0 32 32) = 0 by rw [q21]; rfl)]
    exact good_r (by omega) h104
  refine ⟨_, hgo, ?_⟩
  show R (up (up (up r4 25 0 (4 * 0 + 3) (r4 5 0 27)) 5 0 7 0) 5 0 10 (nI (0 + 1))) (up (up (up r4 25 0 (4 * 0 + 3) (r4 5 0 27)) 5 0 7 0) 5 0 10 (nI (0 + 1)))
  generalize hw : up (up (up r4 25 0 (4 * 0 + 3) (r4 5 0 27)) 5 0 7 0) 5 0 10 (nI (0 + 1)) = w
  have o : ∀ x y z, x ≠ 5 → x ≠ 33 → x ≠ 24 → x ≠ 25 → w x y z = W0 x y z := fun x y z h5 h33 h24 h25 => by
    rw [← hw, up_k h5, up_k h5, up_k h25]
    exact fr x y z (by omega) h33 (by omega) (by omega)
  have o5 : ∀ c, c ≠ 7 → c ≠ 10 → c < 19 → w 5 0 c = W0 5 0 c := fun c h7 h10 h19 => by
    rw [← hw, up_j h10, up_j h7, up_k (by decide)]
    exact fr 5 0 c (by omega) (by omega) (by omega) (by omega)
  have o7 : w 5 0 7 = 0 := by rw [← hw, up_j (by decide), up_s]
  have o10 : w 5 0 10 = nI 1 := by rw [← hw]; exact up_s _ _ _ _ _
  have o24 : ∀ j, j < 3 → w 24 0 j = [0, 100005, 100002].getD j 0 := fun j hj => by
    rw [← hw, up_k (by decide), up_k (by decide), up_k (by decide), f6 24 0 j (by omega)]
    have := h24 j hj
    rw [show 200 * 0 + j = j by omega] at this
    exact this
  have o250 : w 25 0 0 = 0 := by
    rw [← hw, up_k (by decide), up_k (by decide), up_j (by decide), f6 25 0 0 (by omega), u4 0 (by omega), y4 0 (by omega)]
    exact x3
  have o251 : w 25 0 1 = nI 1 := by
    rw [← hw, up_k (by decide), up_k (by decide), up_j (by decide), f6 25 0 1 (by omega), u4 1 (by omega)]
    exact y3
  have o252 : w 25 0 2 = nI 2 := by
    rw [← hw, up_k (by decide), up_k (by decide), up_j (by decide), f6 25 0 2 (by omega)]
    exact u3
  have o253 : w 25 0 3 = nI 3 := by
    rw [← hw, up_k (by decide), up_k (by decide), up_s, f6 5 0 27 (by decide)]
    exact h27
  refine ⟨0, 1, fun _ q => if q = 0 then [-1] else if q = 1 then [5] else [2], ⟨⟨by omega, ?_, ?_, ?_, ?_, ?_, ?_, fun p hp => by omega⟩, ⟨by omega, ?_, o10, fun t ht => ?_⟩, ⟨0, by omega, ?_⟩⟩, ⟨0, by omega, ?_⟩, fun s hs => ?_, ⟨0, by omega, ?_, o7, fun k hk => by omega, fun c hc => ?_⟩, fun p hp => by omega, ?_, Or.inl ?_⟩
  · rw [o 0 0 2 (by omega) (by omega) (by omega) (by omega), k2]; rfl
  · rw [o5 0 (by omega) (by omega) (by omega), z0]; rfl
  · rw [o 0 0 3 (by omega) (by omega) (by omega) (by omega), o5 4 (by omega) (by omega) (by omega), k3, z4]
  · rw [o5 4 (by omega) (by omega) (by omega), z4]; exact .zero
  · rw [o 0 0 4 (by omega) (by omega) (by omega) (by omega), o5 5 (by omega) (by omega) (by omega), k4, z5]
  · rw [o 0 0 5 (by omega) (by omega) (by omega) (by omega), o5 11 (by omega) (by omega) (by omega), k5, z11]
  · rw [o 3 0 0 (by omega) (by omega) (by omega) (by omega), t1]; rfl
  · have et : t = 0 := by omega
    subst et
    refine ⟨by decide, fun q hq => ?_⟩
    have n6 : ∀ c, w 6 0 c = W0 6 0 c := fun c => o 6 0 c (by omega) (by omega) (by omega) (by omega)
    have n7 : ∀ c, w 7 0 c = W0 7 0 c := fun c => o 7 0 c (by omega) (by omega) (by omega) (by omega)
    match q, hq with
    | 0, _ =>
      refine ⟨(n7 0).trans e0, fun j hj => ?_, o250, o251, fun j hj => ?_, by show okC [-1] 0; simp only [okC]; decide⟩
      · have hj0 : j = 0 := Nat.lt_one_iff.mp hj
        subst hj0
        exact (n6 0).trans c0
      · have hj0 : j = 0 := Nat.lt_one_iff.mp hj
        subst hj0
        exact o24 0 (by omega)
    | 1, _ =>
      refine ⟨(n7 1).trans e1, fun j hj => ?_, o251, o252, fun j hj => ?_, by show okC [5] 0; simp only [okC]; decide⟩
      · have hj0 : j = 0 := Nat.lt_one_iff.mp hj
        subst hj0
        exact (n6 1).trans c1
      · have hj0 : j = 0 := Nat.lt_one_iff.mp hj
        subst hj0
        exact o24 1 (by omega)
    | 2, _ =>
      refine ⟨(n7 2).trans e2, fun j hj => ?_, o252, o253, fun j hj => ?_, by show okC [2] 0; simp only [okC]; decide⟩
      · have hj0 : j = 0 := Nat.lt_one_iff.mp hj
        subst hj0
        exact (n6 2).trans c2
      · have hj0 : j = 0 := Nat.lt_one_iff.mp hj
        subst hj0
        exact o24 2 (by omega)
  · rw [o5 11 (by omega) (by omega) (by omega), z11]; rfl
  · rw [o5 5 (by omega) (by omega) (by omega), z5]; rfl
  · obtain ⟨g1, g2, g3, g4, g5⟩ := w0_s s hs
    rw [o 2 s 0 (by omega) (by omega) (by omega) (by omega), o 2 s 1 (by omega) (by omega) (by omega) (by omega), o 28 0 s (by omega) (by omega) (by omega) (by omega), o 29 0 s (by omega) (by omega) (by omega) (by omega), g1, g2, g3, g4]
    refine ⟨rfl, rfl, ⟨0, by omega, rfl⟩, fun k hk => ?_⟩
    rw [o 19 s k (by omega) (by omega) (by omega) (by omega), o 30 0 _ (by omega) (by omega) (by omega) (by omega), (g5 k hk).1, (g5 k hk).2]
  · rw [o 1 0 1 (by omega) (by omega) (by omega) (by omega), r1]; rfl
  · rw [o 32 0 c (by omega) (by omega) (by omega) (by omega)]; exact w0_words c hc
  · rw [o 4 0 5 (by omega) (by omega) (by omega) (by omega), o5 12 (by omega) (by omega) (by omega), im, z12]
  · rw [o5 12 (by omega) (by omega) (by omega), z12]
theorem owed : Owed (fun w => R w w) :=
  ⟨fun a1 => (b_count a1).own, fun a1 a2 => (b_shore a1 a2).own, fun a1 a2 a3 a4 a5 a6 => (b_feed a1 a2 a3 a4 a5 a6).own, b_text.own, fun a1 => (b_force a1).own, fun a1 a2 a3 => (b_asks a1 a2 a3).own, fun a1 a2 => (b_fisher a1 a2).own, fun a1 a2 a3 => (b_put a1 a2 a3).own, fun a1 a2 => (b_told a1 a2).own, fun a1 a2 a3 => (b_lands a1 a2 a3).own, fun a1 a2 => (b_land a1 a2).own, fun a1 a2 => (b_teach a1 a2).own, b_tide.own, fun a1 a2 => (b_talk a1 a2).own, fun a1 a2 a3 => (b_season a1 a2 a3).own, fun a1 a2 => (b_fish a1 a2).own, fun a1 a2 => (b_which a1 a2).own, fun a1 a2 => (b_taught a1 a2).own, fun a1 a2 a3 => (b_lessons a1 a2 a3).own, fun a1 => (b_when a1).own, fun a1 a2 => (b_share a1 a2).own, fun a1 a2 a3 => (b_judge a1 a2 a3).own, fun a1 a2 a3 a4 => (b_kinds a1 a2 a3 a4).own, fun a1 a2 a3 => (b_turned a1 a2 a3).own, fun a1 a2 a3 a4 => (b_lucks a1 a2 a3 a4).own, fun a1 a2 => (b_whose a1 a2).own, fun a1 a2 a3 => (b_laws a1 a2 a3).own, fun a1 a2 a3 => (b_film a1 a2 a3).own, fun a1 a2 a3 => (b_drawn a1 a2 a3).own, fun a1 a2 a3 a4 => (b_odds a1 a2 a3 a4).own, b_image.own, b_back.own, fun a1 a2 a3 => (b_sheet a1 a2 a3).own, fun a1 a2 a3 => (b_cell a1 a2 a3).own, fun a1 a2 a3 a4 a5 => (b_copy a1 a2 a3 a4 a5).own, fun a1 a2 a3 a4 => (b_fishersBy a1 a2 a3 a4).own, fun a1 a2 => (b_taken a1 a2).own⟩
