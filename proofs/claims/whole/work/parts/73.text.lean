/-! a text: both sides -/
theorem R.tx {N M M' : Nat} {CC CC' : Nat → Nat → List Int32} {wc wr wc' wr' : Mem} (hB : Bo 0 N M CC wc wr) (hT : TB (wr 5 0 5)) (hS : SR wc wr) (hP : PR wc wr) (hI : IR N M wc wr) (hTR : TR M' CC' wc' wr') (hM : M ≤ M') (hc : ∀ x y z, (x = 0 ∨ x = 2 ∨ x = 4 ∨ (13 ≤ x ∧ x ≤ 17) ∨ x = 19) → wc' x y z = wc x y z) (h1 : wc' 1 0 1 = 0) (h5 : ∀ c, (c = 0 ∨ c = 4 ∨ c = 5 ∨ c = 11 ∨ c = 12) → wr' 5 0 c = wr 5 0 c) (h7 : wr' 5 0 7 = 0) (hr : ∀ x z, (x = 20 ∨ x = 21 ∨ x = 22 ∨ (26 ≤ x ∧ x ≤ 30) ∨ x = 32) → wr' x 0 z = wr x 0 z) : R wc' wr' := by
  refine ⟨N, M', CC', ⟨hB.1.of (fun c => hc 0 0 c (by omega)) (fun a c ha => hc a 0 c (by omega)) (fun c h => h5 c (by omega)) (fun c _ => hr 22 c (by omega)) (fun c => hr 20 c (by omega)) (fun c => hr 21 c (by omega)), hTR, ?_⟩, by rw [h5 5 (by omega)]; exact hT, hS.of (fun s c => hc 2 s c (by omega)) (fun s c => hc 19 s c (by omega)) (fun a c h1 h2 => hr a c (by omega)), ⟨0, by omega, h1, h7, fun k hk => by omega, ?_⟩, hI.of (Nat.le_refl _) hM (hc 4 0 5 (by omega)) (h5 12 (by omega)) (fun c => hc 0 2 c (by omega)) (fun a c ha => hc a 2 c (by omega)) (fun c => hr 26 c (by omega)) (fun c => hr 27 c (by omega)) (fun c _ => hr 20 c (by omega)) (fun c _ => hr 21 c (by omega))⟩
  · obtain ⟨t, ht, e⟩ := hB.2.2
    exact ⟨t, by omega, by rw [h5 11 (by omega)]; exact e⟩
  · obtain ⟨n, -, -, -, -, h32⟩ := hP
    exact fun c h => (hr 32 c (by omega)).trans (h32 c h)
theorem TxR.of2 {t : Nat} {C : Nat → List Int32} {wc wr wc' wr' : Mem} (h : TxR t C wc wr) (h6 : ∀ c, c < 160 * t + 160 → wc' 6 0 c = wc 6 0 c) (h7 : ∀ c, c < 3 * t + 3 → wc' 7 0 c = wc 7 0 c) (h24 : ∀ c, c < 200 * t + 200 → wr' 24 0 c = wr 24 0 c) (h25 : ∀ c, c < 4 * t + 4 → wr' 25 0 c = wr 25 0 c) : TxR t C wc' wr' := by
  refine ⟨h.1, fun q hq => ?_⟩
  obtain ⟨g1, g2, g3, g4, g5, g6⟩ := h.2 q hq
  have h1 := h.1
  have hle := off_le (C := C) hq
  have e7 : off C (q + 1) = off C q + (C q).length := rfl
  exact ⟨by rw [h7 _ (by omega)]; exact g1, fun j hj => by rw [h6 _ (by omega)]; exact g2 j hj, by rw [h25 _ (by omega)]; exact g3, by rw [h25 _ (by omega)]; exact g4, fun j hj => by rw [h24 _ (by omega)]; exact g5 j hj, g6⟩
theorem add_c {t : Nat} (ht : t < 6) {w : Mem} (h3 : w 3 0 0 = nI t) : ∃ w', f_X3_add w = some (nI t, w') ∧ (∀ i, i < 160 → w' 6 0 (160 * t + i) = w 10 0 i) ∧ (∀ q, q < 3 → w' 7 0 (3 * t + q) = nI (160 * t) + w 11 0 q) ∧ w' 3 0 0 = nI (t + 1) ∧ ∀ x y z, ¬ (x = 6 ∧ y = 0 ∧ 160 * t ≤ z) → ¬ (x = 7 ∧ y = 0 ∧ 3 * t ≤ z) → ¬ (x = 3 ∧ y = 0 ∧ z = 0) → w' x y z = w x y z := by
  have m160 : nI t * 160 = nI (160 * t) := by rw [show (160 : Int32) = nI 160 from rfl, nI_mul, Nat.mul_comm]
  have m3' : nI t * 3 = nI (3 * t) := by rw [show (3 : Int32) = nI 3 from rfl, nI_mul, Nat.mul_comm]
  have loop1 : ∀ (k : Mem → Option (Int32 × Mem)) (r q m : Nat) (w1 : Mem), q + r = 160 → r < m → (∀ i, i < q → w1 6 0 (160 * t + i) = w 10 0 i) → (∀ x y z, ¬ (x = 6 ∧ y = 0 ∧ 160 * t ≤ z) → w1 x y z = w x y z) → ∃ w', h_X3_add_8 (nI t) k m (nI q) w1 = k w' ∧ (∀ i, i < 160 → w' 6 0 (160 * t + i) = w 10 0 i) ∧ (∀ x y z, ¬ (x = 6 ∧ y = 0 ∧ 160 * t ≤ z) → w' x y z = w x y z) := by
    intro k r
    induction r with
    | zero =>
      intro q m w1 hq hm h1 h2
      obtain ⟨m, rfl⟩ : ∃ y, m = y + 1 := ⟨m - 1, by omega⟩
      have e : q = 160 := by omega
      subst e
      refine ⟨w1, ?_, h1, h2⟩
      unfold h_X3_add_8
      rw [if_neg (show ¬ nI 160 < 160 by decide)]
    | succ r ih =>
      intro q m w1 hq hm h1 h2
      obtain ⟨m, rfl⟩ : ∃ y, m = y + 1 := ⟨m - 1, by omega⟩
      unfold h_X3_add_8
      rw [if_pos (show nI q < 160 from nI_lt (b := 160) (by omega) (by omega)), m160, nI_add, nI_1, atV_n w1 0 (show q < lenK 10 by show q < 160; omega) (by decide), setV_n w1 0 _ (show 160 * t + q < lenK 6 by show _ < 960; omega) (by decide), h2 10 0 q (by omega)]
      refine ih (q + 1) m _ (by omega) (by omega) (fun i hi => ?_) (fun x y z hx => ?_)
      · by_cases e : i = q
        · subst e; exact up_s _ _ _ _ _
        · rw [up_j (by omega)]; exact h1 i (by omega)
      · rw [up_n (fun z => hx ⟨z.1, z.2.1, by omega⟩)]; exact h2 x y z hx
  have loop2 : ∀ (k : Mem → Option (Int32 × Mem)) (w0 : Mem) (r q m : Nat) (w1 : Mem), q + r = 3 → r < m → (∀ i, i < q → w1 7 0 (3 * t + i) = nI (160 * t) + w0 11 0 i) → (∀ x y z, ¬ (x = 7 ∧ y = 0 ∧ 3 * t ≤ z) → w1 x y z = w0 x y z) → ∃ w', h_X3_add_46 (nI t) k m (nI q) w1 = k w' ∧ (∀ i, i < 3 → w' 7 0 (3 * t + i) = nI (160 * t) + w0 11 0 i) ∧ (∀ x y z, ¬ (x = 7 ∧ y = 0 ∧ 3 * t ≤ z) → w' x y z = w0 x y z) := by
    intro k w0 r
    induction r with
    | zero =>
      intro q m w1 hq hm h1 h2
      obtain ⟨m, rfl⟩ : ∃ y, m = y + 1 := ⟨m - 1, by omega⟩
      have e : q = 3 := by omega
      subst e
      refine ⟨w1, ?_, h1, h2⟩
      unfold h_X3_add_46
      rw [if_neg (show ¬ nI 3 < 3 by decide)]
    | succ r ih =>
      intro q m w1 hq hm h1 h2
      obtain ⟨m, rfl⟩ : ∃ y, m = y + 1 := ⟨m - 1, by omega⟩
      unfold h_X3_add_46
      rw [if_pos (show nI q < 3 from nI_lt (b := 3) (by omega) (by omega)), m160, m3', nI_add, nI_1, atV_n w1 0 (show q < lenK 11 by show q < 3; omega) (by decide), setV_n w1 0 _ (show 3 * t + q < lenK 7 by show _ < 18; omega) (by decide), h2 11 0 q (by omega)]
      refine ih (q + 1) m _ (by omega) (by omega) (fun i hi => ?_) (fun x y z hx => ?_)
      · by_cases e : i = q
        · subst e; exact up_s _ _ _ _ _
        · rw [up_j (by omega)]; exact h1 i (by omega)
      · rw [up_n (fun z => hx ⟨z.1, z.2.1, by omega⟩)]; exact h2 x y z hx
  unfold f_X3_add
  rw [h3]
  obtain ⟨w2, a1, a2, a3⟩ := loop1 (fun w2 => h_X3_add_46 (nI t) (fun w4 => some (nI t, up w4 3 0 0 ((w4 3 0 0) + 1))) FU 0 w2) 160 0 FU w rfl (by show 160 < 1000000; omega) (fun i hi => by omega) (fun _ _ _ _ => rfl)
  obtain ⟨w4, b1, b2, b3⟩ := loop2 (fun w4 => some (nI t, up w4 3 0 0 ((w4 3 0 0) + 1))) w2 3 0 FU w2 rfl (by show 3 < 1000000; omega) (fun i hi => by omega) (fun _ _ _ _ => rfl)
  rw [show nI 0 = 0 from rfl] at a1 b1
  rw [a1, b1]
  refine ⟨_, rfl, fun i hi => ?_, fun q hq => ?_, ?_, fun x y z hx hy hz => ?_⟩
  · rw [up_k (by decide), b3 6 0 _ (by omega)]; exact a2 i hi
  · rw [up_k (by decide), b2 q hq, a3 11 0 q (by omega)]
  · rw [up_s, b3 3 0 0 (by omega), a3 3 0 0 (by omega), h3, nI_1]
  · rw [up_n hz, b3 x y z hy, a3 x y z hx]
theorem getD_l {L1 L2 : List Int32} {j : Nat} (h : j < L1.length) : (L1 ++ L2).getD j 0 = L1.getD j 0 := by
  rw [List.getD_eq_getElem?_getD, List.getD_eq_getElem?_getD, List.getElem?_append_left h]
theorem getD_r {L1 L2 : List Int32} {j : Nat} : (L1 ++ L2).getD (L1.length + j) 0 = L2.getD j 0 := by
  rw [List.getD_eq_getElem?_getD, List.getD_eq_getElem?_getD, List.getElem?_append_right (by omega), Nat.add_sub_cancel_left]
theorem getD_m {L : List Int32} {j : Nat} (h : j < L.length) : (L.map cmap).getD j 0 = cmap (L.getD j 0) := by
  rw [List.getD_eq_getElem?_getD, List.getD_eq_getElem?_getD, List.getElem?_map, List.getElem?_eq_getElem h]; rfl
theorem fail_r {t : Nat} (ht : t < 6) {w : Mem} (h10 : w 5 0 10 = nI t) {q : Nat} (h20 : w 5 0 20 = nI q) : j_X5_text_122 0 w = some (-100 - nI q, up (up w 25 0 (4 * t + 3) (w 5 0 27)) 5 0 7 0) := by
  have e : 4 * nI t + 3 = nI (4 * t + 3) := by rw [show (4 : Int32) = nI 4 from rfl, nI_mul]; exact nI_add _ 3
  unfold j_X5_text_122
  rw [h10, e, if_pos (nI_in (by omega) (by omega)), if_pos rfl, show tn (nI (4 * t + 3)) = 4 * t + 3 from nI_clamp (by omega), up_j (show (20 : Nat) ≠ 7 by decide), up_k (show (5 : Nat) ≠ 25 by decide), h20]
theorem good_r {t : Nat} (ht : t < 6) {w : Mem} (h10 : w 5 0 10 = nI t) : j_X5_text_122 1 w = some (nI t, up (up (up w 25 0 (4 * t + 3) (w 5 0 27)) 5 0 7 0) 5 0 10 (nI (t + 1))) := by
  have e : 4 * nI t + 3 = nI (4 * t + 3) := by rw [show (4 : Int32) = nI 4 from rfl, nI_mul]; exact nI_add _ 3
  unfold j_X5_text_122
  rw [h10, e, if_pos (nI_in (by omega) (by omega)), if_neg (show ¬ (1 : Int32) = 0 by decide), show tn (nI (4 * t + 3)) = 4 * t + 3 from nI_clamp (by omega), up_s, up_j (show (10 : Nat) ≠ 7 by decide), up_k (show (5 : Nat) ≠ 25 by decide), h10, nI_1, nI_pred]
/-- what is read, on both sides -/
theorem read_both {T : Nat → Int32} {n t : Nat} (hb : Byt T n) (hn : n ≤ 160) (ht : t < 6) {wc wr : Mem} (hc : TpC T n wc) (hr : TpR T n wr) (h10 : wr 5 0 10 = nI t) :
    (∃ (q : Nat) (wc2 wr2 : Mem), q ≤ n ∧ f_X1_faultOf wc = some (nI q, wc2) ∧ h_X5_text_26 K101 FU 1 0 (up (up wr 5 0 19 0) 5 0 27 0) = some (-100 - nI q, up (up wr2 25 0 (4 * t + 3) (wr2 5 0 27)) 5 0 7 0) ∧ FrT wc wc2 ∧ FrY t wr wr2) ∨
    (∃ (C : Nat → List Int32) (wc2 wr2 : Mem), f_X1_faultOf wc = some (-1, wc2) ∧ h_X5_text_26 K101 FU 1 0 (up (up wr 5 0 19 0) 5 0 27 0) = some (nI t, up (up (up wr2 25 0 (4 * t + 3) (wr2 5 0 27)) 5 0 7 0) 5 0 10 (nI (t + 1))) ∧ FrT wc wc2 ∧ FrY t wr wr2 ∧ off C 3 ≤ 160 ∧ wr2 5 0 27 = nI (off C 3) ∧ ∀ q, q < 3 → wc2 11 0 q = nI (off C (q + 1)) ∧ wr2 25 0 (4 * t + q) = nI (off C q) ∧ okC (C q) 0 ∧ ∀ j, j < (C q).length → wc2 10 0 (off C q + j) = (C q).getD j 0 ∧ wr2 24 0 (200 * t + (off C q + j)) = cmap ((C q).getD j 0)) := by
  have hT0 : TpC T n (up (up wc 1 0 3 0) 1 0 7 0) := hc.of (by rw [up_j (by decide), up_j (by decide)]) (fun c => by rw [up_k (by decide), up_k (by decide)])
  obtain ⟨w1, e1, e5, e6, e7, e8, ef⟩ := next_c (a := 0) hT0 hb (by omega) (up_s _ _ _ _ _)
  have hc0 : CSt T n 0 [] w1 := by
    refine ⟨hT0.of (ef 1 0 1 (by decide)) (fun c => ef 9 0 c (by omega)), by omega, ⟨e5, e6, e7, e8⟩, ?_, fun j hj => absurd hj (Nat.not_lt_zero j)⟩
    rw [ef 1 0 3 (by decide), up_j (by decide), up_s]; rfl
  have hr0 : RB T n t 0 (([] : List Int32).map cmap) (up (up wr 5 0 19 0) 5 0 27 0) :=
    ⟨(hr.up (by decide)).up (by decide), by rw [up_j (by decide), up_s]; rfl, up_s _ _ _ _ _, by rw [up_j (by decide), up_j (by decide)]; exact h10, fun j hj => absurd hj (Nat.not_lt_zero j)⟩
  have fc0 : FrT wc w1 := fun x y z hx hy hz => by
    rw [ef x y z (fun q => hx ⟨q.1, q.2.1, by omega⟩), up_n (fun q => hx ⟨q.1, q.2.1, by omega⟩), up_n (fun q => hx ⟨q.1, q.2.1, by omega⟩)]
  have fr0 : FrY t wr (up (up wr 5 0 19 0) 5 0 27 0) := fun x y z hx hy hz hu => by
    rw [up_n (fun q => hx ⟨q.1, q.2.1, by omega, by omega⟩), up_n (fun q => hx ⟨q.1, q.2.1, by omega, by omega⟩)]
  have hF : f_X1_faultOf wc = h_X1_faultOf_16 K84 FU 0 w1 := by
    unfold f_X1_faultOf
    rw [e1, ob]
    unfold K84
    rfl
  have bad : ∀ (q : Nat) (wc2 wr2 : Mem), q ≤ n → wr2 5 0 20 = nI q → FrY t wr wr2 → K101 0 wr2 = some (-100 - nI q, up (up wr2 25 0 (4 * t + 3) (wr2 5 0 27)) 5 0 7 0) := by
    intro q wc2 wr2 hq h20 hf
    unfold K101 j_X5_text_101
    rw [if_pos rfl]
    exact fail_r ht ((hf 5 0 10 (by omega) (by omega) (by omega) (by omega)).trans h10) h20
  have hFU : FU = 999999 + 1 := rfl
  have hFU2 : FU = 999998 + 2 := rfl
  rw [hF]
  have s1 := part_step hb hn ht (p := 0) (by omega) hc0 hr0 (Nat.le_refl 0) 999999 999998
  rw [show nI 0 = 0 from rfl, ← hFU] at s1
  rcases s1 with ⟨a1, C0, wc1, wr1, x1, x2, x3, x4, x5, x6, x7, x8, x9, x10, x11, x12⟩ | ⟨q, wc2, wr2, y1, y2, y3, y4, y5, y6⟩
  · rw [x1, x2]
    rw [List.nil_append] at x3 x4 x5 x7
    have s2 := part_step hb hn ht (p := 1) (by omega) x3 x4 x5 999998 999997
    rcases s2 with ⟨a2, C1, wc2, wr2, z1, z2, z3, z4, z5, z6, z7, z8, z9, z10, z11, z12⟩ | ⟨q, wc2, wr2, y1, y2, y3, y4, y5, y6⟩
    · rw [z1, z2]
      have s3 := part_step hb hn ht (p := 2) (by omega) z3 z4 z5 999997 999996
      rcases s3 with ⟨a3, C2, wc3, wr3, u1, u2, u3, u4, u5, u6, u7, u8, u9, u10, u11, u12⟩ | ⟨q, wc2, wr2, y1, y2, y3, y4, y5, y6⟩
      · rw [u1, u2]
        have fc := ((fc0.tr x11).tr z11).tr u11
        have fr := ((fr0.tr x12).tr z12).tr u12
        have hk : h_X1_faultOf_16 K84 999997 (nI (2 + 1)) wc3 = K84 wc3 := by
          rw [show (999997 : Nat) = 999996 + 1 from rfl]
          unfold h_X1_faultOf_16
          rw [if_neg (show ¬ nI (2 + 1) < 3 by decide)]
        have hk2 : h_X5_text_26 K101 (999996 + 1) 1 (nI (2 + 1)) wr3 = K101 1 wr3 := by
          unfold h_X5_text_26
          rw [if_neg (show ¬ nI (2 + 1) < 3 by decide)]
        have a3n := u3.2.1
        obtain ⟨hT3, h19, h27, h103, h24⟩ := u4
        obtain ⟨r4, f1, f2, f3, f4, -, f6⟩ := next_r hT3 a3n h19
        have f6y : FrY t wr3 r4 := f6.x.y
        have h104 : r4 5 0 10 = nI t := (f6 5 0 10 (by decide)).trans h103
        rw [hk, hk2]
        unfold K84 K101 j_X5_text_101 j_X5_text_121
        rw [if_neg (show ¬ (1 : Int32) = 0 by decide), f1, ob, f2, u3.2.2.1.1]
        by_cases h0 : TK T n a3 = 0
        · rw [if_pos h0, if_pos (show RT (TK T n a3) = 0 by rw [h0]; rfl), good_r ht h104]
          refine Or.inr ⟨fun q => if q = 0 then C0 else if q = 1 then C1 else C2, wc3, r4, rfl, rfl, fc, fr.tr f6y, ?_, ?_, ?_⟩
          · show 0 + C0.length + C1.length + C2.length ≤ 160
            rw [List.length_append, List.length_append] at u5
            omega
          · rw [f6 5 0 27 (by decide), h27]
            congr 1
            show _ = 0 + C0.length + C1.length + C2.length
            rw [List.length_map, List.length_append, List.length_append]; omega
          · have hCO := u3.2.2.2.2
            intro q hq
            match q, hq with
            | 0, _ =>
              refine ⟨?_, ?_, x6, fun j hj => ?_⟩
              · rw [u8 0 (by omega), z8 0 (by omega), x7]
                congr 1
                show _ = 0 + C0.length
                omega
              · rw [f6 25 0 _ (by omega), u10 _ (by omega), z10 _ (by omega), x9]; rfl
              · have hj0 : j < C0.length := hj
                show wc3 10 0 (0 + j) = C0.getD j 0 ∧ r4 24 0 (200 * t + (0 + j)) = cmap (C0.getD j 0)
                rw [Nat.zero_add, hCO j (by rw [List.length_append, List.length_append]; omega), f6 24 0 _ (by omega), h24 j (by rw [List.length_map, List.length_append, List.length_append]; omega), getD_m (by rw [List.length_append, List.length_append]; omega), getD_l (L1 := C0 ++ C1) (by rw [List.length_append]; omega), getD_l hj0]
                exact ⟨rfl, rfl⟩
            | 1, _ =>
              refine ⟨?_, ?_, z6, fun j hj => ?_⟩
              · rw [u8 1 (by omega), z7]
                congr 1
                show _ = 0 + C0.length + C1.length
                rw [List.length_append]; omega
              · rw [f6 25 0 _ (by omega), u10 _ (by omega), z9]
                congr 1
                show _ = 0 + C0.length
                omega
              · have hj0 : j < C1.length := hj
                show wc3 10 0 (0 + C0.length + j) = C1.getD j 0 ∧ r4 24 0 (200 * t + (0 + C0.length + j)) = cmap (C1.getD j 0)
                rw [Nat.zero_add, hCO _ (by rw [List.length_append, List.length_append]; omega), f6 24 0 _ (by omega), h24 _ (by rw [List.length_map, List.length_append, List.length_append]; omega), getD_m (by rw [List.length_append, List.length_append]; omega), getD_l (L1 := C0 ++ C1) (by rw [List.length_append]; omega), getD_r]
                exact ⟨rfl, rfl⟩
            | 2, _ =>
              refine ⟨?_, ?_, u6, fun j hj => ?_⟩
              · rw [u7]
                congr 1
                show _ = 0 + C0.length + C1.length + C2.length
                rw [List.length_append, List.length_append]; omega
              · rw [f6 25 0 _ (by omega), u9]
                congr 1
                show _ = 0 + C0.length + C1.length
                rw [List.length_append]; omega
              · have hj0 : j < C2.length := hj
                show wc3 10 0 (0 + C0.length + C1.length + j) = C2.getD j 0 ∧ r4 24 0 (200 * t + (0 + C0.length + C1.length + j)) = cmap (C2.getD j 0)
                have e01 : 0 + C0.length + C1.length = (C0 ++ C1).length := by rw [List.length_append]; omega
                have hl3 : (C0 ++ C1 ++ C2).length = (C0 ++ C1).length + C2.length := List.length_append
                rw [e01, hCO _ (by rw [hl3]; omega), f6 24 0 _ (by omega), h24 _ (by rw [List.length_map, hl3]; omega), getD_m (by rw [hl3]; omega), getD_r]
                exact ⟨rfl, rfl⟩
        · rw [if_neg h0, if_neg (fun z => h0 (RT0 z)), fail_r ht h104 f3, u3.2.2.1.2.1]
          exact Or.inl ⟨skp T n a3, wc3, r4, skp_le a3n, rfl, rfl, fc, fr.tr f6y⟩
      · rw [y2, y3, bad q wc2 wr2 y1 y4 (((fr0.tr x12).tr z12).tr y6)]
        exact Or.inl ⟨q, wc2, wr2, y1, rfl, rfl, ((fc0.tr x11).tr z11).tr y5, ((fr0.tr x12).tr z12).tr y6⟩
    · rw [y2, y3, bad q wc2 wr2 y1 y4 ((fr0.tr x12).tr y6)]
      exact Or.inl ⟨q, wc2, wr2, y1, rfl, rfl, (fc0.tr x11).tr y5, (fr0.tr x12).tr y6⟩
  · rw [y2, y3, bad q wc2 wr2 y1 y4 (fr0.tr y6)]
    exact Or.inl ⟨q, wc2, wr2, y1, rfl, rfl, fc0.tr y5, fr0.tr y6⟩
