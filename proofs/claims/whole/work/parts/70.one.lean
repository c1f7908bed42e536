/-! the parsers: ONE, NOT -/
theorem RT_cases (k : Int32) : (RT k = k ∧ ¬ k < 0 ∧ k ≠ 6 ∧ k ≠ 7 ∧ k ≠ 4 ∧ k ≠ 5) ∨ (RT k = 2 ∨ RT k = 0 ∨ RT k = -1 ∨ RT k = 1 ∨ RT k = 3 ∨ RT k = 6) ∨ k = 6 ∨ k = 7 := by
  unfold RT
  by_cases h0 : k < 0
  · rw [if_pos h0]; exact Or.inr (Or.inl (Or.inl rfl))
  rw [if_neg h0]
  by_cases a0 : k = 0
  · rw [if_pos a0]; exact Or.inr (Or.inl (Or.inr (Or.inl rfl)))
  rw [if_neg a0]
  by_cases a1 : k = 1
  · rw [if_pos a1]; exact Or.inr (Or.inl (Or.inr (Or.inr (Or.inl rfl))))
  rw [if_neg a1]
  by_cases a2 : k = 2
  · rw [if_pos a2]; exact Or.inr (Or.inl (Or.inr (Or.inr (Or.inr (Or.inl rfl)))))
  rw [if_neg a2]
  by_cases a3 : k = 3
  · rw [if_pos a3]; exact Or.inr (Or.inl (Or.inr (Or.inr (Or.inr (Or.inr (Or.inl rfl))))))
  rw [if_neg a3]
  by_cases a4 : k = 4
  · rw [if_pos a4]; exact Or.inr (Or.inl (Or.inr (Or.inr (Or.inr (Or.inr (Or.inl rfl))))))
  rw [if_neg a4]
  by_cases a5 : k = 5
  · rw [if_pos a5]; exact Or.inr (Or.inl (Or.inr (Or.inr (Or.inr (Or.inr (Or.inl rfl))))))
  rw [if_neg a5]
  by_cases a6 : k = 6
  · exact Or.inr (Or.inr (Or.inl a6))
  rw [if_neg a6]
  by_cases a7 : k = 7
  · exact Or.inr (Or.inr (Or.inr a7))
  rw [if_neg a7]
  by_cases a8 : k = 8
  · rw [if_pos a8]; exact Or.inr (Or.inl (Or.inr (Or.inr (Or.inr (Or.inr (Or.inr rfl))))))
  rw [if_neg a8]
  exact Or.inl ⟨rfl, h0, a6, a7, a4, a5⟩
/-- behind an E stands what can't -/
theorem end_no {T : Nat → Int32} {n t a : Nat} {S2 O2 B X : List Int32} {wr : Mem} (mn : Int32) (ht : t < 6) (hr : RSt T n t a S2 O2 wr) (han : a ≤ n) (hso : S2.length + O2.length ≤ 190) (hu : unw 1 S2 O2 = (B, X)) (hpo : Post 0 (TK T n a) S2 O2) (h59 : ¬ (TK T n a = 59 ∧ B = [])) (h41 : ¬ (TK T n a = 41 ∧ B ≠ [])) : ∃ wr', (∀ x, h_X5_eRead_14 KK (x + 1) 0 mn wr = some (0, wr')) ∧ wr' 5 0 20 = nI (skp T n a) ∧ FrX t wr wr' := by
  obtain ⟨r1, e1, e2, e3, e4, -, e6⟩ := next_rs hr han
  obtain ⟨w1, u1, u2, u3, u4, -⟩ := unwinds_st ht (l := 1) (by omega) (by omega) e2 hso
  rw [hu] at u2
  dsimp only at u2
  have hlen := unw_len 1 S2 O2
  rw [hu] at hlen
  dsimp only at hlen
  have hnil : (w1 5 0 25 = 0) ↔ B = [] := by
    rw [u2.2.2.1]
    constructor
    · intro z
      have := (nI_eq (b := 0) (by omega) (by omega)).mp z
      exact List.eq_nil_of_length_eq_zero this
    · intro z; rw [z]; rfl
  obtain ⟨p42, p4345, p60, p7, p6⟩ := hpo
  have q1 : f_X5_unwinds 1 r1 = some w1 := u1
  by_cases c59 : RT (TK T n a) = 59
  · have htk : TK T n a = 59 := by
      rcases RT_cases (TK T n a) with ⟨h, -⟩ | h | h | h
      · rw [← h]; exact c59
      · rw [c59] at h; exact absurd h (by decide)
      · exact absurd h (p6 rfl)
      · exact absurd h (p7 (by omega))
    refine ⟨w1, fun x => ?_, u4.trans e4, e6.tr u3⟩
    rw [turn_n x mn e1, e3, if_pos c59]
    unfold KK
    rw [q1, ob, if_neg (fun z => h59 ⟨htk, hnil.mp z⟩)]
  · by_cases c41 : RT (TK T n a) = 41
    · have htk : TK T n a = 41 := by
        rcases RT_cases (TK T n a) with ⟨h, -⟩ | h | h | h
        · rw [← h]; exact c41
        · rw [c41] at h; exact absurd h (by decide)
        · exact absurd h (p6 rfl)
        · exact absurd h (p7 (by omega))
      have hB : B = [] := by
        by_cases hB : B = []
        · exact hB
        · exact absurd ⟨htk, hB⟩ h41
      refine ⟨w1, fun x => ?_, u4.trans e4, e6.tr u3⟩
      rw [turn_n x mn e1, e3, if_neg c59, if_pos c41, q1, ob, if_pos (hnil.mpr hB)]
    · have hcmp : ∀ sg : Int32, (sg = 14 ∨ sg = 15) → (TK T n a = 60 ∨ TK T n a = 61) → f_X5_signOf r1 = some (sg, r1) → ∃ wr', (∀ x, h_X5_eRead_14 KK (x + 1) 0 mn wr = some (0, wr')) ∧ wr' 5 0 20 = nI (skp T n a) ∧ FrX t wr wr' := by
        intro sg hsg htk hs
        have hrk : rk sg = 4 := by rcases hsg with rfl | rfl <;> decide
        have hno : ¬ (sg = 0 ∨ sg = 13 ∨ sg = 19) := by rcases hsg with rfl | rfl <;> decide
        have hm1 : sg ≠ -1 := by rcases hsg with rfl | rfl <;> decide
        obtain ⟨w', b1, b2, b3⟩ := (compare_r (S := (unw 5 S2 O2).1) (X := (unw 5 S2 O2).2) ht e2 hso hrk hno rfl).2 (p60 (by omega) htk)
        refine ⟨w', fun x => ?_, b2.trans e4, e6.tr b3⟩
        rw [turn_n x mn e1, e3, if_neg c59, if_neg c41, hs, ob]
        dsimp only
        rw [if_neg hm1, b1, ob]
        rfl
      by_cases c60 : TK T n a = 60
      · refine hcmp 14 (Or.inl rfl) (Or.inl c60) ?_
        unfold f_X5_signOf
        rw [e3, c60]; rfl
      · by_cases c61 : TK T n a = 61
        · refine hcmp 15 (Or.inr rfl) (Or.inr c61) ?_
          unfold f_X5_signOf
          rw [e3, c61]; rfl
        · have hs : f_X5_signOf r1 = some (-1, r1) := by
            unfold f_X5_signOf
            rw [e3]
            rcases RT_cases (TK T n a) with ⟨h, h0, k6, k7, k4, k5⟩ | h | h | h
            · rw [h, if_neg k4, if_neg k5, if_neg c60, if_neg c61, if_neg (p4345 (by omega)).1, if_neg (p4345 (by omega)).2, if_neg (p42 (by omega))]
            · rcases h with h | h | h | h | h | h <;> rw [h] <;> rfl
            · exact absurd h (p6 rfl)
            · exact absurd h (p7 (by omega))
          refine ⟨r1, fun x => ?_, e4, e6⟩
          rw [turn_n x mn e1, e3, if_neg c59, if_neg c41, hs, ob, if_pos rfl]
theorem pop_r {T : Nat → Int32} {n t a : Nat} {S X : List Int32} {w : Mem} (h : RSt T n t a (0 :: S) X w) : RSt T n t a S X (up (up w 5 0 25 ((w 5 0 25) - 1)) 5 0 26 (((up w 5 0 25 ((w 5 0 25) - 1)) 5 0 26) - 1)) := by
  obtain ⟨h1, h2, h3, h4, h5, h6, h7, h8⟩ := h
  refine ⟨(h1.up (by decide)).up (by decide), by rw [up_j (by decide), up_j (by decide)]; exact h2, ?_, Rep_k (fun j => by rw [up_k (by decide), up_k (by decide)]) h4.2, ?_, by rw [up_j (by decide), up_j (by decide)]; exact h6, by rw [up_j (by decide), up_j (by decide)]; exact h7, fun j hj => by rw [up_k (by decide), up_k (by decide)]; exact h8 j hj⟩
  · rw [up_j (by decide), up_s, h3]; exact nI_pred S.length
  · rw [up_s, up_j (by decide), h5]
    show nI ((if (0 : Int32) = 0 ∨ (0 : Int32) = 13 ∨ (0 : Int32) = 19 then 1 else 0) + opn S) - 1 = _
    rw [if_pos (Or.inl rfl), Nat.add_comm]
    exact nI_pred _
theorem map1 (L : List Int32) (c : Int32) : (L ++ [c]).map cmap = L.map cmap ++ [cmap c] := by rw [List.map_append]; rfl
theorem one_level {T : Nat → Int32} {n t o m : Nat} (hb : Byt T n) (hn : n ≤ 160) (ht : t < 6)
    (ihO : o < 5 → ∀ a S OC wc wr mn, Pre T n t 5 (o + 1) a S OC mn wc wr → Won T n t 5 (5 * (o + 1) + 5) 7 a S OC mn (rd m 5 (nI (o + 1)) wc) wc wr ∨ Lost T n t a mn (rd m 5 (nI (o + 1)) wc) wc wr)
    (ihE : o < 5 → ∀ a S OC wc wr mn, Pre T n t 0 (o + 1) a S OC mn wc wr → Won T n t 0 (5 * (o + 1) + 0) 1 a S OC mn (rd m 0 (nI (o + 1)) wc) wc wr ∨ Lost T n t a mn (rd m 0 (nI (o + 1)) wc) wc wr)
    {a : Nat} {S OC : List Int32} {mn : Int32} {wc wr : Mem} (hp : Pre T n t 5 o a S OC mn wc wr) : Won T n t 5 (5 * o + 5) 7 a S OC mn (f_X1_readsOne (rd m) (nI o) wc) wc wr ∨ Lost T n t a mn (f_X1_readsOne (rd m) (nI o) wc) wc wr := by
  obtain ⟨hc, hr, hop, ho5, -, hso, -, hmn⟩ := hp
  have han := hc.2.1
  have htok : wc 1 0 5 = TK T n a := hc.2.2.1.1
  obtain ⟨r1, e1, e2, e3, e4, e5, e6⟩ := next_rs hr han
  have hbh := BH_le (T := T) han
  unfold f_X1_readsOne
  rw [htok]
  -- a number, a name
  have atom : ∀ (c : Int32), c ≤ 9999 → ¬ c < -6 → TK T n a ≠ 0 → (∀ x, h_X5_eRead_14 KK (x + 1) 1 mn wr = j_X5_eRead_61 (h_X5_eRead_14 KK x) mn (cmap c) r1) → Won T n t 5 (5 * o + 5) 7 a S OC mn (j_X1_readsOne_40 (rd m) c wc) wc wr := by
    intro c hc9 hc6 h0 hturn
    have hbg := BH_gt (T := T) h0
    obtain ⟨w1, w2, w3, w4⟩ := write_st hc (by omega) c
    obtain ⟨w5, w6, w7, w8⟩ := next_st hb w3
    obtain ⟨r2, p1, p2, p3, -⟩ := puts_r e2 ht (by rw [List.length_map]; omega) (cmap c)
    obtain ⟨r3, u1, u2, u3, -⟩ := unwinds_st ht (l := 7) (by omega) (by omega) p2 (by rw [len1, List.length_map]; omega)
    refine ⟨BH T n a, [c], w5, r3, _, _, 1, mn, ?_, w7, w4.tr w8, fun x => ?_, u2, (e6.tr p3).tr u3, ?_, by omega, by show a + 1 ≤ _; omega, by omega, ?_, ⟨fun h => by omega, fun h => by omega, fun h => by omega, fun h => by omega, fun h => by omega⟩⟩
    · unfold j_X1_readsOne_40
      rw [w2, ob, w6, ob]
    · rw [hturn]
      unfold j_X5_eRead_61
      rw [p1, ob, show (7 : Int32) = nI 7 from rfl, u1, ob]
    · rw [unw_unw (Nat.le_refl _), map1]
    · intro d rest hd hrest
      show okC (c :: rest) d
      unfold okC
      rw [if_neg hc6]
      exact ⟨hc9, by omega, hrest⟩
  by_cases h2 : TK T n a = 2
  · obtain ⟨v, hv, ev⟩ := NM_b h2
    have h8 : wc 1 0 8 = nI v := (hc.2.2.1.2.2.2 h2).trans ev
    rw [if_pos h2]
    unfold j_X1_readsOne_21
    rw [htok, h2, if_neg (show ¬ (2 : Int32) < 0 by decide), h8]
    have hcm : cmap (nI v) = 100000 + nI v := by
      unfold cmap
      rw [if_neg (fun z => absurd (Int32.lt_trans z (show (-6 : Int32) < 0 by decide)) (nI_pos (by omega))), if_neg (nI_pos (by omega))]
    refine Or.inl (atom (nI v) (nI_le (b := 9999) hv (by omega)) (fun z => absurd (Int32.lt_trans z (show (-6 : Int32) < 0 by decide)) (nI_pos (by omega))) (by rw [h2]; decide) (fun x => ?_))
    rw [turn_w x mn e1, e3, h2, if_pos (show RT 2 = 1 from rfl)]
    unfold j_X5_eRead_38
    rw [e3, h2, if_pos (show RT 2 = 1 from rfl), e5.2.1 h2, ev, hcm]
  · rw [if_neg h2]
    by_cases hneg : TK T n a < 0
    · rw [if_pos hneg]
      unfold j_X1_readsOne_21
      rw [htok, if_pos hneg]
      have hRT : RT (TK T n a) = 2 := by unfold RT; rw [if_pos hneg]
      have h6 : ¬ TK T n a < -6 := by rcases TK_neg hneg with h | h | h | h | h | h <;> rw [h] <;> decide
      have h9 : TK T n a ≤ 9999 := by rcases TK_neg hneg with h | h | h | h | h | h <;> rw [h] <;> decide
      have hcm : cmap (TK T n a) = -1 - TK T n a := by
        unfold cmap
        rw [if_neg h6, if_pos hneg]
      refine Or.inl (atom _ h9 h6 (fun z => by rw [z] at hneg; exact absurd hneg (by decide)) (fun x => ?_))
      rw [turn_w x mn e1, e3, hRT, if_neg (show ¬ (2 : Int32) = 1 by decide), if_pos rfl]
      unfold j_X5_eRead_38
      rw [e3, hRT, if_neg (show ¬ (2 : Int32) = 1 by decide), e5.1 hneg, hcm]
    · rw [if_neg hneg]
      by_cases h45 : TK T n a = 45
      · -- -
        have hbg := BH_gt (T := T) (n := n) (a := a) (by rw [h45]; decide)
        have hin := TK_in (T := T) (n := n) (a := a) (by rw [h45]; decide)
        have ht0 : ∀ x, h_X5_eRead_14 KK (x + 1) 1 mn wr = Option.bind (f_X5_opensOne 19 r1) (fun r21 => if r21.1 = 0 then (some (0, r21.2)) else (h_X5_eRead_14 KK x 1 0 r21.2)) := by
          intro x
          rw [turn_w x mn e1, e3, h45, if_neg (show ¬ RT 45 = 1 by decide), if_neg (show ¬ RT 45 = 2 by decide), if_neg (show ¬ RT 45 = 6 by decide)]
          unfold j_X5_eRead_99
          rw [e3, h45, if_pos (show RT 45 = 45 from rfl)]
        rw [if_pos h45]
        unfold j_X1_readsOne_67
        rw [htok, if_pos h45]
        by_cases ho : o < 5
        · rw [if_pos (show nI o < 5 from nI_lt (b := 5) ho (by omega))]
          obtain ⟨r2, p1, p2, p3⟩ := open_r e2 (by omega) (by omega) (c := 19) (by decide)
          obtain ⟨w1, w2, w3, w4⟩ := next_st hb hc
          unfold j_X1_readsOne_88
          rw [w2, ob, if_neg (show ¬ (1 : Int32) = 0 by decide), nI_1]
          have ht1 : ∀ x, h_X5_eRead_14 KK (x + 1) 1 mn wr = h_X5_eRead_14 KK x 1 0 r2 := by
            intro x
            rw [ht0, p1, ob]
            dsimp only
            rw [if_neg (show ¬ (1 : Int32) = 0 by decide)]
          have hpre : Pre T n t 5 (o + 1) (BH T n a) (19 :: S) OC 0 w1 r2 := by
            refine ⟨w3, p2, ?_, by omega, ?_, by show S.length + 1 + _ ≤ _; omega, fun h => by omega, fun _ => Or.inl rfl⟩
            · show (if (19 : Int32) = 0 ∨ (19 : Int32) = 13 ∨ (19 : Int32) = 19 then 1 else 0) + opn S = _
              rw [if_pos (by decide)]; omega
            · show rk 19 < 8
              decide
          rcases ihO ho _ _ _ _ _ _ hpre with ⟨a2, C2, wc2, wr3, S3, O3, j2, mn2, d1, d2, d3, d4, d5, d6, d7, d8, d9, d10, d11, d12⟩ | ⟨wc2, wr3, q, j2, d1, d2, d3, d4, d5, d6, d7, d8⟩
          · obtain ⟨w5, w6, w7, w8⟩ := write_st d2 (by have := d2.2.1; rw [List.length_append]; omega) (-15)
            rw [d1, ob]
            dsimp only
            rw [if_neg (show ¬ (1 : Int32) = 0 by decide), w6, ob]
            refine Or.inl ⟨a2, C2 ++ [-15], w5, wr3, S3, O3, j2 + 1, mn2, rfl, ?_, (w4.tr d3).tr w8, fun x => ?_, d5, (e6.tr p3).tr d6, ?_, by omega, ?_, by omega, ?_, ⟨fun h => by omega, fun h => by omega, fun h => by omega, fun h => by omega, fun h => by omega⟩⟩
            · rw [← List.append_assoc]; exact w7
            · rw [← Nat.add_assoc, ht1, d4]
            · rw [d7, unw_pop (by decide), ← List.append_assoc, map1]
              rfl
            · rw [List.length_append]; show a + (C2.length + 1) ≤ a2; omega
            · exact Okp.un (fun d rest hd hr => d11 d rest (by omega) hr) (Or.inr rfl)
          · rw [d1, ob]
            dsimp only
            rw [if_pos (show (0 : Int32) = 0 from rfl)]
            refine Or.inr ⟨wc2, wr3, q, j2 + 1, rfl, d2, d3, w4.tr d4, fun x => ?_, d6, (e6.tr p3).tr d7, by omega⟩
            rw [← Nat.add_assoc, ht1, d5]
        · rw [if_neg (show ¬ nI o < 5 from nI_nlt (b := 5) (by omega) (by omega))]
          refine Or.inr ⟨wc, r1, skp T n a, 1, rfl, hc.2.2.1.2.1, skp_le han, .rf, fun x => ?_, e4, e6, by omega⟩
          rw [ht0, open_no e2 (by omega), ob, if_pos rfl]
      · rw [if_neg h45]
        by_cases h40 : TK T n a = 40
        · -- (
          have hbg := BH_gt (T := T) (n := n) (a := a) (by rw [h40]; decide)
          have hin := TK_in (T := T) (n := n) (a := a) (by rw [h40]; decide)
          have ht0 : ∀ x, h_X5_eRead_14 KK (x + 1) 1 mn wr = Option.bind (f_X5_opensOne 0 r1) (fun r24 => if r24.1 = 0 then (some (0, r24.2)) else (h_X5_eRead_14 KK x 1 1 r24.2)) := by
            intro x
            rw [turn_w x mn e1, e3, h40, if_neg (show ¬ RT 40 = 1 by decide), if_neg (show ¬ RT 40 = 2 by decide), if_neg (show ¬ RT 40 = 6 by decide)]
            unfold j_X5_eRead_99
            rw [e3, h40, if_neg (show ¬ RT 40 = 45 by decide), if_pos (show RT 40 = 40 from rfl)]
          rw [if_pos h40]
          unfold j_X1_readsOne_67
          rw [htok, if_neg h45]
          by_cases ho : o < 5
          · rw [if_pos (show nI o < 5 from nI_lt (b := 5) ho (by omega))]
            obtain ⟨r2, p1, p2, p3⟩ := open_r e2 (by omega) (by omega) (c := 0) (by decide)
            obtain ⟨w1, w2, w3, w4⟩ := next_st hb hc
            unfold j_X1_readsOne_88
            rw [w2, ob, if_pos (show (0 : Int32) = 0 from rfl), nI_1]
            have ht1 : ∀ x, h_X5_eRead_14 KK (x + 1) 1 mn wr = h_X5_eRead_14 KK x 1 1 r2 := by
              intro x
              rw [ht0, p1, ob]
              dsimp only
              rw [if_neg (show ¬ (1 : Int32) = 0 by decide)]
            have hpre : Pre T n t 0 (o + 1) (BH T n a) (0 :: S) OC 1 w1 r2 := by
              refine ⟨w3, p2, ?_, by omega, ?_, by show S.length + 1 + _ ≤ _; omega, fun _ => rfl, fun h => by omega⟩
              · show (if (0 : Int32) = 0 ∨ (0 : Int32) = 13 ∨ (0 : Int32) = 19 then 1 else 0) + opn S = _
                rw [if_pos (by decide)]; omega
              · show rk 0 < 1
                decide
            rcases ihE ho _ _ _ _ _ _ hpre with ⟨a2, C2, wc2, wr3, S3, O3, j2, mn2, d1, d2, d3, d4, d5, d6, d7, d8, d9, d10, d11, d12⟩ | ⟨wc2, wr3, q, j2, d1, d2, d3, d4, d5, d6, d7, d8⟩
            · have ha2n := d2.2.1
              have hu1 : unw 1 S3 O3 = (0 :: S, (OC ++ C2).map cmap) := by rw [d7]; exact unw_top (by decide)
              have hlen := unw_len 1 S3 O3
              rw [hu1] at hlen
              dsimp only at hlen
              rw [List.length_map, List.length_append] at hlen
              have hlc : (0 :: S).length = S.length + 1 := rfl
              have htok2 : wc2 1 0 5 = TK T n a2 := d2.2.2.1.1
              rw [d1, ob]
              dsimp only
              rw [if_neg (show ¬ (1 : Int32) = 0 by decide)]
              by_cases h41 : TK T n a2 = 41
              · have hbg2 := BH_gt (T := T) (n := n) (a := a2) (by rw [h41]; decide)
                obtain ⟨w5, w6, w7, w8⟩ := next_st hb d2
                obtain ⟨r3, f1, f2, f3, f4, -, f6⟩ := next_rs d5 ha2n
                obtain ⟨r4, u1, u2, u3, -⟩ := unwinds_st ht (l := 1) (by omega) (by omega) f2 (by omega)
                rw [hu1] at u2
                dsimp only at u2
                obtain ⟨r5, v1, v2, v3, -⟩ := unwinds_st ht (l := 7) (by omega) (by omega) (pop_r u2) (by rw [List.length_map, List.length_append]; omega)
                have n25 : ¬ r4 5 0 25 = 0 := by rw [u2.2.2.1]; exact nI_ne0 (by rw [hlc]; omega) (by omega)
                rw [if_pos (show wc2 1 0 5 = 41 from htok2.trans h41), w6, ob]
                refine Or.inl ⟨BH T n a2, C2, w5, r5, _, _, 1 + (j2 + 1), mn2, rfl, w7, (w4.tr d3).tr w8, fun x => ?_, v2, ?_, ?_, by have := BH_le (T := T) ha2n; omega, by have := BH_le (T := T) ha2n; omega, by omega, fun d rest hd hr => d11 d rest (by omega) hr, ⟨fun h => by omega, fun h => by omega, fun h => by omega, fun h => by omega, fun h => by omega⟩⟩
                · rw [← Nat.add_assoc, ← Nat.add_assoc, ht1, d4, turn_n x mn2 f1, f3, h41, if_neg (show ¬ RT 41 = 59 by decide), if_pos (show RT 41 = 41 from rfl), show (1 : Int32) = nI 1 from rfl, u1, ob, if_neg n25, show (7 : Int32) = nI 7 from rfl]
                  have v1' : f_X5_unwinds (nI 7) (up (up r4 5 0 25 (r4 5 0 25 - nI 1)) 5 0 26 (up r4 5 0 25 (r4 5 0 25 - nI 1) 5 0 26 - nI 1)) = some r5 := v1
                  rw [v1', ob]
                · refine (((e6.tr p3).tr d6).tr (f6.tr u3)).tr (FrX.tr (fun x y z hx hy hz => ?_) v3)
                  rw [up_n (fun q => hx ⟨q.1, q.2.1, by omega, by omega⟩), up_n (fun q => hx ⟨q.1, q.2.1, by omega, by omega⟩)]
                · exact unw_unw (Nat.le_refl _) _ _
              · rw [if_neg (show ¬ wc2 1 0 5 = 41 from fun z => h41 (htok2.symm.trans z))]
                obtain ⟨wr4, x1, x2, x3⟩ := end_no mn2 ht d5 ha2n (by omega) hu1 d12 (fun z => by cases z.2) (fun z => h41 z.1)
                refine Or.inr ⟨wc2, wr4, skp T n a2, 1 + (j2 + 1), rfl, d2.2.2.1.2.1, skp_le ha2n, w4.tr d3, fun x => ?_, x2, ((e6.tr p3).tr d6).tr x3, by omega⟩
                rw [← Nat.add_assoc, ← Nat.add_assoc, ht1, d4, x1]
            · rw [d1, ob]
              dsimp only
              rw [if_pos (show (0 : Int32) = 0 from rfl)]
              refine Or.inr ⟨wc2, wr3, q, j2 + 1, rfl, d2, d3, w4.tr d4, fun x => ?_, d6, (e6.tr p3).tr d7, by omega⟩
              rw [← Nat.add_assoc, ht1, d5]
          · rw [if_neg (show ¬ nI o < 5 from nI_nlt (b := 5) (by omega) (by omega))]
            refine Or.inr ⟨wc, r1, skp T n a, 1, rfl, hc.2.2.1.2.1, skp_le han, .rf, fun x => ?_, e4, e6, by omega⟩
            rw [ht0, open_no e2 (by omega), ob, if_pos rfl]
        · rw [if_neg h40]
          obtain ⟨q1, q2, q45, q40, q6⟩ := RT_D h2 hneg h45 h40
          refine Or.inr ⟨wc, r1, skp T n a, 1, rfl, hc.2.2.1.2.1, skp_le han, .rf, fun x => ?_, e4, e6, by omega⟩
          have e99 : j_X5_eRead_99 (h_X5_eRead_14 KK x) 1 r1 = some (0, r1) := by
            unfold j_X5_eRead_99
            rw [e3, if_neg q45, if_neg q40]
          rw [turn_w x mn e1, e3, if_neg q1, if_neg q2, e99]
          by_cases h6 : RT (TK T n a) = 6
          · rw [if_pos h6]
            rcases hmn (by omega) with h | h
            · rw [if_pos h]
            · exact absurd (q6 h6) h
          · rw [if_neg h6]
