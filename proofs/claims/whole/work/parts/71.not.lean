/-! the parsers: NOT, and all levels together -/
theorem not_level {T : Nat → Int32} {n t o m : Nat} (hb : Byt T n) (hn : n ≤ 160) (ht : t < 6)
    (ihN : o < 5 → ∀ a S OC wc wr mn, Pre T n t 2 (o + 1) a S OC mn wc wr → Won T n t 2 (5 * (o + 1) + 2) 3 a S OC mn (rd m 2 (nI (o + 1)) wc) wc wr ∨ Lost T n t a mn (rd m 2 (nI (o + 1)) wc) wc wr)
    (ihS : ∀ a S OC wc wr mn, Pre T n t 3 o a S OC mn wc wr → Won T n t 3 (5 * o + 3) 5 a S OC mn (rd m 3 (nI o) wc) wc wr ∨ Lost T n t a mn (rd m 3 (nI o) wc) wc wr)
    {a : Nat} {S OC : List Int32} {mn : Int32} {wc wr : Mem} (hp : Pre T n t 2 o a S OC mn wc wr) : Won T n t 2 (5 * o + 2) 3 a S OC mn (f_X1_readsNot (rd m) (nI o) wc) wc wr ∨ Lost T n t a mn (f_X1_readsNot (rd m) (nI o) wc) wc wr := by
  obtain ⟨hc, hr, hop, ho5, htop, hso, hm1, -⟩ := hp
  have han := hc.2.1
  have htok : wc 1 0 5 = TK T n a := hc.2.2.1.1
  have hmn1 : mn = 1 := hm1 (by omega)
  obtain ⟨r1, e1, e2, e3, e4, e5, e6⟩ := next_rs hr han
  unfold f_X1_readsNot j_X1_readsNot_20
  rw [htok]
  by_cases h8 : TK T n a = 8
  · have hbg := BH_gt (T := T) (n := n) (a := a) (by rw [h8]; decide)
    have hin := TK_in (T := T) (n := n) (a := a) (by rw [h8]; decide)
    have ht0 : ∀ x, h_X5_eRead_14 KK (x + 1) 1 mn wr = Option.bind (f_X5_opensOne 13 r1) (fun r26 => if r26.1 = 0 then (some (0, r26.2)) else (h_X5_eRead_14 KK x 1 mn r26.2)) := by
      intro x
      rw [turn_w x mn e1, e3, h8, if_neg (show ¬ RT 8 = 1 by decide), if_neg (show ¬ RT 8 = 2 by decide), if_pos (show RT 8 = 6 from rfl), if_neg (show ¬ mn = 0 by rw [hmn1]; decide)]
    rw [if_pos h8, if_pos h8]
    by_cases ho : o < 5
    · rw [if_pos (show nI o < 5 from nI_lt (b := 5) ho (by omega))]
      obtain ⟨r2, p1, p2, p3⟩ := open_r e2 (by omega) (by omega) (c := 13) (by decide)
      obtain ⟨w1, w2, w3, w4⟩ := next_st hb hc
      rw [w2, ob, nI_1]
      have ht1 : ∀ x, h_X5_eRead_14 KK (x + 1) 1 mn wr = h_X5_eRead_14 KK x 1 mn r2 := by
        intro x
        rw [ht0, p1, ob]
        dsimp only
        rw [if_neg (show ¬ (1 : Int32) = 0 by decide)]
      have hpre : Pre T n t 2 (o + 1) (BH T n a) (13 :: S) OC mn w1 r2 := by
        refine ⟨w3, p2, ?_, by omega, ?_, by show S.length + 1 + _ ≤ _; omega, fun _ => hmn1, fun h => by omega⟩
        · show (if (13 : Int32) = 0 ∨ (13 : Int32) = 13 ∨ (13 : Int32) = 19 then 1 else 0) + opn S = _
          rw [if_pos (by decide)]; omega
        · show rk 13 < 4
          decide
      rcases ihN ho _ _ _ _ _ _ hpre with ⟨a2, C2, wc2, wr3, S3, O3, j2, mn2, d1, d2, d3, d4, d5, d6, d7, d8, d9, d10, d11, d12⟩ | ⟨wc2, wr3, q, j2, d1, d2, d3, d4, d5, d6, d7, d8⟩
      · obtain ⟨w5, w6, w7, w8⟩ := write_st d2 (by have := d2.2.1; rw [List.length_append]; omega) (-9)
        rw [d1, ob]
        dsimp only
        rw [if_neg (show ¬ (1 : Int32) = 0 by decide), w6, ob]
        refine Or.inl ⟨a2, C2 ++ [-9], w5, wr3, S3, O3, j2 + 1, mn2, rfl, ?_, (w4.tr d3).tr w8, fun x => ?_, d5, (e6.tr p3).tr d6, ?_, by omega, ?_, by omega, ?_, d12⟩
        · rw [← List.append_assoc]; exact w7
        · rw [← Nat.add_assoc, ht1, d4]
        · rw [d7, unw_pop (by decide), ← List.append_assoc, map1]
          rfl
        · rw [List.length_append]; show a + (C2.length + 1) ≤ a2; omega
        · exact Okp.un (fun d rest hd hr => d11 d rest (by omega) hr) (Or.inl rfl)
      · rw [d1, ob]
        dsimp only
        rw [if_pos (show (0 : Int32) = 0 from rfl)]
        refine Or.inr ⟨wc2, wr3, q, j2 + 1, rfl, d2, d3, w4.tr d4, fun x => ?_, d6, (e6.tr p3).tr d7, by omega⟩
        rw [← Nat.add_assoc, ht1, d5]
    · rw [if_neg (show ¬ nI o < 5 from nI_nlt (b := 5) (by omega) (by omega))]
      refine Or.inr ⟨wc, r1, skp T n a, 1, rfl, hc.2.2.1.2.1, skp_le han, .rf, fun x => ?_, e4, e6, by omega⟩
      rw [ht0, open_no e2 (by omega), ob, if_pos rfl]
  · rw [if_neg h8, if_neg h8]
    have hpre : Pre T n t 3 o a S OC mn wc wr := ⟨hc, hr, hop, ho5, htop.mono (by decide), hso, fun h => by omega, fun _ => Or.inr h8⟩
    have htop5 : Top 5 S := htop.mono (by decide)
    rcases ihS _ _ _ _ _ _ hpre with ⟨a2, C2, wc2, wr3, S3, O3, j2, mn2, d1, d2, d3, d4, d5, d6, d7, d8, d9, d10, d11, d12⟩ | ⟨wc2, wr3, q, j2, d1, d2, d3, d4, d5, d6, d7, d8⟩
    · have ha2n := d2.2.1
      have hu5 : unw 5 S3 O3 = (S, (OC ++ C2).map cmap) := by rw [d7]; exact htop5.un _
      have hlen := unw_len 5 S3 O3
      rw [hu5] at hlen
      dsimp only at hlen
      rw [List.length_map, List.length_append] at hlen
      have htok2 : wc2 1 0 5 = TK T n a2 := d2.2.2.1.1
      rw [d1, ob]
      dsimp only
      rw [if_neg (show ¬ (1 : Int32) = 0 by decide)]
      have cmp : ∀ (tk sg cd : Int32), (tk = 60 ∧ sg = 14 ∧ cd = -10) ∨ (tk = 61 ∧ sg = 15 ∧ cd = -11) → TK T n a2 = tk → Won T n t 2 (5 * o + 2) 3 a S OC mn (j_X1_readsNot_80 (rd m) (nI o) tk wc2) wc wr ∨ Lost T n t a mn (j_X1_readsNot_80 (rd m) (nI o) tk wc2) wc wr := by
        intro tk sg cd hcs htk
        have hRT : RT tk = tk := by rcases hcs with ⟨rfl, -⟩ | ⟨rfl, -⟩ <;> rfl
        have htk0 : tk ≠ 0 := by rcases hcs with ⟨rfl, -⟩ | ⟨rfl, -⟩ <;> decide
        have h59 : tk ≠ 59 := by rcases hcs with ⟨rfl, -⟩ | ⟨rfl, -⟩ <;> decide
        have h41 : tk ≠ 41 := by rcases hcs with ⟨rfl, -⟩ | ⟨rfl, -⟩ <;> decide
        have hrk : rk sg = 4 := by rcases hcs with ⟨-, rfl, -⟩ | ⟨-, rfl, -⟩ <;> decide
        have hno : ¬ (sg = 0 ∨ sg = 13 ∨ sg = 19) := by rcases hcs with ⟨-, rfl, -⟩ | ⟨-, rfl, -⟩ <;> decide
        have hm : sg ≠ -1 := by rcases hcs with ⟨-, rfl, -⟩ | ⟨-, rfl, -⟩ <;> decide
        have h12 : ¬ sg ≤ 12 := by rcases hcs with ⟨-, rfl, -⟩ | ⟨-, rfl, -⟩ <;> decide
        have hcm : cmap cd = sg := by rcases hcs with ⟨-, rfl, rfl⟩ | ⟨-, rfl, rfl⟩ <;> decide
        have hcd : -14 ≤ cd ∧ cd < -9 ∨ cd = -8 ∨ cd = -7 := by rcases hcs with ⟨-, -, rfl⟩ | ⟨-, -, rfl⟩ <;> decide
        have hbg2 := BH_gt (T := T) (n := n) (a := a2) (by rw [htk]; exact htk0)
        have hin2 := TK_in (T := T) (n := n) (a := a2) (by rw [htk]; exact htk0)
        obtain ⟨w1, w2, w3, w4⟩ := next_st hb d2
        obtain ⟨q1, f1, f2, f3, f4, -, f6⟩ := next_rs d5 ha2n
        have hsg : f_X5_signOf q1 = some (sg, q1) := by
          unfold f_X5_signOf
          rw [f3, htk]
          rcases hcs with ⟨rfl, rfl, -⟩ | ⟨rfl, rfl, -⟩ <;> rfl
        obtain ⟨q2, b1, b2, b3⟩ := (compare_r (S := S) (X := (OC ++ C2).map cmap) ht f2 (by omega) hrk hno hu5).1 htop
        have ht1 : ∀ x, h_X5_eRead_14 KK (x + 1) 0 mn2 wr3 = h_X5_eRead_14 KK x 1 0 q2 := by
          intro x
          rw [turn_n x mn2 f1, f3, htk, hRT, if_neg h59, if_neg h41, hsg, ob]
          dsimp only
          rw [if_neg hm, b1, ob]
          dsimp only
          rw [if_neg (show ¬ (1 : Int32) = 0 by decide), if_neg h12]
        have hpre2 : Pre T n t 3 o (BH T n a2) (sg :: S) (OC ++ C2) 0 w1 q2 := by
          refine ⟨w3, b2, ?_, ho5, ?_, ?_, fun h => by omega, fun _ => Or.inl rfl⟩
          · show (if _ then 1 else 0) + opn S = _
            rw [if_neg hno]; omega
          · show rk sg < 5
            omega
          · show S.length + 1 + _ ≤ _
            rw [List.length_append]; omega
        unfold j_X1_readsNot_80
        rw [w2, ob]
        rcases ihS _ _ _ _ _ _ hpre2 with ⟨a3, C3, wc3, wr4, S4, O4, j3, mn3, g1, g2, g3, g4, g5, g6, g7, g8, g9, g10, g11, g12⟩ | ⟨wc3, wr4, q, j3, g1, g2, g3, g4, g5, g6, g7, g8⟩
        · obtain ⟨w5, w6, w7, w8⟩ := write_st g2 (by have := g2.2.1; rw [List.length_append, List.length_append]; omega) cd
          rw [g1, ob]
          dsimp only
          rw [if_neg (show ¬ (1 : Int32) = 0 by decide)]
          have ewr : (if tk = 60 then Option.bind (f_X1_write (-10) wc3) (fun r15 => some ((1 : Int32), r15)) else Option.bind (f_X1_write (-11) wc3) (fun r16 => some (1, r16))) = some (1, w5) := by
            rcases hcs with ⟨rfl, -, rfl⟩ | ⟨rfl, -, rfl⟩
            · rw [if_pos rfl, w6, ob]
            · rw [if_neg (show ¬ (61 : Int32) = 60 by decide), w6, ob]
          rw [ewr]
          have eC : OC ++ (C2 ++ C3 ++ [cd]) = OC ++ C2 ++ C3 ++ [cd] := by simp only [List.append_assoc]
          have hu4 : unw 5 S4 O4 = (sg :: S, (OC ++ C2 ++ C3).map cmap) := by rw [g7]; exact unw_top (by omega)
          refine Or.inl ⟨a3, C2 ++ C3 ++ [cd], w5, wr4, S4, O4, j3 + 1 + j2, mn3, rfl, ?_, ((d3.tr w4).tr g3).tr w8, fun x => ?_, g5, ((d6.tr f6).tr b3).tr g6, ?_, by omega, ?_, by omega, ?_, ?_⟩
          · rw [eC]; exact w7
          · rw [← Nat.add_assoc, d4, ← Nat.add_assoc, ht1, g4]
          · rw [← unw_unw (l := 3) (m := 5) (by omega) S4 O4, hu4]
            dsimp only
            rw [unw_pop (by omega), eC, map1, hcm]
          · rw [List.length_append, List.length_append]
            show a + (C2.length + C3.length + 1) ≤ a3
            omega
          · exact Okp.op (d1 := 5 * o + 3) (fun d rest hd hr => d11 d rest (by omega) hr) g11 (by omega) hcd
          · exact ⟨fun _ => g12.1 (by omega), fun h => g12.2.1 (by omega), fun _ _ => ⟨sg, S, by rw [hu4], hrk⟩, fun h => by omega, fun h => by omega⟩
        · rw [g1, ob]
          dsimp only
          rw [if_pos (show (0 : Int32) = 0 from rfl)]
          refine Or.inr ⟨wc3, wr4, q, j3 + 1 + j2, rfl, g2, g3, (d3.tr w4).tr g4, fun x => ?_, g6, ((d6.tr f6).tr b3).tr g7, by omega⟩
          rw [← Nat.add_assoc, d4, ← Nat.add_assoc, ht1, g5]
      by_cases h60 : TK T n a2 = 60
      · rw [if_pos (show wc2 1 0 5 = 60 from htok2.trans h60), htok2, h60]
        exact cmp 60 14 (-10) (Or.inl ⟨rfl, rfl, rfl⟩) h60
      · rw [if_neg (show ¬ wc2 1 0 5 = 60 from fun z => h60 (htok2.symm.trans z))]
        by_cases h61 : TK T n a2 = 61
        · rw [if_pos (show wc2 1 0 5 = 61 from htok2.trans h61), htok2, h61]
          exact cmp 61 15 (-11) (Or.inr ⟨rfl, rfl, rfl⟩) h61
        · rw [if_neg (show ¬ wc2 1 0 5 = 61 from fun z => h61 (htok2.symm.trans z))]
          refine Or.inl ⟨a2, C2, wc2, wr3, S3, O3, j2, mn2, rfl, d2, d3, d4, d5, d6, ?_, d8, d9, d10, fun d rest hd hr => d11 d rest (by omega) hr, ?_⟩
          · rw [← unw_unw (l := 3) (m := 5) (by omega) S3 O3, d7, unw_unw (by omega)]
          · exact ⟨fun _ => d12.1 (by omega), fun h => d12.2.1 (by omega), fun _ h => by rcases h with h | h; exact absurd h h60; exact absurd h h61, fun h => by omega, fun h => by omega⟩
    · rw [d1, ob]
      dsimp only
      rw [if_pos (show (0 : Int32) = 0 from rfl)]
      exact Or.inr ⟨wc2, wr3, q, j2, rfl, d2, d3, d4, d5, d6, d7, d8⟩
theorem lp_term (T : Nat → Int32) (n m o : Nat) : LpOK T n 4 o (rd m) (fun c => c = 42) (fun _ => 18) (fun _ => -14) (h_X1_readsTerm_16 (rd m) (nI o) (fun w9 => some (1, w9))) := by
  constructor
  · intro m i w h
    unfold h_X1_readsTerm_16
    rw [if_neg h]
    split <;> rfl
  · intro m i w hi h
    conv => lhs; unfold h_X1_readsTerm_16
    rw [if_pos (show nI i < 160 from nI_lt (b := 160) hi (by omega)), if_pos h, nI_1]
theorem lp_sum (T : Nat → Int32) (n m o : Nat) : LpOK T n 3 o (rd m) (fun c => c = 43 ∨ c = 45) (fun c => if c = 43 then 16 else 17) (fun c => if c = 43 then -12 else -13) (h_X1_readsSum_16 (rd m) (nI o) (fun w12 => some (1, w12))) := by
  constructor
  · intro m i w h
    unfold h_X1_readsSum_16
    rw [if_neg (fun z => h (Or.inl z)), if_neg (fun z => h (Or.inr z))]
    split <;> rfl
  · intro m i w hi h
    conv => lhs; unfold h_X1_readsSum_16
    rw [if_pos (show nI i < 160 from nI_lt (b := 160) hi (by omega))]
    unfold j_X1_readsSum_41
    rw [nI_1]
    by_cases h43 : w 1 0 5 = 43
    · rw [if_pos h43]
      simp only [if_pos h43]
    · rw [if_neg h43, if_pos (h.resolve_left h43)]
      simp only [if_neg h43]
theorem lp_and (T : Nat → Int32) (n m o : Nat) : LpOK T n 1 o (rd m) (fun c => c = 7) (fun _ => 12) (fun _ => -8) (h_X1_readsAnd_16 (rd m) (nI o) (fun w9 => some (1, w9))) := by
  constructor
  · intro m i w h
    unfold h_X1_readsAnd_16
    rw [if_neg h]
    split <;> rfl
  · intro m i w hi h
    conv => lhs; unfold h_X1_readsAnd_16
    rw [if_pos (show nI i < 160 from nI_lt (b := 160) hi (by omega)), if_pos h, nI_1]
theorem lp_e (T : Nat → Int32) (n m o : Nat) : LpOK T n 0 o (rd m) (fun c => c = 6) (fun _ => 11) (fun _ => -7) (h_X1_readsE_21 (rd m) (nI o) (fun w10 => some (1, w10))) := by
  constructor
  · intro m i w h
    unfold h_X1_readsE_21
    rw [if_neg h]
    split <;> rfl
  · intro m i w hi h
    conv => lhs; unfold h_X1_readsE_21
    rw [if_pos (show nI i < 160 from nI_lt (b := 160) hi (by omega)), if_pos h, nI_1]
theorem sg_term : SgOK 4 (fun c => c = 42) (fun _ => 18) (fun _ => -14) := ⟨Or.inl rfl, fun c h => by
  subst h
  exact ⟨by decide, by decide, by decide, fun w h => by unfold f_X5_signOf; rw [h]; rfl, by decide, by decide, by decide, by decide, by decide, fun h => by omega, fun _ => by decide⟩⟩
theorem sg_sum : SgOK 3 (fun c => c = 43 ∨ c = 45) (fun c => if c = 43 then 16 else 17) (fun c => if c = 43 then -12 else -13) := ⟨Or.inr (Or.inl rfl), fun c h => by
  rcases h with rfl | rfl
  · exact ⟨by decide, by decide, by decide, fun w h => by unfold f_X5_signOf; rw [h]; rfl, by decide, by decide, by decide, by decide, by decide, fun h => by omega, fun _ => by decide⟩
  · exact ⟨by decide, by decide, by decide, fun w h => by unfold f_X5_signOf; rw [h]; rfl, by decide, by decide, by decide, by decide, by decide, fun h => by omega, fun _ => by decide⟩⟩
theorem sg_and : SgOK 1 (fun c => c = 7) (fun _ => 12) (fun _ => -8) := ⟨Or.inr (Or.inr (Or.inl rfl)), fun c h => by
  subst h
  exact ⟨by decide, by decide, by decide, fun w h => by unfold f_X5_signOf; rw [h]; rfl, by decide, by decide, by decide, by decide, by decide, fun _ => by decide, fun h => by omega⟩⟩
theorem sg_e : SgOK 0 (fun c => c = 6) (fun _ => 11) (fun _ => -7) := ⟨Or.inr (Or.inr (Or.inr rfl)), fun c h => by
  subst h
  exact ⟨by decide, by decide, by decide, fun w h => by unfold f_X5_signOf; rw [h]; rfl, by decide, by decide, by decide, by decide, by decide, fun _ => by decide, fun h => by omega⟩⟩
/-- all levels: the descent and the signs that are held come to the same -/
theorem parse {T : Nat → Int32} {n t : Nat} (hb : Byt T n) (hn : n ≤ 160) (ht : t < 6) : ∀ (m k o : Nat), k ≤ 5 → o ≤ 5 → 6 * (5 - o) + 6 - k ≤ m → ∀ a S OC wc wr mn, Pre T n t k o a S OC mn wc wr → Won T n t k (5 * o + k) (lv k) a S OC mn (rd m k (nI o) wc) wc wr ∨ Lost T n t a mn (rd m k (nI o) wc) wc wr := by
  intro m
  induction m with
  | zero => intro k o hk ho hm; omega
  | succ m ih =>
    intro k o hk ho hm a S OC wc wr mn hp
    match k, hk with
    | 0, _ =>
      rw [rd_0]
      unfold f_X1_readsE
      rw [if_pos (show nI o ≤ 5 from nI_le (b := 5) ho (by omega))]
      exact level hb hn ht (lp_e T n m o) sg_e (fun c => Classical.em _) (fun tk S O hpo hn => ⟨fun _ => hpo.1 (by omega), fun _ => hpo.2.1 (by omega), fun _ => hpo.2.2.1 (by omega), fun _ => hpo.2.2.2.1 (by omega), fun _ => hn⟩) (ih 1 o (by omega) ho (by omega)) hp
    | 1, _ =>
      rw [rd_1]
      unfold f_X1_readsAnd
      exact level hb hn ht (lp_and T n m o) sg_and (fun c => Classical.em _) (fun tk S O hpo hn => ⟨fun _ => hpo.1 (by omega), fun _ => hpo.2.1 (by omega), fun _ => hpo.2.2.1 (by omega), fun _ => hn, fun h => by omega⟩) (ih 2 o (by omega) ho (by omega)) hp
    | 2, _ =>
      rw [rd_2]
      exact not_level hb hn ht (fun ho2 => ih 2 (o + 1) (by omega) (by omega) (by omega)) (ih 3 o (by omega) ho (by omega)) hp
    | 3, _ =>
      rw [rd_3]
      unfold f_X1_readsSum
      exact level hb hn ht (lp_sum T n m o) sg_sum (fun c => Classical.em _) (fun tk S O hpo hn => ⟨fun _ => hpo.1 (by omega), fun _ => ⟨fun z => hn (Or.inl z), fun z => hn (Or.inr z)⟩, fun h => by omega, fun h => by omega, fun h => by omega⟩) (ih 4 o (by omega) ho (by omega)) hp
    | 4, _ =>
      rw [rd_4]
      unfold f_X1_readsTerm
      exact level hb hn ht (lp_term T n m o) sg_term (fun c => Classical.em _) (fun tk S O hpo hn => ⟨fun _ => hn, fun h => by omega, fun h => by omega, fun h => by omega, fun h => by omega⟩) (ih 5 o (by omega) ho (by omega)) hp
    | 5, _ =>
      rw [rd_5]
      exact one_level hb hn ht (fun ho2 => ih 5 (o + 1) (by omega) (by omega) (by omega)) (fun ho2 => ih 0 (o + 1) (by omega) (by omega) (by omega)) hp
