/-! a text, part by part: both sides
-/
def FrT (w w' : Mem) : Prop := ∀ x y z, ¬ (x = 1 ∧ y = 0 ∧ 3 ≤ z) → x ≠ 10 → x ≠ 11 → w' x y z = w x y z
def FrY (t : Nat) (w w' : Mem) : Prop := ∀ x y z, ¬ (x = 5 ∧ y = 0 ∧ 19 ≤ z ∧ z ≤ 27) → x ≠ 33 → ¬ (x = 24 ∧ y = 0 ∧ 200 * t ≤ z) → ¬ (x = 25 ∧ y = 0 ∧ 4 * t ≤ z) → w' x y z = w x y z
theorem FrT.rf {w : Mem} : FrT w w := fun _ _ _ _ _ _ => rfl
theorem FrT.tr {w w1 w2 : Mem} (h : FrT w w1) (h2 : FrT w1 w2) : FrT w w2 := fun x y z a b c => (h2 x y z a b c).trans (h x y z a b c)
theorem FrY.rf {t : Nat} {w : Mem} : FrY t w w := fun _ _ _ _ _ _ _ => rfl
theorem FrY.tr {t : Nat} {w w1 w2 : Mem} (h : FrY t w w1) (h2 : FrY t w1 w2) : FrY t w w2 := fun x y z a b c d => (h2 x y z a b c d).trans (h x y z a b c d)
theorem FrR.t {w w' : Mem} (h : FrR w w') : FrT w w' := fun x y z a b _ => h x y z a b
theorem FrX.y {t : Nat} {w w' : Mem} (h : FrX t w w') : FrY t w w' := fun x y z a b c _ => h x y z a b c
/-- the reference between two parts -/
def RB (T : Nat → Int32) (n t a : Nat) (O : List Int32) (w : Mem) : Prop := TpR T n w ∧ w 5 0 19 = nI a ∧ w 5 0 27 = nI O.length ∧ w 5 0 10 = nI t ∧ ∀ j, j < O.length → w 24 0 (200 * t + j) = O.getD j 0
theorem RSt.b {T : Nat → Int32} {n t a : Nat} {S O : List Int32} {w : Mem} (h : RSt T n t a S O w) : RB T n t a O w := ⟨h.1, h.2.1, h.2.2.2.2.2.1, h.2.2.2.2.2.2.1, h.2.2.2.2.2.2.2⟩
noncomputable def K84 : Mem → Option (Int32 × Mem) := fun w9 => if (w9 1 0 5) = 0 then (some ((-1), w9)) else (some (w9 1 0 6, w9))
noncomputable def K101 : Int32 → Mem → Option (Int32 × Mem) := fun x1_11 w12 => j_X5_text_101 x1_11 w12
theorem eRead_KK (w : Mem) : f_X5_eRead w = h_X5_eRead_14 KK FU 1 1 (up (up w 5 0 25 0) 5 0 26 0) := by
  unfold f_X5_eRead KK
  rfl
theorem drop_t (m : Nat) (x : Int32) (w : Mem) : h_X5_text_26 K101 (m + 1) 0 x w = K101 0 w := by
  unfold h_X5_text_26
  rw [if_pos (show (0 : Int32) = 0 from rfl)]
  split <;> rfl
theorem RT3 {k : Int32} (h : RT k = 3) : k = 3 ∨ k = 4 ∨ k = 5 := by
  by_cases h3 : k = 3
  · exact Or.inl h3
  by_cases h4 : k = 4
  · exact Or.inr (Or.inl h4)
  by_cases h5 : k = 5
  · exact Or.inr (Or.inr h5)
  exfalso
  unfold RT at h
  rw [if_neg h3, if_neg h4, if_neg h5] at h
  repeat' split at h
  all_goals first | exact absurd h (by decide) | exact h3 h
theorem RT0 {k : Int32} (h : RT k = 0) : k = 0 := by
  by_cases h0 : k = 0
  · exact h0
  exfalso
  unfold RT at h
  rw [if_neg h0] at h
  repeat' split at h
  all_goals first | exact absurd h (by decide) | exact h0 h
theorem part_step {T : Nat → Int32} {n t p : Nat} (hb : Byt T n) (hn : n ≤ 160) (ht : t < 6) (hp3 : p < 3) {a : Nat} {OC : List Int32} {wc wr : Mem} (hc : CSt T n a OC wc) (hr : RB T n t a (OC.map cmap) wr) (hOC : OC.length ≤ a) (m m' : Nat) :
    (∃ (a2 : Nat) (C2 : List Int32) (wc2 wr2 : Mem), h_X1_faultOf_16 K84 (m + 1) (nI p) wc = h_X1_faultOf_16 K84 m (nI (p + 1)) wc2 ∧ h_X5_text_26 K101 (m' + 2) 1 (nI p) wr = h_X5_text_26 K101 (m' + 1) 1 (nI (p + 1)) wr2 ∧ CSt T n a2 (OC ++ C2) wc2 ∧ RB T n t a2 ((OC ++ C2).map cmap) wr2 ∧ (OC ++ C2).length ≤ a2 ∧ okC C2 0 ∧ wc2 11 0 p = nI (OC ++ C2).length ∧ (∀ q, q ≠ p → wc2 11 0 q = wc 11 0 q) ∧ wr2 25 0 (4 * t + p) = nI OC.length ∧ (∀ c, c ≠ 4 * t + p → wr2 25 0 c = wr 25 0 c) ∧ FrT wc wc2 ∧ FrY t wr wr2) ∨
    (∃ (q : Nat) (wc2 wr2 : Mem), q ≤ n ∧ h_X1_faultOf_16 K84 (m + 1) (nI p) wc = some (nI q, wc2) ∧ h_X5_text_26 K101 (m' + 2) 1 (nI p) wr = K101 0 wr2 ∧ wr2 5 0 20 = nI q ∧ FrT wc wc2 ∧ FrY t wr wr2) := by
  obtain ⟨hT, h19, h27, h10, h24⟩ := hr
  have han := hc.2.1
  have htok : wc 1 0 5 = TK T n a := hc.2.2.1.1
  obtain ⟨r1, e1, e2, e3, e4, e5, e6⟩ := next_r hT han h19
  have lt3 : nI p < 3 := nI_lt (b := 3) hp3 (by omega)
  have e3p : 3 + nI p = nI (3 + p) := by rw [show (3 : Int32) = nI 3 from rfl, nI_add]
  have r10 : r1 5 0 10 = nI t := (e6 5 0 10 (by decide)).trans h10
  have r27 : r1 5 0 27 = nI OC.length := (e6 5 0 27 (by decide)).trans (h27.trans (by rw [List.length_map]))
  have i25 : inB (4 * nI t + nI p) 24 := by rw [show (4 : Int32) = nI 4 from rfl, nI_mul, nI_add]; exact nI_in (by omega) (by omega)
  have t25 : tn (4 * nI t + nI p) = 4 * t + p := by rw [show (4 : Int32) = nI 4 from rfl, nI_mul, nI_add]; exact nI_clamp (by omega)
  by_cases htk : TK T n a = nI (3 + p)
  · have htk345 : TK T n a = 3 ∨ TK T n a = 4 ∨ TK T n a = 5 := by
      rw [htk]
      match p, hp3 with
      | 0, _ => exact Or.inl rfl
      | 1, _ => exact Or.inr (Or.inl rfl)
      | 2, _ => exact Or.inr (Or.inr rfl)
    have hRT : RT (TK T n a) = 3 := by rcases htk345 with h | h | h <;> rw [h] <;> rfl
    have hv : r1 5 0 22 = nI p := by
      rw [e5.2.2 htk345, htk, show (3 : Int32) = nI 3 from rfl, nI_sub (by omega)]; congr 1; omega
    have h0 : TK T n a ≠ 0 := by rcases htk345 with h | h | h <;> rw [h] <;> decide
    have hbg := BH_gt (T := T) h0
    obtain ⟨w1, w2, w3, w4⟩ := next_st hb hc
    -- the reference ahead of an E
    have hrs : RSt T n t (BH T n a) [] (OC.map cmap) (up (up (up r1 25 0 (4 * t + p) (nI OC.length)) 5 0 25 0) 5 0 26 0) := by
      refine ⟨⟨hT.1, ?_, fun i hi => ?_, fun c hc => ?_⟩, ?_, ?_, trivial, up_s _ _ _ _ _, ?_, ?_, fun j hj => ?_⟩
      · rw [up_j (by decide), up_j (by decide), up_k (by decide), e6 5 0 7 (by decide)]; exact hT.2.1
      · rw [up_k (by decide), up_k (by decide), up_k (by decide), e6 23 0 i (by omega)]; exact hT.2.2.1 i hi
      · rw [up_k (by decide), up_k (by decide), up_k (by decide), e6 32 0 c (by omega)]; exact hT.2.2.2 c hc
      · rw [up_j (by decide), up_j (by decide), up_k (by decide)]; exact e4
      · rw [up_j (by decide), up_s]; rfl
      · rw [up_j (by decide), up_j (by decide), up_k (by decide), r27, List.length_map]
      · rw [up_j (by decide), up_j (by decide), up_k (by decide)]; exact r10
      · rw [up_k (by decide), up_k (by decide), up_k (by decide), e6 24 0 _ (by omega)]; exact h24 j hj
    have hpre : Pre T n t 0 0 (BH T n a) [] OC 1 w1 (up (up (up r1 25 0 (4 * t + p) (nI OC.length)) 5 0 25 0) 5 0 26 0) :=
      ⟨w3, hrs, rfl, by omega, trivial, by show 0 + _ ≤ _; omega, fun _ => rfl, fun h => by omega⟩
    have fr0 : FrY t wr (up (up (up r1 25 0 (4 * t + p) (nI OC.length)) 5 0 25 0) 5 0 26 0) := by
      intro x y z hx hy hz hu
      rw [up_n (fun q => hx ⟨q.1, q.2.1, by omega, by omega⟩), up_n (fun q => hx ⟨q.1, q.2.1, by omega, by omega⟩), up_n (fun q => hu ⟨q.1, q.2.1, by omega⟩), e6 x y z (fun q => hx ⟨q.1, q.2.1, by omega, by omega⟩)]
    have hR0 : h_X5_text_26 K101 (m' + 2) 1 (nI p) wr = Option.bind (h_X5_eRead_14 KK FU 1 1 (up (up (up r1 25 0 (4 * t + p) (nI OC.length)) 5 0 25 0) 5 0 26 0)) (fun r9 => if r9.1 = 0 then (h_X5_text_26 K101 (m' + 1) 0 (nI p + 1) r9.2) else (h_X5_text_26 K101 (m' + 1) 1 (nI p + 1) r9.2)) := by
      conv => lhs; unfold h_X5_text_26
      rw [if_pos lt3, if_neg (show ¬ (1 : Int32) = 0 by decide), e1, ob, e2, if_pos hRT, hv, if_pos rfl]
      unfold j_X5_text_60
      rw [r10, if_pos i25, if_neg (show ¬ (1 : Int32) = 0 by decide), t25, r27, eRead_KK]
    have hC0 : h_X1_faultOf_16 K84 (m + 1) (nI p) wc = Option.bind (rd 40 0 0 w1) (fun r5 => if r5.1 = 0 then (some (r5.2 1 0 6, r5.2)) else (if (r5.2 1 0 5) = 59 then (Option.bind (f_X1_next (setV r5.2 11 0 (nI p) (r5.2 1 0 3))) (fun r8 => (h_X1_faultOf_16 K84 m) (nI p + 1) r8)) else (some (r5.2 1 0 6, r5.2)))) := by
      conv => lhs; unfold h_X1_faultOf_16
      rw [if_pos lt3, if_pos (show wc 1 0 5 = 3 + nI p by rw [htok, htk, e3p]), w2, ob]
    rcases parse hb hn ht 40 0 0 (by omega) (by omega) (by omega) _ _ _ _ _ _ hpre with ⟨a2, C2, wc2, wr3, S3, O3, j2, mn2, d1, d2, d3, d4, d5, d6, d7, d8, d9, d10, d11, d12⟩ | ⟨wc2, wr3, q, j2, d1, d2, d3, d4, d5, d6, d7, d8⟩
    · rw [show nI 0 = 0 from rfl] at d1
      have ha2n := d2.2.1
      have hu1 : unw 1 S3 O3 = ([], (OC ++ C2).map cmap) := d7
      have hlen := unw_len 1 S3 O3
      rw [hu1] at hlen
      dsimp only at hlen
      rw [List.length_map, List.length_append] at hlen
      have hl0 : ([] : List Int32).length = 0 := rfl
      have htok2 : wc2 1 0 5 = TK T n a2 := d2.2.2.1.1
      have hFU : FU = (999999 - j2) + 1 + j2 := by show 1000000 = _; omega
      rw [hC0, hR0, d1, ob, hFU, d4]
      dsimp only
      rw [if_neg (show ¬ (1 : Int32) = 0 by decide)]
      by_cases h59 : TK T n a2 = 59
      · have hbg2 := BH_gt (T := T) (n := n) (a := a2) (by rw [h59]; decide)
        rw [if_pos (show wc2 1 0 5 = 59 from htok2.trans h59)]
        obtain ⟨r3, f1, f2, f3, f4, -, f6⟩ := next_rs d5 ha2n
        obtain ⟨r4, u1, u2, u3, -⟩ := unwinds_st ht (l := 1) (by omega) (by omega) f2 (by omega)
        rw [hu1] at u2
        dsimp only at u2
        have hE : h_X5_eRead_14 KK (999999 - j2 + 1) 0 mn2 wr3 = some (1, r4) := by
          rw [turn_n _ mn2 f1, f3, h59, if_pos (show RT 59 = 59 from rfl)]
          unfold KK
          rw [show (1 : Int32) = nI 1 from rfl, u1, ob, if_pos (show r4 5 0 25 = 0 from u2.2.2.1)]
        rw [hE, ob]
        dsimp only
        rw [if_neg (show ¬ (1 : Int32) = 0 by decide), nI_1]
        have hco : wc2 1 0 3 = nI (OC ++ C2).length := d2.2.2.2.1
        have es : setV wc2 11 0 (nI p) (wc2 1 0 3) = up wc2 11 0 p (nI (OC ++ C2).length) := by rw [hco]; exact setV_n wc2 0 _ (show p < lenK 11 from hp3) (by decide)
        have hcs : CSt T n a2 (OC ++ C2) (up wc2 11 0 p (nI (OC ++ C2).length)) := by
          obtain ⟨g1, g2, ⟨g5, g6, g7, g8⟩, g9, g10⟩ := d2
          exact ⟨g1.of (up_k (by decide)) (fun _ => up_k (by decide)), g2, ⟨(up_k (by decide)).trans g5, (up_k (by decide)).trans g6, (up_k (by decide)).trans g7, fun z => (up_k (by decide)).trans (g8 z)⟩, (up_k (by decide)).trans g9, fun j hj => (up_k (by decide)).trans (g10 j hj)⟩
        obtain ⟨w5, w6, w7, w8⟩ := next_st hb hcs
        rw [es, w6, ob]
        refine Or.inl ⟨BH T n a2, C2, w5, r4, rfl, rfl, w7, u2.b, by rw [List.length_append]; omega, ?_, ?_, fun q hq => ?_, ?_, fun c hc => ?_, ?_, ((fr0.tr d6.y).tr f6.y).tr u3.y⟩
        · have := d11 0 [] (by omega) (Nat.le_refl 1)
          rw [List.append_nil] at this
          exact this
        · rw [w8 11 0 p (by omega) (by omega), up_s]
        · rw [w8 11 0 q (by omega) (by omega), up_j hq, d3 11 0 q (by omega) (by omega), w4 11 0 q (by omega) (by omega)]
        · rw [u3 25 0 _ (by omega) (by omega) (by omega), f6 25 0 _ (by omega) (by omega) (by omega), d6 25 0 _ (by omega) (by omega) (by omega), up_k (by decide), up_k (by decide), up_s]
        · rw [u3 25 0 _ (by omega) (by omega) (by omega), f6 25 0 _ (by omega) (by omega) (by omega), d6 25 0 _ (by omega) (by omega) (by omega), up_k (by decide), up_k (by decide), up_j hc, e6 25 0 c (by omega)]
        · refine (w4.t.tr d3.t).tr (FrT.tr (fun x y z hx hy hz => ?_) w8.t)
          exact up_k hz
      · rw [if_neg (show ¬ wc2 1 0 5 = 59 from fun z => h59 (htok2.symm.trans z))]
        obtain ⟨wr4, x1, x2, x3⟩ := end_no mn2 ht d5 ha2n (by omega) hu1 d12 (fun z => h59 z.1) (fun z => z.2 rfl)
        rw [x1, ob]
        dsimp only
        rw [if_pos (show (0 : Int32) = 0 from rfl), drop_t, d2.2.2.1.2.1]
        exact Or.inr ⟨skp T n a2, wc2, wr4, skp_le ha2n, rfl, rfl, x2, w4.t.tr d3.t, (fr0.tr d6.y).tr x3.y⟩
    · rw [show nI 0 = 0 from rfl] at d1
      have hFU : FU = (1000000 - j2) + j2 := by show 1000000 = _; omega
      rw [hC0, hR0, d1, ob, hFU, d5, ob]
      dsimp only
      rw [if_pos (show (0 : Int32) = 0 from rfl), if_pos (show (0 : Int32) = 0 from rfl), drop_t, d2]
      exact Or.inr ⟨q, wc2, wr3, d3, rfl, rfl, d6, w4.t.tr d4.t, fr0.tr d7.y⟩
  · have hC0 : h_X1_faultOf_16 K84 (m + 1) (nI p) wc = some (nI (skp T n a), wc) := by
      conv => lhs; unfold h_X1_faultOf_16
      rw [if_pos lt3, if_neg (show ¬ wc 1 0 5 = 3 + nI p by rw [htok, e3p]; exact htk), hc.2.2.1.2.1]
    have h59 : j_X5_text_59 (h_X5_text_26 K101 (m' + 1)) (nI p) r1 = K101 0 (up r1 25 0 (4 * t + p) (nI OC.length)) := by
      unfold j_X5_text_59 j_X5_text_60
      rw [r10, if_pos i25, if_pos (show (0 : Int32) = 0 from rfl), t25, r27, drop_t]
    have hR0 : h_X5_text_26 K101 (m' + 2) 1 (nI p) wr = K101 0 (up r1 25 0 (4 * t + p) (nI OC.length)) := by
      conv => lhs; unfold h_X5_text_26
      rw [if_pos lt3, if_neg (show ¬ (1 : Int32) = 0 by decide), e1, ob, e2, h59]
      by_cases h3 : RT (TK T n a) = 3
      · rw [if_pos h3]
        have hv := e5.2.2 (RT3 h3)
        have hne : ¬ r1 5 0 22 = nI p := by
          intro z
          rw [hv] at z
          refine htk ?_
          rw [← e3p, ← z, Int32.add_comm, Int32.sub_add_cancel]
        rw [if_neg hne]
      · rw [if_neg h3]
    rw [hC0, hR0]
    refine Or.inr ⟨skp T n a, wc, _, skp_le han, rfl, rfl, by rw [up_k (by decide)]; exact e3, .rf, fun x y z hx hy hz hu => ?_⟩
    rw [up_n (fun q => hu ⟨q.1, q.2.1, by omega⟩), e6 x y z (fun q => hx ⟨q.1, q.2.1, by omega, by omega⟩)]
