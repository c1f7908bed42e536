/-! the parsers: one level, its loop -/
/-- a level's loop of the class's: signs between two of the level below -/
def LpOK (T : Nat → Int32) (n k : Nat) (o : Nat) (rc : Nat → Int32 → Mem → Option (Int32 × Mem)) (ops : Int32 → Prop) (sgn cod : Int32 → Int32) (Lp : Nat → Int32 → Mem → Option (Int32 × Mem)) : Prop :=
  (∀ m i w, ¬ ops (w 1 0 5) → Lp (m + 1) i w = some (1, w)) ∧ (∀ m i w, i < 160 → ops (w 1 0 5) → Lp (m + 1) (nI i) w = Option.bind (f_X1_next w) (fun r6 => Option.bind (rc (k + 1) (nI o) r6) (fun r7 => if r7.1 = 0 then some (0, r7.2) else Option.bind (f_X1_write (cod (w 1 0 5)) r7.2) (fun r9 => Lp m (nI (i + 1)) r9))))
/-- what is said of the signs of a level -/
def SgOK (k : Nat) (ops : Int32 → Prop) (sgn cod : Int32 → Int32) : Prop := (k = 4 ∨ k = 3 ∨ k = 1 ∨ k = 0) ∧ ∀ c, ops c → c ≠ 0 ∧ RT c ≠ 59 ∧ RT c ≠ 41 ∧ (∀ w : Mem, w 5 0 21 = RT c → f_X5_signOf w = some (sgn c, w)) ∧ sgn c ≠ -1 ∧ rk (sgn c) = lv k ∧ ¬ (sgn c = 0 ∨ sgn c = 13 ∨ sgn c = 19) ∧ cmap (cod c) = sgn c ∧ (-14 ≤ cod c ∧ cod c < -9 ∨ cod c = -8 ∨ cod c = -7) ∧ (k + 1 ≤ 2 → sgn c ≤ 12) ∧ (3 ≤ k + 1 → ¬ sgn c ≤ 12)
theorem Okp.op {d0 d1 : Nat} {C C2 : List Int32} {c : Int32} (h1 : Okp d0 C) (h2 : Okp d1 C2) (hd : d1 = d0 + 1) (hc : -14 ≤ c ∧ c < -9 ∨ c = -8 ∨ c = -7) : Okp d0 (C ++ C2 ++ [c]) := by
  intro d rest hd0 hr
  rw [List.append_assoc, List.append_assoc]
  refine h1 d _ hd0 (h2 (d + 1) _ (by omega) ?_)
  show okC (c :: rest) (d + 1 + 1)
  unfold okC
  have h6 : c < -6 := by
    rcases hc with ⟨-, h⟩ | rfl | rfl
    · exact Int32.lt_trans h (by decide)
    · decide
    · decide
  have h9 : ¬ (c = -9 ∨ c = -15) := by
    rintro (rfl | rfl)
    · rcases hc with ⟨-, h⟩ | h | h
      · exact absurd h (by decide)
      · exact absurd h (by decide)
      · exact absurd h (by decide)
    · rcases hc with ⟨h, -⟩ | h | h
      · exact absurd h (by decide)
      · exact absurd h (by decide)
      · exact absurd h (by decide)
  have h14 : -14 ≤ c := by
    rcases hc with ⟨h, -⟩ | rfl | rfl
    · exact h
    · decide
    · decide
  rw [if_pos h6, if_neg h9]
  exact ⟨h14, by omega, by rw [show d + 1 + 1 - 1 = d + 1 by omega]; exact hr⟩
theorem Okp.un {d0 : Nat} {C : List Int32} {c : Int32} (h1 : Okp d0 C) (hc : c = -9 ∨ c = -15) : Okp d0 (C ++ [c]) := by
  intro d rest hd0 hr
  rw [List.append_assoc]
  refine h1 d _ hd0 ?_
  show okC (c :: rest) (d + 1)
  unfold okC
  have h6 : c < -6 := by rcases hc with rfl | rfl <;> decide
  rw [if_pos h6, if_pos hc]
  exact ⟨by omega, hr⟩
theorem level_loop {T : Nat → Int32} {n t k o : Nat} (hb : Byt T n) (hn : n ≤ 160) (ht : t < 6) {rc : Nat → Int32 → Mem → Option (Int32 × Mem)} {ops : Int32 → Prop} {sgn cod : Int32 → Int32} {Lp : Nat → Int32 → Mem → Option (Int32 × Mem)} (hL : LpOK T n k o rc ops sgn cod Lp) (hG : SgOK k ops sgn cod) (hdec : ∀ c, ops c ∨ ¬ ops c) (hpost : ∀ tk S O, Post (k + 1) tk S O → ¬ ops tk → Post k tk S O)
    (ih : ∀ a S OC wc wr mn, Pre T n t (k + 1) o a S OC mn wc wr → Won T n t (k + 1) (5 * o + (k + 1)) (lv (k + 1)) a S OC mn (rc (k + 1) (nI o) wc) wc wr ∨ Lost T n t a mn (rc (k + 1) (nI o) wc) wc wr)
    {a : Nat} {S OC : List Int32} {mn : Int32} {wc0 wr0 : Mem} (ho : opn S = o) (ho5 : o ≤ 5) (htop : Top (lv k) S) (hso : S.length + OC.length ≤ a) : ∀ (m i : Nat) (a' : Nat) (C : List Int32) (wc wr : Mem) (S2 O2 : List Int32) (j : Nat) (mn' : Int32), n < a' + m → i + 1 ≤ a' → CSt T n a' (OC ++ C) wc → FrR wc0 wc → (∀ x, h_X5_eRead_14 KK (x + j) 1 mn wr0 = h_X5_eRead_14 KK x 0 mn' wr) → RSt T n t a' S2 O2 wr → FrX t wr0 wr → unw (lv k) S2 O2 = (S, (OC ++ C).map cmap) → a + 1 ≤ a' → a + C.length ≤ a' → a + j ≤ a' → Okp (5 * o + k) C → Post (k + 1) (TK T n a') S2 O2 → Won T n t k (5 * o + k) (lv k) a S OC mn (Lp m (nI i) wc) wc0 wr0 ∨ Lost T n t a mn (Lp m (nI i) wc) wc0 wr0 := by
  intro m
  induction m with
  | zero =>
    intro i a' C wc wr S2 O2 j mn' hm _ hc
    have := hc.2.1
    omega
  | succ m ihm =>
    intro i a' C wc wr S2 O2 j mn' hm hi hc hfc hel hr hfr hu ha1 haC haj hok hpo
    have htok : wc 1 0 5 = TK T n a' := hc.2.2.1.1
    have han := hc.2.1
    rcases hdec (TK T n a') with hop | hop
    · obtain ⟨hk4, hG2⟩ := hG
      obtain ⟨p0, p59, p41, psg, pm1, prk, pno, pcm, pcod, pl12, pg12⟩ := hG2 _ hop
      have hbh := BH_le (T := T) han
      have hbg := BH_gt (T := T) p0
      have hin := TK_in (T := T) p0
      have hlen := unw_len (lv k) S2 O2
      rw [hu] at hlen
      dsimp only at hlen
      rw [List.length_map, List.length_append] at hlen
      have hlv : lv k ≠ 4 ∧ 1 ≤ lv k := by rcases hk4 with rfl | rfl | rfl | rfl <;> decide
      have hLe := hL.2 m i wc (by omega) (by rw [htok]; exact hop)
      rw [htok] at hLe
      obtain ⟨wc1, c1, c2, c3⟩ := next_st hb hc
      obtain ⟨wr1, r1, r2, r3, r4, -, r6⟩ := next_rs hr han
      obtain ⟨wr2, b1, b2, b3⟩ := between_r (sg := sgn (TK T n a')) (S := S) (X := (OC ++ C).map cmap) ht r2 (by omega) (by rw [prk]; exact hlv.2) (by rw [prk]; exact hlv.1) pno (by rw [prk]; exact hu)
      have hturn : ∀ x, h_X5_eRead_14 KK (x + 1) 0 mn' wr = h_X5_eRead_14 KK x 1 (if sgn (TK T n a') ≤ 12 then 1 else 0) wr2 := by
        intro x
        rw [turn_n x mn' r1, r3, if_neg p59, if_neg p41, psg wr1 r3, ob]
        dsimp only
        rw [if_neg pm1, b1, ob]
        dsimp only
        rw [if_neg (show ¬ (1 : Int32) = 0 by decide)]
        split <;> rfl
      have hpre : Pre T n t (k + 1) o (BH T n a') (sgn (TK T n a') :: S) (OC ++ C) (if sgn (TK T n a') ≤ 12 then 1 else 0) wc1 wr2 := by
        refine ⟨c2, b2, ?_, ho5, ?_, ?_, fun h => if_pos (pl12 h), fun h => Or.inl (if_neg (pg12 h))⟩
        · show (if _ then 1 else 0) + opn S = o
          rw [if_neg pno, Nat.zero_add]; exact ho
        · show rk _ < tp (k + 1)
          rw [prk]
          rcases hk4 with rfl | rfl | rfl | rfl <;> decide
        · show S.length + 1 + _ ≤ _
          rw [List.length_append]; omega
      rw [hLe, c1, ob]
      rcases ih _ _ _ _ _ _ hpre with ⟨a2, C2, wc2, wr3, S3, O3, j2, mn2, d1, d2, d3, d4, d5, d6, d7, d8, d9, d10, d11, d12⟩ | ⟨wc2, wr3, q, j2, d1, d2, d3, d4, d5, d6, d7, d8⟩
      · obtain ⟨wc3, w1, w2, w3⟩ := write_st d2 (by have := d2.2.1; rw [List.length_append, List.length_append]; omega) (cod (TK T n a'))
        rw [d1, ob]
        dsimp only
        rw [if_neg (show ¬ (1 : Int32) = 0 by decide), w1, ob]
        have hlv2 : lv k ≤ lv (k + 1) := by rcases hk4 with rfl | rfl | rfl | rfl <;> decide
        have eC : OC ++ (C ++ C2 ++ [cod (TK T n a')]) = OC ++ C ++ C2 ++ [cod (TK T n a')] := by simp only [List.append_assoc]
        refine ihm (i + 1) a2 (C ++ C2 ++ [cod (TK T n a')]) wc3 wr3 S3 O3 (j2 + 1 + j) mn2 (by omega) (by omega) ?_ ((hfc.tr c3).tr (d3.tr w3)) ?_ d5 (((hfr.tr r6).tr b3).tr d6) ?_ (by omega) ?_ (by omega) ?_ d12
        · rw [eC]; exact w2
        · intro x
          rw [← Nat.add_assoc, hel, ← Nat.add_assoc, hturn, d4]
        · have h7 : unw (lv k) S3 O3 = unw (lv k) (sgn (TK T n a') :: S) ((OC ++ C ++ C2).map cmap) := by
            rw [← unw_unw hlv2 S3 O3, d7, unw_unw hlv2]
          rw [h7, unw_pop (by rw [prk]; exact Nat.le_refl _), htop.un, eC, List.map_append (l₁ := OC ++ C ++ C2)]
          show _ = (S, _ ++ [cmap (cod (TK T n a'))])
          rw [pcm]
        · rw [List.length_append, List.length_append]
          show a + (C.length + C2.length + 1) ≤ a2
          omega
        · exact hok.op d11 (by omega) pcod
      · rw [d1, ob]
        dsimp only
        rw [if_pos (show (0 : Int32) = 0 from rfl)]
        refine Or.inr ⟨wc2, wr3, q, j2 + 1 + j, rfl, d2, d3, (hfc.tr c3).tr d4, fun x => ?_, d6, ((hfr.tr r6).tr b3).tr d7, by omega⟩
        rw [← Nat.add_assoc, hel, ← Nat.add_assoc, hturn, d5]
    · rw [hL.1 m (nI i) wc (by rw [htok]; exact hop)]
      refine Or.inl ⟨a', C, wc, wr, S2, O2, j, mn', rfl, hc, hfc, hel, hr, hfr, ?_, ha1, haC, haj, hok, hpost _ _ _ hpo hop⟩
      rw [hu, htop.un]
/-- a level: what is read first, then its loop -/
theorem level {T : Nat → Int32} {n t k o : Nat} (hb : Byt T n) (hn : n ≤ 160) (ht : t < 6) {rc : Nat → Int32 → Mem → Option (Int32 × Mem)} {ops : Int32 → Prop} {sgn cod : Int32 → Int32} {Lp : Nat → Int32 → Mem → Option (Int32 × Mem)} (hL : LpOK T n k o rc ops sgn cod Lp) (hG : SgOK k ops sgn cod) (hdec : ∀ c, ops c ∨ ¬ ops c) (hpost : ∀ tk S O, Post (k + 1) tk S O → ¬ ops tk → Post k tk S O)
    (ih : ∀ a S OC wc wr mn, Pre T n t (k + 1) o a S OC mn wc wr → Won T n t (k + 1) (5 * o + (k + 1)) (lv (k + 1)) a S OC mn (rc (k + 1) (nI o) wc) wc wr ∨ Lost T n t a mn (rc (k + 1) (nI o) wc) wc wr)
    {a : Nat} {S OC : List Int32} {mn : Int32} {wc wr : Mem} (hp : Pre T n t k o a S OC mn wc wr) : Won T n t k (5 * o + k) (lv k) a S OC mn (Option.bind (rc (k + 1) (nI o) wc) (fun r1 => if r1.1 = 0 then some (0, r1.2) else Lp FU 0 r1.2)) wc wr ∨ Lost T n t a mn (Option.bind (rc (k + 1) (nI o) wc) (fun r1 => if r1.1 = 0 then some (0, r1.2) else Lp FU 0 r1.2)) wc wr := by
  obtain ⟨h1, h2, h3, h4, h5, h6, h7, h8⟩ := hp
  have hk4 := hG.1
  have htop : Top (lv k) S := by
    have e : tp k = lv k := by rcases hk4 with rfl | rfl | rfl | rfl <;> rfl
    rw [← e]; exact h5
  have hlv2 : lv k ≤ lv (k + 1) := by rcases hk4 with rfl | rfl | rfl | rfl <;> decide
  have htp2 : tp k ≤ tp (k + 1) := by rcases hk4 with rfl | rfl | rfl | rfl <;> decide
  have hpre : Pre T n t (k + 1) o a S OC mn wc wr := ⟨h1, h2, h3, h4, h5.mono htp2, h6, fun h => h7 (by omega), fun h => by
    rcases hk4 with rfl | rfl | rfl | rfl
    · exact h8 (by omega)
    · exact h8 (by omega)
    · omega
    · omega⟩
  rcases ih _ _ _ _ _ _ hpre with ⟨a2, C2, wc2, wr3, S3, O3, j2, mn2, d1, d2, d3, d4, d5, d6, d7, d8, d9, d10, d11, d12⟩ | ⟨wc2, wr3, q, j2, d1, d2, d3, d4, d5, d6, d7, d8⟩
  · rw [d1, ob]
    dsimp only
    rw [if_neg (show ¬ (1 : Int32) = 0 by decide)]
    have := level_loop hb hn ht hL hG hdec hpost ih (mn := mn) (wc0 := wc) (wr0 := wr) h3 h4 htop h6 FU 0 a2 C2 wc2 wr3 S3 O3 j2 mn2 (by show n < a2 + 1000000; omega) (by omega) d2 d3 d4 d5 d6 (by rw [← unw_unw hlv2 S3 O3, d7, unw_unw hlv2, htop.un]) d8 d9 d10 (fun d rest hd hr => d11 d rest (by omega) hr) d12
    rw [show nI 0 = 0 from rfl] at this
    exact this
  · rw [d1, ob]
    dsimp only
    rw [if_pos (show (0 : Int32) = 0 from rfl)]
    exact Or.inr ⟨wc2, wr3, q, j2, rfl, d2, d3, d4, d5, d6, d7, d8⟩
