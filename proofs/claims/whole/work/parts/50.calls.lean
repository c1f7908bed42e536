/-! the sea, the law, fishers: calls -/
def Out {V : Type} (wc wr : Mem) (e e' : Option (V × Mem)) : Prop := ∃ (v : V) (wc' wr' : Mem), e = some (v, wc') ∧ e' = some (v, wr') ∧ R wc' wr' ∧ FC wc wc' ∧ FR wr wr'
theorem Out.same {V : Type} {wc wr : Mem} (h : R wc wr) (v : V) : Out wc wr (some (v, wc)) (some (v, wr)) := ⟨v, wc, wr, rfl, rfl, h, .rf, .rf⟩
theorem Out.eq {V : Type} {wc wr : Mem} (h : R wc wr) {v u : V} (e : v = u) : Out wc wr (some (v, wc)) (some (u, wr)) := by subst e; exact .same h v
def Outs {V : Type} (wc wr : Mem) : List (Option (V × Mem)) → List (Option (V × Mem)) → Prop
  | [], [] => True
  | e :: es, f :: fs => Out wc wr e f ∧ Outs wc wr es fs
  | _, _ => False
theorem Outs.sw {V : Type} {wc wr : Mem} (x : Int32) {d d' : Option (V × Mem)} (hd : Out wc wr d d') : ∀ (es fs : List (Option (V × Mem))) (a : Int), Outs wc wr es fs → Out wc wr (swE x a es d) (swE x a fs d') := by
  intro es
  induction es with
  | nil =>
    intro fs a h
    match fs, h with
    | [], _ => exact hd
  | cons e es ih =>
    intro fs a h
    match fs, h with
    | f :: fs, h =>
      unfold swE
      by_cases hx : x = Int32.ofInt a
      · rw [if_pos hx, if_pos hx]; exact h.1
      · rw [if_neg hx, if_neg hx]; exact ih fs (a + 1) h.2
theorem b_count (a1 : Int32) : Both (f_X4_count a1) (f_X5_count a1) := by
  intro wc wr hR
  obtain ⟨N, M, CC, ⟨⟨g1, g2, g3, g4, g5, g6, g7, g8⟩, hTR, hL⟩, hT, hS, ⟨n, p1, p2, p3, p4⟩, hI⟩ := id hR
  refine Outs.sw a1 (.same hR _) _ _ 0 ⟨.eq hR (g2.trans g3.symm), .eq hR ?_, .eq hR g6, .eq hR (hTR.2.1.trans hTR.2.2.1.symm), .eq hR g7, .eq hR (p2.trans p3.symm), trivial⟩
  rw [g4]; exact g5.bc
theorem rngc (x : Int32) (b : Nat) (hb : b < 2 ^ 31) : (rng x 0 (nI b) = 0 ∧ (x < 0 ∨ ¬ x ≤ nI b)) ∨ ∃ t, t ≤ b ∧ x = nI t ∧ ¬ rng x 0 (nI b) = 0 ∧ ¬ x < 0 ∧ x ≤ nI b := by
  by_cases h : 0 ≤ x ∧ x ≤ nI b
  · obtain ⟨t, ht, rfl⟩ := nI_of2 (M := nI b) (n := b) (nI_toInt hb) (Int32.not_lt.mpr h.1) h.2
    exact Or.inr ⟨t, ht, rfl, fun z => rng_0.mp z h, Int32.not_lt.mpr h.1, h.2⟩
  · refine Or.inl ⟨rng_0.mpr h, ?_⟩
    by_cases h1 : x < 0
    · exact Or.inl h1
    · exact Or.inr (fun z => h ⟨Int32.not_lt.mp h1, z⟩)
theorem SR.of {wc wr wc' wr' : Mem} (h : SR wc wr) (c2 : ∀ s c, wc' 2 s c = wc 2 s c) (c19 : ∀ s c, wc' 19 s c = wc 19 s c) (r : ∀ a c, 28 ≤ a → a ≤ 30 → wr' a 0 c = wr a 0 c) : SR wc' wr' := by
  intro s hs
  rw [c2, c2, r 28 s (by omega) (by omega), r 29 s (by omega) (by omega)]
  obtain ⟨h1, h2, h3, h4⟩ := h s hs
  exact ⟨h1, h2, h3, fun k hk => by rw [c19, r 30 _ (by omega) (by omega)]; exact h4 k hk⟩
theorem PR.of {wc wr wc' wr' : Mem} (h : PR wc wr) (c1 : wc' 1 0 1 = wc 1 0 1) (c9 : ∀ c, wc' 9 0 c = wc 9 0 c) (r5 : wr' 5 0 7 = wr 5 0 7) (r23 : ∀ c, wr' 23 0 c = wr 23 0 c) (r32 : ∀ c, wr' 32 0 c = wr 32 0 c) : PR wc' wr' := by
  obtain ⟨n, h1, h2, h3, h4⟩ := h
  exact ⟨n, h1, c1.trans h2, r5.trans h3, fun k hk => by rw [c9, r23]; exact h4.1 k hk, fun c h => (r32 c).trans (h4.2 c h)⟩
theorem R.upd {N M p : Nat} {CC : Nat → Nat → List Int32} {wc wr wc' wr' : Mem} (hB : Bo 0 N M CC wc wr) (hS : SR wc wr) (hP : PR wc wr) (hI : IR N M wc wr) {kn kp lk se td : Int32} (s1 : S16 kn) (s2 : S16 kp) (s3 : 0 ≤ lk ∧ lk ≤ 99) (s4 : S16 se) (s5 : TB td)
    (hc0 : ThC 0 wc wc') (hr0 : ThS wr wr')
    (c2 : wc' 0 0 2 = wc 0 0 2) (c3 : wc' 0 0 3 = se) (c4 : wc' 0 0 4 = td) (c5 : wc' 0 0 5 = wc 0 0 5)
    (hc : ∀ q, q < N → wc' 13 0 q = wc 13 0 q ∧ wc' 14 0 q = wc 14 0 q ∧ wc' 15 0 q = (if q = p then kn else wc 15 0 q) ∧ wc' 16 0 q = (if q = p then kp else wc 16 0 q) ∧ wc' 17 0 q = (if q = p then lk else wc 17 0 q))
    (r0 : wr' 5 0 0 = wr 5 0 0) (r4 : wr' 5 0 4 = se) (r5 : wr' 5 0 5 = td) (r11 : wr' 5 0 11 = wr 5 0 11)
    (hr : ∀ q, q < N → wr' 20 0 q = wr 20 0 q ∧ wr' 21 0 q = wr 21 0 q ∧ wr' 22 0 (3 * q) = (if q = p then kn else wr 22 0 (3 * q)) ∧ wr' 22 0 (3 * q + 1) = (if q = p then kp else wr 22 0 (3 * q + 1)) ∧ wr' 22 0 (3 * q + 2) = (if q = p then lk else wr 22 0 (3 * q + 2))) : R wc' wr' :=
  R.now hS hP hI ⟨CR.upd hB.1 s1 s2 s3 s4 c2 c3 c4 c5 hc r0 r4 r5 r11 hr, hB.2.1.ths hc0 hr0, hB.2.2.of r11⟩ hc0 hr0 (by rw [r5]; exact s5)
theorem b_shore (a1 a2 : Int32) : Both (f_X4_shore a1 a2) (f_X5_shore a1 a2) := by
  intro wc wr hR
  obtain ⟨N, M, CC, hB, hT, hS, hP, hI⟩ := id hR
  obtain ⟨g1, g2, g3, g4, g5, g6, g7, g8⟩ := id hB.1
  show Out wc wr _ _
  unfold f_X4_shore f_X5_shore j_X4_shore_37 j_X5_shore_23 j_X5_shore_47
  have z50 : 0 ≤ (50 : Int32) ∧ (50 : Int32) ≤ 99 := ⟨by decide, by decide⟩
  have ht : R (up wc 0 0 4 a2) (up wr 5 0 5 a2) ∨ ¬ (0 ≤ a2 ∧ a2 ≤ 999) := by
    by_cases h : 0 ≤ a2 ∧ a2 ≤ 999
    · obtain ⟨t, ht, rfl⟩ := nI_of2 (M := 999) (n := 999) rfl (Int32.not_lt.mpr h.1) h.2
      refine Or.inl (R.upd (p := N) hB hS hP hI (kn := 0) (kp := 0) (lk := 50) (se := wr 5 0 4) (td := nI t) .zero .zero z50 g5 ⟨t, ht, rfl⟩ (ThC.rf.up (by omega)) (ThR.rf.up5 (by omega)).s ?_ ?_ ?_ ?_ ?_ ?_ ?_ ?_ ?_ ?_)
      · simp [up]
      · simp [up, g4]
      · simp [up]
      · simp [up]
      · intro q hq
        have : ¬ q = N := by omega
        simp [up, this]
      · simp [up]
      · simp [up]
      · simp [up]
      · simp [up]
      · intro q hq
        have : ¬ q = N := by omega
        simp [up, this]
    · exact Or.inr h
  have hs : R (up wc 0 0 3 a2) (up wr 5 0 4 a2) ∨ ¬ (0 ≤ a2 ∧ a2 ≤ 65535) := by
    by_cases h : 0 ≤ a2 ∧ a2 ≤ 65535
    · refine Or.inl (R.upd (p := N) hB hS hP hI (kn := 0) (kp := 0) (lk := 50) (se := a2) (td := wr 5 0 5) .zero .zero z50 (.rng h.1 h.2) hT (ThC.rf.up (by omega)) (ThR.rf.up5 (by omega)).s ?_ ?_ ?_ ?_ ?_ ?_ ?_ ?_ ?_ ?_)
      · simp [up]
      · simp [up]
      · simp [up, g6]
      · simp [up]
      · intro q hq
        have : ¬ q = N := by omega
        simp [up, this]
      · simp [up]
      · simp [up]
      · simp [up]
      · simp [up]
      · intro q hq
        have : ¬ q = N := by omega
        simp [up, this]
    · exact Or.inr h
  rcases rng_01c (x := a1) with ⟨h1, h2, h3⟩ | ⟨rfl, h1⟩ | ⟨rfl, h1⟩
  · rw [if_neg h2, if_neg h3, if_pos h1]; exact .same hR _
  · rw [if_pos rfl, if_neg h1, if_pos rfl, if_neg (show ¬ (0 : Int32) = 1 by decide), if_pos rfl, if_pos rfl, g6]
    by_cases h : 0 ≤ a2 ∧ a2 ≤ 999
    · rw [if_neg (Int32.not_lt.mpr h.1), if_pos h.2, if_neg (fun z => rng_0.mp z h)]
      exact ⟨_, _, _, rfl, rfl, ht.resolve_right (fun z => z h), FC.rf.up (by omega), FR.rf.up (by omega)⟩
    · rw [if_pos (rng_0.mpr h)]
      by_cases h4 : a2 < 0
      · rw [if_pos h4]; exact .same hR _
      · rw [if_neg h4, if_neg (fun z => h ⟨Int32.not_lt.mp h4, z⟩)]; exact .same hR _
  · rw [if_neg (show ¬ (1 : Int32) = 0 by decide), if_pos rfl, if_neg h1, if_neg (show ¬ (1 : Int32) = 0 by decide), if_neg (show ¬ (1 : Int32) = 0 by decide), if_neg (show ¬ (1 : Int32) = 0 by decide), g4]
    by_cases h : 0 ≤ a2 ∧ a2 ≤ 65535
    · rw [if_neg (fun z => rng_0.mp z h), if_neg (fun z => rng_0.mp z h)]
      exact ⟨_, _, _, rfl, rfl, hs.resolve_right (fun z => z h), FC.rf.up (by omega), FR.rf.up (by omega)⟩
    · rw [if_pos (rng_0.mpr h), if_pos (rng_0.mpr h)]; exact .same hR _
theorem CR.law {i N : Nat} {wc wr : Mem} (h : CR i N wc wr) (v : Int32) : CR i N (up wc 0 i 5 v) (up wr 5 0 11 v) := by
  obtain ⟨h1, h2, h3, h4, h5, h6, h7, h8⟩ := h
  exact ⟨h1, by simp [up, h2], by simp [up, h3], by simp [up, h4], by simp [up, h5], by simp [up, h6], by simp [up], fun p hp => by simp [up]; exact h8 p hp⟩
theorem b_force (a1 : Int32) : Both (f_X4_force a1) (f_X5_force a1) := by
  intro wc wr hR
  obtain ⟨N, M, CC, hB, hT, hS, hP, hI⟩ := id hR
  obtain ⟨g1, g2, g3, g4, g5, g6, g7, g8⟩ := id hB.1
  show Out wc wr _ _
  unfold f_X4_force f_X5_force
  have hM := hB.2.1.1
  rw [hB.2.1.2.1, hB.2.1.2.2.1, one_has hM, g7]
  by_cases h0 : hasF a1 (nI M) = 0
  · rw [if_pos h0]
    by_cases h1 : a1 < 0
    · rw [if_pos h1]; exact .same hR _
    · rw [if_neg h1, if_neg (fun z => b2i_0.mp h0 ⟨Int32.not_lt.mp h1, z⟩)]; exact .same hR _
  · obtain ⟨t, ht, rfl⟩ := has_of hM h0
    rw [if_neg h0, if_neg (nI_pos (by omega)), if_pos (nI_lt ht (by omega))]
    refine ⟨_, _, _, rfl, rfl, ⟨N, M, CC, ⟨hB.1.law _, hB.2.1.of (up_k (by decide)) (fun _ => up_k (by decide)) (fun _ => up_k (by decide)) (up_j (by decide)) (fun _ => up_k (by decide)) (fun _ => up_k (by decide)), ⟨t, ht, up_s _ _ _ _ _⟩⟩, by rw [up_j (by decide)]; exact hT, hS.of (fun _ _ => up_k (by decide)) (fun _ _ => up_k (by decide)) (fun a c h _ => up_k (by omega)), hP.of (up_k (by decide)) (fun _ => up_k (by decide)) (up_j (by decide)) (fun _ => up_k (by decide)) (fun _ => up_k (by decide)), hI.of (Nat.le_refl _) (Nat.le_refl _) (up_k (by decide)) (up_j (by decide)) (fun c => up_i (by decide)) (fun a c ha => up_k (by omega)) (fun c => up_k (by decide)) (fun c => up_k (by decide)) (fun c _ => up_k (by decide)) (fun c _ => up_k (by decide))⟩, FC.rf.up (by omega), FR.rf.up (by omega)⟩
theorem hasx {N M : Nat} {CC : Nat → Nat → List Int32} {wc wr : Mem} (hB : Bo 0 N M CC wc wr) (x : Int32) : (hasF x (wc 0 0 2) = 0 ∧ rng x 0 (wr 5 0 0 - 1) = 0) ∨ ∃ p, p < N ∧ p < 6 ∧ x = nI p ∧ ¬ hasF x (wc 0 0 2) = 0 ∧ ¬ rng x 0 (wr 5 0 0 - 1) = 0 ∧ inB x 6 ∧ tn x = p ∧ inB (3 * x) 18 ∧ tn (3 * x) = 3 * p ∧ inB (3 * x + 1) 18 ∧ tn (3 * x + 1) = 3 * p + 1 ∧ inB (3 * x + 2) 18 ∧ tn (3 * x + 2) = 3 * p + 2 := by
  rcases has_both hB x with h | ⟨p, hp, rfl, h1, h2⟩
  · exact Or.inl h
  · have hN := hB.1.1
    refine Or.inr ⟨p, hp, by omega, rfl, h1, h2, nI_in (by omega) (by omega), nI_clamp (by omega), ?_, ?_, ?_, ?_, ?_, ?_⟩
    · rw [m3]; exact nI_in (by omega) (by omega)
    · rw [m3]; exact nI_clamp (by omega)
    · rw [m31]; exact nI_in (by omega) (by omega)
    · rw [m31]; exact nI_clamp (by omega)
    · rw [m32]; exact nI_in (by omega) (by omega)
    · rw [m32]; exact nI_clamp (by omega)
theorem b_asks (a1 a2 a3 : Int32) : Both (f_X4_asks a1 a2 a3) (f_X5_asks a1 a2 a3) := by
  intro wc wr hR
  obtain ⟨N, M, CC, hB, hT, hS, hP, hI⟩ := id hR
  show Out wc wr _ _
  unfold f_X4_asks f_X5_asks
  rcases rngc a1 2 (by omega) with ⟨h1, h2⟩ | ⟨part, hp, rfl, h1, h2, h3⟩
  · rw [if_pos (show rng a1 0 2 = 0 from h1)]
    rcases h2 with h2 | h2
    · rw [if_pos h2]; exact .same hR _
    · by_cases h3 : a1 < 0
      · rw [if_pos h3]; exact .same hR _
      · rw [if_neg h3, if_neg (show ¬ a1 ≤ 2 from h2)]; exact .same hR _
  · rw [if_neg (show ¬ rng (nI part) 0 2 = 0 from h1), if_neg h2, if_pos (show nI part ≤ 2 from h3)]
    rcases hasx hB a2 with ⟨a, b⟩ | ⟨p, hp2, -, rfl, a, b, -⟩
    · rw [if_pos a, if_pos b]; exact .same hR _
    · rw [if_neg a, if_neg b]
      by_cases h0 : rng a3 0 15 = 0
      · rw [if_pos h0, if_pos h0]; exact .same hR _
      · rw [if_neg h0, if_neg h0]
        obtain ⟨v, wc', wr', c1, r1, sc, sr, -⟩ := says_both (part := part) hB (by omega) hp2 a3
        rw [c1, r1, ob, ob]
        exact ⟨v, wc', wr', rfl, rfl, hR.q sc.q sr.q, sc.f, sr.f⟩
theorem R.put {N M p : Nat} {CC : Nat → Nat → List Int32} {wc wr : Mem} (hB : Bo 0 N M CC wc wr) (hT : TB (wr 5 0 5)) (hS : SR wc wr) (hP : PR wc wr) (hI : IR N M wc wr) (hp : p < N) (w : Nat) (hw : w < 3) (v : Int32) (hv : if w = 2 then 0 ≤ v ∧ v ≤ 99 else S16 v) : R (up wc (15 + w) 0 p v) (up wr 22 0 (3 * p + w) v) := by
  obtain ⟨g1, g2, g3, g4, g5, g6, g7, g8⟩ := id hB.1
  obtain ⟨k1, k2, k3, k4, k5, k6, k7, k8, k9⟩ := g8 p hp
  have x16 : w ≠ 2 → S16 v := fun h => by rw [if_neg h] at hv; exact hv
  have x2 : w = 2 → 0 ≤ v ∧ v ≤ 99 := fun h => by rw [if_pos h] at hv; exact hv
  refine R.upd (p := p) hB hS hP hI (kn := if w = 0 then v else wr 22 0 (3 * p)) (kp := if w = 1 then v else wr 22 0 (3 * p + 1)) (lk := if w = 2 then v else wr 22 0 (3 * p + 2)) (se := wr 5 0 4) (td := wr 5 0 5) ?_ ?_ ?_ g5 hT (ThC.rf.up (by omega)) ThR.rf.up2.s ?_ ?_ ?_ ?_ ?_ ?_ ?_ ?_ ?_ ?_
  · split
    · exact x16 (by omega)
    · exact k6
  · split
    · exact x16 (by omega)
    · exact k7
  · split
    · rename_i h; exact x2 h
    · exact k8
  · rw [up_k (by omega)]
  · rw [up_k (by omega)]; exact g4
  · rw [up_k (by omega)]; exact g6
  · rw [up_k (by omega)]
  · intro q hq
    rw [up_k (show (13 : Nat) ≠ 15 + w by omega), up_k (show (14 : Nat) ≠ 15 + w by omega)]
    refine ⟨rfl, rfl, ?_, ?_, ?_⟩
    · by_cases hqp : q = p
      · subst hqp
        by_cases h : w = 0
        · subst h; simp [up]
        · rw [up_k (by omega), if_pos rfl, if_neg h, k3]
      · rw [up_j hqp, if_neg hqp]
    · by_cases hqp : q = p
      · subst hqp
        by_cases h : w = 1
        · subst h; simp [up]
        · rw [up_k (by omega), if_pos rfl, if_neg h, k4]
      · rw [up_j hqp, if_neg hqp]
    · by_cases hqp : q = p
      · subst hqp
        by_cases h : w = 2
        · subst h; simp [up]
        · rw [up_k (by omega), if_pos rfl, if_neg h, k5]
      · rw [up_j hqp, if_neg hqp]
  · exact up_k (by decide)
  · exact up_k (by decide)
  · exact up_k (by decide)
  · exact up_k (by decide)
  · intro q hq
    rw [up_k (show (20 : Nat) ≠ 22 by omega), up_k (show (21 : Nat) ≠ 22 by omega)]
    refine ⟨rfl, rfl, ?_, ?_, ?_⟩
    · by_cases hqp : q = p
      · subst hqp
        by_cases h : w = 0
        · subst h; simp [up]
        · rw [up_j (by omega), if_pos rfl, if_neg h]
      · rw [up_j (by omega), if_neg hqp]
    · by_cases hqp : q = p
      · subst hqp
        by_cases h : w = 1
        · subst h; simp [up]
        · rw [up_j (by omega), if_pos rfl, if_neg h]
      · rw [up_j (by omega), if_neg hqp]
    · by_cases hqp : q = p
      · subst hqp
        by_cases h : w = 2
        · subst h; simp [up]
        · rw [up_j (by omega), if_pos rfl, if_neg h]
      · rw [up_j (by omega), if_neg hqp]
theorem b_put (a1 a2 a3 : Int32) : Both (f_X4_put a1 a2 a3) (f_X5_put a1 a2 a3) := by
  intro wc wr hR
  obtain ⟨N, M, CC, hB, hT, hS, hP, hI⟩ := id hR
  show Out wc wr _ _
  unfold f_X4_put f_X5_put j_X4_put_38 j_X4_put_63 j_X5_put_34
  rcases hasx hB a1 with ⟨a, b⟩ | ⟨p, hp, hp6, rfl, a, b, -, -, i0, t0, i1, t1, i2, t2⟩
  · rw [if_pos a, if_pos b]; exact .same hR _
  · rw [if_neg a, if_neg b]
    obtain ⟨g1, g2, g3, g4, g5, g6, g7, g8⟩ := id hB.1
    obtain ⟨k1, k2, k3, k4, k5, k6, k7, k8, k9⟩ := g8 p hp
    have a15 : atV wc 15 0 (nI p) = wr 22 0 (3 * p) := (atV_n wc 0 hp6 (by decide)).trans k3
    have a16 : atV wc 16 0 (nI p) = wr 22 0 (3 * p + 1) := (atV_n wc 0 hp6 (by decide)).trans k4
    have a17 : atV wc 17 0 (nI p) = wr 22 0 (3 * p + 2) := (atV_n wc 0 hp6 (by decide)).trans k5
    have s15 : setV wc 15 0 (nI p) a3 = up wc 15 0 p a3 := setV_n wc 0 a3 hp6 (by decide)
    have s16 : setV wc 16 0 (nI p) a3 = up wc 16 0 p a3 := setV_n wc 0 a3 hp6 (by decide)
    have s17 : setV wc 17 0 (nI p) a3 = up wc 17 0 p a3 := setV_n wc 0 a3 hp6 (by decide)
    have z0 : 3 * nI p + 0 = 3 * nI p := Int32.add_zero _
    rcases rngc a2 2 (by omega) with ⟨h1, h2⟩ | ⟨t, ht, rfl, h1, h2, h3⟩
    · have n0 : ¬ a2 = 0 := fun z => rng_0.mp h1 (by subst z; exact ⟨by decide, by decide⟩)
      have n1 : ¬ a2 = 1 := fun z => rng_0.mp h1 (by subst z; exact ⟨by decide, by decide⟩)
      have n2 : ¬ a2 = 2 := fun z => rng_0.mp h1 (by subst z; exact ⟨by decide, by decide⟩)
      rw [if_neg n0, if_neg n1, if_neg n2, if_pos (show rng a2 0 2 = 0 from h1)]; exact .same hR _
    · rw [if_neg (show ¬ rng (nI t) 0 2 = 0 from h1)]
      match t, ht with
      | 0, _ =>
        have e0 : nI 0 = 0 := rfl
        rw [e0, if_pos rfl, if_neg (show ¬ (0 : Int32) = 1 by decide), if_neg (show ¬ (0 : Int32) = 2 by decide), if_neg (show ¬ (0 : Int32) = 2 by decide), z0, if_pos i0, if_pos i0, t0, a15, s15]
        by_cases h : rng a3 0 65535 = 0
        · rw [if_pos h, if_pos h]; exact .same hR _
        · rw [if_neg h, if_neg h]
          exact ⟨_, _, _, rfl, rfl, R.put hB hT hS hP hI hp 0 (by omega) a3 (.rng (rng_t h).1 (rng_t h).2), FC.rf.up (by omega), FR.rf.up (by omega)⟩
      | 1, _ =>
        have e0 : nI 1 = 1 := rfl
        rw [e0, if_neg (show ¬ (1 : Int32) = 0 by decide), if_pos rfl, if_neg (show ¬ (1 : Int32) = 2 by decide), if_neg (show ¬ (1 : Int32) = 2 by decide), if_pos i1, if_pos i1, t1, a16, s16]
        by_cases h : rng a3 0 65535 = 0
        · rw [if_pos h, if_pos h]; exact .same hR _
        · rw [if_neg h, if_neg h]
          exact ⟨_, _, _, rfl, rfl, R.put hB hT hS hP hI hp 1 (by omega) a3 (.rng (rng_t h).1 (rng_t h).2), FC.rf.up (by omega), FR.rf.up (by omega)⟩
      | 2, _ =>
        have e0 : nI 2 = 2 := rfl
        rw [e0, if_neg (show ¬ (2 : Int32) = 0 by decide), if_neg (show ¬ (2 : Int32) = 1 by decide), if_pos rfl, if_pos rfl, if_pos i2, if_pos i2, t2, a17, s17]
        by_cases h : rng a3 0 99 = 0
        · rw [if_pos h]
          by_cases h4 : a3 < 0
          · rw [if_pos h4]; exact .same hR _
          · rw [if_neg h4, if_neg (fun z => rng_0.mp h ⟨Int32.not_lt.mp h4, z⟩)]; exact .same hR _
        · rw [if_neg h, if_neg (Int32.not_lt.mpr (rng_t h).1), if_pos (rng_t h).2]
          exact ⟨_, _, _, rfl, rfl, R.put hB hT hS hP hI hp 2 (by omega) a3 (rng_t h), FC.rf.up (by omega), FR.rf.up (by omega)⟩
theorem b_told (a1 a2 : Int32) : Both (f_X4_told a1 a2) (f_X5_told a1 a2) := by
  intro wc wr hR
  obtain ⟨N, M, CC, hB, hT, hS, hP, hI⟩ := id hR
  show Out wc wr _ _
  unfold f_X4_told f_X5_told
  rcases hasx hB a1 with ⟨a, b⟩ | ⟨p, hp, hp6, rfl, a, b, ip, tp, i0, t0, i1, t1, i2, t2⟩
  · rw [if_pos a, if_pos b]; exact .same hR _
  · rw [if_neg a, if_neg b, if_pos ip, if_pos ip, if_pos i1, if_pos i0]
    obtain ⟨g1, g2, g3, g4, g5, g6, g7, g8⟩ := id hB.1
    obtain ⟨k1, k2, k3, k4, k5, k6, k7, k8, k9⟩ := g8 p hp
    have a13 : atV wc 13 0 (nI p) = wr 20 0 p := (atV_n wc 0 hp6 (by decide)).trans k1
    have a14 : atV wc 14 0 (nI p) = wr 21 0 p := (atV_n wc 0 hp6 (by decide)).trans k2
    have a15 : atV wc 15 0 (nI p) = wr 22 0 (3 * p) := (atV_n wc 0 hp6 (by decide)).trans k3
    have a16 : atV wc 16 0 (nI p) = wr 22 0 (3 * p + 1) := (atV_n wc 0 hp6 (by decide)).trans k4
    have a17 : atV wc 17 0 (nI p) = wr 22 0 (3 * p + 2) := (atV_n wc 0 hp6 (by decide)).trans k5
    have z0 : 3 * nI p + 0 = 3 * nI p := Int32.add_zero _
    have o6 : Out wc wr (Option.bind (f_X0_takesOf 0 (nI p) wc) (fun r3 => some (r3.1, r3.2))) (Option.bind (f_X5_takesOf (nI p) wr) (fun r7 => some (r7.1, r7.2))) := by
      obtain ⟨v, wc', wr', c1, r1, sc, sr, -⟩ := takes_both hB hp
      rw [c1, r1, ob, ob]
      exact ⟨v, wc', wr', rfl, rfl, hR.q sc.q sr.q, sc.f, sr.f⟩
    have o5 : Out wc wr (Option.bind (f_X0_nameless 0 (nI p) wc) (fun r2 => some (r2.1, r2.2))) (some ((wr 22 0 (tn (3 * nI p + 1))) &&& ((wr 22 0 (tn (3 * nI p))) ^^^ (-1)), wr)) := by
      unfold f_X0_nameless
      rw [ob, a15, a16, t0, t1]; exact .same hR _
    have o34 : ∀ a2, a2 = 0 ∨ a2 = 1 ∨ a2 = 2 → Out wc wr (swE a2 0 [some (atV wc 15 0 (nI p), wc), some (atV wc 16 0 (nI p), wc), some (atV wc 17 0 (nI p), wc)] none) (j_X5_told_56 (nI p) a2 wr) := by
      intro a2 h
      unfold j_X5_told_56
      rcases h with rfl | rfl | rfl
      · rw [z0, if_pos i0, t0, a15]; exact .same hR _
      · rw [if_pos i1, t1, a16]; exact .same hR _
      · rw [if_pos i2, t2, a17]; exact .same hR _
    by_cases h0 : a2 = 0
    · subst h0; exact o34 0 (Or.inl rfl)
    · by_cases h1 : a2 = 1
      · subst h1; exact o34 1 (Or.inr (Or.inl rfl))
      · by_cases h2 : a2 = 2
        · subst h2; exact o34 2 (Or.inr (Or.inr rfl))
        · unfold swE
          rw [if_neg (show ¬ a2 = Int32.ofInt 0 from h0), if_neg (show ¬ a2 = Int32.ofInt 0 from h0)]
          unfold swE
          rw [if_neg (show ¬ a2 = Int32.ofInt (0 + 1) from h1), if_neg (show ¬ a2 = Int32.ofInt (0 + 1) from h1)]
          unfold swE
          rw [if_neg (show ¬ a2 = Int32.ofInt (0 + 1 + 1) from h2), if_neg (show ¬ a2 = Int32.ofInt (0 + 1 + 1) from h2), tp]
          exact Outs.sw a2 (.same hR _) _ _ _ ⟨.eq hR a13, .eq hR a14, o5, o6, trivial⟩
theorem b_lands (a1 a2 a3 : Int32) : Both (f_X4_lands a1 a2 a3) (f_X5_lands a1 a2 a3) := by
  intro wc wr hR
  obtain ⟨N, M, CC, hB, hT, hS, hP, hI⟩ := id hR
  show Out wc wr _ _
  unfold f_X4_lands f_X5_lands
  rcases hasx hB a1 with ⟨a, b⟩ | ⟨p, hp, hp6, rfl, a, b, -⟩
  · rw [if_pos a, if_pos b]; exact .same hR _
  · rw [if_neg a, if_neg b]
    rcases rng_thing (x := a2) with ⟨h0, -⟩ | ⟨t, ht, rfl, h0⟩
    · rw [if_pos h0, if_pos h0]; exact .same hR _
    · rw [if_neg h0, if_neg h0]
      rcases rng_01c (x := a3) with ⟨h1, h2, h3⟩ | ⟨rfl, h1⟩ | ⟨rfl, h1⟩
      · rw [if_neg h2, if_neg h3, if_pos h1]; exact .same hR _
      · obtain ⟨v, wc', wr', c1, r1, sc, sr, -⟩ := lets_both hB hp (nI t)
        rw [if_pos rfl, if_neg h1, if_pos rfl, c1, r1, ob, ob]
        exact ⟨v, wc', wr', rfl, rfl, hR.q sc.q sr.q, sc.f, sr.f⟩
      · obtain ⟨v, wc', wr', c1, r1, sc, sr⟩ := lucks_both hB hp ht
        rw [if_neg (show ¬ (1 : Int32) = 0 by decide), if_pos rfl, if_neg h1, if_neg (show ¬ (1 : Int32) = 0 by decide), c1, r1, ob, ob]
        exact ⟨v, wc', wr', rfl, rfl, hR.q sc.q sr.q, sc.f, sr.f⟩
theorem b_land (a1 a2 : Int32) : Both (f_X4_land a1 a2) (f_X5_land a1 a2) := by
  intro wc wr hR
  obtain ⟨N, M, CC, hB, hT, hS, hP, hI⟩ := id hR
  show Out wc wr _ _
  unfold f_X4_land f_X5_land
  rcases hasx hB a1 with ⟨a, b⟩ | ⟨p, hp, hp6, rfl, a, b, -⟩
  · rw [if_pos a, if_pos b]; exact .same hR _
  · rw [if_neg a, if_neg b]
    rcases rng_thing (x := a2) with ⟨h0, -⟩ | ⟨t, ht, rfl, h0⟩
    · rw [if_pos h0, if_pos h0]; exact .same hR _
    · obtain ⟨v, wc', wr', c1, r1, hB2, tc, tr, q5, -⟩ := landing_both hB hp ht
      rw [if_neg h0, if_neg h0, c1, r1, ob, ob]
      exact ⟨v, wc', wr', rfl, rfl, R.now hS hP hI hB2 tc tr.s (by rw [q5]; exact hT), tc.f, tr.f⟩
theorem b_teach (a1 a2 : Int32) : Both (f_X4_teach a1 a2) (f_X5_teach a1 a2) := by
  intro wc wr hR
  obtain ⟨N, M, CC, hB, hT, hS, hP, hI⟩ := id hR
  show Out wc wr _ _
  unfold f_X4_teach f_X5_teach
  rcases hasx hB a1 with ⟨a, b⟩ | ⟨p, hp, hp6, rfl, a, b, -⟩
  · rw [if_pos a, if_pos b]; exact .same hR _
  · rw [if_neg a, if_neg b]
    rcases hasx hB a2 with ⟨a, b⟩ | ⟨q, hq, hq6, rfl, a, b, -⟩
    · rw [if_pos a, if_pos b]; exact .same hR _
    · rw [if_neg a, if_neg b]
      by_cases he : nI p = nI q
      · rw [if_pos he, if_pos he]; exact .same hR _
      · obtain ⟨T, wc', wr1, hT50, c1, -, r1, sc, sr⟩ := learns_both hB hp hq
        have hv := leastF_r (wr 22 0 (3 * p) &&& (wr 22 0 (3 * q) ^^^ (-1))) (nI T)
        rw [if_neg he, if_neg he, c1, r1, ob, ob]
        unfold f_X0_isTold
        rw [ob]
        dsimp only
        have hB1 := hB.sc sc sr
        have e15 : atV wc' 15 0 (nI q) = wr1 22 0 (3 * q) := (atV_n wc' 0 hq6 (by decide)).trans (hB1.1.2.2.2.2.2.2.2 q hq).2.2.1
        rw [e15, setV_n wc' 0 _ (show q < lenK 15 from hq6) (by decide)]
        exact ⟨_, _, _, rfl, rfl, R.now hS hP hI (hB1.told hq hv) (sc.th.tr (ThC.rf.up (by omega))) (sr.th.tr ThR.rf.up2).s (by rw [up_k (by decide), sr 5 0 5 (by decide) (by decide)]; exact hT), sc.f.tr (FC.rf.up (by omega)), sr.f.tr (FR.rf.up (by omega))⟩
theorem b_tide : Both f_X4_tide f_X5_tide := by
  intro wc wr hR
  obtain ⟨N, M, CC, hB, ⟨T, hT, eT⟩, hS, hP, hI⟩ := id hR
  show Out wc wr _ _
  unfold f_X4_tide f_X5_tide
  have e4 : wc 0 0 4 = nI T := hB.1.2.2.2.2.2.1.trans eT
  rw [e4, eT]
  by_cases h : T = 999
  · subst h
    rw [if_neg (show ¬ nI 999 < 999 by decide), if_pos (show nI 999 = 999 from rfl)]; exact .same hR _
  · obtain ⟨v, wc', wr', c1, r1, hB2, tc, tr, q5, -⟩ := washes_both hB
    rw [if_pos (show nI T < 999 from nI_lt (b := 999) (by omega) (by omega)), if_neg (show ¬ nI T = 999 from fun z => h ((nI_eq (b := 999) (by omega) (by omega)).mp z)), c1, r1, ob, ob]
    exact ⟨v, wc', wr', rfl, rfl, R.now hS hP hI hB2 tc tr.s ⟨T + 1, by omega, by rw [q5, eT, nI_1]⟩, tc.f, tr.f⟩
