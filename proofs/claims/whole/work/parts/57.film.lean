/-! film: both sides -/
theorem byte_luck : ∀ j, j < 100 → Int8.toInt32 (Int32.toInt8 (nI j)) = nI j := by decide
theorem byte_of {x : Int32} (h : 0 ≤ x ∧ x ≤ 99) : Int8.toInt32 (Int32.toInt8 x) = x := by
  obtain ⟨j, hj, rfl⟩ := nI_of2 (M := 99) (n := 99) rfl (Int32.not_lt.mpr h.1) h.2
  exact byte_luck j (by omega)
/-- a coast's bond where only a sheet is written -/
theorem Bo.sheet {i N M : Nat} {CC : Nat → Nat → List Int32} {wc wr wc' wr' : Mem} (h : Bo i N M CC wc wr) (hc : ∀ a b c, a ≠ 2 → a ≠ 19 → wc' a b c = wc a b c) (hr : ∀ a b c, a ≠ 28 → a ≠ 29 → a ≠ 30 → a ≠ 36 → wr' a b c = wr a b c) : Bo i N M CC wc' wr' :=
  ⟨h.1.of (fun c => hc 0 i c (by omega) (by omega)) (fun a c ha => hc a i c (by omega) (by omega)) (fun c _ => hr 5 0 c (by omega) (by omega) (by omega) (by omega)) (fun c _ => hr 22 0 c (by omega) (by omega) (by omega) (by omega)) (fun c => hr 20 0 c (by omega) (by omega) (by omega) (by omega)) (fun c => hr 21 0 c (by omega) (by omega) (by omega) (by omega)),
   h.2.1.of (hc 3 0 0 (by omega) (by omega)) (fun c => hc 6 0 c (by omega) (by omega)) (fun c => hc 7 0 c (by omega) (by omega)) (hr 5 0 10 (by omega) (by omega) (by omega) (by omega)) (fun c => hr 24 0 c (by omega) (by omega) (by omega) (by omega)) (fun c => hr 25 0 c (by omega) (by omega) (by omega) (by omega)),
   h.2.2.of (hr 5 0 11 (by omega) (by omega) (by omega) (by omega))⟩
theorem film_loop {N M s t Z p : Nat} {CC : Nat → Nat → List Int32} {cell : Nat → Int32} (hs : s < 4) (ht : t < 4) (hst : s ≠ t) (hZ40 : Z ≤ 40) (hp : p < N) (hcell : ∀ j, j < Z → ∃ d, d < 16 ∧ cell j = nI d) (kc kr : Mem → Option (Int32 × Mem)) : ∀ (r k n : Nat) (wc wr : Mem), k + r = Z → r < n → 42 < n + k → Bo 1 N M CC wc wr → wc 2 t 0 = 0 → wc 2 s 1 = nI Z → wr 29 0 s = nI Z → (∀ j, j < Z → wc 19 s j = cell j ∧ wr 30 0 (40 * s + j) = cell j) → (∀ j, j < k → wc 19 t j = wr 30 0 (40 * t + j)) → (∀ j, k ≤ j → j < 40 → wc 19 t j = 0) → ∃ (wc' wr' : Mem), h_X4_film_73 s t (nI p) kc n (nI k) wc = kc wc' ∧ h_X5_film_59 (nI s) (nI t) (nI p) kr n (nI k) wr = kr wr' ∧ (∀ j, j < 40 → wc' 19 t j = wr' 30 0 (40 * t + j)) ∧ (∀ a b c, ¬ (b = 1 ∧ (a = 0 ∨ a = 13 ∨ a = 14 ∨ a = 15 ∨ a = 16 ∨ a = 17)) → a ≠ 8 → a ≠ 12 → ¬ (a = 19 ∧ b = t) → wc' a b c = wc a b c) ∧ (∀ a b c, a ≠ 22 → ¬ (a = 5 ∧ b = 0 ∧ (c = 4 ∨ c = 5 ∨ 31 ≤ c)) → a ≠ 34 → a ≠ 35 → ¬ (a = 30 ∧ b = 0 ∧ 40 * t ≤ c ∧ c < 40 * t + 40) → wr' a b c = wr a b c) := by
  have is : inB (nI s) 4 := nI_in hs (by omega)
  have ts : tn (nI s) = s := nI_clamp (by omega)
  intro r
  induction r with
  | zero =>
    intro k n wc wr hk hn hn42 hB h20 h21 h29 hcl hd hz
    have e : k = Z := by omega
    subst e
    have tail : ∀ (r q n : Nat) (wr1 : Mem), q + r = 40 → r < n → k ≤ q → wr1 29 0 s = nI k → (∀ j, j < q → wc 19 t j = wr1 30 0 (40 * t + j)) → (∀ a b c, ¬ (a = 30 ∧ b = 0 ∧ 40 * t ≤ c ∧ c < 40 * t + 40) → wr1 a b c = wr a b c) → ∃ wr', h_X5_film_59 (nI s) (nI t) (nI p) kr n (nI q) wr1 = kr wr' ∧ (∀ j, j < 40 → wc 19 t j = wr' 30 0 (40 * t + j)) ∧ (∀ a b c, ¬ (a = 30 ∧ b = 0 ∧ 40 * t ≤ c ∧ c < 40 * t + 40) → wr' a b c = wr a b c) := by
      intro r
      induction r with
      | zero =>
        intro q n wr1 hq hn hkq h9 hd1 ho
        obtain ⟨n, rfl⟩ : ∃ m, n = m + 1 := ⟨n - 1, by omega⟩
        have e : q = 40 := by omega
        subst e
        refine ⟨wr1, ?_, hd1, ho⟩
        unfold h_X5_film_59
        rw [if_neg (show ¬ nI 40 < 40 by decide)]
      | succ r ih =>
        intro q n wr1 hq hn hkq h9 hd1 ho
        obtain ⟨n, rfl⟩ : ∃ m, n = m + 1 := ⟨n - 1, by omega⟩
        have it : inB (nI (40 * t + q)) 160 := nI_in (by omega) (by omega)
        have tq : tn (nI (40 * t + q)) = 40 * t + q := nI_clamp (by omega)
        unfold h_X5_film_59
        rw [if_pos (show nI q < 40 from nI_lt (b := 40) (by omega) (by omega)), m40, if_pos it, if_pos is, ts, up_k (show (29 : Nat) ≠ 30 by decide), h9, if_neg (nI_nlt (by omega) (by omega)), tq, nI_1]
        refine ih (q + 1) n _ (by omega) (by omega) (by omega) (by rw [up_k (by decide)]; exact h9) (fun j hj => ?_) (fun a b c habc => ?_)
        · by_cases e : j = q
          · subst e; rw [up_s]; exact hz j hkq (by omega)
          · rw [up_j (by omega)]; exact hd1 j (by omega)
        · rw [up_n (fun z => habc ⟨z.1, z.2.1, by omega, by omega⟩)]; exact ho a b c habc
    obtain ⟨wr', a1, a2, a3⟩ := tail (40 - k) k n wr (by omega) (by omega) (Nat.le_refl _) h29 hd (fun _ _ _ _ => rfl)
    obtain ⟨n, rfl⟩ : ∃ m, n = m + 1 := ⟨n - 1, by omega⟩
    refine ⟨wc, wr', ?_, a1, a2, fun _ _ _ _ _ _ _ => rfl, fun a b c _ _ _ _ h => a3 a b c h⟩
    unfold h_X4_film_73
    rw [h21, if_neg (nI_nlt (by omega) (by omega))]
  | succ r ih =>
    intro k n wc wr hk hn hn42 hB h20 h21 h29 hcl hd hz
    obtain ⟨n, rfl⟩ : ∃ m, n = m + 1 := ⟨n - 1, by omega⟩
    have it : inB (nI (40 * t + k)) 160 := nI_in (by omega) (by omega)
    have tk : tn (nI (40 * t + k)) = 40 * t + k := nI_clamp (by omega)
    have isk : inB (nI (40 * s + k)) 160 := nI_in (by omega) (by omega)
    have tsk : tn (nI (40 * s + k)) = 40 * s + k := nI_clamp (by omega)
    obtain ⟨d, hd16, ed⟩ := hcell k (by omega)
    obtain ⟨x1, x2⟩ := hcl k (by omega)
    have e19 : atV wc 19 s (nI k) = nI d := (atV_n wc s (show k < lenK 19 by show k < 40; omega) (by decide)).trans (x1.trans ed)
    have hB0 : Bo 1 N M CC wc (up wr 30 0 (40 * t + k) 0) := hB.sheet (fun _ _ _ _ _ => rfl) (fun a b c _ _ h _ => up_k h)
    obtain ⟨v, wc1, wr1, c1, r1, hB1, tc1, tr1, q5, hv⟩ := landing_both hB0 hp hd16
    have i2 : inB (nI (3 * p + 2)) 18 := nI_in (by have := hB.1.1; omega) (by omega)
    have t2 : tn (nI (3 * p + 2)) = 3 * p + 2 := nI_clamp (by have := hB.1.1; omega)
    have hB1' : Bo 1 N M CC wc1 (up wr1 30 0 (40 * t + k) (wr1 22 0 (3 * p + 2))) := hB1.sheet (fun _ _ _ _ _ => rfl) (fun a b c _ _ h _ => up_k h)
    obtain ⟨u, wc2, wr2, c2, r2, hB2, tc2, tr2, q6, ql⟩ := washes_both hB1'
    have lk := (hB1.1.2.2.2.2.2.2.2 p hp)
    have el : atV wc2 17 1 (nI p) = wr1 22 0 (3 * p + 2) := by
      refine (atV_n wc2 1 (show p < lenK 17 by show p < 6; have := hB.1.1; omega) (by decide)).trans ((hB2.1.2.2.2.2.2.2.2 p hp).2.2.2.2.1.trans ((ql p).trans ?_))
      exact up_k (by decide)
    have hrange : 0 ≤ wr1 22 0 (3 * p + 2) ∧ wr1 22 0 (3 * p + 2) ≤ 99 := lk.2.2.2.2.2.2.2.1
    have tcc : ThC 1 wc wc2 := tc1.tr tc2
    have h20' : wc2 2 t 0 = 0 := (tcc 2 t 0 (by omega) (by omega) (by omega)).trans h20
    have ew : f_X2_write t (nI k) (atV wc2 17 1 (nI p)) wc2 = some (up wc2 19 t k (wr1 22 0 (3 * p + 2))) := by
      unfold f_X2_write
      rw [if_pos h20', el, byte_of hrange, setV_n wc2 t _ (show k < lenK 19 by show k < 40; omega) (by decide)]
    have hB3 : Bo 1 N M CC (up wc2 19 t k (wr1 22 0 (3 * p + 2))) wr2 := hB2.sheet (fun a b c _ h => up_k h) (fun _ _ _ _ _ _ _ => rfl)
    have fr : ∀ a b c, a ≠ 22 → ¬ (a = 5 ∧ b = 0 ∧ (c = 4 ∨ c = 5 ∨ 31 ≤ c)) → a ≠ 34 → a ≠ 35 → ¬ (a = 30 ∧ b = 0 ∧ c = 40 * t + k) → wr2 a b c = wr a b c := by
      intro a b c h22 h5 h34 h35 h30
      rw [tr2.s a b c h22 h5 h34 h35, up_n h30, tr1.s a b c h22 h5 h34 h35, up_n h30]
    have e30 : wr2 30 0 (40 * t + k) = wr1 22 0 (3 * p + 2) := (tr2.s 30 0 _ (by omega) (by omega) (by omega) (by omega)).trans (up_s _ _ _ _ _)
    obtain ⟨wc4, wr4, a1, a2, a3, a4, a5⟩ := ih (k + 1) n _ wr2 (by omega) (by omega) (by omega) hB3 (by rw [up_k (by decide)]; exact h20') (by rw [up_k (by decide)]; exact (tcc 2 s 1 (by omega) (by omega) (by omega)).trans h21) ((fr 29 0 s (by omega) (by omega) (by omega) (by omega) (by omega)).trans h29)
      (fun j hj => ⟨by rw [up_i hst]; exact (tcc 19 s j (by omega) (by omega) (by omega)).trans (hcl j hj).1, (fr 30 0 _ (by omega) (by omega) (by omega) (by omega) (by omega)).trans (hcl j hj).2⟩)
      (fun j hj => by
        by_cases e : j = k
        · subst e; rw [up_s, e30]
        · rw [up_j e, fr 30 0 _ (by omega) (by omega) (by omega) (by omega) (by omega), tcc 19 t j (by omega) (by omega) (by omega)]
          exact hd j (by omega))
      (fun j hj hj40 => by rw [up_j (by omega), tcc 19 t j (by omega) (by omega) (by omega)]; exact hz j (by omega) hj40)
    refine ⟨wc4, wr4, ?_, ?_, a3, fun a b c h1 h8 h12 h19 => ?_, fun a b c h22 h5 h34 h35 h30 => ?_⟩
    · unfold h_X4_film_73
      rw [h21, if_pos (nI_lt (by omega) (by omega)), e19, c1, ob, c2, ob, ew, ob, nI_1]
      exact a1
    · unfold h_X5_film_59
      rw [if_pos (show nI k < 40 from nI_lt (b := 40) (by omega) (by omega)), m40, if_pos it, if_pos is, ts, up_k (show (29 : Nat) ≠ 30 by decide), h29, if_pos (nI_lt (by omega) (by omega)), m40, if_pos isk, tk, tsk, up_j (show (40 * s + k : Nat) ≠ 40 * t + k by omega), x2, ed, wi_thing hd16, r1, ob, m32, if_pos i2, if_pos it, t2, r2, ob, nI_1]
      exact a2
    · rw [a4 a b c h1 h8 h12 h19, up_n (fun z => h19 ⟨z.1, z.2.1⟩), tcc a b c h1 h8 h12]
    · rw [a5 a b c h22 h5 h34 h35 h30, fr a b c h22 h5 h34 h35 (by omega)]
theorem b_film (a1 a2 a3 : Int32) : Both (f_X4_film a1 a2 a3) (f_X5_film a1 a2 a3) := by
  intro wc wr hR
  obtain ⟨N, M, CC, hB, hT, hS, hP, hI⟩ := id hR
  show Out wc wr _ _
  obtain ⟨v, e1, e2, e3⟩ := season_ref hB hS a1 a3
  have bad : rowF a1 = none → v = -2 := by
    intro h
    have : f_X4_refusedSeason a1 a3 wc = some (-2, wc) := by
      unfold f_X4_refusedSeason f_X4_refusedRow
      rw [h, oe_n, ob]
      rfl
    rw [this] at e1
    exact (congrArg (fun z => z.1) (Option.some.inj e1)).symm
  unfold f_X4_film f_X5_film
  rcases row_cases a2 with ⟨u1, u2⟩ | ⟨t, ht, rfl, u1, u2, u3, u4⟩
  · rw [u1, if_pos u2]
    cases rowF a1 with
    | none => rw [oe_n]; exact .same hR _
    | some z => rw [oe_s, oe_n]; exact .same hR _
  · rw [u1, if_neg u2]
    by_cases hst : a1 = nI t
    · rw [if_pos hst]
      cases rowF a1 with
      | none => rw [oe_n]; exact .same hR _
      | some z => rw [oe_s, oe_s, if_pos hst]; exact .same hR _
    · rw [if_neg hst, e2, ob]
      dsimp only
      by_cases hv : v = 0
      · obtain ⟨s, Z, p, hs, rfl, hZ, hp, rfl⟩ := e3 hv
        have hst' : s ≠ t := fun z => hst (by rw [z])
        have ts : tn (nI s) = s := nI_clamp (by omega)
        have is : inB (nI s) 4 := nI_in hs (by omega)
        have hZ40 := hZ.1
        obtain ⟨g1, g2, -, g4⟩ := hS s hs
        rw [rowF_n hs, oe_s, oe_s, if_neg hst, e1, ob, if_pos hv, if_pos u3, if_pos is, if_pos u3, if_pos hv, u4, ts]
        dsimp only
        rw [g2, hZ.2.1, up_k (show (29 : Nat) ≠ 28 by decide), hZ.2.1]
        obtain ⟨wc1, c1, c2, c3, c4, c5⟩ := becomes_c ht 0 (nI Z) wc
        obtain ⟨wc2, d1, as2⟩ := become_c (i := 1) (j := 0) (by decide) wc1
        obtain ⟨wr2, r1, kp2⟩ := keeps_r (up (up wr 28 0 t 0) 29 0 t (nI Z))
        have hB1 : Bo 0 N M CC wc1 (up (up wr 28 0 t 0) 29 0 t (nI Z)) := hB.sheet (fun a b c h1 h2 => c5 a b c (by omega)) (fun a b c h1 h2 _ _ => by rw [up_k h2, up_k h1])
        have hB2 : Bo 1 N M CC wc2 wr2 := Kp.bo (hB1.as as2) kp2
        have k2 : ∀ a c, a ≠ 36 → wr2 a 0 c = up (up wr 28 0 t 0) 29 0 t (nI Z) a 0 c := fun a c h => kp2.2.2.2 a 0 c h
        obtain ⟨wc3, wr3, a1', a2', a3', a4', a5'⟩ := film_loop (cell := fun j => wr 30 0 (40 * s + j)) hs ht hst' hZ40 hp hZ.2.2 (fun w12 => some (w12 2 s 1, w12)) (fun w18 => Option.bind (f_X5_lays w18) (fun r19 => if inB (nI s) 4 then (some (r19 29 0 s, r19)) else none)) Z 0 FU wc2 wr2 (by omega) (by show Z < 1000000; omega) (by show 42 < 1000000 + 0; omega) hB2 ((as2.2.2 2 t 0 (by omega)).trans c2) ((as2.2.2 2 s 1 (by omega)).trans ((c5 2 s 1 (by omega)).trans (g2.trans hZ.2.1)))
          (by rw [k2 29 s (by decide), up_j hst', up_k (by decide)]; exact hZ.2.1)
          (fun j hj => ⟨(as2.2.2 19 s j (by omega)).trans ((c5 19 s j (by omega)).trans (g4 j (by omega))), by rw [k2 30 _ (by decide), up_k (by decide), up_k (by decide)]⟩)
          (fun j hj => by omega) (fun j _ hj => (as2.2.2 19 t j (by omega)).trans (c4 j hj))
        have wcs : wc3 2 s 1 = nI Z := (a4' 2 s 1 (by omega) (by omega) (by omega) (by omega)).trans ((as2.2.2 2 s 1 (by omega)).trans ((c5 2 s 1 (by omega)).trans (g2.trans hZ.2.1)))
        -- the reference's rows come back
        let wx : Mem := fun a b c => if a = 30 ∧ b = 0 ∧ 40 * t ≤ c ∧ c < 40 * t + 40 then wr3 a b c else wr2 a b c
        have kpx : Kp (fun a b c => if a = 30 ∧ b = 0 ∧ 40 * t ≤ c ∧ c < 40 * t + 40 then wr3 a b c else up (up wr 28 0 t 0) 29 0 t (nI Z) a b c) wx := by
          refine ⟨fun c hc => ?_, ?_, ?_, fun a b c ha => ?_⟩
          · show (if _ then _ else _) = (if _ then _ else _)
            rw [if_neg (by omega), if_neg (by omega)]; exact kp2.1 c hc
          · show (if _ then _ else _) = (if _ then _ else _)
            rw [if_neg (by omega), if_neg (by omega)]; exact kp2.2.1
          · show (if _ then _ else _) = (if _ then _ else _)
            rw [if_neg (by omega), if_neg (by omega)]; exact kp2.2.2.1
          · show (if _ then _ else _) = (if _ then _ else _)
            split
            · rfl
            · exact kp2.2.2.2 a b c ha
        have tsx : ThS wx wr3 := by
          intro a b c h1 h2 h3 h4
          show _ = (if _ then _ else _)
          split
          · rfl
          · rename_i h; exact a5' a b c h1 h2 h3 h4 h
        obtain ⟨wr4, l1, q4, f4, -⟩ := lays_r kpx tsx
        have x29 : wr4 29 0 s = nI Z := by
          rw [q4.2.2 29 0 s (by omega)]
          show (if _ then _ else _) = _
          rw [if_neg (by omega), up_j hst', up_k (by decide)]; exact hZ.2.1
        rw [show nI 0 = 0 from rfl] at a1' a2'
        rw [c1, ob, d1, ob, a1', wcs, r1, ob, a2', l1, ob, if_pos is, x29]
        have e28 : ∀ x, wr4 28 0 x = if x = t then 0 else wr 28 0 x := by
          intro x
          rw [q4.2.2 28 0 x (by omega)]
          show (if _ then _ else _) = _
          rw [if_neg (by omega), up_k (by decide)]
          by_cases h : x = t
          · subst h; rw [up_s, if_pos rfl]
          · rw [up_j h, if_neg h]
        have e29 : ∀ x, wr4 29 0 x = if x = t then nI Z else wr 29 0 x := by
          intro x
          rw [q4.2.2 29 0 x (by omega)]
          show (if _ then _ else _) = _
          rw [if_neg (by omega)]
          by_cases h : x = t
          · subst h; rw [up_s, if_pos rfl]
          · rw [up_j h, up_k (by decide), if_neg h]
        have eo : ∀ a c, a ≠ 28 → a ≠ 29 → (a = 20 ∨ a = 21 ∨ (23 ≤ a ∧ a ≤ 27) ∨ a = 32) → wr4 a 0 c = wr a 0 c := by
          intro a c h1 h2 ha
          rw [q4.2.2 a 0 c (by omega)]
          show (if _ then _ else _) = _
          rw [if_neg (by omega), up_k h2, up_k h1]
        have c19 : ∀ j, j < 40 → wc3 19 t j = wr4 30 0 (40 * t + j) := by
          intro j hj
          rw [a3' j hj, q4.2.2 30 0 _ (by omega)]
          show _ = (if _ then _ else _)
          rw [if_pos (by omega)]
        have coff : ∀ a b c, ¬ (b = 1 ∧ (a = 0 ∨ a = 13 ∨ a = 14 ∨ a = 15 ∨ a = 16 ∨ a = 17)) → a ≠ 8 → a ≠ 12 → ¬ (b = t ∧ (a = 2 ∨ a = 19)) → wc3 a b c = wc a b c := by
          intro a b c h1 h2 h3 h4
          rw [a4' a b c h1 h2 h3 (by omega), as2.2.2 a b c h1, c5 a b c h4]
        refine ⟨_, _, _, rfl, rfl, R.of hB hT hP hI ?_ (fun a b c ha hb => coff a b c (by omega) (by omega) (by omega) (by omega)) (fun a b c ha => coff a b c (by omega) (by omega) (by omega) (by omega)) (coff 1 0 1 (by omega) (by omega) (by omega) (by omega)) (fun c hc => ?_) (fun c hc => ?_) (fun a c ha => eo a c (by omega) (by omega) ha), fun a b c ha => coff a b c (by omega) (by omega) (by omega) (by omega), ?_⟩
        · intro x hx
          by_cases h : x = t
          · subst h
            refine ⟨?_, ?_, ⟨Z, hZ40, by rw [e29, if_pos rfl]⟩, c19⟩
            · rw [e28, if_pos rfl, a4' 2 x 0 (by omega) (by omega) (by omega) (by omega), as2.2.2 2 x 0 (by omega)]; exact c2
            · rw [e29, if_pos rfl, a4' 2 x 1 (by omega) (by omega) (by omega) (by omega), as2.2.2 2 x 1 (by omega)]; exact c3
          · obtain ⟨h1, h2, h3, h4⟩ := hS x hx
            rw [e28, e29, if_neg h, if_neg h, coff 2 x 0 (by omega) (by omega) (by omega) (by omega), coff 2 x 1 (by omega) (by omega) (by omega) (by omega)]
            refine ⟨h1, h2, h3, fun k hk => ?_⟩
            rw [coff 19 x k (by omega) (by omega) (by omega) (by omega), q4.2.2 30 0 _ (by omega)]
            show _ = (if _ then _ else _)
            rw [if_neg (by omega), up_k (by decide), up_k (by decide)]
            exact h4 k hk
        · rw [q4.1 c hc]
          show (if _ then _ else _) = _
          rw [if_neg (by omega), up_k (by decide), up_k (by decide)]
        · rw [q4.2.1 c hc]
          show (if _ then _ else _) = _
          rw [if_neg (by omega), up_k (by decide), up_k (by decide)]
        · intro a b c ha
          rw [f4 a b c ha, a5' a b c (by omega) (by omega) (by omega) (by omega) (by omega), kp2.f a b c ha, up_k (by omega), up_k (by omega)]
      · rw [if_neg hv]
        cases hr1 : rowF a1 with
        | none => rw [oe_n, bad hr1]; exact .same hR _
        | some z => rw [oe_s, oe_s, if_neg hst, e1, ob, if_neg hv]; exact .same hR _
