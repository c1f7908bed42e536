/-! the bond of the class and the reference -/
def SR (wc wr : Mem) : Prop := ∀ s, s < 4 → wc 2 s 0 = wr 28 0 s ∧ wc 2 s 1 = wr 29 0 s ∧ (∃ n, n ≤ 40 ∧ wr 29 0 s = nI n) ∧ ∀ k, k < 40 → wc 19 s k = wr 30 0 (40 * s + k)
def wdL : List Int32 := [108, 101, 116, 115, 32, 32, 32, 32, 108, 117, 99, 107, 115, 32, 32, 32, 116, 97, 107, 101, 115, 32, 32, 32, 116, 104, 105, 110, 103, 32, 32, 32, 107, 110, 111, 119, 110, 32, 32, 32, 107, 101, 112, 116, 32, 32, 32, 32, 116, 105, 100, 101, 32, 32, 32, 32, 108, 117, 99, 107, 32, 32, 32, 32, 109, 111, 114, 101, 32, 32, 32, 32, 111, 114, 32, 32, 32, 32, 32, 32, 97, 110, 100, 32, 32, 32, 32, 32, 110, 111, 116, 32, 32, 32, 32, 32]
def PR (wc wr : Mem) : Prop := ∃ n, n ≤ 160 ∧ wc 1 0 1 = nI n ∧ wr 5 0 7 = nI n ∧ (∀ k, k < n → wc 9 0 k = wr 23 0 k ∧ ∃ b, b < 256 ∧ wr 23 0 k = nI b) ∧ ∀ c, c < 96 → wr 32 0 c = wdL.getD c 0
/-- the image, read as what is now -/
def img (w : Mem) : Mem := fun a b c => if a = 5 then (if c = 0 then w 27 0 0 else if c = 4 then w 27 0 1 else if c = 5 then w 27 0 2 else w 27 0 3) else if a = 22 then w 26 0 c else w a b c
def TB (x : Int32) : Prop := ∃ n : Nat, n ≤ 999 ∧ x = nI n
def IR (N M : Nat) (wc wr : Mem) : Prop := (∀ p, p < N → wr 20 0 p ≠ 6) ∧ wc 4 0 5 = wr 5 0 12 ∧ (wr 5 0 12 = 0 ∨ ∃ K, K ≤ N ∧ CR 2 K wc (img wr) ∧ LR M (img wr) ∧ TB (wr 27 0 2))
def R (wc wr : Mem) : Prop := ∃ N M CC, Bo 0 N M CC wc wr ∧ TB (wr 5 0 5) ∧ SR wc wr ∧ PR wc wr ∧ IR N M wc wr
/-- what the bond reads is as it was -/
def QC (w w' : Mem) : Prop := (∀ a b c, (a = 0 ∨ a = 13 ∨ a = 14 ∨ a = 15 ∨ a = 16 ∨ a = 17) → b ≠ 1 → w' a b c = w a b c) ∧ (∀ a b c, (a = 2 ∨ a = 3 ∨ a = 4 ∨ a = 6 ∨ a = 7 ∨ a = 9 ∨ a = 19) → w' a b c = w a b c) ∧ w' 1 0 1 = w 1 0 1
def QR (w w' : Mem) : Prop := (∀ c, (c = 0 ∨ c = 4 ∨ c = 5 ∨ c = 7 ∨ c = 10 ∨ c = 11 ∨ c = 12) → w' 5 0 c = w 5 0 c) ∧ (∀ c, c < 18 → w' 22 0 c = w 22 0 c) ∧ (∀ a b c, (a = 20 ∨ a = 21 ∨ (23 ≤ a ∧ a ≤ 30) ∨ a = 32) → w' a b c = w a b c)
theorem QC.rf {w : Mem} : QC w w := ⟨fun _ _ _ _ _ => rfl, fun _ _ _ _ => rfl, rfl⟩
theorem QR.rf {w : Mem} : QR w w := ⟨fun _ _ => rfl, fun _ _ => rfl, fun _ _ _ _ => rfl⟩
theorem QC.tr {w w1 w2 : Mem} (h : QC w w1) (h2 : QC w1 w2) : QC w w2 := ⟨fun a b c ha hb => (h2.1 a b c ha hb).trans (h.1 a b c ha hb), fun a b c ha => (h2.2.1 a b c ha).trans (h.2.1 a b c ha), h2.2.2.trans h.2.2⟩
theorem QR.tr {w w1 w2 : Mem} (h : QR w w1) (h2 : QR w1 w2) : QR w w2 := ⟨fun c hc => (h2.1 c hc).trans (h.1 c hc), fun c hc => (h2.2.1 c hc).trans (h.2.1 c hc), fun a b c ha => (h2.2.2 a b c ha).trans (h.2.2 a b c ha)⟩
theorem ThC.q {w w' : Mem} (h : ThC 1 w w') : QC w w' := ⟨fun a b c ha hb => h a b c (fun z => hb z.1) (by omega) (by omega), fun a b c ha => h a b c (by omega) (by omega) (by omega), h 1 0 1 (by omega) (by omega) (by omega)⟩
theorem ScC.q {w w' : Mem} (h : ScC w w') : QC w w' := (ScC.th (i := 1) h).q
theorem ScR.q {w w' : Mem} (h : ScR w w') : QR w w' := ⟨fun c _ => h 5 0 c (by decide) (by decide), fun c _ => h 22 0 c (by decide) (by decide), fun a b c ha => h a b c (by omega) (by omega)⟩
theorem CR.of {i N : Nat} {wc wr wc' wr' : Mem} (h : CR i N wc wr) (c0 : ∀ c, wc' 0 i c = wc 0 i c) (c1 : ∀ a c, (a = 13 ∨ a = 14 ∨ a = 15 ∨ a = 16 ∨ a = 17) → wc' a i c = wc a i c) (r5 : ∀ c, (c = 0 ∨ c = 4 ∨ c = 5 ∨ c = 11) → wr' 5 0 c = wr 5 0 c) (r22 : ∀ c, c < 18 → wr' 22 0 c = wr 22 0 c) (r20 : ∀ c, wr' 20 0 c = wr 20 0 c) (r21 : ∀ c, wr' 21 0 c = wr 21 0 c) : CR i N wc' wr' := by
  obtain ⟨h1, h2, h3, h4, h5, h6, h7, h8⟩ := h
  refine ⟨h1, by rw [c0]; exact h2, by rw [r5 _ (by omega)]; exact h3, by rw [c0, r5 _ (by omega)]; exact h4, by rw [r5 _ (by omega)]; exact h5, by rw [c0, r5 _ (by omega)]; exact h6, by rw [c0, r5 _ (by omega)]; exact h7, fun p hp => ?_⟩
  have q := h8 p hp
  rw [r22 _ (by omega), r22 _ (by omega), r22 _ (by omega), r20, r21, c1 13 p (by omega), c1 14 p (by omega), c1 15 p (by omega), c1 16 p (by omega), c1 17 p (by omega)]
  exact q
theorem LR.of {M : Nat} {wr wr' : Mem} (h : LR M wr) (hr : wr' 5 0 11 = wr 5 0 11) : LR M wr' := by
  obtain ⟨t, ht, e⟩ := h
  exact ⟨t, ht, hr.trans e⟩
theorem Bo.q {N M : Nat} {CC : Nat → Nat → List Int32} {wc wr wc' wr' : Mem} (h : Bo 0 N M CC wc wr) (hc : QC wc wc') (hr : QR wr wr') : Bo 0 N M CC wc' wr' :=
  ⟨h.1.of (fun c => hc.1 0 0 c (by omega) (by omega)) (fun a c ha => hc.1 a 0 c (by omega) (by omega)) (fun c h => hr.1 c (by omega)) hr.2.1 (fun c => hr.2.2 20 0 c (by omega)) (fun c => hr.2.2 21 0 c (by omega)),
   h.2.1.of (hc.2.1 3 0 0 (by omega)) (fun c => hc.2.1 6 0 c (by omega)) (fun c => hc.2.1 7 0 c (by omega)) (hr.1 10 (by omega)) (fun c => hr.2.2 24 0 c (by omega)) (fun c => hr.2.2 25 0 c (by omega)),
   h.2.2.of (hr.1 11 (by omega))⟩
theorem SR.q {wc wr wc' wr' : Mem} (h : SR wc wr) (hc : QC wc wc') (hr : QR wr wr') : SR wc' wr' := by
  intro s hs
  rw [hc.2.1 2 s 0 (by omega), hc.2.1 2 s 1 (by omega), hr.2.2 28 0 s (by omega), hr.2.2 29 0 s (by omega)]
  obtain ⟨h1, h2, h3, h4⟩ := h s hs
  exact ⟨h1, h2, h3, fun k hk => by rw [hc.2.1 19 s k (by omega), hr.2.2 30 0 _ (by omega)]; exact h4 k hk⟩
theorem PR.q {wc wr wc' wr' : Mem} (h : PR wc wr) (hc : QC wc wc') (hr : QR wr wr') : PR wc' wr' := by
  obtain ⟨n, h1, h2, h3, h4⟩ := h
  exact ⟨n, h1, hc.2.2.trans h2, (hr.1 7 (by omega)).trans h3, fun k hk => by rw [hc.2.1 9 0 k (by omega), hr.2.2 23 0 k (by omega)]; exact h4.1 k hk, fun c h => (hr.2.2 32 0 c (by omega)).trans (h4.2 c h)⟩
theorem IR.q {N M : Nat} {wc wr wc' wr' : Mem} (h : IR N M wc wr) (hc : QC wc wc') (hr : QR wr wr') : IR N M wc' wr' := by
  obtain ⟨h0, h1, h2⟩ := h
  refine ⟨fun p hp => by rw [hr.2.2 20 0 p (by omega)]; exact h0 p hp, by rw [hc.2.1 4 0 5 (by omega), hr.1 12 (by omega)]; exact h1, ?_⟩
  rw [hr.1 12 (by omega)]
  rcases h2 with h2 | ⟨K, hK, h3, h4, h5⟩
  · exact Or.inl h2
  · have e27 : ∀ c, wr' 27 0 c = wr 27 0 c := fun c => hr.2.2 27 0 c (by omega)
    have e26 : ∀ c, wr' 26 0 c = wr 26 0 c := fun c => hr.2.2 26 0 c (by omega)
    refine Or.inr ⟨K, hK, h3.of (fun c => hc.1 0 2 c (by omega) (by omega)) (fun a c ha => hc.1 a 2 c (by omega) (by omega)) (fun c h => ?_) (fun c _ => ?_) (fun c => ?_) (fun c => ?_), h4.of ?_, by rw [e27]; exact h5⟩
    · simp only [img, e27, if_true]
    · simp [img, e26]
    · simp [img]; exact hr.2.2 20 0 c (by omega)
    · simp [img]; exact hr.2.2 21 0 c (by omega)
    · simp [img, e27]
theorem R.q {wc wr wc' wr' : Mem} (h : R wc wr) (hc : QC wc wc') (hr : QR wr wr') : R wc' wr' := by
  obtain ⟨N, M, CC, h1, h2, h3, h4, h5⟩ := h
  exact ⟨N, M, CC, h1.q hc hr, by rw [hr.1 5 (by omega)]; exact h2, h3.q hc hr, h4.q hc hr, h5.q hc hr⟩
/-- each side leaves the other's memory alone -/
def FC (w w' : Mem) : Prop := ∀ a b c, (a = 5 ∨ 20 ≤ a) → w' a b c = w a b c
def FR (w w' : Mem) : Prop := ∀ a b c, ¬ (a = 5 ∨ 20 ≤ a) → w' a b c = w a b c
theorem FC.rf {w : Mem} : FC w w := fun _ _ _ _ => rfl
theorem FR.rf {w : Mem} : FR w w := fun _ _ _ _ => rfl
theorem FC.tr {w w1 w2 : Mem} (h : FC w w1) (h2 : FC w1 w2) : FC w w2 := fun a b c ha => (h2 a b c ha).trans (h a b c ha)
theorem FR.tr {w w1 w2 : Mem} (h : FR w w1) (h2 : FR w1 w2) : FR w w2 := fun a b c ha => (h2 a b c ha).trans (h a b c ha)
theorem FC.up {k i j : Nat} {v : Int32} {w w' : Mem} (h : FC w w') (hk : ¬ (k = 5 ∨ 20 ≤ k)) : FC w (up w' k i j v) := fun a b c ha => by
  rw [up_k (fun z => hk (by rw [← z]; exact ha))]; exact h a b c ha
theorem FR.up {k i j : Nat} {v : Int32} {w w' : Mem} (h : FR w w') (hk : k = 5 ∨ 20 ≤ k) : FR w (up w' k i j v) := fun a b c ha => by
  rw [up_k (fun z => ha (by rw [z]; exact hk))]; exact h a b c ha
theorem ThC.f {i : Nat} {w w' : Mem} (h : ThC i w w') : FC w w' := fun a b c ha => h a b c (by omega) (by omega) (by omega)
theorem ThR.f {w w' : Mem} (h : ThR w w') : FR w w' := fun a b c ha => h a b c (by omega) (by omega) (by omega) (by omega)
theorem ScC.f {w w' : Mem} (h : ScC w w') : FC w w' := fun a b c ha => h a b c (by omega) (by omega)
theorem ScR.f {w w' : Mem} (h : ScR w w') : FR w w' := fun a b c ha => h a b c (by omega) (by omega)
theorem FC.q {w w' : Mem} (h : FC w w') : QR w w' := ⟨fun c _ => h 5 0 c (by omega), fun c _ => h 22 0 c (by omega), fun a b c ha => h a b c (by omega)⟩
theorem FR.q {w w' : Mem} (h : FR w w') : QC w w' := ⟨fun a b c ha _ => h a b c (by omega), fun a b c ha => h a b c (by omega), h 1 0 1 (by omega)⟩
def Both {V : Type} (f g : Mem → Option (V × Mem)) : Prop := ∀ wc wr, R wc wr → ∃ (v : V) (wc' wr' : Mem), f wc = some (v, wc') ∧ g wr = some (v, wr') ∧ R wc' wr' ∧ FC wc wc' ∧ FR wr wr'
theorem Both.own {V : Type} {f g : Mem → Option (V × Mem)} (h : Both f g) (w : Mem) (hw : R w w) : ∃ (v : V) (w1 w2 : Mem), f w = some (v, w1) ∧ g w1 = some (v, w2) ∧ R w2 w2 := by
  obtain ⟨v, w1, w', e1, -, -, f1, -⟩ := h w w hw
  obtain ⟨u, w1', w2, e2, e3, r, -, f2⟩ := h w w1 (hw.q .rf f1.q)
  rw [e1] at e2
  obtain ⟨rfl, rfl⟩ : v = u ∧ w1 = w1' := by
    have := Option.some.inj e2
    exact ⟨congrArg (fun z => z.1) this, congrArg (fun z => z.2) this⟩
  exact ⟨v, w1, w2, e1, e3, r.q f2.q .rf⟩
