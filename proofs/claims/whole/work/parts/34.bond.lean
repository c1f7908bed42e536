/-! the bond of a coast with the reference's own numbers, and of the texts -/
def CR (i N : Nat) (wc wr : Mem) : Prop :=
  N ≤ 6 ∧ wc 0 i 2 = nI N ∧ wr 5 0 0 = nI N ∧ wc 0 i 3 = wr 5 0 4 ∧ S16 (wr 5 0 4) ∧ wc 0 i 4 = wr 5 0 5 ∧ wc 0 i 5 = wr 5 0 11 ∧
  ∀ p, p < N → wc 13 i p = wr 20 0 p ∧ wc 14 i p = wr 21 0 p ∧ wc 15 i p = wr 22 0 (3 * p) ∧ wc 16 i p = wr 22 0 (3 * p + 1) ∧ wc 17 i p = wr 22 0 (3 * p + 2) ∧ S16 (wr 22 0 (3 * p)) ∧ S16 (wr 22 0 (3 * p + 1)) ∧ (0 ≤ wr 22 0 (3 * p + 2) ∧ wr 22 0 (3 * p + 2) ≤ 99) ∧ (0 ≤ wr 21 0 p ∧ wr 21 0 p ≤ 9)
def TR (M : Nat) (CC : Nat → Nat → List Int32) (wc wr : Mem) : Prop := M ≤ 6 ∧ wc 3 0 0 = nI M ∧ wr 5 0 10 = nI M ∧ ∀ t, t < M → TxR t (CC t) wc wr
def LR (M : Nat) (wr : Mem) : Prop := ∃ t, t < M ∧ wr 5 0 11 = nI t
/-- the class's scratch, the reference's scratch -/
def ScC (w w' : Mem) : Prop := Only2 8 12 w w'
def ScR (w w' : Mem) : Prop := Only2 34 35 w w'
theorem ScC.tr {w w1 w2 : Mem} (h : ScC w w1) (h2 : ScC w1 w2) : ScC w w2 := fun a b c h8 h12 => (h2 a b c h8 h12).trans (h a b c h8 h12)
theorem ScR.tr {w w1 w2 : Mem} (h : ScR w w1) (h2 : ScR w1 w2) : ScR w w2 := fun a b c h8 h12 => (h2 a b c h8 h12).trans (h a b c h8 h12)
theorem ScC.rf {w : Mem} : ScC w w := fun _ _ _ _ _ => rfl
theorem ScR.rf {w : Mem} : ScR w w := fun _ _ _ _ _ => rfl
theorem CR.sc {i N : Nat} {wc wr wc' wr' : Mem} (h : CR i N wc wr) (hc : ScC wc wc') (hr : ScR wr wr') : CR i N wc' wr' := by
  obtain ⟨h1, h2, h3, h4, h5, h6, h7, h8⟩ := h
  have c0 : ∀ b c, wc' 0 b c = wc 0 b c := fun b c => hc 0 b c (by decide) (by decide)
  have r5 : ∀ b c, wr' 5 b c = wr 5 b c := fun b c => hr 5 b c (by decide) (by decide)
  refine ⟨h1, by rw [c0]; exact h2, by rw [r5]; exact h3, by rw [c0, r5]; exact h4, by rw [r5]; exact h5, by rw [c0, r5]; exact h6, by rw [c0, r5]; exact h7, fun p hp => ?_⟩
  have r22 : ∀ b c, wr' 22 b c = wr 22 b c := fun b c => hr 22 b c (by decide) (by decide)
  have q := h8 p hp
  rw [r22, r22, r22, hr 20 0 p (by decide) (by decide), hr 21 0 p (by decide) (by decide), hc 13 i p (by decide) (by decide), hc 14 i p (by decide) (by decide), hc 15 i p (by decide) (by decide), hc 16 i p (by decide) (by decide), hc 17 i p (by decide) (by decide)]
  exact q
theorem TxR.of {t : Nat} {C : Nat → List Int32} {wc wr wc' wr' : Mem} (h : TxR t C wc wr) (h6 : ∀ c, wc' 6 0 c = wc 6 0 c) (h7 : ∀ c, wc' 7 0 c = wc 7 0 c) (h24 : ∀ c, wr' 24 0 c = wr 24 0 c) (h25 : ∀ c, wr' 25 0 c = wr 25 0 c) : TxR t C wc' wr' := by
  refine ⟨h.1, fun q hq => ?_⟩
  obtain ⟨g1, g2, g3, g4, g5, g6⟩ := h.2 q hq
  exact ⟨by rw [h7]; exact g1, fun j hj => by rw [h6]; exact g2 j hj, by rw [h25]; exact g3, by rw [h25]; exact g4, fun j hj => by rw [h24]; exact g5 j hj, g6⟩
theorem TR.of {M : Nat} {CC : Nat → Nat → List Int32} {wc wr wc' wr' : Mem} (h : TR M CC wc wr) (h3 : wc' 3 0 0 = wc 3 0 0) (h6 : ∀ c, wc' 6 0 c = wc 6 0 c) (h7 : ∀ c, wc' 7 0 c = wc 7 0 c) (h5 : wr' 5 0 10 = wr 5 0 10) (h24 : ∀ c, wr' 24 0 c = wr 24 0 c) (h25 : ∀ c, wr' 25 0 c = wr 25 0 c) : TR M CC wc' wr' :=
  ⟨h.1, h3.trans h.2.1, h5.trans h.2.2.1, fun t ht => (h.2.2.2 t ht).of h6 h7 h24 h25⟩
theorem TR.sc {M : Nat} {CC : Nat → Nat → List Int32} {wc wr wc' wr' : Mem} (h : TR M CC wc wr) (hc : ScC wc wc') (hr : ScR wr wr') : TR M CC wc' wr' :=
  h.of (hc 3 0 0 (by decide) (by decide)) (fun c => hc 6 0 c (by decide) (by decide)) (fun c => hc 7 0 c (by decide) (by decide)) (hr 5 0 10 (by decide) (by decide)) (fun c => hr 24 0 c (by decide) (by decide)) (fun c => hr 25 0 c (by decide) (by decide))
theorem LR.sc {M : Nat} {wr wr' : Mem} (h : LR M wr) (hr : ScR wr wr') : LR M wr' := by
  obtain ⟨t, ht, e⟩ := h
  exact ⟨t, ht, by rw [hr 5 0 11 (by decide) (by decide)]; exact e⟩
/-- all that a coast needs -/
def Bo (i N M : Nat) (CC : Nat → Nat → List Int32) (wc wr : Mem) : Prop := CR i N wc wr ∧ TR M CC wc wr ∧ LR M wr
theorem Bo.sc {i N M : Nat} {CC : Nat → Nat → List Int32} {wc wr wc' wr' : Mem} (h : Bo i N M CC wc wr) (hc : ScC wc wc') (hr : ScR wr wr') : Bo i N M CC wc' wr' := ⟨h.1.sc hc hr, h.2.1.sc hc hr, h.2.2.sc hr⟩
/-- what the law says, in the reference's numbers -/
theorem says_both {i N M p part : Nat} {CC : Nat → Nat → List Int32} {wc wr : Mem} (h : Bo i N M CC wc wr) (hp : part < 3) (hP : p < N) (th : Int32) : ∃ (v : Int32) (wc' wr' : Mem), f_X0_says i (nI part) (nI p) th wc = some (v, wc') ∧ f_X5_asksOf (nI part) (nI p) th wr = some (v, wr') ∧ ScC wc wc' ∧ ScR wr wr' ∧ (if part = 2 then 0 ≤ v ∧ v ≤ 16 else -99 ≤ v ∧ v ≤ 99) := by
  obtain ⟨⟨h1, h2, h3, h4, h5, h6, h7, h8⟩, hT, t, ht, hl⟩ := h
  obtain ⟨k1, k2, k3, k4, k5, k6, k7, k8⟩ := h8 p hP
  have hM := hT.1
  obtain ⟨wc', c1, c2⟩ := says_c (i := i) (p := p) (th := th) (hT.2.2.2 t ht) (by omega) hp (by omega) (h7.trans hl)
  rw [k2, k3, k4, k5, h6, k6.bc, k7.bc] at c1
  by_cases h2p : part = 2
  · obtain ⟨wr', r1, r2⟩ := asks_15 (p := p) (th := 0) (hT.2.2.2 t ht) (by omega) hp (by omega) hl
    rw [if_pos h2p] at c1 r1
    refine ⟨_, wc', wr', c1, ?_, c2, r2, by rw [if_pos h2p]; exact wiF_b (by decide)⟩
    unfold f_X5_asksOf
    subst h2p
    rw [if_pos (show nI 2 = 2 from rfl)]
    exact r1
  · obtain ⟨wr', r1, r2⟩ := asks_15 (p := p) (th := th) (hT.2.2.2 t ht) (by omega) hp (by omega) hl
    rw [if_neg h2p] at c1 r1
    refine ⟨_, wc', wr', c1, ?_, c2, r2, by rw [if_neg h2p]; exact wiF_b (by decide)⟩
    unfold f_X5_asksOf
    have hne : ¬ nI part = 2 := fun z => h2p ((nI_eq (a := part) (b := 2) (by omega) (by omega)).mp z)
    rw [if_neg hne]
    exact r1
