/-! what a law says, what is let go, the luck, what one takes: the class alone -/
def off (C : Nat → List Int32) : Nat → Nat
  | 0 => 0
  | q + 1 => off C q + (C q).length
def TxC (t : Nat) (C : Nat → List Int32) (wc : Mem) : Prop := off C 3 ≤ 160 ∧ ∀ q, q < 3 → wc 7 0 (3 * t + q) = nI (160 * t + off C (q + 1)) ∧ Row wc 6 (160 * t + off C q) (C q) ∧ okC (C q) 0
theorem off_le {C : Nat → List Int32} {q : Nat} (h : q < 3) : off C (q + 1) ≤ off C 3 := by
  have h1 : off C 3 = off C 2 + (C 2).length := rfl
  have h2 : off C 2 = off C 1 + (C 1).length := rfl
  match q, h with
  | 0, _ => show off C 1 ≤ _; omega
  | 1, _ => show off C 2 ≤ _; omega
  | 2, _ => exact Nat.le_refl _
def valC (nm : Nat → Int32) (C : List Int32) : Int32 := (evl nm C []).getLastD 0
theorem value_c {t part i : Nat} {C : Nat → List Int32} {wc : Mem} {nm : Nat → Int32} (hT : TxC t C wc) (ht : t < 6) (hp : part < 3) (hn : ∀ j, j < 6 → wc 12 i j = nm j) : ∃ wc', f_X3_value (nI t) (nI part) i wc = some (valC nm (C part), wc') ∧ OnlyK 8 wc wc' := by
  obtain ⟨h160, hq⟩ := hT
  obtain ⟨q1, q2, q6⟩ := hq part hp
  have hle := off_le (C := C) hp
  have e7 : (off C (part + 1)) = off C part + (C part).length := rfl
  have main : ∃ wc', j_X3_value_26 i (nI t) (nI part) (nI (160 * t + off C part)) wc = some (valC nm (C part), wc') ∧ OnlyK 8 wc wc' := by
    unfold j_X3_value_26
    have e1 : nI t * 3 + nI part = nI (3 * t + part) := by rw [show (3 : Int32) = nI 3 from rfl, nI_mul, nI_add, Nat.mul_comm t 3]
    rw [e1, atV_n wc 0 (show 3 * t + part < lenK 7 by show 3 * t + part < 18; omega) (by decide), q1]
    obtain ⟨w', h1, h2, h3, h4⟩ := val_c i (nI (160 * t + off C (part + 1))) (fun w9 => some (atV w9 8 0 0, w9)) nm (C part) (160 * t + off C part) FU [] wc q6 (by decide) (by omega) (by rw [e7, Nat.add_assoc]) (by show _ < 1000000; omega) q2 trivial hn
    refine ⟨w', ?_, h2⟩
    refine h1.trans ?_
    show some (atV w' 8 0 (nI 0), w') = _
    rw [atV_n w' 0 (by decide) (by decide), Rep_bot (by intro z; rw [z] at h4; exact absurd h4 (by decide)) h3]
    rfl
  unfold f_X3_value
  by_cases h0 : part = 0
  · subst h0
    rw [if_pos (show nI 0 = 0 from rfl), show nI t * 160 = nI (160 * t + off C 0) by rw [show (160 : Int32) = nI 160 from rfl, nI_mul]; congr 1; show t * 160 = 160 * t + 0; omega]
    exact main
  · rw [if_neg (nI_ne0 (by omega) (by omega))]
    obtain ⟨r1, -⟩ := hq (part - 1) (by omega)
    have e2 : nI t * 3 + nI part - 1 = nI (3 * t + (part - 1)) := by
      rw [show (3 : Int32) = nI 3 from rfl, nI_mul, nI_add, show (1 : Int32) = nI 1 from rfl, nI_sub (by omega)]; congr 1; omega
    rw [e2, atV_n wc 0 (show 3 * t + (part - 1) < lenK 7 by show _ < 18; omega) (by decide), r1, show part - 1 + 1 = part by omega]
    exact main
theorem up_k {w : Mem} {k i j : Nat} {v : Int32} {a b c : Nat} (h : a ≠ k) : up w k i j v a b c = w a b c := up_n (fun z => h z.1)
theorem up_j {w : Mem} {k i j : Nat} {v : Int32} {a b c : Nat} (h : c ≠ j) : up w k i j v a b c = w a b c := up_n (fun z => h z.2.2)
theorem up_i {w : Mem} {k i j : Nat} {v : Int32} {a b c : Nat} (h : b ≠ i) : up w k i j v a b c = w a b c := up_n (fun z => h z.2.1)
def nm6 (a0 a1 a2 a3 a4 a5 : Int32) (j : Nat) : Int32 := if j = 0 then a0 else if j = 1 then a1 else if j = 2 then a2 else if j = 3 then a3 else if j = 4 then a4 else a5
def put6 (w : Mem) (k i : Nat) (a0 a1 a2 a3 a4 a5 : Int32) : Mem := up (up (up (up (up (up w k i 0 a0) k i 1 a1) k i 2 a2) k i 3 a3) k i 4 a4) k i 5 a5
theorem put6_o {w : Mem} {k i : Nat} {a0 a1 a2 a3 a4 a5 : Int32} : OnlyK k w (put6 w k i a0 a1 a2 a3 a4 a5) := (((((OnlyK.rf.up).up).up).up).up).up
theorem put6_n {w : Mem} {k i : Nat} {a0 a1 a2 a3 a4 a5 : Int32} : ∀ j, j < 6 → put6 w k i a0 a1 a2 a3 a4 a5 k i j = nm6 a0 a1 a2 a3 a4 a5 j := by
  intro j hj
  unfold put6 nm6
  match j, hj with
  | 0, _ => simp [up]
  | 1, _ => simp [up]
  | 2, _ => simp [up]
  | 3, _ => simp [up]
  | 4, _ => simp [up]
  | 5, _ => simp [up]
theorem set_0 (w : Mem) (i : Nat) (v : Int32) : setV w 12 i 0 v = up w 12 i 0 v := setV_n w (k := 12) i (p := 0) v (by decide) (by decide)
theorem set_1 (w : Mem) (i : Nat) (v : Int32) : setV w 12 i 1 v = up w 12 i 1 v := setV_n w (k := 12) i (p := 1) v (by decide) (by decide)
theorem set_2 (w : Mem) (i : Nat) (v : Int32) : setV w 12 i 2 v = up w 12 i 2 v := setV_n w (k := 12) i (p := 2) v (by decide) (by decide)
theorem set_3 (w : Mem) (i : Nat) (v : Int32) : setV w 12 i 3 v = up w 12 i 3 v := setV_n w (k := 12) i (p := 3) v (by decide) (by decide)
theorem set_4 (w : Mem) (i : Nat) (v : Int32) : setV w 12 i 4 v = up w 12 i 4 v := setV_n w (k := 12) i (p := 4) v (by decide) (by decide)
theorem set_5 (w : Mem) (i : Nat) (v : Int32) : setV w 12 i 5 v = up w 12 i 5 v := setV_n w (k := 12) i (p := 5) v (by decide) (by decide)
def Only2 (k l : Nat) (w w' : Mem) : Prop := ∀ a b c, a ≠ k → a ≠ l → w' a b c = w a b c
theorem says_24 {i p t part : Nat} {C : Nat → List Int32} {wc : Mem} {th : Int32} (hT : TxC t C wc) (ht : t < 6) (hp : part < 3) (hP : p < 6) (hl : wc 0 i 5 = nI t) : ∃ wc', j_X0_says_24 i (nI part) (nI p) th 0 wc = some (if part = 2 then wiF (valC (nm6 th (bcF (wc 15 i p)) (bcF (wc 16 i p)) (wc 0 i 4) (wc 17 i p) (wc 14 i p)) (C part)) 0 16 else wiF (valC (nm6 th (bcF (wc 15 i p)) (bcF (wc 16 i p)) (wc 0 i 4) (wc 17 i p) (wc 14 i p)) (C part)) (-99) 99, wc') ∧ Only2 8 12 wc wc' := by
  have hT2 : TxC t C (put6 wc 12 i th (bcF (wc 15 i p)) (bcF (wc 16 i p)) (wc 0 i 4) (wc 17 i p) (wc 14 i p)) := by
    refine ⟨hT.1, fun q hq => ?_⟩
    obtain ⟨h1, h2, h3⟩ := hT.2 q hq
    exact ⟨by rw [put6_o 7 0 _ (by decide)]; exact h1, fun j hj => by rw [put6_o 6 0 _ (by decide)]; exact h2 j hj, h3⟩
  obtain ⟨w', h1, h2⟩ := value_c hT2 ht hp put6_n
  have e15 : ∀ w : Mem, atV w 15 i (nI p) = w 15 i p := fun w => atV_n w i hP (by decide)
  have e16 : ∀ w : Mem, atV w 16 i (nI p) = w 16 i p := fun w => atV_n w i hP (by decide)
  have e17 : ∀ w : Mem, atV w 17 i (nI p) = w 17 i p := fun w => atV_n w i hP (by decide)
  have e14 : ∀ w : Mem, atV w 14 i (nI p) = w 14 i p := fun w => atV_n w i hP (by decide)
  refine ⟨w', ?_, fun a b c ha1 ha2 => (h2 a b c ha1).trans (put6_o a b c ha2)⟩
  unfold j_X0_says_24
  simp only [set_0, set_1, set_2, set_3, set_4, set_5, e14, e15, e16, e17, up_k (show (15 : Nat) ≠ 12 by decide), up_k (show (16 : Nat) ≠ 12 by decide), up_k (show (17 : Nat) ≠ 12 by decide), up_k (show (14 : Nat) ≠ 12 by decide), up_k (show (0 : Nat) ≠ 12 by decide), hl]
  rw [show up (up (up (up (up (up wc 12 i 0 th) 12 i 1 (bcF (wc 15 i p))) 12 i 2 (bcF (wc 16 i p))) 12 i 3 (wc 0 i 4)) 12 i 4 (wc 17 i p)) 12 i 5 (wc 14 i p) = put6 wc 12 i th (bcF (wc 15 i p)) (bcF (wc 16 i p)) (wc 0 i 4) (wc 17 i p) (wc 14 i p) from rfl, h1]
  show (if nI part = 2 then _ else _) = _
  by_cases h2p : part = 2
  · subst h2p; rfl
  · have hne : ¬ nI part = 2 := fun z => h2p ((nI_eq (a := part) (b := 2) (by omega) (by omega)).mp z)
    rw [if_neg h2p, if_neg hne]
theorem says_c {i p t part : Nat} {C : Nat → List Int32} {wc : Mem} {th : Int32} (hT : TxC t C wc) (ht : t < 6) (hp : part < 3) (hP : p < 6) (hl : wc 0 i 5 = nI t) : ∃ wc', f_X0_says i (nI part) (nI p) th wc = some (if part = 2 then wiF (valC (nm6 0 (bcF (wc 15 i p)) (bcF (wc 16 i p)) (wc 0 i 4) (wc 17 i p) (wc 14 i p)) (C part)) 0 16 else wiF (valC (nm6 th (bcF (wc 15 i p)) (bcF (wc 16 i p)) (wc 0 i 4) (wc 17 i p) (wc 14 i p)) (C part)) (-99) 99, wc') ∧ Only2 8 12 wc wc' := by
  unfold f_X0_says
  by_cases h2p : part = 2
  · obtain ⟨w', h1, h2⟩ := says_24 (th := 0) hT ht hp hP hl
    refine ⟨w', ?_, h2⟩
    rw [if_pos h2p] at h1 ⊢
    subst h2p
    rw [if_pos (show nI 2 = 2 from rfl)]
    exact h1
  · obtain ⟨w', h1, h2⟩ := says_24 (th := th) hT ht hp hP hl
    refine ⟨w', ?_, h2⟩
    rw [if_neg h2p] at h1 ⊢
    have hne : ¬ nI part = 2 := fun z => h2p ((nI_eq (a := part) (b := 2) (by omega) (by omega)).mp z)
    rw [if_neg hne]
    exact h1
def ScC (w w' : Mem) : Prop := Only2 8 12 w w'
theorem ScC.tr {w w1 w2 : Mem} (h : ScC w w1) (h2 : ScC w1 w2) : ScC w w2 := fun a b c h8 h12 => (h2 a b c h8 h12).trans (h a b c h8 h12)
theorem ScC.rf {w : Mem} : ScC w w := fun _ _ _ _ _ => rfl
def fmC (x y : Int32) : Int32 := if (x ^^^ y) < 0 then (if rmI x y = 0 then rmI x y else rmI x y + y) else rmI x y
def fmR (x y : Int32) : Int32 := if rmI x y < 0 then rmI x y + y else rmI x y
theorem fm_eq : ∀ a, a < 199 → ∀ k, k < 17 → k ≠ 0 → fmC (nI a - 99) (nI k) = fmR (nI a - 99) (nI k) := by decide +kernel
theorem fm_one : ∀ a, a < 199 → fmR (nI a - 99) (nI 1) = 0 := by decide +kernel
theorem in_99 {v : Int32} (h : -99 ≤ v ∧ v ≤ 99) : ∃ a, a < 199 ∧ v = nI a - 99 := by
  have a1 := Int32.le_iff_toInt_le.mp h.1
  have a2 := Int32.le_iff_toInt_le.mp h.2
  rw [show (-99 : Int32).toInt = -99 by decide] at a1
  rw [show (99 : Int32).toInt = 99 by decide] at a2
  refine ⟨(v.toInt + 99).toNat, by omega, Int32.toInt_inj.mp ?_⟩
  rw [Int32.toInt_sub, nI_toInt (by omega), show (99 : Int32).toInt = 99 by decide, Int.bmod_eq_of_le (by omega) (by omega)]
  omega
theorem floorMod_eq {v : Int32} {k : Nat} (h : -99 ≤ v ∧ v ≤ 99) (hk : k < 17) (h0 : k ≠ 0) (w : Mem) : f_J9_floorMod v (nI k) w = some (fmR v (nI k), w) := by
  obtain ⟨a, ha, rfl⟩ := in_99 h
  unfold f_J9_floorMod
  rw [if_pos (nI_ne0 (by omega) (by omega)), ← fm_eq a ha k hk h0]
  unfold fmC
  by_cases h1 : (nI a - 99 ^^^ nI k) < 0
  · rw [if_pos h1, if_pos h1]
    by_cases h2 : rmI (nI a - 99) (nI k) = 0
    · rw [if_pos h2, if_pos h2]
    · rw [if_neg h2, if_neg h2]
  · rw [if_neg h1, if_neg h1]
def letV (kind more known n f : Int32) : Int32 := swE kind 1 [some (nthF known ((n - 1) - f)), some (nthF known f), some (nthF known (if n < 2 then 0 else mxF ((n - 1) - f) 1)), some (nthF known f), some (nthF known (rmI more n))] (some (nthF known f)) |>.getD 0
theorem swE_5 {ρ : Type} (x : Int32) (a b c d e z : Option ρ) : swE x 1 [a, b, c, d, e] z = if x = 1 then a else if x = 2 then b else if x = 3 then c else if x = 4 then d else if x = 5 then e else z := rfl
theorem letV_eq (kind more known n f : Int32) : letV kind more known n f = if kind = 1 then nthF known ((n - 1) - f) else if kind = 2 then nthF known f else if kind = 3 then nthF known (if n < 2 then 0 else mxF ((n - 1) - f) 1) else if kind = 4 then nthF known f else if kind = 5 then nthF known (rmI more n) else nthF known f := by
  unfold letV
  rw [swE_5]
  by_cases h1 : kind = 1
  · rw [if_pos h1, if_pos h1]; rfl
  · rw [if_neg h1, if_neg h1]
    by_cases h2 : kind = 2
    · rw [if_pos h2, if_pos h2]; rfl
    · rw [if_neg h2, if_neg h2]
      by_cases h3 : kind = 3
      · rw [if_pos h3, if_pos h3]; rfl
      · rw [if_neg h3, if_neg h3]
        by_cases h4 : kind = 4
        · rw [if_pos h4, if_pos h4]; rfl
        · rw [if_neg h4, if_neg h4]
          by_cases h5 : kind = 5
          · rw [if_pos h5, if_pos h5]; rfl
          · rw [if_neg h5, if_neg h5]; rfl
theorem lets_c {i p k : Nat} {wc wc' : Mem} {th v : Int32} (hP : p < 6) (hk : bcF (wc 15 i p) = nI k) (hk1 : 1 ≤ k) (hk2 : k ≤ 16) (hs : f_X0_says i 0 (nI p) th wc = some (v, wc')) (hsc : ScC wc wc') (hv : -99 ≤ v ∧ v ≤ 99) : f_X0_letsGo i (nI p) th wc = some (letV (wc 13 i p) (wc 14 i p) (wc 15 i p) (nI k) (fmR v (nI k)), wc') := by
  have e15 : ∀ w : Mem, atV w 15 i (nI p) = w 15 i p := fun w => atV_n w i hP (by decide)
  have e14 : ∀ w : Mem, atV w 14 i (nI p) = w 14 i p := fun w => atV_n w i hP (by decide)
  have e13 : ∀ w : Mem, atV w 13 i (nI p) = w 13 i p := fun w => atV_n w i hP (by decide)
  have hlt : ¬ nI k < 1 := nI_nlt (a := k) (b := 1) hk1 (by omega)
  unfold f_X0_letsGo
  rw [e15, hk, if_neg hlt, hs]
  show Option.bind (f_J9_floorMod v (nI k) wc') _ = _
  rw [floorMod_eq hv (by omega) (by omega)]
  show swE (atV wc' 13 i (nI p)) 1 _ _ = _
  unfold j_X0_letsGo_147
  simp only [e13, e14, e15, hsc 13 i p (by decide) (by decide), hsc 14 i p (by decide) (by decide), hsc 15 i p (by decide) (by decide)]
  rw [swE_5, letV_eq]
  by_cases h1 : wc 13 i p = 1
  · rw [if_pos h1, if_pos h1]
  · rw [if_neg h1, if_neg h1]
    by_cases h2 : wc 13 i p = 2
    · rw [if_pos h2, if_pos h2]
    · rw [if_neg h2, if_neg h2]
      by_cases h3 : wc 13 i p = 3
      · rw [if_pos h3, if_pos h3]
        by_cases h : nI k < 2
        · rw [if_pos h, if_pos h]
        · rw [if_neg h, if_neg h]
      · rw [if_neg h3, if_neg h3]
        by_cases h4 : wc 13 i p = 4
        · rw [if_pos h4, if_pos h4]
        · rw [if_neg h4, if_neg h4]
          by_cases h5 : wc 13 i p = 5
          · rw [if_pos h5, if_pos h5, if_pos (nI_ne0 (by omega) (by omega))]
          · rw [if_neg h5, if_neg h5]
theorem swE_4 {ρ : Type} (x : Int32) (a b c d z : Option ρ) : swE x 1 [a, b, c, d] z = if x = 1 then a else if x = 2 then b else if x = 3 then c else if x = 4 then d else z := rfl
theorem swE_42 {ρ : Type} (x : Int32) (a b c d z : Option ρ) : swE x 2 [a, b, c, d] z = if x = 2 then a else if x = 3 then b else if x = 4 then c else if x = 5 then d else z := rfl
def luckV (kind more v h : Int32) : Int32 := if kind = 1 then (if h = 0 then v - more else v) else if kind = 2 then v / 2 else if kind = 3 then (if h = 0 then v - more else v) else if kind = 4 then (if h = 0 then v / 2 else more) else v
theorem hb_eq (x : Int32) {th : Nat} (ht : th < 16) : holdsF x (nI th) = b2i (bit x (nI th) = 1) := by
  unfold holdsF b2i
  have a1 : 0 ≤ nI th := nI_pos' (by omega)
  have a2 : nI th ≤ 15 := nI_le (a := th) (b := 15) (by omega) (by omega)
  by_cases g : bit x (nI th) = 1
  · rw [if_pos ⟨a1, a2, g⟩, if_pos g]
  · rw [if_neg (fun z => g z.2.2), if_neg g]
theorem lucks_c {i p th : Nat} {wc wc' : Mem} {v : Int32} (hP : p < 6) (ht : th < 16) (c1 : f_X0_says i 1 (nI p) (nI th) wc = some (v, wc')) (c2 : ScC wc wc') : f_X0_lucksBy i (nI p) (nI th) wc = some (luckV (wc 13 i p) (wc 14 i p) v (b2i (bit (wc 15 i p) (nI th) = 1)), wc') := by
  have e15 : ∀ w : Mem, atV w 15 i (nI p) = w 15 i p := fun w => atV_n w i hP (by decide)
  have e14 : ∀ w : Mem, atV w 14 i (nI p) = w 14 i p := fun w => atV_n w i hP (by decide)
  have e13 : ∀ w : Mem, atV w 13 i (nI p) = w 13 i p := fun w => atV_n w i hP (by decide)
  have n2 : ¬ (2 : Int32) = 0 := by decide
  have hb := hb_eq (wc 15 i p) ht
  unfold f_X0_lucksBy
  rw [c1]
  show swE _ 1 _ _ = _
  unfold j_X0_lucksBy_60 luckV
  simp only [e13, e14, e15, c2 13 i p (by decide) (by decide), c2 14 i p (by decide) (by decide), hb, if_pos n2]
  rw [swE_4]
  generalize b2i (bit (wc 15 i p) (nI th) = 1) = hh
  repeat' split
  all_goals first | rfl | omega | contradiction
def takeV (kind more tide v : Int32) : Int32 := if kind = 2 then v + more else if kind = 3 then (if rmI tide 3 = 0 then v else 0) else if kind = 4 then 2 * (v + more) else if kind = 5 then 1 else v
theorem takes_c {i p : Nat} {wc wc' : Mem} {v : Int32} (hP : p < 6) (c1 : f_X0_says i 2 (nI p) 0 wc = some (v, wc')) (c2 : ScC wc wc') : f_X0_takesOf i (nI p) wc = some (takeV (wc 13 i p) (wc 14 i p) (wc 0 i 4) v, wc') := by
  have e14 : ∀ w : Mem, atV w 14 i (nI p) = w 14 i p := fun w => atV_n w i hP (by decide)
  have e13 : ∀ w : Mem, atV w 13 i (nI p) = w 13 i p := fun w => atV_n w i hP (by decide)
  have n3 : ¬ (3 : Int32) = 0 := by decide
  unfold f_X0_takesOf takeV
  rw [c1]
  show swE _ 2 _ _ = _
  simp only [e13, e14, c2 13 i p (by decide) (by decide), c2 14 i p (by decide) (by decide), c2 0 i 4 (by decide) (by decide), if_pos n3]
  rw [swE_42]
  repeat' split
  all_goals first | rfl | omega | contradiction
