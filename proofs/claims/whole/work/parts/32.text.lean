/-! a text on both sides, what a part of it comes to -/
def off (C : Nat → List Int32) : Nat → Nat
  | 0 => 0
  | q + 1 => off C q + (C q).length
def TxR (t : Nat) (C : Nat → List Int32) (wc wr : Mem) : Prop := off C 3 ≤ 160 ∧ ∀ q, q < 3 → wc 7 0 (3 * t + q) = nI (160 * t + off C (q + 1)) ∧ Row wc 6 (160 * t + off C q) (C q) ∧ wr 25 0 (4 * t + q) = nI (off C q) ∧ wr 25 0 (4 * t + q + 1) = nI (off C (q + 1)) ∧ RowR wr (200 * t + off C q) (C q) ∧ okC (C q) 0
theorem off_le {C : Nat → List Int32} {q : Nat} (h : q < 3) : off C (q + 1) ≤ off C 3 := by
  have h1 : off C 3 = off C 2 + (C 2).length := rfl
  have h2 : off C 2 = off C 1 + (C 1).length := rfl
  match q, h with
  | 0, _ => show off C 1 ≤ _; omega
  | 1, _ => show off C 2 ≤ _; omega
  | 2, _ => exact Nat.le_refl _
def valC (nm : Nat → Int32) (C : List Int32) : Int32 := (evl nm C []).getLastD 0
theorem value_c {t part i : Nat} {C : Nat → List Int32} {wc wr : Mem} {nm : Nat → Int32} (hT : TxR t C wc wr) (ht : t < 6) (hp : part < 3) (hn : ∀ j, j < 6 → wc 12 i j = nm j) : ∃ wc', f_X3_value (nI t) (nI part) i wc = some (valC nm (C part), wc') ∧ OnlyK 8 wc wc' := by
  obtain ⟨h160, hq⟩ := hT
  obtain ⟨q1, q2, -, -, -, q6⟩ := hq part hp
  have hle := off_le (C := C) hp
  have e7 : (off C (part + 1)) = off C part + (C part).length := rfl
  have main : ∃ wc', j_X3_value_26 i (nI t) (nI part) (nI (160 * t + off C part)) wc = some (valC nm (C part), wc') ∧ OnlyK 8 wc wc' := by
    unfold j_X3_value_26
    have e1 : nI t * 3 + nI part = nI (3 * t + part) := by rw [show (3 : Int32) = nI 3 from rfl, nI_mul, nI_add, Nat.mul_comm t 3]
    rw [e1, atV_n wc 0 (show 3 * t + part < lenK 7 by show 3 * t + part < 18; omega) (by decide), q1]
    obtain ⟨w', h1, h2, h3, h4⟩ := val_c i (nI (160 * t + off C (part + 1))) (fun w9 => some (atV w9 8 0 0, w9)) nm (C part) (160 * t + off C part) FU [] wc q6 (by decide) (by omega) (by rw [e7, Nat.add_assoc]) (by show _ < 1000000; omega) q2 trivial hn
    refine ⟨w', ?_, h2⟩
    refine h1.trans ?_
    show some (atV w' 8 0 (nI 0), w') = _
    rw [atV_n w' 0 (by decide) (by decide), Rep_bot (by intro z; rw [z] at h4; exact absurd h4 (by decide)) h3]
    rfl
  unfold f_X3_value
  by_cases h0 : part = 0
  · subst h0
    rw [if_pos (show nI 0 = 0 from rfl), show nI t * 160 = nI (160 * t + off C 0) by rw [show (160 : Int32) = nI 160 from rfl, nI_mul]; congr 1; show t * 160 = 160 * t + 0; omega]
    exact main
  · rw [if_neg (nI_ne0 (by omega) (by omega))]
    obtain ⟨r1, -⟩ := hq (part - 1) (by omega)
    have e2 : nI t * 3 + nI part - 1 = nI (3 * t + (part - 1)) := by
      rw [show (3 : Int32) = nI 3 from rfl, nI_mul, nI_add, show (1 : Int32) = nI 1 from rfl, nI_sub (by omega)]; congr 1; omega
    rw [e2, atV_n wc 0 (show 3 * t + (part - 1) < lenK 7 by show _ < 18; omega) (by decide), r1, show part - 1 + 1 = part by omega]
    exact main
theorem says_r {t part : Nat} {C : Nat → List Int32} {wc wr : Mem} {nm : Nat → Int32} (hT : TxR t C wc wr) (ht : t < 6) (hp : part < 3) (hr : wr 5 0 11 = nI t) (hn : ∀ j, j < 6 → wr 35 0 j = nm j) : ∃ wr', f_X5_says (nI part) wr = some (valC nm (C part), wr') ∧ OnlyK 34 wr wr' := by
  obtain ⟨h160, hq⟩ := hT
  obtain ⟨-, -, q3, q4, q5, q6⟩ := hq part hp
  have hle := off_le (C := C) hp
  have e7 : (off C (part + 1)) = off C part + (C part).length := rfl
  obtain ⟨w', h1, h2, h3, h4⟩ := val_r t part ht hp (fun w22 => if inB 0 200 then some (w22 34 0 (tn 0), w22) else none) nm (off C (part + 1)) (by omega) (C part) (off C part) FU [] wr q6 (by decide) e7.symm (by show _ < 1000000; omega) q5 trivial hn hr q4
  refine ⟨w', ?_, h2⟩
  unfold f_X5_says
  rw [hr, show (4 : Int32) = nI 4 from rfl, nI_mul, nI_add, if_pos (nI_in (by omega) (by omega)), show tn (nI (4 * t + part)) = 4 * t + part from nI_clamp (by omega), q3]
  refine h1.trans ?_
  rw [if_pos (by decide)]
  show some (w' 34 0 0, w') = _
  rw [Rep_bot (by intro z; rw [z] at h4; exact absurd h4 (by decide)) h3]
  rfl
