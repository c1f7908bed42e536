/-! the text is kept, and in force; what is owed -/
def NA (w w' : Mem) : Prop := ∀ a b c, a ≠ 6 → a ≠ 7 → w' a b c = w a b c
theorem add_8 (k : Mem → Option (Int32 × Mem)) (w : Mem) : ∀ (m j fuel : Nat) (w1 : Mem), j + m = 160 → m < fuel → OnlyK 6 w w1 → (∀ i, i < j → w1 6 0 (160 + i) = w 10 0 i) → ∃ w', h_X3_add_8 1 k fuel (nI j) w1 = k w' ∧ OnlyK 6 w w' ∧ ∀ i, i < 160 → w' 6 0 (160 + i) = w 10 0 i := by
  intro m
  induction m with
  | zero =>
    intro j fuel w1 hj hf h1 h2
    obtain ⟨fuel, rfl⟩ : ∃ m, fuel = m + 1 := ⟨fuel - 1, by omega⟩
    refine ⟨w1, ?_, h1, fun i hi => h2 i (by omega)⟩
    unfold h_X3_add_8
    rw [if_neg (show ¬ nI j < 160 from nI_nlt (a := j) (b := 160) (by omega) (by omega))]
  | succ m ih =>
    intro j fuel w1 hj hf h1 h2
    obtain ⟨fuel, rfl⟩ : ∃ m, fuel = m + 1 := ⟨fuel - 1, by omega⟩
    unfold h_X3_add_8
    rw [if_pos (show nI j < 160 from nI_lt (a := j) (b := 160) (by omega) (by omega)), show (1 : Int32) * 160 + nI j = nI (160 + j) from nI_add 160 j, setV_n w1 0 _ (show 160 + j < lenK 6 by show 160 + j < 960; omega) (by decide), atV_n w1 0 (show j < lenK 10 by show j < 160; omega) (by decide), nI_1]
    refine ih (j + 1) fuel _ (by omega) (by omega) h1.up (fun i hi => ?_)
    by_cases g : i = j
    · subst g; rw [up_s]; exact h1 10 0 i (by decide)
    · rw [up_j (by omega)]; exact h2 i (by omega)
theorem add_46 (k : Mem → Option (Int32 × Mem)) (w : Mem) : ∀ (m j fuel : Nat) (w1 : Mem), j + m = 3 → m < fuel → OnlyK 7 w w1 → (∀ i, i < j → w1 7 0 (3 + i) = 160 + w 11 0 i) → ∃ w', h_X3_add_46 1 k fuel (nI j) w1 = k w' ∧ OnlyK 7 w w' ∧ ∀ i, i < 3 → w' 7 0 (3 + i) = 160 + w 11 0 i := by
  intro m
  induction m with
  | zero =>
    intro j fuel w1 hj hf h1 h2
    obtain ⟨fuel, rfl⟩ : ∃ m, fuel = m + 1 := ⟨fuel - 1, by omega⟩
    refine ⟨w1, ?_, h1, fun i hi => h2 i (by omega)⟩
    unfold h_X3_add_46
    rw [if_neg (show ¬ nI j < 3 from nI_nlt (a := j) (b := 3) (by omega) (by omega))]
  | succ m ih =>
    intro j fuel w1 hj hf h1 h2
    obtain ⟨fuel, rfl⟩ : ∃ m, fuel = m + 1 := ⟨fuel - 1, by omega⟩
    unfold h_X3_add_46
    rw [if_pos (show nI j < 3 from nI_lt (a := j) (b := 3) (by omega) (by omega)), show (1 : Int32) * 3 + nI j = nI (3 + j) from nI_add 3 j, setV_n w1 0 _ (show 3 + j < lenK 7 by show 3 + j < 18; omega) (by decide), atV_n w1 0 (show j < lenK 11 by show j < 3; omega) (by decide), nI_1]
    refine ih (j + 1) fuel _ (by omega) (by omega) h1.up (fun i hi => ?_)
    by_cases g : i = j
    · subst g; rw [up_s, h1 11 0 i (by decide)]; rfl
    · rw [up_j (by omega)]; exact h2 i (by omega)
theorem okC_lit {k : Nat} {cs : List Int32} {n : Nat} (hk : k < 64) (hn : n < 40) (h : okC cs (n + 1)) : okC (nI k :: cs) n := by
  unfold okC
  rw [if_neg (fun z => nI_pos (show k < 2 ^ 31 by omega) (Int32.lt_trans z (by decide)))]
  exact ⟨nI_le (a := k) (b := 9999) (by omega) (by omega), hn, h⟩
theorem okC_nm {c : Int32} {cs : List Int32} {n : Nat} (h1 : ¬ c < -6) (h2 : c ≤ 9999) (hn : n < 40) (h : okC cs (n + 1)) : okC (c :: cs) n := by
  unfold okC
  rw [if_neg h1]
  exact ⟨h2, hn, h⟩
theorem okC_op {c : Int32} {cs : List Int32} {n : Nat} (h1 : c < -6) (h2 : ¬ (c = -9 ∨ c = -15)) (h3 : -14 ≤ c) (hn : 2 ≤ n) (h : okC cs (n - 1)) : okC (c :: cs) n := by
  unfold okC
  rw [if_pos h1, if_neg h2]
  exact ⟨h3, hn, h⟩
theorem okC_e {n : Nat} (h : 1 ≤ n) : okC [] n := h
theorem text_c {k0 k1 k2 k3 k4 k5 : Nat} (h0 : k0 < 64) (h1 : k1 < 64) (h2 : k2 < 64) (h3 : k3 < 64) (h4 : k4 < 64) (h5 : k5 < 64) {w : Mem} (hn : w 1 0 1 = nI (TR k0 k1 k2 k3 k4 k5).length) (hl : (TR k0 k1 k2 k3 k4 k5).length ≤ 160) (hR : Row w 9 0 (TR k0 k1 k2 k3 k4 k5)) (h30 : w 3 0 0 = 1) : ∃ w', f_X4_text w = some (1, w') ∧ w' 3 0 0 = 2 ∧ TxC 1 (CT k0 k1 k2 k3 k4 k5) w' ∧ ∀ a b c, a = 0 ∨ 13 ≤ a → w' a b c = w a b c := by
  obtain ⟨w1, l1, l2, l3, l4, l5, l6⟩ := fault_c h0 h1 h2 h3 h4 h5 hn hl hR
  have e3 : (up w1 1 0 1 0) 3 0 0 = 1 := by rw [up_k (by decide), l6 3 0 0 (by decide) (by decide) (by decide) (by decide)]; exact h30
  obtain ⟨w2, m1, m2, m3⟩ := add_8 (fun w2 => h_X3_add_46 1 (fun w4 => some (1, up w4 3 0 0 ((w4 3 0 0) + 1))) FU 0 w2) (up w1 1 0 1 0) 160 0 FU (up w1 1 0 1 0) (by omega) (by show 160 < 1000000; omega) .rf (fun i hi => by omega)
  obtain ⟨w3, n1, n2, n3⟩ := add_46 (fun w4 => some (1, up w4 3 0 0 ((w4 3 0 0) + 1))) w2 3 0 FU w2 (by omega) (by show 3 < 1000000; omega) .rf (fun i hi => by omega)
  have e33 : w3 3 0 0 = 1 := by rw [n2 3 0 0 (by decide), m2 3 0 0 (by decide)]; exact e3
  refine ⟨up w3 3 0 0 2, ?_, up_s .., ⟨by show 19 ≤ 160; omega, ?_⟩, fun a b c hab => ?_⟩
  · have hadd : f_X3_add (up w1 1 0 1 0) = some (1, up w3 3 0 0 2) := by
      unfold f_X3_add
      rw [e3]
      refine m1.trans (n1.trans ?_)
      rw [e33]
      rfl
    unfold f_X4_text
    rw [h30, if_pos (by decide), l1, Option.bind_some]
    refine (if_pos (show (-1 : Int32) < 0 by decide)).trans ?_
    dsimp only
    rw [hadd]
    rfl
  · have row : ∀ i, i < 19 → (up w3 3 0 0 2) 6 0 (160 + i) = (CTa k0 k1 k2 k3 k4 k5).getD i 0 := fun i hi => by
      rw [up_k (by decide), n2 6 0 _ (by decide), m3 i (by omega), up_k (by decide)]
      have := l2 i hi
      rw [Nat.zero_add] at this
      exact this
    have end7 : ∀ i, i < 3 → (up w3 3 0 0 2) 7 0 (3 + i) = 160 + w1 11 0 i := fun i hi => by
      rw [up_k (by decide), n3 i hi, m2 11 0 i (by decide), up_k (by decide)]
    intro p hp
    match p, hp with
    | 0, _ =>
      refine ⟨(end7 0 (by omega)).trans (by rw [l3]; rfl), fun j hj => ?_, ?_⟩
      · have hj7 : j < 7 := hj
        refine (row j (by omega)).trans ?_
        match j, hj7 with
        | 0, _ => rfl
        | 1, _ => rfl
        | 2, _ => rfl
        | 3, _ => rfl
        | 4, _ => rfl
        | 5, _ => rfl
        | 6, _ => rfl
      · exact okC_nm (by decide) (by decide) (by omega) (okC_lit h0 (by omega) (okC_op (by decide) (by decide) (by decide) (by omega) (okC_nm (by decide) (by decide) (by omega) (okC_op (by decide) (by decide) (by decide) (by omega) (okC_nm (by decide) (by decide) (by omega) (okC_op (by decide) (by decide) (by decide) (by omega) (okC_e (by omega))))))))
    | 1, _ =>
      refine ⟨(end7 1 (by omega)).trans (by rw [l4]; rfl), fun j hj => ?_, ?_⟩
      · have hj7 : j < 7 := hj
        show (up w3 3 0 0 2) 6 0 (160 + 7 + j) = _
        rw [Nat.add_assoc]
        refine (row (7 + j) (by omega)).trans ?_
        match j, hj7 with
        | 0, _ => rfl
        | 1, _ => rfl
        | 2, _ => rfl
        | 3, _ => rfl
        | 4, _ => rfl
        | 5, _ => rfl
        | 6, _ => rfl
      · exact okC_lit h1 (by omega) (okC_nm (by decide) (by decide) (by omega) (okC_lit h2 (by omega) (okC_op (by decide) (by decide) (by decide) (by omega) (okC_lit h3 (by omega) (okC_op (by decide) (by decide) (by decide) (by omega) (okC_op (by decide) (by decide) (by decide) (by omega) (okC_e (by omega))))))))
    | 2, _ =>
      refine ⟨(end7 2 (by omega)).trans (by rw [l5]; rfl), fun j hj => ?_, ?_⟩
      · have hj7 : j < 5 := hj
        show (up w3 3 0 0 2) 6 0 (160 + 14 + j) = _
        rw [Nat.add_assoc]
        refine (row (14 + j) (by omega)).trans ?_
        match j, hj7 with
        | 0, _ => rfl
        | 1, _ => rfl
        | 2, _ => rfl
        | 3, _ => rfl
        | 4, _ => rfl
      · exact okC_lit h4 (by omega) (okC_nm (by decide) (by decide) (by omega) (okC_lit h5 (by omega) (okC_op (by decide) (by decide) (by decide) (by omega) (okC_op (by decide) (by decide) (by decide) (by omega) (okC_e (by omega))))))
  · rw [up_k (by omega), n2 a b c (by omega), m2 a b c (by omega), up_k (by omega)]
    exact l6 a b c (by omega) (by omega) (by omega) (by omega)
theorem stp_lit {nm : Nat → Int32} {k : Nat} {s : List Int32} (hk : k < 64) : stp nm (nI k) s = nI k :: s := by
  unfold stp
  rw [if_neg (fun z => nI_pos (show k < 2 ^ 31 by omega) (Int32.lt_trans z (by decide))), if_neg (nI_pos (by omega))]
theorem b2i_n {a b : Nat} (ha : a < 2 ^ 31) (hb : b < 2 ^ 31) : b2i (nI a < nI b) = nI (if a < b then 1 else 0) := by
  by_cases h : a < b
  · rw [if_pos h]; exact b2i_t (nI_lt h hb)
  · rw [if_neg h]; exact b2i_f (nI_nlt (by omega) ha)
theorem Says_tx {q : Int32 → Int32} (hpl : ¬ plainQ q) : Says q (CT (kq0 q) (kq1 q) (kq2 q) (kq3 q) (kq4 q) (kq5 q)) := by
  intro th n k T L m h1 h2 h3 h4 h5 h6
  have hk := kqs q
  unfold vLets vLucks vTakes
  rw [if_neg hpl, if_neg hpl, if_neg hpl]
  generalize kq0 q = k0 at *
  generalize kq1 q = k1 at *
  generalize kq2 q = k2 at *
  generalize kq3 q = k3 at *
  generalize kq4 q = k4 at *
  generalize kq5 q = k5 at *
  generalize hnm : nm6 (nI th) (nI n) (nI k) (nI T) (nI L) (nI m) = nm
  have n0 : nm 0 = nI th := by rw [← hnm]; rfl
  have n1 : nm 1 = nI n := by rw [← hnm]; rfl
  have n2 : nm 2 = nI k := by rw [← hnm]; rfl
  have n3 : nm 3 = nI T := by rw [← hnm]; rfl
  have n4 : nm 4 = nI L := by rw [← hnm]; rfl
  refine ⟨?_, ?_, ?_⟩
  · show (stp nm (-12) (stp nm (-4) (stp nm (-13) (stp nm (-2) (stp nm (-14) (stp nm (nI k0) (stp nm (-1) []))))))).getLastD 0 = _
    rw [stp_lit (by omega)]
    show nm 0 * nI k0 - nm 1 + nm 3 = _
    rw [n0, n1, n3, nI_mul, iI_n, iI_n, iI_n, iI, iI, iI, ← Int32.ofInt_sub, ← Int32.ofInt_add]
    congr 1
  · show (stp nm (-13) (stp nm (-14) (stp nm (nI k3) (stp nm (-10) (stp nm (nI k2) (stp nm (-3) (stp nm (nI k1) []))))))).getLastD 0 = _
    rw [stp_lit (k := k1) (by omega), stp_lit (k := k2) (by omega), stp_lit (k := k3) (by omega)]
    show nI k1 - b2i (nm 2 < nI k2) * nI k3 = _
    rw [n2, b2i_n (by omega) (by omega), nI_mul, iI_n, iI_n, iI, iI, ← Int32.ofInt_sub]
    by_cases g : k < k2
    · rw [if_pos g, if_pos g, Nat.one_mul]
    · rw [if_neg g, if_neg g, Nat.zero_mul]; rfl
  · show (stp nm (-12) (stp nm (-10) (stp nm (nI k5) (stp nm (-5) (stp nm (nI k4) []))))).getLastD 0 = _
    rw [stp_lit (k := k4) (by omega), stp_lit (k := k5) (by omega)]
    show nI k4 + b2i (nm 4 < nI k5) = _
    rw [n4, b2i_n (by omega) (by omega), iI_n, iI_n, iI, iI, ← Int32.ofInt_add]
    by_cases g : L < k5
    · rw [if_pos g, if_pos g]; rfl
    · rw [if_neg g, if_neg g]; rfl
