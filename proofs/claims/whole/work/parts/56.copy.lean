/-! copy, film: both sides -/
def CP (w : Mem) (z1 z2 i j lo hi : Nat) : Mem := fun a b c => if a = 19 ∧ b = z2 ∧ j + lo ≤ c ∧ c < j + hi then w 19 z1 (i + (c - j)) else w a b c
def CF (w : Mem) (A B lo hi : Nat) : Mem := fun a b c => if a = 30 ∧ b = 0 ∧ B + lo ≤ c ∧ c < B + hi then w 30 0 (A + (c - B)) else w a b c
theorem CP_0 (w : Mem) (z1 z2 i j k : Nat) : CP w z1 z2 i j k k = w := by
  funext a b c
  unfold CP
  rw [if_neg (by omega)]
theorem CF_0 (w : Mem) (A B k : Nat) : CF w A B k k = w := by
  funext a b c
  unfold CF
  rw [if_neg (by omega)]
theorem CP_up {w : Mem} {z1 z2 i j k : Nat} (h : ¬ (z1 = z2 ∧ i < j)) : up (CP w z1 z2 i j 0 k) 19 z2 (j + k) (CP w z1 z2 i j 0 k 19 z1 (i + k)) = CP w z1 z2 i j 0 (k + 1) := by
  funext a b c
  have e : CP w z1 z2 i j 0 k 19 z1 (i + k) = w 19 z1 (i + k) := by
    unfold CP
    rw [if_neg (by omega)]
  rw [e]
  by_cases h1 : a = 19 ∧ b = z2 ∧ c = j + k
  · obtain ⟨rfl, rfl, rfl⟩ := h1
    rw [up_s]
    unfold CP
    rw [if_pos (by omega)]
    congr 1; omega
  · rw [up_n h1]
    unfold CP
    by_cases h2 : a = 19 ∧ b = z2 ∧ j + 0 ≤ c ∧ c < j + k
    · rw [if_pos h2, if_pos (by omega)]
    · rw [if_neg h2, if_neg (by omega)]
theorem CP_dn {w : Mem} {z1 z2 i j k n : Nat} (h : ¬ (z1 = z2 ∧ j ≤ i)) (hk : k < n) : up (CP w z1 z2 i j (n - k) n) 19 z2 (j + (n - 1 - k)) (CP w z1 z2 i j (n - k) n 19 z1 (i + (n - 1 - k))) = CP w z1 z2 i j (n - (k + 1)) n := by
  funext a b c
  have e : CP w z1 z2 i j (n - k) n 19 z1 (i + (n - 1 - k)) = w 19 z1 (i + (n - 1 - k)) := by
    unfold CP
    rw [if_neg (by omega)]
  rw [e]
  by_cases h1 : a = 19 ∧ b = z2 ∧ c = j + (n - 1 - k)
  · obtain ⟨rfl, rfl, rfl⟩ := h1
    rw [up_s]
    unfold CP
    rw [if_pos (by omega)]
    congr 1; omega
  · rw [up_n h1]
    unfold CP
    by_cases h2 : a = 19 ∧ b = z2 ∧ j + (n - k) ≤ c ∧ c < j + n
    · rw [if_pos h2, if_pos (by omega)]
    · rw [if_neg h2, if_neg (by omega)]
theorem CF_up {w : Mem} {A B k : Nat} (h : ¬ A < B) : up (CF w A B 0 k) 30 0 (B + k) (CF w A B 0 k 30 0 (A + k)) = CF w A B 0 (k + 1) := by
  funext a b c
  have e : CF w A B 0 k 30 0 (A + k) = w 30 0 (A + k) := by
    unfold CF
    rw [if_neg (by omega)]
  rw [e]
  by_cases h1 : a = 30 ∧ b = 0 ∧ c = B + k
  · obtain ⟨rfl, rfl, rfl⟩ := h1
    rw [up_s]
    unfold CF
    rw [if_pos (by omega)]
    congr 1; omega
  · rw [up_n h1]
    unfold CF
    by_cases h2 : a = 30 ∧ b = 0 ∧ B + 0 ≤ c ∧ c < B + k
    · rw [if_pos h2, if_pos (by omega)]
    · rw [if_neg h2, if_neg (by omega)]
theorem CF_dn {w : Mem} {A B k n : Nat} (h : A < B) (hk : k < n) : up (CF w A B (n - k) n) 30 0 (B + (n - 1 - k)) (CF w A B (n - k) n 30 0 (A + (n - 1 - k))) = CF w A B (n - (k + 1)) n := by
  funext a b c
  have e : CF w A B (n - k) n 30 0 (A + (n - 1 - k)) = w 30 0 (A + (n - 1 - k)) := by
    unfold CF
    rw [if_neg (by omega)]
  rw [e]
  by_cases h1 : a = 30 ∧ b = 0 ∧ c = B + (n - 1 - k)
  · obtain ⟨rfl, rfl, rfl⟩ := h1
    rw [up_s]
    unfold CF
    rw [if_pos (by omega)]
    congr 1; omega
  · rw [up_n h1]
    unfold CF
    by_cases h2 : a = 30 ∧ b = 0 ∧ B + (n - k) ≤ c ∧ c < B + n
    · rw [if_pos h2, if_pos (by omega)]
    · rw [if_neg h2, if_neg (by omega)]
theorem copy_c {z1 z2 i j n : Nat} (hi : i + n ≤ 40) (hj : j + n ≤ 40) (kc : Mem → Option (Int32 × Mem)) (w : Mem) : h_X4_copy_109 z1 z2 (nI i) (nI j) (nI n) kc FU 0 w = kc (CP w z1 z2 i j 0 n) := by
  by_cases hij : i < j
  · have loop : ∀ (r k m : Nat), k + r = n → r < m → h_X4_copy_109 z1 z2 (nI i) (nI j) (nI n) kc m (nI k) (CP w z1 z2 i j (n - k) n) = kc (CP w z1 z2 i j 0 n) := by
      intro r
      induction r with
      | zero =>
        intro k m hk hm
        obtain ⟨m, rfl⟩ : ∃ q, m = q + 1 := ⟨m - 1, by omega⟩
        unfold h_X4_copy_109
        rw [if_neg (nI_nlt (by omega) (by omega)), show n - k = 0 by omega]
      | succ r ih =>
        intro k m hk hm
        obtain ⟨m, rfl⟩ : ∃ q, m = q + 1 := ⟨m - 1, by omega⟩
        unfold h_X4_copy_109 j_X4_copy_134
        have e1 : nI n - 1 - nI k = nI (n - 1 - k) := by rw [show (1 : Int32) = nI 1 from rfl, nI_sub (by omega), nI_sub (by omega)]
        rw [if_pos (nI_lt (by omega) (by omega)), if_pos (nI_lt hij (by omega)), e1, nI_add, nI_add, nI_1, atV_n _ z1 (show i + (n - 1 - k) < lenK 19 by show _ < 40; omega) (by decide), setV_n _ z2 _ (show j + (n - 1 - k) < lenK 19 by show _ < 40; omega) (by decide), CP_dn (by omega) (by omega)]
        exact ih (k + 1) m (by omega) (by omega)
    have := loop n 0 FU (by omega) (by show n < 1000000; omega)
    rw [Nat.sub_zero, CP_0] at this
    exact this
  · have loop : ∀ (r k m : Nat), k + r = n → r < m → h_X4_copy_109 z1 z2 (nI i) (nI j) (nI n) kc m (nI k) (CP w z1 z2 i j 0 k) = kc (CP w z1 z2 i j 0 n) := by
      intro r
      induction r with
      | zero =>
        intro k m hk hm
        obtain ⟨m, rfl⟩ : ∃ q, m = q + 1 := ⟨m - 1, by omega⟩
        unfold h_X4_copy_109
        rw [if_neg (nI_nlt (by omega) (by omega)), show k = n by omega]
      | succ r ih =>
        intro k m hk hm
        obtain ⟨m, rfl⟩ : ∃ q, m = q + 1 := ⟨m - 1, by omega⟩
        unfold h_X4_copy_109 j_X4_copy_134
        rw [if_pos (nI_lt (by omega) (by omega)), if_neg (nI_nlt (by omega) (by omega)), nI_add, nI_add, nI_1, atV_n _ z1 (show i + k < lenK 19 by show _ < 40; omega) (by decide), setV_n _ z2 _ (show j + k < lenK 19 by show _ < 40; omega) (by decide), CP_up (by omega)]
        exact ih (k + 1) m (by omega) (by omega)
    have := loop n 0 FU (by omega) (by show n < 1000000; omega)
    rw [CP_0] at this
    exact this
theorem copy_r {A B n : Nat} (hi : A + n ≤ 160) (hj : B + n ≤ 160) (kr : Mem → Option (Int32 × Mem)) (w : Mem) : h_X5_copy_147 (nI n) (nI A) (nI B) kr FU 0 w = kr (CF w A B 0 n) := by
  by_cases hij : A < B
  · have loop : ∀ (r k m : Nat), k + r = n → r < m → h_X5_copy_147 (nI n) (nI A) (nI B) kr m (nI k) (CF w A B (n - k) n) = kr (CF w A B 0 n) := by
      intro r
      induction r with
      | zero =>
        intro k m hk hm
        obtain ⟨m, rfl⟩ : ∃ q, m = q + 1 := ⟨m - 1, by omega⟩
        unfold h_X5_copy_147
        rw [if_neg (nI_nlt (by omega) (by omega)), show n - k = 0 by omega]
      | succ r ih =>
        intro k m hk hm
        obtain ⟨m, rfl⟩ : ∃ q, m = q + 1 := ⟨m - 1, by omega⟩
        unfold h_X5_copy_147 j_X5_copy_173
        have e1 : nI n - 1 - nI k = nI (n - 1 - k) := by rw [show (1 : Int32) = nI 1 from rfl, nI_sub (by omega), nI_sub (by omega)]
        rw [if_pos (nI_lt (by omega) (by omega)), if_pos (nI_lt hij (by omega)), e1, nI_add, nI_add, nI_1, if_pos (nI_in (by omega) (by omega)), if_pos (nI_in (by omega) (by omega)), show tn (nI (A + (n - 1 - k))) = A + (n - 1 - k) from nI_clamp (by omega), show tn (nI (B + (n - 1 - k))) = B + (n - 1 - k) from nI_clamp (by omega), CF_dn (by omega) (by omega)]
        exact ih (k + 1) m (by omega) (by omega)
    have := loop n 0 FU (by omega) (by show n < 1000000; omega)
    rw [Nat.sub_zero, CF_0] at this
    exact this
  · have loop : ∀ (r k m : Nat), k + r = n → r < m → h_X5_copy_147 (nI n) (nI A) (nI B) kr m (nI k) (CF w A B 0 k) = kr (CF w A B 0 n) := by
      intro r
      induction r with
      | zero =>
        intro k m hk hm
        obtain ⟨m, rfl⟩ : ∃ q, m = q + 1 := ⟨m - 1, by omega⟩
        unfold h_X5_copy_147
        rw [if_neg (nI_nlt (by omega) (by omega)), show k = n by omega]
      | succ r ih =>
        intro k m hk hm
        obtain ⟨m, rfl⟩ : ∃ q, m = q + 1 := ⟨m - 1, by omega⟩
        unfold h_X5_copy_147 j_X5_copy_173
        rw [if_pos (nI_lt (by omega) (by omega)), if_neg (nI_nlt (by omega) (by omega)), nI_add, nI_add, nI_1, if_pos (nI_in (by omega) (by omega)), if_pos (nI_in (by omega) (by omega)), show tn (nI (A + k)) = A + k from nI_clamp (by omega), show tn (nI (B + k)) = B + k from nI_clamp (by omega), CF_up (by omega)]
        exact ih (k + 1) m (by omega) (by omega)
    have := loop n 0 FU (by omega) (by show n < 1000000; omega)
    rw [CF_0] at this
    exact this
theorem sub_le {x y : Int32} {n : Nat} (hn : n ≤ 40) (hy : ¬ y < 0) (hx : ¬ x < 0) (h : y ≤ nI n - x) : ∃ a b, x = nI a ∧ y = nI b ∧ a + b ≤ n := by
  obtain ⟨a, ha, rfl⟩ := nI_of hx
  obtain ⟨b, hb, rfl⟩ := nI_of hy
  have h2 := Int32.le_iff_toInt_le.mp h
  rw [Int32.toInt_sub, nI_toInt ha, nI_toInt hb, nI_toInt (by omega), Int.bmod_eq_of_le (by omega) (by omega)] at h2
  exact ⟨a, b, rfl, rfl, by omega⟩
theorem sub_le2 {a b n : Nat} (hn : n ≤ 40) (ha : a < 2 ^ 31) (hb : b < 2 ^ 31) : nI b ≤ nI n - nI a ↔ a + b ≤ n := by
  rw [Int32.le_iff_toInt_le, Int32.toInt_sub, nI_toInt ha, nI_toInt hb, nI_toInt (by omega), Int.bmod_eq_of_le (by omega) (by omega)]
  omega
theorem b_copy (a1 a2 a3 a4 a5 : Int32) : Both (f_X4_copy a1 a2 a3 a4 a5) (f_X5_copy a1 a2 a3 a4 a5) := by
  intro wc wr hR
  obtain ⟨N, M, CC, hB, hT, hS, hP, hI⟩ := id hR
  show Out wc wr _ _
  unfold f_X4_copy f_X5_copy
  rcases row_cases a1 with ⟨h1, h2⟩ | ⟨s, hs, rfl, h1, h2, h3, h4⟩
  · rw [h1, if_pos h2, oe_n]; exact .same hR _
  · rcases row_cases a3 with ⟨u1, u2⟩ | ⟨t, ht, rfl, u1, u2, u3, u4⟩
    · rw [h1, if_neg h2, oe_s, u1, if_pos u2, oe_n]; exact .same hR _
    · obtain ⟨g1, g2, ⟨n, hn, g3⟩, g4⟩ := hS s hs
      obtain ⟨f1, f2, ⟨m, hm, f3⟩, f4⟩ := hS t ht
      rw [h1, if_neg h2, oe_s, u1, if_neg u2, oe_s]
      simp only [if_pos h3, if_pos u3, h4, u4]
      rw [g1, f1, g2, f2, g3, f3]
      by_cases c1 : wr 28 0 s = -1
      · rw [if_pos c1, if_pos c1]; exact .same hR _
      · rw [if_neg c1, if_neg c1]
        by_cases c2 : wr 28 0 t = -1
        · rw [if_pos c2, if_pos c2]; exact .same hR _
        · rw [if_neg c2, if_neg c2]
          by_cases c3 : wr 28 0 s = wr 28 0 t
          · rw [if_pos c3, if_pos c3]
            by_cases d2 : a2 < 0
            · rw [if_pos d2, if_pos d2]
              split <;> exact .same hR _
            · by_cases d4 : a4 < 0
              · rw [if_neg d2, if_neg d2, if_pos d4, if_pos d4]
                split <;> exact .same hR _
              · by_cases d5 : a5 < 0
                · rw [if_neg d2, if_neg d4, if_pos d5, if_pos d5]; exact .same hR _
                · rw [if_neg d2, if_neg d4, if_neg d5, if_neg d5, if_neg d2, if_neg d4]
                  obtain ⟨i, hi, rfl⟩ := nI_of d2
                  obtain ⟨j, hj, rfl⟩ := nI_of d4
                  obtain ⟨k, hk, rfl⟩ := nI_of d5
                  by_cases e1 : i + k ≤ n
                  · rw [if_pos ((sub_le2 hn hi hk).mpr e1), if_pos ((nI_leI hi (by omega)).mpr (show i ≤ n by omega)), if_pos ((sub_le2 hn hi hk).mpr e1)]
                    by_cases e2 : j + k ≤ m
                    · rw [if_pos ((sub_le2 hm hj hk).mpr e2), if_pos ((nI_leI hj (by omega)).mpr (show j ≤ m by omega)), if_pos ((sub_le2 hm hj hk).mpr e2)]
                      rw [copy_c (by omega) (by omega), m40, m40, copy_r (by omega) (by omega)]
                      refine ⟨_, _, _, rfl, rfl, R.of hB hT hP hI (hS.new (t := t) (n := m) ht hm ?_ ?_ ?_ (fun c hc => ?_) (fun a b c h => if_neg (by omega)) (fun s _ => if_neg (by omega)) (fun s _ => if_neg (by omega)) (fun s j hs hj => if_neg (by omega))) (fun a b c ha _ => if_neg (by omega)) (fun a b c ha => if_neg (by omega)) (if_neg (by omega)) (fun c _ => if_neg (by omega)) (fun c _ => if_neg (by omega)) (fun a c ha => if_neg (by omega)), fun a b c ha => if_neg (by omega), fun a b c ha => if_neg (by omega)⟩
                      · unfold CP CF; rw [if_neg (by omega), if_neg (by omega)]; exact f1
                      · unfold CP; rw [if_neg (by omega)]; exact f2.trans f3
                      · unfold CF; rw [if_neg (by omega)]; exact f3
                      · unfold CP CF
                        by_cases hc2 : j ≤ c ∧ c < j + k
                        · rw [if_pos (by omega), if_pos (by omega), g4 _ (by omega)]
                          congr 1; omega
                        · rw [if_neg (by omega), if_neg (by omega)]; exact f4 c hc
                    · rw [if_neg (fun z => e2 ((sub_le2 hm hj hk).mp z))]
                      split
                      · rw [if_neg (fun z => e2 ((sub_le2 hm hj hk).mp z))]; exact .same hR _
                      · exact .same hR _
                  · rw [if_neg (fun z => e1 ((sub_le2 hn hi hk).mp z))]
                    split
                    · split
                      · rw [if_neg (fun z => e1 ((sub_le2 hn hi hk).mp z))]; exact .same hR _
                      · exact .same hR _
                    · exact .same hR _
          · rw [if_neg c3, if_neg c3]; exact .same hR _
