def RowR (w : Mem) (p : Nat) (cs : List Int32) : Prop := ∀ j, j < cs.length → w 24 0 (p + j) = cmap (cs.getD j 0)
theorem RowR.tl {w : Mem} {p : Nat} {c : Int32} {cs : List Int32} (h : RowR w p (c :: cs)) : w 24 0 p = cmap c ∧ RowR w (p + 1) cs :=
  ⟨h 0 (by simp), fun j hj => by have := h (j + 1) (by simp; omega); rw [show p + 1 + j = p + (j + 1) by omega, this]; rfl⟩
theorem add_m1 (n : Nat) : nI (n + 1) + -1 = nI n := by rw [← Int32.sub_eq_add_neg]; exact nI_pred n
theorem val_r (t part : Nat) (ht : t < 6) (hpart : part < 3) (kf : Mem → Option (Int32 × Mem)) (nm : Nat → Int32) (e : Nat) (he : e ≤ 200) : ∀ (cs : List Int32) (q fuel : Nat) (st : List Int32) (w : Mem), okC cs st.length → st.length ≤ 40 → q + cs.length = e → cs.length < fuel → RowR w (200 * t + q) cs → Rep w 34 st → (∀ j, j < 6 → w 35 0 j = nm j) → w 5 0 11 = nI t → w 25 0 (4 * t + part + 1) = nI e →
    ∃ w', h_X5_says_16 (nI part) kf fuel (nI st.length) (nI q) w = kf w' ∧ OnlyK 34 w w' ∧ Rep w' 34 (evl nm cs st) ∧ 1 ≤ (evl nm cs st).length := by
  intro cs
  induction cs with
  | nil =>
    intro q fuel st w hok h40 hq hf hR hS hn hr hE
    obtain ⟨fuel, rfl⟩ : ∃ m, fuel = m + 1 := ⟨fuel - 1, by omega⟩
    have hq0 : q + 0 = e := hq
    refine ⟨w, ?_, .rf, hS, hok⟩
    unfold h_X5_says_16
    rw [hr, show (4 : Int32) = nI 4 from rfl, nI_mul, nI_add, nI_1, if_pos (nI_in (by omega) (by omega)), show tn (nI (4 * t + part + 1)) = 4 * t + part + 1 from nI_clamp (by omega), hE, if_neg (nI_nlt (by omega) (by omega))]
  | cons c cs ih =>
    intro q fuel st w hok h40 hq hf hR hS hn hr hE
    obtain ⟨fuel, rfl⟩ : ∃ m, fuel = m + 1 := ⟨fuel - 1, by omega⟩
    have hlen : (c :: cs).length = cs.length + 1 := rfl
    rw [hlen] at hq hf
    obtain ⟨hc, hR2⟩ := hR.tl
    have step : ∀ (st2 : List Int32) (w2 : Mem), okC cs st2.length → st2.length ≤ 40 → OnlyK 34 w w2 → Rep w2 34 st2 → stp nm c st = st2 → ∃ w', h_X5_says_16 (nI part) kf fuel (nI st2.length) (nI q + 1) w2 = kf w' ∧ OnlyK 34 w w' ∧ Rep w' 34 (evl nm (c :: cs) st) ∧ 1 ≤ (evl nm (c :: cs) st).length := by
      intro st2 w2 g1 g2 g3 g4 g5
      obtain ⟨w', h1, h2, h3, h4⟩ := ih (q + 1) fuel st2 w2 g1 g2 (by omega) (by omega) (fun j hj => by rw [g3 24 0 _ (by decide)]; exact hR2 j hj) g4 (fun j hj => by rw [g3 35 0 j (by decide)]; exact hn j hj) (by rw [g3 5 0 11 (by decide)]; exact hr) (by rw [g3 25 0 _ (by decide)]; exact hE)
      refine ⟨w', by rw [nI_1]; exact h1, fun a b c2 hk => (h2 a b c2 hk).trans (g3 a b c2 hk), ?_, ?_⟩
      · show Rep w' 34 (evl nm cs (stp nm c st)); rw [g5]; exact h3
      · show 1 ≤ (evl nm cs (stp nm c st)).length; rw [g5]; exact h4
    have e1 : 4 * w 5 0 11 + nI part + 1 = nI (4 * t + part + 1) := by rw [hr, show (4 : Int32) = nI 4 from rfl, nI_mul, nI_add, nI_1]
    have e2 : 200 * w 5 0 11 + nI q = nI (200 * t + q) := by rw [hr, show (200 : Int32) = nI 200 from rfl, nI_mul, nI_add]
    unfold h_X5_says_16
    rw [e1, e2, if_pos (nI_in (by omega) (by omega)), show tn (nI (4 * t + part + 1)) = 4 * t + part + 1 from nI_clamp (by omega), hE, if_pos (nI_lt (by omega) (by omega)), if_pos (nI_in (by omega) (by omega)), show tn (nI (200 * t + q)) = 200 * t + q from nI_clamp (by omega), hc]
    have hlo := okC_lo hok
    unfold okC at hok
    by_cases h6 : c < -6
    · rw [if_pos h6] at hok
      obtain ⟨ce, c1, c2, c3, c4⟩ := cm_op h6 (hlo h6)
      rw [if_pos c1, if_neg c2]
      by_cases h9 : c = -9
      · rw [if_pos (Or.inl h9)] at hok
        rw [if_pos (c3.mpr h9)]
        match st, hok, h40, hS, step with
        | a :: r, hok, h40, hS, step =>
          have hl : (a :: r).length = r.length + 1 := rfl
          rw [hl] at h40
          have e3 : nI (a :: r).length - 1 = nI r.length := nI_pred r.length
          have hin : inB (nI r.length) 200 := nI_in (by omega) (by omega)
          have es : stp nm c (a :: r) = b2i (a = 0) :: r := by unfold stp; rw [if_pos h6, if_pos h9]
          rw [e3, if_pos hin, show tn (nI r.length) = r.length from nI_clamp (by omega), hS.1, if_pos hin, if_pos hin]
          by_cases ha : a = 0
          · rw [if_pos ha]
            exact step (1 :: r) (up w 34 0 r.length 1) hok.2 h40 (.up .rf) (Rep_push hS.2) (by rw [es, b2i_t ha])
          · rw [if_neg ha]
            exact step (0 :: r) (up w 34 0 r.length 0) hok.2 h40 (.up .rf) (Rep_push hS.2) (by rw [es, b2i_f ha])
      · rw [if_neg (fun z => h9 (c3.mp z))]
        by_cases h15 : c = -15
        · rw [if_pos (Or.inr h15)] at hok
          rw [if_pos (c4.mpr h15)]
          match st, hok, h40, hS, step with
          | a :: r, hok, h40, hS, step =>
            have hl : (a :: r).length = r.length + 1 := rfl
            rw [hl] at h40
            have e3 : nI (a :: r).length - 1 = nI r.length := nI_pred r.length
            have hin : inB (nI r.length) 200 := nI_in (by omega) (by omega)
            have es : stp nm c (a :: r) = (-a) :: r := by unfold stp; rw [if_pos h6, if_neg h9, if_pos h15]
            rw [e3, if_pos hin, if_pos hin, show tn (nI r.length) = r.length from nI_clamp (by omega), hS.1]
            exact step ((-a) :: r) (up w 34 0 r.length (-a)) hok.2 h40 (.up .rf) (Rep_push hS.2) es
        · rw [if_neg (fun z => z.elim h9 h15)] at hok
          rw [if_neg (fun z => h15 (c4.mp z))]
          match st, hok, h40, hS, step with
          | b :: a :: r, hok, h40, hS, step =>
            have hl : (b :: a :: r).length = r.length + 1 + 1 := rfl
            rw [hl] at h40
            have e3 : nI (b :: a :: r).length + -1 = nI (r.length + 1) := add_m1 (r.length + 1)
            have e4 : nI (r.length + 1) - 1 = nI r.length := nI_pred r.length
            have es : stp nm c (b :: a :: r) = opC c a b :: r := by unfold stp; rw [if_pos h6, if_neg h9, if_neg h15]
            have hin : inB (nI r.length) 200 := nI_in (by omega) (by omega)
            have hin1 : inB (nI (r.length + 1)) 200 := nI_in (by omega) (by omega)
            rw [e3, e4, if_pos hin, if_pos hin1, show tn (nI r.length) = r.length from nI_clamp (by omega), show tn (nI (r.length + 1)) = r.length + 1 from nI_clamp (by omega), show w 34 0 (r.length + 1) = b from hS.1, show w 34 0 r.length = a from hS.2.1, ce, two_eq a b w hok.1 h6 h9]
            show ∃ w', (if inB (nI r.length) 200 then h_X5_says_16 (nI part) kf fuel (nI (r.length + 1)) (nI q + 1) (up w 34 0 r.length (opC c a b)) else none) = kf w' ∧ _
            rw [if_pos hin]
            exact step (opC c a b :: r) (up w 34 0 r.length (opC c a b)) hok.2.2 (by show r.length + 1 ≤ 40; omega) (.up .rf) (Rep_push hS.2.2) es
    · rw [if_neg h6] at hok
      have hr1 : st.length < 40 := hok.2.1
      have hin : inB (nI st.length) 200 := nI_in (by omega) (by omega)
      by_cases h0 : c < 0
      · obtain ⟨j, hj, ec, en, c1, c2⟩ := cm_nm h6 h0
        rw [if_pos c1, if_pos c2]
        unfold j_X5_says_66
        rw [if_pos c2, ec, if_pos (nI_in hj (by omega)), show tn (nI j) = j from nI_clamp (by omega), hn j hj]
        unfold j_X5_says_93
        rw [if_pos hin, show tn (nI st.length) = st.length from nI_clamp (by omega), nI_1]
        exact step (nm j :: st) (up w 34 0 st.length (nm j)) hok.2.2 hok.2.1 (.up .rf) (Rep_push hS) (by unfold stp; rw [if_neg h6, if_pos h0, en]; show nm (nI j).toNatClampNeg :: st = _; rw [nI_clamp (by omega)])
      · obtain ⟨c1, c2, c3⟩ := cm_no h0 hok.1
        rw [if_neg c1]
        unfold j_X5_says_66
        rw [if_neg c2, c3]
        unfold j_X5_says_93
        rw [if_pos hin, show tn (nI st.length) = st.length from nI_clamp (by omega), nI_1]
        exact step (c :: st) (up w 34 0 st.length c) hok.2.2 hok.2.1 (.up .rf) (Rep_push hS) (by unfold stp; rw [if_neg h6, if_neg h0])
