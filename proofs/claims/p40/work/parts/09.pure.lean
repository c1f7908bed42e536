/-! small methods in closed form -/
def b2i (p : Prop) [Decidable p] : Int32 := if p then 1 else 0
theorem b2i_t {p : Prop} [Decidable p] (h : p) : b2i p = 1 := if_pos h
theorem b2i_f {p : Prop} [Decidable p] (h : ¬ p) : b2i p = 0 := if_neg h
theorem b2i_0 {p : Prop} [Decidable p] : b2i p = 0 ↔ ¬ p := by
  by_cases h : p
  · rw [b2i_t h]; exact ⟨fun z => absurd z (by decide), fun z => absurd h z⟩
  · rw [b2i_f h]; exact ⟨fun _ => h, fun _ => rfl⟩
theorem b2i_01 {p : Prop} [Decidable p] : b2i p = 0 ∨ b2i p = 1 := by
  by_cases h : p
  · exact Or.inr (b2i_t h)
  · exact Or.inl (b2i_f h)
def atV0 (w : Mem) (k i : Nat) (x : Int32) : Int32 := if x < 0 then 0 else if x < Int32.ofNat (lenK k) then w k i (tn x) else 0
def setV0 (w : Mem) (k i : Nat) (x v : Int32) : Mem := if x < 0 then w else if x < Int32.ofNat (lenK k) then up w k i (tn x) v else w
theorem lenK_sm : ∀ k, k < 37 → lenK k < 2000 := by decide +kernel
theorem inB_of {x : Int32} {k : Nat} (hA : isA k = true) (h0 : ¬ x < 0) (h1 : x < Int32.ofNat (lenK k)) : inB x (lenK k) := by
  have h2 := lenK_sm k (isA_spec hA).2.1
  have h3 : (Int32.ofNat (lenK k)).toInt = (lenK k : Int) := nI_toInt (by omega)
  have h4 := Int32.lt_iff_toInt_lt.mp h1
  rw [h3] at h4
  rintro (h | h)
  · exact h0 h
  · have h5 : lenK k ≤ x.toInt.toNat := h
    have h6 : ¬ x.toInt < 0 := fun z => h0 (Int32.lt_iff_toInt_lt.mpr z)
    omega
abbrev mi_X4_at : MI := (RX4, cX4_at, 2, (some .int), ftp_X4.map (fun q => q.1), ctp_X4.map (fun q => q.1), clp_X4.map (fun q => q.1))
abbrev mi_X4_set : MI := (RX4, cX4_set, 3, none, ftp_X4.map (fun q => q.1), ctp_X4.map (fun q => q.1), clp_X4.map (fun q => q.1))
abbrev mi_X4_swap : MI := (RX4, cX4_swap, 4, (some .int), ftp_X4.map (fun q => q.1), ctp_X4.map (fun q => q.1), clp_X4.map (fun q => q.1))
theorem g_X4_at (l : Launch) (X : XC) {n : Nat} {fl : Fl} (hG : flG n fl) (k i : Nat) (a1 : Int32) (hA : isA k = true) (ho : okR n (k, i) = true) (w : Mem) : Ct l X 0 yX4_at cX4_at 2 (some .int) emI [.inr (.inr (some (k, i))), .inl a1] n fl w (some (atV0 w k i a1, w)) := by
  have hl : 6 ≤ k ∧ k < 37 ∧ ¬ k = 20 := ⟨(isA_spec hA).1, (isA_spec hA).2.1, isA_20 hA⟩
  have e1 : some (atV0 w k i a1, w) = if a1 < 0 then some ((0 : Int32), w) else if a1 < Int32.ofNat (lenK k) then (if inB a1 (lenK k) then some (w k i (tn a1), w) else none) else some (0, w) := by
    unfold atV0
    by_cases h1 : a1 < 0
    · rw [if_pos h1, if_pos h1]
    · rw [if_neg h1, if_neg h1]
      by_cases h2 : a1 < Int32.ofNat (lenK k)
      · rw [if_pos h2, if_pos h2, if_pos (inB_of hA h1 h2)]
      · rw [if_neg h2, if_neg h2]
  rw [e1]
  refine Ct_of (mi := mi_X4_at) (mik_X4 _ _ _) me_X4_at rfl (okAs_cons ho (okAs_cons rfl okAs_nil)) (Nat.le_of_ble_eq_true rfl) ?_
  refine GE_run hG (pc1 := 1) (L1 := [some (.inr (.inr (some (k, i)))), some (.inl a1)]) (S1 := [.inr (.inr (some (k, i)))]) (w1 := w) (P := True) [(.aload_n 0, 0, 0, 0, 0)] (by decide +kernel) rfl trivial ?_
  refine GE_null1 (off := 13) (by decide +kernel) ?_
  refine GE_run hG (pc1 := 5) (L1 := [some (.inr (.inr (some (k, i)))), some (.inl a1)]) (S1 := [.inl a1]) (w1 := w) (P := True) [(.iload_n 1, 0, 0, 0, 0)] (by decide +kernel) rfl trivial ?_
  refine GE_if (k := .lt) (off := 9) (tgt := 14) (by decide +kernel) (by decide) (cnd_lt _ _) (fun c => ?_) (fun c => ?_)
  · refine GE_run hG (pc1 := 15) (L1 := [some (.inr (.inr (some (k, i)))), some (.inl a1)]) (S1 := [.inl 0]) (w1 := w) (P := True) [(.iconst 0, 0, 0, 0, 0)] (by decide +kernel) rfl trivial ?_
    exact GE_iret rfl (by decide +kernel)
  · refine GE_run hG (pc1 := 11) (L1 := [some (.inr (.inr (some (k, i)))), some (.inl a1)]) (S1 := [.inl (Int32.ofNat (lenK k)), .inl a1]) (w1 := w) (P := True) [(.iload_n 1, 0, 0, 0, 0), (.aload_n 0, 0, 0, 0, 0), (.arraylength, 0, 0, 0, 0)] (by decide +kernel) (by simp [exs, ex1, xLdI, xLdA, xAlen, hl, addC]) trivial ?_
    refine GE_icmp (k := .lt) (off := 5) (tgt := 16) (by decide +kernel) (by decide) (cnd_lt _ _) (fun c => ?_) (fun c => ?_)
    · refine GE_chk (fun h => ?_)
      refine GE_run hG (pc1 := 19) (L1 := [some (.inr (.inr (some (k, i)))), some (.inl a1)]) (S1 := [.inl (w k i (tn a1))]) (w1 := w) (P := inB a1 (lenK k) ∧ True) [(.aload_n 0, 0, 0, 0, 0), (.iload_n 1, 0, 0, 0, 0), (.iaload, 0, 0, 0, 0)] (by decide +kernel) (by simp [exs, ex1, xLdI, xLdA, xIald, hA, addC]) ⟨h, trivial⟩ ?_
      exact GE_iret rfl (by decide +kernel)
    · refine GE_run hG (pc1 := 15) (L1 := [some (.inr (.inr (some (k, i)))), some (.inl a1)]) (S1 := [.inl 0]) (w1 := w) (P := True) [(.iconst 0, 0, 0, 0, 0)] (by decide +kernel) rfl trivial ?_
      exact GE_iret rfl (by decide +kernel)
theorem g_X4_set (l : Launch) (X : XC) {n : Nat} {fl : Fl} (hG : flG n fl) (k i : Nat) (a1 a2 : Int32) (hA : isA k = true) (ho : okR n (k, i) = true) (w : Mem) : Ct l X 0 yX4_set cX4_set 3 none emV [.inr (.inr (some (k, i))), .inl a1, .inl a2] n fl w (some (setV0 w k i a1 a2)) := by
  have hl : 6 ≤ k ∧ k < 37 ∧ ¬ k = 20 := ⟨(isA_spec hA).1, (isA_spec hA).2.1, isA_20 hA⟩
  have e1 : some (setV0 w k i a1 a2) = if a1 < 0 then some w else if a1 < Int32.ofNat (lenK k) then (if inB a1 (lenK k) then some (up w k i (tn a1) a2) else none) else some w := by
    unfold setV0
    by_cases h1 : a1 < 0
    · rw [if_pos h1, if_pos h1]
    · rw [if_neg h1, if_neg h1]
      by_cases h2 : a1 < Int32.ofNat (lenK k)
      · rw [if_pos h2, if_pos h2, if_pos (inB_of hA h1 h2)]
      · rw [if_neg h2, if_neg h2]
  rw [e1]
  refine Ct_of (mi := mi_X4_set) (mik_X4 _ _ _) me_X4_set rfl (okAs_cons ho (okAs_cons rfl (okAs_cons rfl okAs_nil))) (Nat.le_of_ble_eq_true rfl) ?_
  refine GE_run hG (pc1 := 1) (L1 := [some (.inr (.inr (some (k, i)))), some (.inl a1), some (.inl a2)]) (S1 := [.inr (.inr (some (k, i)))]) (w1 := w) (P := True) [(.aload_n 0, 0, 0, 0, 0)] (by decide +kernel) rfl trivial ?_
  refine GE_null1 (off := 17) (by decide +kernel) ?_
  refine GE_run hG (pc1 := 5) (L1 := [some (.inr (.inr (some (k, i)))), some (.inl a1), some (.inl a2)]) (S1 := [.inl a1]) (w1 := w) (P := True) [(.iload_n 1, 0, 0, 0, 0)] (by decide +kernel) rfl trivial ?_
  refine GE_if (k := .lt) (off := 13) (tgt := 18) (by decide +kernel) (by decide) (cnd_lt _ _) (fun c => ?_) (fun c => ?_)
  · exact GE_vret rfl (by decide +kernel)
  · refine GE_run hG (pc1 := 11) (L1 := [some (.inr (.inr (some (k, i)))), some (.inl a1), some (.inl a2)]) (S1 := [.inl (Int32.ofNat (lenK k)), .inl a1]) (w1 := w) (P := True) [(.iload_n 1, 0, 0, 0, 0), (.aload_n 0, 0, 0, 0, 0), (.arraylength, 0, 0, 0, 0)] (by decide +kernel) (by simp [exs, ex1, xLdI, xLdA, xAlen, hl, addC]) trivial ?_
    refine GE_icmpN (k := .ge) (off := 7) (tgt := 18) (by decide +kernel) (by decide) (cnd_ge _ _) (fun c => ?_) (fun c => ?_)
    · exact GE_vret rfl (by decide +kernel)
    · refine GE_chk (fun h => ?_)
      refine GE_run hG (pc1 := 18) (L1 := [some (.inr (.inr (some (k, i)))), some (.inl a1), some (.inl a2)]) (S1 := []) (w1 := up w k i (tn a1) a2) (P := inB a1 (lenK k) ∧ True) [(.aload_n 0, 0, 0, 0, 0), (.iload_n 1, 0, 0, 0, 0), (.iload_n 2, 0, 0, 0, 0), (.iastore, 0, 0, 0, 0)] (by decide +kernel) (by simp [exs, ex1, xLdI, xLdA, xIast, hA, addC]) ⟨h, trivial⟩ ?_
      exact GE_vret rfl (by decide +kernel)
/-! sealed: nobody looks into them but by these equations -/
theorem atV_ex : ∃ f : Mem → Nat → Nat → Int32 → Int32, f = atV0 := ⟨_, rfl⟩
noncomputable def atV : Mem → Nat → Nat → Int32 → Int32 := atV_ex.choose
theorem atV_eq : atV = atV0 := atV_ex.choose_spec
theorem setV_ex : ∃ f : Mem → Nat → Nat → Int32 → Int32 → Mem, f = setV0 := ⟨_, rfl⟩
noncomputable def setV : Mem → Nat → Nat → Int32 → Int32 → Mem := setV_ex.choose
theorem setV_eq : setV = setV0 := setV_ex.choose_spec
theorem p_X4_at (l : Launch) (X : XC) {N9 : Nat} (hN : 39 ≤ N9) (k i : Nat) (a1 : Int32) (hA : isA k = true) (ho : okR N9 (k, i) = true) (w : Mem) : Ct l X 0 yX4_at cX4_at 2 (some .int) emI [.inr (.inr (some (k, i))), .inl a1] N9 flT w (some (atV w k i a1, w)) := by
  rw [atV_eq]; exact g_X4_at l X (flG_T hN) k i a1 hA ho w
theorem p_X4_set (l : Launch) (X : XC) {N9 : Nat} (hN : 39 ≤ N9) (k i : Nat) (a1 a2 : Int32) (hA : isA k = true) (ho : okR N9 (k, i) = true) (w : Mem) : Ct l X 0 yX4_set cX4_set 3 none emV [.inr (.inr (some (k, i))), .inl a1, .inl a2] N9 flT w (some (setV w k i a1 a2)) := by
  rw [setV_eq]; exact g_X4_set l X (flG_T hN) k i a1 a2 hA ho w
