/-! what is owed -/
def OkB (l : List Int32) : Prop := ∀ x, x ∈ l → 0 ≤ x ∧ x ≤ 127
theorem OkB.app {a b : List Int32} (h : OkB a) (h2 : OkB b) : OkB (a ++ b) := fun x hx => by
  rcases List.mem_append.mp hx with g | g
  · exact h x g
  · exact h2 x g
theorem OkB_s : ∀ i, i < 19 → ∀ x, x ∈ bytS.getD i [] → 0 ≤ x ∧ x ≤ 127 := by decide +kernel
theorem OkB_d {k : Nat} (hk : k < 64) : OkB (dig k) := by
  have e : ∀ d : Nat, d < 10 → 0 ≤ nI (48 + d) ∧ nI (48 + d) ≤ 127 := fun d hd => ⟨nI_pos' (by omega), nI_le (a := 48 + d) (b := 127) (by omega) (by omega)⟩
  intro x hx
  unfold dig at hx
  by_cases h : k < 10
  · rw [if_pos h] at hx
    rw [List.mem_singleton] at hx
    subst hx
    exact e _ (Nat.mod_lt _ (by omega))
  · rw [if_neg h] at hx
    rcases List.mem_cons.mp hx with g | g
    · subst g; exact e (k / 10) (by omega)
    · rw [List.mem_singleton] at g
      subst g
      exact e _ (Nat.mod_lt _ (by omega))
theorem TX_B {k0 k1 k2 k3 k4 k5 : Nat} (h0 : k0 < 64) (h1 : k1 < 64) (h2 : k2 < 64) (h3 : k3 < 64) (h4 : k4 < 64) (h5 : k5 < 64) : OkB (TX k0 k1 k2 k3 k4 k5) := by
  unfold TX
  exact ((((((((((((show OkB (BT 12) from OkB_s 12 (by omega)).app (OkB_d h0)).app (show OkB (BT 13) from OkB_s 13 (by omega))).app (OkB_d h1)).app (show OkB (BT 14) from OkB_s 14 (by omega))).app (OkB_d h2)).app (show OkB (BT 15) from OkB_s 15 (by omega))).app (OkB_d h3)).app (show OkB (BT 16) from OkB_s 16 (by omega))).app (OkB_d h4)).app (show OkB (BT 17) from OkB_s 17 (by omega))).app (OkB_d h5)).app (show OkB (BT 18) from OkB_s 18 (by omega))
theorem dig_l (k : Nat) : (dig k).length ≤ 2 := by
  unfold dig
  split
  · show 1 ≤ 2; omega
  · show 2 ≤ 2; omega
theorem TX_l (k0 k1 k2 k3 k4 k5 : Nat) : (TX k0 k1 k2 k3 k4 k5).length ≤ 160 := by
  have a0 := dig_l k0
  have a1 := dig_l k1
  have a2 := dig_l k2
  have a3 := dig_l k3
  have a4 := dig_l k4
  have a5 := dig_l k5
  have b2 : (BT 12).length = 11 := by decide +kernel
  have b3 : (BT 13).length = 18 := by decide +kernel
  have b4 : (BT 14).length = 7 := by decide +kernel
  have b5 : (BT 15).length = 2 := by decide +kernel
  have b6 : (BT 16).length = 7 := by decide +kernel
  have b7 : (BT 17).length = 7 := by decide +kernel
  have b8 : (BT 18).length = 2 := by decide +kernel
  unfold TX
  simp only [List.length_append]
  omega
theorem W0_b : W0 1 0 1 = 0 := by unfold W0; decide +kernel
theorem debt_text (q : Int32 → Int32) (hpl : ¬ plainQ q) : ∃ w1, f_build q M00 = some (some (4, 0), w1) ∧ ∃ w2, f_law q (clr w1 20 0) = some (1, w2) := by
  obtain ⟨a1, a2, a3, a4, a5, a6, a7, a8, a9⟩ := W0_a
  have hk := kqs q
  obtain ⟨w, h1, h2, h3⟩ := shore_w q W0 (f_b92 q) a1 a2
  have e11 : w 1 0 1 = nI 0 := by rw [h3 1 0 1 (by decide) (by omega)]; exact W0_b
  have hl := TX_l (kq0 q) (kq1 q) (kq2 q) (kq3 q) (kq4 q) (kq5 q)
  obtain ⟨wf, f1, f2, f3, f4⟩ := feed_loop (T := txq q) 40 41 (fun w4 => some w4) (TX_B (by omega) (by omega) (by omega) (by omega) (by omega) (by omega)) hl (txq q).length 0 FU w (by omega) (by show (TX _ _ _ _ _ _).length < 1000000; omega) e11 (fun i hi => by omega)
  have et : txq q = TR (kq0 q) (kq1 q) (kq2 q) (kq3 q) (kq4 q) (kq5 q) := TX_TR ..
  rw [et] at f2 f3
  have hl2 : (TR (kq0 q) (kq1 q) (kq2 q) (kq3 q) (kq4 q) (kq5 q)).length ≤ 160 := by rw [← et]; exact hl
  have e30 : wf 3 0 0 = 1 := by rw [f4 3 0 0 (by decide) (by decide) (by decide) (by decide), h3 3 0 0 (by decide) (by omega)]; exact a9
  obtain ⟨wt, t1, t2, t3, t4⟩ := text_c (k0 := kq0 q) (k1 := kq1 q) (k2 := kq2 q) (k3 := kq3 q) (k4 := kq4 q) (k5 := kq5 q) (by omega) (by omega) (by omega) (by omega) (by omega) (by omega) f2 hl2 f3 e30
  have same : ∀ a b c, a = 0 ∨ 13 ≤ a → wt a b c = w a b c := fun a b c h => (t4 a b c h).trans (f4 a b c (by omega) (by omega) (by omega) (by omega))
  have hC : CoL 0 (Nq q) (κq q) (μq q) 1 (stq q) (up wt 0 0 5 1) := by
    obtain ⟨g1, g2, g3, g4, g5⟩ := h2
    refine ⟨by rw [up_j (by decide), same 0 0 2 (by omega)]; exact g1, by rw [up_j (by decide), same 0 0 3 (by omega)]; exact g2, by rw [up_j (by decide), same 0 0 4 (by omega)]; exact g3, up_s .., fun p hp => ?_⟩
    rw [up_k (by decide), up_k (by decide), up_k (by decide), up_k (by decide), up_k (by decide), same 13 0 p (by omega), same 14 0 p (by omega), same 15 0 p (by omega), same 16 0 p (by omega), same 17 0 p (by omega)]
    exact g5 p hp
  have hT : TXq q 1 (CT (kq0 q) (kq1 q) (kq2 q) (kq3 q) (kq4 q) (kq5 q)) (up wt 0 0 5 1) := ⟨by omega, t3.of (fun c => up_k (by decide)) (fun c => up_k (by decide)), Says_tx hpl⟩
  refine debt_of hC hT (h1.trans ?_)
  have hf : f_X4_force 1 wt = some (wt 0 0 5, up wt 0 0 5 1) := by
    unfold f_X4_force
    rw [if_neg (by decide), t2, if_pos (by decide)]
  have htx : f_L_text 40 41 (txq q).length (fun j => (txq q).getD j 0) w = some wf := f1
  unfold f_b92
  rw [plain_eq, if_neg hpl, Option.bind_some]
  refine (if_pos (show (0 : Int32) = 0 from rfl)).trans ?_
  unfold f_bT
  dsimp only
  rw [htx, Option.bind_some, t1, Option.bind_some]
  dsimp only
  rw [hf, Option.bind_some]
theorem debt : Debt := by
  intro q _
  by_cases h : plainQ q
  · exact debt_plain q h
  · exact debt_text q h
