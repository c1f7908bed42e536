/-! the next token: both sides -/
theorem tokW_rel (L : List Int32) : (tokW L = 3 ∧ L = bytS.getD 0 []) ∨ (tokW L = 4 ∧ L = bytS.getD 1 []) ∨ (tokW L = 5 ∧ L = bytS.getD 2 []) ∨ (tokW L = 6 ∧ L = bytS.getD 3 []) ∨ (tokW L = 7 ∧ L = bytS.getD 4 []) ∨ (tokW L = 8 ∧ L = bytS.getD 5 []) ∨ (tokW L = -1 ∧ L = bytS.getD 6 []) ∨ (tokW L = -2 ∧ L = bytS.getD 7 []) ∨ (tokW L = -3 ∧ L = bytS.getD 8 []) ∨ (tokW L = -4 ∧ L = bytS.getD 9 []) ∨ (tokW L = -5 ∧ L = bytS.getD 10 []) ∨ (tokW L = -6 ∧ L = bytS.getD 11 []) ∨ (tokW L = 1 ∧ ∀ i, i < 12 → L ≠ bytS.getD i []) := by
  by_cases h0 : L = bytS.getD 0 []
  · exact Or.inl ⟨if_pos h0, h0⟩
  refine Or.inr ?_
  by_cases h1 : L = bytS.getD 1 []
  · exact Or.inl ⟨by unfold tokW; rw [if_neg h0, if_pos h1], h1⟩
  refine Or.inr ?_
  by_cases h2 : L = bytS.getD 2 []
  · exact Or.inl ⟨by unfold tokW; rw [if_neg h0, if_neg h1, if_pos h2], h2⟩
  refine Or.inr ?_
  by_cases h3 : L = bytS.getD 3 []
  · exact Or.inl ⟨by unfold tokW; rw [if_neg h0, if_neg h1, if_neg h2, if_pos h3], h3⟩
  refine Or.inr ?_
  by_cases h4 : L = bytS.getD 4 []
  · exact Or.inl ⟨by unfold tokW; rw [if_neg h0, if_neg h1, if_neg h2, if_neg h3, if_pos h4], h4⟩
  refine Or.inr ?_
  by_cases h5 : L = bytS.getD 5 []
  · exact Or.inl ⟨by unfold tokW; rw [if_neg h0, if_neg h1, if_neg h2, if_neg h3, if_neg h4, if_pos h5], h5⟩
  refine Or.inr ?_
  by_cases h6 : L = bytS.getD 6 []
  · exact Or.inl ⟨by unfold tokW; rw [if_neg h0, if_neg h1, if_neg h2, if_neg h3, if_neg h4, if_neg h5, if_pos h6], h6⟩
  refine Or.inr ?_
  by_cases h7 : L = bytS.getD 7 []
  · exact Or.inl ⟨by unfold tokW; rw [if_neg h0, if_neg h1, if_neg h2, if_neg h3, if_neg h4, if_neg h5, if_neg h6, if_pos h7], h7⟩
  refine Or.inr ?_
  by_cases h8 : L = bytS.getD 8 []
  · exact Or.inl ⟨by unfold tokW; rw [if_neg h0, if_neg h1, if_neg h2, if_neg h3, if_neg h4, if_neg h5, if_neg h6, if_neg h7, if_pos h8], h8⟩
  refine Or.inr ?_
  by_cases h9 : L = bytS.getD 9 []
  · exact Or.inl ⟨by unfold tokW; rw [if_neg h0, if_neg h1, if_neg h2, if_neg h3, if_neg h4, if_neg h5, if_neg h6, if_neg h7, if_neg h8, if_pos h9], h9⟩
  refine Or.inr ?_
  by_cases h10 : L = bytS.getD 10 []
  · exact Or.inl ⟨by unfold tokW; rw [if_neg h0, if_neg h1, if_neg h2, if_neg h3, if_neg h4, if_neg h5, if_neg h6, if_neg h7, if_neg h8, if_neg h9, if_pos h10], h10⟩
  refine Or.inr ?_
  by_cases h11 : L = bytS.getD 11 []
  · exact Or.inl ⟨by unfold tokW; rw [if_neg h0, if_neg h1, if_neg h2, if_neg h3, if_neg h4, if_neg h5, if_neg h6, if_neg h7, if_neg h8, if_neg h9, if_neg h10, if_pos h11], h11⟩
  refine Or.inr ⟨by unfold tokW; rw [if_neg h0, if_neg h1, if_neg h2, if_neg h3, if_neg h4, if_neg h5, if_neg h6, if_neg h7, if_neg h8, if_neg h9, if_neg h10, if_neg h11], fun i hi => ?_⟩
  match i, hi with
  | 0, _ => exact h0
  | 1, _ => exact h1
  | 2, _ => exact h2
  | 3, _ => exact h3
  | 4, _ => exact h4
  | 5, _ => exact h5
  | 6, _ => exact h6
  | 7, _ => exact h7
  | 8, _ => exact h8
  | 9, _ => exact h9
  | 10, _ => exact h10
  | 11, _ => exact h11
theorem tokW_n2 (L : List Int32) : tokW L ≠ 2 := by
  rcases tokW_rel L with ⟨h, -⟩ | ⟨h, -⟩ | ⟨h, -⟩ | ⟨h, -⟩ | ⟨h, -⟩ | ⟨h, -⟩ | ⟨h, -⟩ | ⟨h, -⟩ | ⟨h, -⟩ | ⟨h, -⟩ | ⟨h, -⟩ | ⟨h, -⟩ | ⟨h, -⟩ <;> rw [h] <;> decide
theorem sg_n2 {x : Int32} (h : isSg x = true) : x ≠ 2 ∧ ¬ x < 0 ∧ x ≠ 0 ∧ x ≠ 1 ∧ x ≠ 3 ∧ x ≠ 4 ∧ x ≠ 5 ∧ x ≠ 6 ∧ x ≠ 7 ∧ x ≠ 8 := by
  have := of_decide_eq_true h
  rcases this with rfl | rfl | rfl | rfl | rfl | rfl | rfl | rfl <;> decide
def Byt (T : Nat → Int32) (n : Nat) : Prop := ∀ i, i < n → ∃ b, b < 256 ∧ T i = nI b
theorem next_c {T : Nat → Int32} {n a : Nat} {w : Mem} (h : TpC T n w) (hb : Byt T n) (ha : a ≤ n) (h7 : w 1 0 7 = nI a) : ∃ w', f_X1_next w = some w' ∧ w' 1 0 5 = TK T n a ∧ w' 1 0 6 = nI (skp T n a) ∧ w' 1 0 7 = nI (BH T n a) ∧ (TK T n a = 2 → w' 1 0 8 = NM T n a) ∧ ∀ x y z, ¬ (x = 1 ∧ y = 0 ∧ (z = 5 ∨ z = 6 ∨ z = 7 ∨ z = 8)) → w' x y z = w x y z := by
  have hn := h.1
  have e := blank_c h (fun x1_4 w5 => j_X1_next_45 x1_4 w5) (n - a) a FU (by omega) (by show n - a < 1000000; omega)
  have hp : skp T n a ≤ n := runP_le _ _ ha
  unfold f_X1_next
  rw [h7, e]
  unfold TK NM BH
  generalize skp T n a = p at hp
  unfold j_X1_next_45
  have hT : TpC T n (up w 1 0 6 (nI p)) := h.of (up_j (by decide)) (fun _ => up_k (by decide))
  rw [hT.2.1]
  by_cases hpn : p < n
  · rw [if_pos (nI_lt hpn (by omega)), if_pos hpn, if_pos hpn, isL_c hT hpn, ob]
    dsimp only
    by_cases hl : isLt (T p) = true
    · have hwe : wend T n p ≤ n := runP_le _ _ (by omega)
      have hwg : p ≤ wend T n p := runP_ge _ _
      have ew := word_c hT (fun x2_4 w5 => some (x2_4, w5)) (n - p) p FU (by omega) (by show n - p < 1000000; omega)
      rw [if_pos hl, if_neg (show ¬ (1 : Int32) = 0 by decide), if_pos hl, if_pos hl]
      unfold f_X1_endOfWord
      rw [ew, ob]
      have hT2 : TpC T n (up (up w 1 0 6 (nI p)) 1 0 7 (nI (wend T n p))) := hT.of (up_j (by decide)) (fun _ => up_k (by decide))
      rw [wordOf_c hT2 hwg hwe (by rw [up_j (by decide), up_s]) (up_s _ _ _ _ _), ob]
      dsimp only
      refine ⟨_, rfl, up_s _ _ _ _ _, by rw [up_j (by decide), up_j (by decide), up_s], by rw [up_j (by decide), up_s], fun z => absurd z (tokW_n2 _), fun x y z hx => ?_⟩
      rw [up_n (fun q => hx ⟨q.1, q.2.1, by omega⟩), up_n (fun q => hx ⟨q.1, q.2.1, by omega⟩), up_n (fun q => hx ⟨q.1, q.2.1, by omega⟩)]
    · rw [if_neg hl, if_pos rfl, if_neg hl, if_neg hl, isD_c hT hpn, ob]
      dsimp only
      by_cases hd : isDg (T p) = true
      · have hde : dend T n p ≤ n := runP_le _ _ (by omega)
        have hdg : p ≤ dend T n p := runP_ge _ _
        rw [if_pos hd, if_neg (show ¬ (1 : Int32) = 0 by decide), if_pos hd, if_pos hd]
        unfold f_X1_endOfNumber
        have hT3 : TpC T n (up (up w 1 0 6 (nI p)) 1 0 8 0) := hT.of (up_j (by decide)) (fun _ => up_k (by decide))
        obtain ⟨w', b1, b2, b3⟩ := num_c (p := p) (fun x2_5 w6 => some (x2_5, w6)) (n - p) 0 FU _ hT3 (by omega) (by show n - p < 1000000; omega) (up_s _ _ _ _ _) (fun x hx => by omega)
        rw [Nat.add_zero] at b1 b2
        rw [b1, ob]
        dsimp only
        rw [up_s, nI_sub hdg]
        have key : ∀ v : Int32, (v = 2 ↔ dend T n p - p ≤ 4) → ∀ x y z, ¬ (x = 1 ∧ y = 0 ∧ (z = 5 ∨ z = 6 ∨ z = 7 ∨ z = 8)) → up (up w' 1 0 7 (nI (dend T n p))) 1 0 5 v x y z = w x y z := by
          intro v _ x y z hx
          rw [up_n (fun q => hx ⟨q.1, q.2.1, by omega⟩), up_n (fun q => hx ⟨q.1, q.2.1, by omega⟩), b3 x y z (fun q => hx ⟨q.1, q.2.1, by omega⟩), up_n (fun q => hx ⟨q.1, q.2.1, by omega⟩), up_n (fun q => hx ⟨q.1, q.2.1, by omega⟩)]
        by_cases h4 : dend T n p - p ≤ 4
        · rw [if_pos (show nI (dend T n p - p) ≤ 4 from nI_le (b := 4) h4 (by omega)), if_pos h4]
          refine ⟨_, rfl, up_s _ _ _ _ _, ?_, by rw [up_j (by decide), up_s], fun _ => ?_, key 2 ⟨fun _ => h4, fun _ => rfl⟩⟩
          · rw [up_j (by decide), up_j (by decide), b3 1 0 6 (by decide), up_j (by decide), up_s]
          · rw [up_j (by decide), up_j (by decide)]; exact b2
        · rw [if_neg (show ¬ nI (dend T n p - p) ≤ 4 from nI_ge (a := 4) (by omega) (by omega)), if_neg h4]
          refine ⟨_, rfl, up_s _ _ _ _ _, ?_, by rw [up_j (by decide), up_s], fun z => absurd z (by decide), key 1 ⟨fun z => absurd z (by decide), fun z => absurd z h4⟩⟩
          rw [up_j (by decide), up_j (by decide), b3 1 0 6 (by decide), up_j (by decide), up_s]
      · rw [if_neg hd, if_pos rfl, if_neg hd, if_neg hd]
        have hT4 : TpC T n (up (up w 1 0 6 (nI p)) 1 0 7 (nI p + 1)) := hT.of (up_j (by decide)) (fun _ => up_k (by decide))
        obtain ⟨b, hb1, hb2⟩ := hb p hpn
        rw [hT4.at hpn, hb2, isS_c hb1, ob, ← hb2]
        dsimp only
        have key : ∀ (v : Int32) x y z, ¬ (x = 1 ∧ y = 0 ∧ (z = 5 ∨ z = 6 ∨ z = 7 ∨ z = 8)) → up (up (up w 1 0 6 (nI p)) 1 0 7 (nI p + 1)) 1 0 5 v x y z = w x y z := by
          intro v x y z hx
          rw [up_n (fun q => hx ⟨q.1, q.2.1, by omega⟩), up_n (fun q => hx ⟨q.1, q.2.1, by omega⟩), up_n (fun q => hx ⟨q.1, q.2.1, by omega⟩)]
        by_cases hs : isSg (T p) = true
        · rw [if_pos hs, if_neg (show ¬ (1 : Int32) = 0 by decide), if_pos hs, hT4.at hpn]
          refine ⟨_, rfl, up_s _ _ _ _ _, by rw [up_j (by decide), up_j (by decide), up_s], by rw [up_j (by decide), up_s, nI_1], fun z => absurd z (sg_n2 hs).1, key _⟩
        · rw [if_neg hs, if_pos rfl, if_neg hs]
          refine ⟨_, rfl, up_s _ _ _ _ _, by rw [up_j (by decide), up_j (by decide), up_s], by rw [up_j (by decide), up_s, nI_1], fun z => absurd z (by decide), key _⟩
  · have e2 : p = n := by omega
    rw [if_neg (nI_nlt (by omega) (by omega)), if_neg hpn, if_neg hpn]
    refine ⟨_, rfl, up_s _ _ _ _ _, by rw [up_j (by decide), up_j (by decide), up_s], by rw [up_j (by decide), up_s], fun z => absurd z (by decide), fun x y z hx => ?_⟩
    rw [up_n (fun q => hx ⟨q.1, q.2.1, by omega⟩), up_n (fun q => hx ⟨q.1, q.2.1, by omega⟩), up_n (fun q => hx ⟨q.1, q.2.1, by omega⟩)]
/-! the reference's -/
def TpR (T : Nat → Int32) (n : Nat) (w : Mem) : Prop := n ≤ 160 ∧ w 5 0 7 = nI n ∧ (∀ i, i < n → w 23 0 i = T i) ∧ ∀ c, c < 96 → w 32 0 c = wdL.getD c 0
theorem TpR.of {T : Nat → Int32} {n : Nat} {w w' : Mem} (h : TpR T n w) (h1 : w' 5 0 7 = w 5 0 7) (h9 : ∀ c, w' 23 0 c = w 23 0 c) (h32 : ∀ c, w' 32 0 c = w 32 0 c) : TpR T n w' := ⟨h.1, h1.trans h.2.1, fun i hi => (h9 i).trans (h.2.2.1 i hi), fun c hc => (h32 c).trans (h.2.2.2 c hc)⟩
theorem TpR.up {T : Nat → Int32} {n c : Nat} {v : Int32} {w : Mem} (h : TpR T n w) (hc : c ≠ 7) : TpR T n (up w 5 0 c v) := h.of (up_j (fun z => hc z.symm)) (fun _ => up_k (by decide)) (fun _ => up_k (by decide))
def Only5 (w w' : Mem) : Prop := ∀ x y z, ¬ (x = 5 ∧ y = 0 ∧ (z = 19 ∨ z = 20 ∨ z = 21 ∨ z = 22)) → w' x y z = w x y z
theorem Only5.rf {w : Mem} : Only5 w w := fun _ _ _ _ => rfl
theorem Only5.up {w w' : Mem} (h : Only5 w w') {c : Nat} {v : Int32} (hc : c = 19 ∨ c = 20 ∨ c = 21 ∨ c = 22) : Only5 w (up w' 5 0 c v) := fun x y z hx => by
  rw [up_n (fun q => hx ⟨q.1, q.2.1, by omega⟩)]; exact h x y z hx
theorem Only5.tr {w w1 w2 : Mem} (h : Only5 w w1) (h2 : Only5 w1 w2) : Only5 w w2 := fun x y z hx => (h2 x y z hx).trans (h x y z hx)
theorem blank_r {T : Nat → Int32} {n : Nat} (k : Mem → Option Mem) : ∀ (r a m : Nat) (w : Mem), TpR T n w → a + r = n → r < m → w 5 0 19 = nI a → ∃ w', h_X5_next_0 k m w = k w' ∧ w' 5 0 19 = nI (skp T n a) ∧ Only5 w w' ∧ TpR T n w' := by
  intro r
  induction r with
  | zero =>
    intro a m w h ha hm h19
    have hn := h.1
    obtain ⟨m, rfl⟩ : ∃ q, m = q + 1 := ⟨m - 1, by omega⟩
    refine ⟨w, ?_, ?_, .rf, h⟩
    · unfold h_X5_next_0
      rw [h19, h.2.1, if_neg (nI_nlt (by omega) (by omega))]
    · unfold skp
      rw [runP_stop (by omega)]; exact h19
  | succ r ih =>
    intro a m w h ha hm h19
    have hn := h.1
    obtain ⟨m, rfl⟩ : ∃ q, m = q + 1 := ⟨m - 1, by omega⟩
    have ia : inB (nI a) 160 := nI_in (by omega) (by omega)
    have ta : tn (nI a) = a := nI_clamp (by omega)
    have go : isBl (T a) = true → ∃ w', h_X5_next_0 k m (up w 5 0 19 (nI a + 1)) = k w' ∧ w' 5 0 19 = nI (skp T n a) ∧ Only5 w w' ∧ TpR T n w' := by
      intro hbl
      obtain ⟨w', b1, b2, b3, b4⟩ := ih (a + 1) m (up w 5 0 19 (nI a + 1)) (h.up (by decide)) (by omega) (by omega) (by rw [up_s, nI_1])
      refine ⟨w', b1, ?_, (Only5.rf.up (by omega)).tr b3, b4⟩
      rw [b2]
      unfold skp
      rw [runP_step (a := a) (by omega) hbl]
    unfold h_X5_next_0 j_X5_next_39
    rw [h19, h.2.1, if_pos (nI_lt (by omega) (by omega)), if_pos ia, if_pos ia, ta, h.2.2.1 a (by omega)]
    by_cases h1 : T a = 32
    · rw [if_pos h1]
      exact go (decide_eq_true (Or.inl h1))
    · rw [if_neg h1]
      by_cases h2 : T a = 10
      · rw [if_pos h2]
        exact go (decide_eq_true (Or.inr h2))
      · rw [if_neg h2]
        refine ⟨w, rfl, ?_, .rf, h⟩
        unfold skp
        rw [runP_stop (fun z => by
          have := of_decide_eq_true z.2
          exact this.elim h1 h2)]; exact h19
theorem letters_r {T : Nat → Int32} {n : Nat} (k : Mem → Option Mem) : ∀ (r a m : Nat) (w : Mem), TpR T n w → a + r = n → r < m → w 5 0 19 = nI a → ∃ w', h_X5_next_103 k m w = k w' ∧ w' 5 0 19 = nI (wend T n a) ∧ (∀ x y z, ¬ (x = 5 ∧ y = 0 ∧ z = 19) → w' x y z = w x y z) ∧ TpR T n w' := by
  intro r
  induction r with
  | zero =>
    intro a m w h ha hm h19
    have hn := h.1
    obtain ⟨m, rfl⟩ : ∃ q, m = q + 1 := ⟨m - 1, by omega⟩
    refine ⟨w, ?_, ?_, fun _ _ _ _ => rfl, h⟩
    · unfold h_X5_next_103
      rw [h19, h.2.1, if_neg (nI_nlt (by omega) (by omega))]
    · unfold wend
      rw [runP_stop (by omega)]; exact h19
  | succ r ih =>
    intro a m w h ha hm h19
    have hn := h.1
    obtain ⟨m, rfl⟩ : ∃ q, m = q + 1 := ⟨m - 1, by omega⟩
    have ia : inB (nI a) 160 := nI_in (by omega) (by omega)
    have ta : tn (nI a) = a := nI_clamp (by omega)
    unfold h_X5_next_103
    rw [h19, h.2.1, if_pos (nI_lt (by omega) (by omega)), if_pos ia, ta, h.2.2.1 a (by omega)]
    by_cases h1 : isLt (T a) = true
    · obtain ⟨w', b1, b2, b3, b4⟩ := ih (a + 1) m (up w 5 0 19 (nI a + 1)) (h.up (by decide)) (by omega) (by omega) (by rw [up_s, nI_1])
      rw [if_neg (fun z => rng_0.mp z (of_decide_eq_true h1))]
      refine ⟨w', b1, ?_, fun x y z hx => by rw [b3 x y z hx, up_n hx], b4⟩
      rw [b2]
      unfold wend
      rw [runP_step (a := a) (by omega) h1]
    · rw [if_pos (rng_0.mpr (fun z => h1 (decide_eq_true z)))]
      refine ⟨w, rfl, ?_, fun _ _ _ _ => rfl, h⟩
      unfold wend
      rw [runP_stop (fun z => h1 z.2)]; exact h19
theorem num_r {T : Nat → Int32} {n p : Nat} (k : Int32 → Mem → Option Mem) : ∀ (r j m : Nat) (w : Mem), TpR T n w → p + j + r = n → r < m → w 5 0 19 = nI (p + j) → w 5 0 22 = nmv T p j → ∃ w', h_X5_next_230 k m (nI j) w = k (nI (dend T n (p + j) - p)) w' ∧ w' 5 0 19 = nI (dend T n (p + j)) ∧ w' 5 0 22 = nmv T p (dend T n (p + j) - p) ∧ (∀ x y z, ¬ (x = 5 ∧ y = 0 ∧ (z = 19 ∨ z = 22)) → w' x y z = w x y z) := by
  intro r
  induction r with
  | zero =>
    intro j m w h ha hm h19 h22
    have hn := h.1
    obtain ⟨m, rfl⟩ : ∃ q, m = q + 1 := ⟨m - 1, by omega⟩
    refine ⟨w, ?_, ?_, ?_, fun _ _ _ _ => rfl⟩
    · unfold h_X5_next_230 dend
      rw [h19, h.2.1, if_neg (nI_nlt (by omega) (by omega)), runP_stop (by omega), show p + j - p = j by omega]
    · unfold dend
      rw [runP_stop (by omega)]; exact h19
    · unfold dend
      rw [runP_stop (by omega), show p + j - p = j by omega]; exact h22
  | succ r ih =>
    intro j m w h ha hm h19 h22
    have hn := h.1
    obtain ⟨m, rfl⟩ : ∃ q, m = q + 1 := ⟨m - 1, by omega⟩
    have ia : inB (nI (p + j)) 160 := nI_in (by omega) (by omega)
    have ta : tn (nI (p + j)) = p + j := nI_clamp (by omega)
    unfold h_X5_next_230 j_X5_next_290
    rw [h19, h.2.1, if_pos (nI_lt (by omega) (by omega)), if_pos ia, if_pos ia, ta, h.2.2.1 (p + j) (by omega)]
    by_cases h1 : isDg (T (p + j)) = true
    · have hs : dend T n (p + j) = dend T n (p + (j + 1)) := by
        unfold dend
        rw [runP_step (a := p + j) (by omega) h1, Nat.add_assoc]
      rw [if_neg (fun z => rng_0.mp z (of_decide_eq_true h1)), hs]
      simp only [up_j (show (19 : Nat) ≠ 22 by decide), h19, nI_1]
      have key : ∀ v : Int32, v = nmv T p (j + 1) → ∃ w', h_X5_next_230 k m (nI (j + 1)) (up (up w 5 0 22 v) 5 0 19 (nI (p + j + 1))) = k (nI (dend T n (p + (j + 1)) - p)) w' ∧ w' 5 0 19 = nI (dend T n (p + (j + 1))) ∧ w' 5 0 22 = nmv T p (dend T n (p + (j + 1)) - p) ∧ (∀ x y z, ¬ (x = 5 ∧ y = 0 ∧ (z = 19 ∨ z = 22)) → w' x y z = w x y z) := by
        intro v hv
        obtain ⟨w', b1, b2, b3, b4⟩ := ih (j + 1) m _ ((h.up (c := 22) (v := v) (by decide)).up (c := 19) (v := nI (p + j + 1)) (by decide)) (by omega) (by omega) (up_s _ _ _ _ _) (by rw [up_j (by decide), up_s]; exact hv)
        exact ⟨w', b1, b2, b3, fun x y z hx => by rw [b4 x y z hx, up_n (fun q => hx ⟨q.1, q.2.1, by omega⟩), up_n (fun q => hx ⟨q.1, q.2.1, by omega⟩)]⟩
      by_cases h4 : j < 4
      · rw [if_pos (show nI j < 4 from nI_lt (b := 4) h4 (by omega)), h22]
        refine key _ ?_
        show _ = if j < 4 then _ else _
        rw [if_pos h4, Int32.mul_comm]
      · rw [if_neg (show ¬ nI j < 4 from nI_nlt (b := 4) (by omega) (by omega))]
        refine key _ ?_
        show _ = if j < 4 then _ else _
        rw [if_neg h4]
    · rw [if_pos (rng_0.mpr (fun z => h1 (decide_eq_true z)))]
      refine ⟨w, ?_, ?_, ?_, fun _ _ _ _ => rfl⟩
      · unfold dend
        rw [runP_stop (fun z => h1 z.2), show p + j - p = j by omega]
      · unfold dend
        rw [runP_stop (fun z => h1 z.2)]; exact h19
      · unfold dend
        rw [runP_stop (fun z => h1 z.2), show p + j - p = j by omega]; exact h22
