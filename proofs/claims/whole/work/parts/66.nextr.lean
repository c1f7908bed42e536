/-! the next token: the reference's words -/
def pmL : List Nat := [0, 1, 2, 6, 7, 8, 9, 10, 11, 3, 4, 5]
theorem wd_tab : ∀ k, k < 12 → ∀ c, c < 8 → wdL.getD (8 * k + c) 0 = (bytS.getD (pmL.getD k 0) []).getD c 32 := by decide +kernel
theorem wd_n32 : ∀ i, i < 12 → ∀ c, c < (bytS.getD i []).length → (bytS.getD i []).getD c 32 ≠ 32 := by decide +kernel
theorem wd_len : ∀ i, i < 12 → (bytS.getD i []).length < 8 := by decide +kernel
theorem pm_lt : ∀ k, k < 12 → pmL.getD k 0 < 12 := by decide +kernel
theorem getD32 {L : List Int32} {c : Nat} (h : L.length ≤ c) (d : Int32) : L.getD c d = d := by
  rw [List.getD_eq_getElem?_getD, List.getElem?_eq_none h]; rfl
theorem getD_in {L : List Int32} {c : Nat} (h : c < L.length) (d e : Int32) : L.getD c d = L.getD c e := by
  rw [List.getD_eq_getElem?_getD, List.getD_eq_getElem?_getD, List.getElem?_eq_getElem h]; rfl
/-- a word is on the tape just if its padded row is -/
theorem pad_iff {T : Nat → Int32} {p e i : Nat} (hi : i < 12) (hl : ∀ j, p ≤ j → j < e → T j ≠ 32) : Lw T p e = bytS.getD i [] ↔ e - p ≤ 8 ∧ ∀ c, c < 8 → (bytS.getD i []).getD c 32 = if p + c < e then T (p + c) else 32 := by
  have hw := wd_len i hi
  constructor
  · intro h
    have hlen : e - p = (bytS.getD i []).length := by rw [← h, Lw_len]
    refine ⟨by omega, fun c hc => ?_⟩
    by_cases hce : p + c < e
    · rw [if_pos hce, getD_in (by omega) 32 0, ← h, Lw_get (by omega)]
    · rw [if_neg hce, getD32 (by omega)]
  · rintro ⟨h8, h⟩
    have hiff : ∀ c, c < 8 → (c < e - p ↔ c < (bytS.getD i []).length) := by
      intro c hc
      have := h c hc
      constructor
      · intro h1
        rw [if_pos (by omega)] at this
        by_cases h2 : c < (bytS.getD i []).length
        · exact h2
        · rw [getD32 (by omega)] at this
          exact absurd this.symm (hl (p + c) (by omega) (by omega))
      · intro h1
        by_cases h2 : c < e - p
        · exact h2
        · rw [if_neg (by omega)] at this
          exact absurd this (wd_n32 i hi c h1)
    have hlen : e - p = (bytS.getD i []).length := by
      rcases Nat.lt_trichotomy (e - p) (bytS.getD i []).length with h1 | h1 | h1
      · have := (hiff (e - p) (by omega)).mpr h1
        omega
      · exact h1
      · have := (hiff (bytS.getD i []).length hw).mp h1
        omega
    refine list_ext (by rw [Lw_len, hlen]) (fun c hc => ?_)
    rw [Lw_len] at hc
    rw [Lw_get hc, ← getD_in (d := 32) (by omega), h c (by omega), if_pos (by omega)]
/-- the reference's number of a word -/
def refW (L : List Int32) : Nat → Nat → Nat
  | 0, k => k
  | f + 1, k => if L = bytS.getD (pmL.getD k 0) [] then k else refW L f (k + 1)
theorem wordFrom_r {T : Nat → Int32} {n p e : Nat} {w : Mem} (h : TpR T n w) (hpe : p ≤ e) (hen : e ≤ n) (hl : ∀ j, p ≤ j → j < e → T j ≠ 32) : f_X5_wordFrom (nI p) (nI e) w = some (nI (refW (Lw T p e) 12 0), w) := by
  have hn := h.1
  have inner : ∀ (k : Nat) (kk : Int32 → Mem → Option (Int32 × Mem)), k < 12 → ∀ (r c m : Nat) (like : Int32), c + r = 8 → r < m → ((like = 1 ∧ e - p ≤ 8 ∧ ∀ x, x < c → (bytS.getD (pmL.getD k 0) []).getD x 32 = if p + x < e then T (p + x) else 32) ∨ (like = 0 ∧ Lw T p e ≠ bytS.getD (pmL.getD k 0) [])) → h_X5_wordFrom_26 (nI p) (nI e) (nI k) kk m like (nI c) w = kk (b2i (Lw T p e = bytS.getD (pmL.getD k 0) [])) w := by
    intro k kk hk r
    induction r with
    | zero =>
      intro c m like hc hm hx
      obtain ⟨m, rfl⟩ : ∃ q, m = q + 1 := ⟨m - 1, by omega⟩
      have e8 : c = 8 := by omega
      subst e8
      unfold h_X5_wordFrom_26
      rw [if_neg (show ¬ nI 8 < 8 by decide)]
      rcases hx with ⟨rfl, h8, hx⟩ | ⟨rfl, hx⟩
      · rw [b2i_t ((pad_iff (pm_lt k hk) hl).mpr ⟨h8, hx⟩)]
      · rw [b2i_f hx]
    | succ r ih =>
      intro c m like hc hm hx
      obtain ⟨m, rfl⟩ : ∃ q, m = q + 1 := ⟨m - 1, by omega⟩
      unfold h_X5_wordFrom_26
      rw [if_pos (show nI c < 8 from nI_lt (b := 8) (by omega) (by omega))]
      rcases hx with ⟨rfl, h8, hx⟩ | ⟨rfl, hx⟩
      · have e1 : 8 * nI k + nI c = nI (8 * k + c) := by rw [show (8 : Int32) = nI 8 from rfl, nI_mul, nI_add]
        have i1 : inB (nI (8 * k + c)) 96 := nI_in (by omega) (by omega)
        have t1 : tn (nI (8 * k + c)) = 8 * k + c := nI_clamp (by omega)
        rw [if_neg (show ¬ (1 : Int32) = 0 by decide), e1, if_pos i1, t1, h.2.2.2 _ (by omega), wd_tab k hk c (by omega), nI_add]
        have key : ∀ v : Int32, (v = if p + c < e then T (p + c) else 32) → j_X5_wordFrom_72 (h_X5_wordFrom_26 (nI p) (nI e) (nI k) kk m) (nI p) (nI e) (nI k) (nI c) v ((bytS.getD (pmL.getD k 0) []).getD c 32) w = kk (b2i (Lw T p e = bytS.getD (pmL.getD k 0) [])) w := by
          intro v hv
          unfold j_X5_wordFrom_72
          rw [nI_1]
          by_cases hm2 : (bytS.getD (pmL.getD k 0) []).getD c 32 = v
          · rw [if_pos hm2]
            exact ih (c + 1) m 1 (by omega) (by omega) (Or.inl ⟨rfl, h8, fun x hx2 => by
              by_cases ex : x = c
              · subst ex; exact hm2.trans hv
              · exact hx x (by omega)⟩)
          · rw [if_neg hm2]
            exact ih (c + 1) m 0 (by omega) (by omega) (Or.inr ⟨rfl, fun z => hm2 ((((pad_iff (pm_lt k hk) hl).mp z).2 c (by omega)).trans hv.symm)⟩)
        by_cases hpc : p + c < e
        · rw [if_pos (nI_lt hpc (by omega)), if_pos (nI_in (by omega) (by omega)), show tn (nI (p + c)) = p + c from nI_clamp (by omega), h.2.2.1 _ (by omega)]
          exact key _ (if_pos hpc).symm
        · rw [if_neg (nI_nlt (by omega) (by omega))]
          exact key _ (if_neg hpc).symm
      · rw [if_pos rfl, b2i_f hx]
  have outer : ∀ (r k m : Nat), k + r = 12 → r < m → h_X5_wordFrom_2 (nI p) (nI e) (fun w12 => some (12, w12)) m (nI k) w = some (nI (refW (Lw T p e) r k), w) := by
    intro r
    induction r with
    | zero =>
      intro k m hk hm
      obtain ⟨m, rfl⟩ : ∃ q, m = q + 1 := ⟨m - 1, by omega⟩
      have e12 : k = 12 := by omega
      subst e12
      unfold h_X5_wordFrom_2
      rw [if_neg (show ¬ nI 12 < 12 by decide)]
      rfl
    | succ r ih =>
      intro k m hk hm
      obtain ⟨m, rfl⟩ : ∃ q, m = q + 1 := ⟨m - 1, by omega⟩
      unfold h_X5_wordFrom_2 j_X5_wordFrom_21
      rw [if_pos (show nI k < 12 from nI_lt (b := 12) (by omega) (by omega)), nI_sub hpe]
      have fin : ∀ like : Int32, ((like = 1 ∧ e - p ≤ 8) ∨ (like = 0 ∧ Lw T p e ≠ bytS.getD (pmL.getD k 0) [])) → h_X5_wordFrom_26 (nI p) (nI e) (nI k) (fun x4_9 w10 => j_X5_wordFrom_88 (h_X5_wordFrom_2 (nI p) (nI e) (fun w12 => some (12, w12)) m) (nI p) (nI e) (nI k) x4_9 w10) FU like 0 w = some (nI (refW (Lw T p e) (r + 1) k), w) := by
        intro like hlike
        have := inner k (fun x4_9 w10 => j_X5_wordFrom_88 (h_X5_wordFrom_2 (nI p) (nI e) (fun w12 => some (12, w12)) m) (nI p) (nI e) (nI k) x4_9 w10) (by omega) 8 0 FU like rfl (by show 8 < 1000000; omega) (by
          rcases hlike with ⟨h1, h2⟩ | h1
          · exact Or.inl ⟨h1, h2, fun x hx => by omega⟩
          · exact Or.inr h1)
        rw [show nI 0 = 0 from rfl] at this
        rw [this]
        unfold j_X5_wordFrom_88 refW
        by_cases hL : Lw T p e = bytS.getD (pmL.getD k 0) []
        · rw [b2i_t hL, if_neg (show ¬ (1 : Int32) = 0 by decide), if_pos hL]
        · rw [b2i_f hL, if_pos rfl, if_neg hL, nI_1]
          exact ih (k + 1) m (by omega) (by omega)
      by_cases h8 : e - p ≤ 8
      · rw [if_pos (show nI (e - p) ≤ 8 from nI_le (b := 8) h8 (by omega))]
        exact fin 1 (Or.inl ⟨rfl, h8⟩)
      · rw [if_neg (show ¬ nI (e - p) ≤ 8 from nI_ge (a := 8) (by omega) (by omega))]
        refine fin 0 (Or.inr ⟨rfl, fun z => ?_⟩)
        have := congrArg List.length z
        rw [Lw_len] at this
        have := wd_len _ (pm_lt k (by omega))
        omega
  have := outer 12 0 FU rfl (by show 12 < 1000000; omega)
  rw [show nI 0 = 0 from rfl] at this
  exact this
theorem refW_tab : ∀ i, i < 12 → refW (bytS.getD i []) 12 0 = [0, 1, 2, 9, 10, 11, 3, 4, 5, 6, 7, 8].getD i 0 := by decide +kernel
theorem refW_no {L : List Int32} (h : ∀ i, i < 12 → L ≠ bytS.getD i []) : ∀ f k, k + f = 12 → refW L f k = 12 := by
  intro f
  induction f with
  | zero => intro k hk; show k = 12; omega
  | succ f ih =>
    intro k hk
    unfold refW
    rw [if_neg (h _ (pm_lt k (by omega)))]
    exact ih (k + 1) (by omega)
/-- the reference's word for a token -/
def RT (k : Int32) : Int32 := if k < 0 then 2 else if k = 0 then 0 else if k = 1 then -1 else if k = 2 then 1 else if k = 3 then 3 else if k = 4 then 3 else if k = 5 then 3 else if k = 6 then 4 else if k = 7 then 5 else if k = 8 then 6 else k
def RV (tk v nm : Int32) : Prop := (tk < 0 → v = -1 - tk) ∧ (tk = 2 → v = nm) ∧ (tk = 3 ∨ tk = 4 ∨ tk = 5 → v = tk - 3)
theorem sg_RT {x : Int32} (h : isSg x = true) : RT x = x := by
  obtain ⟨h2, h0, h3, h1, h4, h5, h6, h7, h8, h9⟩ := sg_n2 h
  unfold RT
  rw [if_neg h0, if_neg h3, if_neg h1, if_neg h2, if_neg h4, if_neg h5, if_neg h6, if_neg h7, if_neg h8, if_neg h9]
theorem word_tok (L : List Int32) (w : Mem) : ∃ w' v, (if nI (refW L 12 0) < 3 then (j_X5_next_195 (nI (refW L 12 0)) 3 w) else (if nI (refW L 12 0) < 9 then (j_X5_next_195 (nI (refW L 12 0)) 2 w) else (if nI (refW L 12 0) = 12 then (j_X5_next_195 (nI (refW L 12 0)) (-1) w) else (j_X5_next_195 (nI (refW L 12 0)) ((4 + nI (refW L 12 0)) - 9) w)))) = some w' ∧ w' = up (up w 5 0 21 (RT (tokW L))) 5 0 22 v ∧ RV (tokW L) v 0 := by
  unfold j_X5_next_195
  rcases tokW_rel L with ⟨h, e⟩ | ⟨h, e⟩ | ⟨h, e⟩ | ⟨h, e⟩ | ⟨h, e⟩ | ⟨h, e⟩ | ⟨h, e⟩ | ⟨h, e⟩ | ⟨h, e⟩ | ⟨h, e⟩ | ⟨h, e⟩ | ⟨h, e⟩ | ⟨h, e⟩
  · rw [h, e, refW_tab 0 (by omega)]; exact ⟨_, 0, rfl, rfl, ⟨fun z => absurd z (by decide), fun z => absurd z (by decide), fun _ => by decide⟩⟩
  · rw [h, e, refW_tab 1 (by omega)]; exact ⟨_, 1, rfl, rfl, ⟨fun z => absurd z (by decide), fun z => absurd z (by decide), fun _ => by decide⟩⟩
  · rw [h, e, refW_tab 2 (by omega)]; exact ⟨_, 2, rfl, rfl, ⟨fun z => absurd z (by decide), fun z => absurd z (by decide), fun _ => by decide⟩⟩
  · rw [h, e, refW_tab 3 (by omega)]; exact ⟨_, 6, rfl, rfl, ⟨fun z => absurd z (by decide), fun z => absurd z (by decide), fun z => absurd z (by decide)⟩⟩
  · rw [h, e, refW_tab 4 (by omega)]; exact ⟨_, 7, rfl, rfl, ⟨fun z => absurd z (by decide), fun z => absurd z (by decide), fun z => absurd z (by decide)⟩⟩
  · rw [h, e, refW_tab 5 (by omega)]; exact ⟨_, 8, rfl, rfl, ⟨fun z => absurd z (by decide), fun z => absurd z (by decide), fun z => absurd z (by decide)⟩⟩
  · rw [h, e, refW_tab 6 (by omega)]; exact ⟨_, 0, rfl, rfl, ⟨fun _ => by decide, fun z => absurd z (by decide), fun z => absurd z (by decide)⟩⟩
  · rw [h, e, refW_tab 7 (by omega)]; exact ⟨_, 1, rfl, rfl, ⟨fun _ => by decide, fun z => absurd z (by decide), fun z => absurd z (by decide)⟩⟩
  · rw [h, e, refW_tab 8 (by omega)]; exact ⟨_, 2, rfl, rfl, ⟨fun _ => by decide, fun z => absurd z (by decide), fun z => absurd z (by decide)⟩⟩
  · rw [h, e, refW_tab 9 (by omega)]; exact ⟨_, 3, rfl, rfl, ⟨fun _ => by decide, fun z => absurd z (by decide), fun z => absurd z (by decide)⟩⟩
  · rw [h, e, refW_tab 10 (by omega)]; exact ⟨_, 4, rfl, rfl, ⟨fun _ => by decide, fun z => absurd z (by decide), fun z => absurd z (by decide)⟩⟩
  · rw [h, e, refW_tab 11 (by omega)]; exact ⟨_, 5, rfl, rfl, ⟨fun _ => by decide, fun z => absurd z (by decide), fun z => absurd z (by decide)⟩⟩
  · rw [h, refW_no e 12 0 rfl]; exact ⟨_, 9, rfl, rfl, ⟨fun z => absurd z (by decide), fun z => absurd z (by decide), fun z => absurd z (by decide)⟩⟩
theorem next_r {T : Nat → Int32} {n a : Nat} {w : Mem} (h : TpR T n w) (ha : a ≤ n) (h19 : w 5 0 19 = nI a) : ∃ w', f_X5_next w = some w' ∧ w' 5 0 21 = RT (TK T n a) ∧ w' 5 0 20 = nI (skp T n a) ∧ w' 5 0 19 = nI (BH T n a) ∧ RV (TK T n a) (w' 5 0 22) (NM T n a) ∧ Only5 w w' := by
  have hn := h.1
  obtain ⟨w1, b1, b2, b3, b4⟩ := blank_r (fun w6 => j_X5_next_52 w6) (n - a) a FU w h (by omega) (by show n - a < 1000000; omega) h19
  have hp : skp T n a ≤ n := runP_le _ _ ha
  unfold f_X5_next
  rw [b1]
  unfold TK NM BH
  generalize skp T n a = p at hp b2
  unfold j_X5_next_52
  rw [b2]
  have o3 : Only5 w (up (up (up w1 5 0 20 (nI p)) 5 0 21 0) 5 0 22 0) := ((b3.up (by omega)).up (by omega)).up (by omega)
  have t3 : TpR T n (up (up (up w1 5 0 20 (nI p)) 5 0 21 0) 5 0 22 0) := ((b4.up (by decide)).up (by decide)).up (by decide)
  have f19 : (up (up (up w1 5 0 20 (nI p)) 5 0 21 0) 5 0 22 0) 5 0 19 = nI p := by rw [up_j (by decide), up_j (by decide), up_j (by decide)]; exact b2
  have f20 : (up (up (up w1 5 0 20 (nI p)) 5 0 21 0) 5 0 22 0) 5 0 20 = nI p := by rw [up_j (by decide), up_j (by decide), up_s]
  have f21 : (up (up (up w1 5 0 20 (nI p)) 5 0 21 0) 5 0 22 0) 5 0 21 = 0 := by rw [up_j (by decide), up_s]
  have f22 : (up (up (up w1 5 0 20 (nI p)) 5 0 21 0) 5 0 22 0) 5 0 22 = 0 := up_s _ _ _ _ _
  generalize up (up (up w1 5 0 20 (nI p)) 5 0 21 0) 5 0 22 0 = w3 at o3 t3 f19 f20 f21 f22
  rw [f19, t3.2.1]
  by_cases hpn : p < n
  · have ip : inB (nI p) 160 := nI_in (by omega) (by omega)
    have tp : tn (nI p) = p := nI_clamp (by omega)
    rw [if_neg (fun z => by have := (nI_eq (by omega) (by omega)).mp z; omega), if_pos ip, tp, t3.2.2.1 p hpn, if_pos hpn, if_pos hpn]
    by_cases hl : isLt (T p) = true
    · rw [if_neg (fun z => rng_0.mp z (of_decide_eq_true hl)), if_pos hl, if_pos hl]
      have hwe : wend T n p ≤ n := runP_le _ _ (by omega)
      have hwg : p ≤ wend T n p := runP_ge _ _
      obtain ⟨w4, c1, c2, c3, c4⟩ := letters_r (fun w31 => j_X5_next_146 w31) (n - p) p FU w3 t3 (by omega) (by show n - p < 1000000; omega) f19
      have hl32 : ∀ j, p ≤ j → j < wend T n p → T j ≠ 32 := by
        intro j h1 h2 z
        have := of_decide_eq_true (runP_all _ _ j h1 h2).1
        rw [z] at this
        exact absurd this.1 (by decide)
      rw [c1]
      unfold j_X5_next_146
      rw [c3 5 0 20 (by decide), f20, c2, wordFrom_r c4 hwg hwe hl32, ob]
      dsimp only
      obtain ⟨w5, v, d1, d2, d3⟩ := word_tok (Lw T p (wend T n p)) w4
      rw [d1]
      subst d2
      refine ⟨_, rfl, by rw [up_j (by decide), up_s], by rw [up_j (by decide), up_j (by decide), c3 5 0 20 (by decide)]; exact f20, by rw [up_j (by decide), up_j (by decide)]; exact c2, ?_, ?_⟩
      · rw [up_s]
        exact ⟨d3.1, fun z => absurd z (tokW_n2 _), d3.2.2⟩
      · have o4 : Only5 w w4 := fun x y z hx => by rw [c3 x y z (fun q => hx ⟨q.1, q.2.1, by omega⟩)]; exact o3 x y z hx
        exact (o4.up (by omega)).up (by omega)
    · rw [if_pos (rng_0.mpr (fun z => hl (decide_eq_true z))), if_neg hl, if_neg hl]
      by_cases hd : isDg (T p) = true
      · rw [if_neg (fun z => rng_0.mp z (of_decide_eq_true hd)), if_pos hd, if_pos hd]
        have hde : dend T n p ≤ n := runP_le _ _ (by omega)
        have hdg : p ≤ dend T n p := runP_ge _ _
        obtain ⟨w4, c1, c2, c3, c4⟩ := num_r (p := p) (fun x2_25 w26 => j_X5_next_309 x2_25 w26) (n - p) 0 FU w3 t3 (by omega) (by show n - p < 1000000; omega) f19 f22
        rw [Nat.add_zero] at c1 c2 c3
        rw [show nI 0 = 0 from rfl] at c1
        rw [c1]
        unfold j_X5_next_309
        have o4 : Only5 w w4 := fun x y z hx => by rw [c4 x y z (fun q => hx ⟨q.1, q.2.1, by omega⟩)]; exact o3 x y z hx
        by_cases h4 : dend T n p - p ≤ 4
        · rw [if_pos (show nI (dend T n p - p) ≤ 4 from nI_le (b := 4) h4 (by omega)), if_pos h4]
          refine ⟨_, rfl, by rw [up_s]; rfl, by rw [up_j (by decide), c4 5 0 20 (by decide)]; exact f20, by rw [up_j (by decide)]; exact c2, ?_, o4.up (by omega)⟩
          rw [up_j (by decide), c3]
          exact ⟨fun z => absurd z (by decide), fun _ => rfl, fun z => absurd z (by decide)⟩
        · rw [if_neg (show ¬ nI (dend T n p - p) ≤ 4 from nI_ge (a := 4) (by omega) (by omega)), if_neg h4]
          refine ⟨_, rfl, by rw [up_s]; rfl, by rw [up_j (by decide), c4 5 0 20 (by decide)]; exact f20, by rw [up_j (by decide)]; exact c2, ?_, o4.up (by omega)⟩
          exact ⟨fun z => absurd z (by decide), fun z => absurd z (by decide), fun z => absurd z (by decide)⟩
      · rw [if_pos (rng_0.mpr (fun z => hd (decide_eq_true z))), if_neg hd, if_neg hd]
        have fin : ∀ v : Int32, ∃ w', (some (up (up w3 5 0 21 v) 5 0 19 (((up w3 5 0 21 v) 5 0 19) + 1)) : Option Mem) = some w' ∧ w' 5 0 21 = v ∧ w' 5 0 20 = nI p ∧ w' 5 0 19 = nI (p + 1) ∧ Only5 w w' := by
          intro v
          refine ⟨_, rfl, by rw [up_j (by decide), up_s], by rw [up_j (by decide), up_j (by decide)]; exact f20, by rw [up_s, up_j (by decide), f19, nI_1], (o3.up (by omega)).up (by omega)⟩
        have sgn : ∀ {x : Int32}, isSg x = true → ∀ v nm, RV x v nm := by
          intro x hx v nm
          obtain ⟨h2, h0, h3, h1, h4, h5, h6, -⟩ := sg_n2 hx
          exact ⟨fun z => absurd z h0, fun z => absurd z h2, fun z => by rcases z with z | z | z; exact absurd z h4; exact absurd z h5; exact absurd z h6⟩
        unfold j_X5_next_374 j_X5_next_379 j_X5_next_390
        rw [if_neg (show ¬ (1 : Int32) = 0 by decide), if_pos (show (0 : Int32) = 0 from rfl)]
        by_cases hs : isSg (T p) = true
        · rw [if_pos hs]
          obtain ⟨w', e1, e2, e3, e4, e5⟩ := fin (T p)
          have hchain : ∀ (x : Int32) (A B : Option Mem), isSg x = true → (if x = 40 then A else if x = 41 then A else if x = 59 then A else if x = 43 then A else if x = 45 then A else if x = 42 then A else if x = 60 then A else if x = 61 then A else B) = A := by
            intro x A B hx
            have := of_decide_eq_true hx
            rcases this with rfl | rfl | rfl | rfl | rfl | rfl | rfl | rfl <;> rfl
          rw [hchain (T p) _ _ hs]
          exact ⟨w', e1, by rw [e2, sg_RT hs], e3, e4, sgn hs _ _, e5⟩
        · rw [if_neg hs]
          obtain ⟨w', e1, e2, e3, e4, e5⟩ := fin (-1)
          have hchain : ∀ (x : Int32) (A B : Option Mem), ¬ isSg x = true → (if x = 40 then A else if x = 41 then A else if x = 59 then A else if x = 43 then A else if x = 45 then A else if x = 42 then A else if x = 60 then A else if x = 61 then A else B) = B := by
            intro x A B hx
            have n : ∀ y, y = 40 ∨ y = 41 ∨ y = 42 ∨ y = 43 ∨ y = 45 ∨ y = 59 ∨ y = 60 ∨ y = 61 → ¬ x = y := fun y hy z => hx (decide_eq_true (by rw [z]; exact hy))
            rw [if_neg (n 40 (by decide)), if_neg (n 41 (by decide)), if_neg (n 59 (by decide)), if_neg (n 43 (by decide)), if_neg (n 45 (by decide)), if_neg (n 42 (by decide)), if_neg (n 60 (by decide)), if_neg (n 61 (by decide))]
          rw [hchain (T p) _ _ hs]
          exact ⟨w', e1, by rw [e2]; rfl, e3, e4, ⟨fun z => absurd z (by decide), fun z => absurd z (by decide), fun z => absurd z (by decide)⟩, e5⟩
  · have e2 : p = n := by omega
    rw [if_pos (by rw [e2]), if_neg hpn, if_neg hpn]
    exact ⟨w3, rfl, f21, f20, f19, ⟨fun z => absurd z (by decide), fun z => absurd z (by decide), fun z => absurd z (by decide)⟩, o3⟩
