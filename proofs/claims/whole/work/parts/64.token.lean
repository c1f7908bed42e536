/-! tokens -/
def runP (P : Int32 → Bool) (T : Nat → Int32) (n : Nat) : Nat → Nat → Nat
  | 0, a => a
  | f + 1, a => if a < n ∧ P (T a) = true then runP P T n f (a + 1) else a
theorem runP_ge {P : Int32 → Bool} {T : Nat → Int32} {n : Nat} : ∀ f a, a ≤ runP P T n f a := by
  intro f
  induction f with
  | zero => intro a; exact Nat.le_refl _
  | succ f ih =>
    intro a
    unfold runP
    split
    · exact Nat.le_trans (Nat.le_succ _) (ih _)
    · exact Nat.le_refl _
theorem runP_le {P : Int32 → Bool} {T : Nat → Int32} {n : Nat} : ∀ f a, a ≤ n → runP P T n f a ≤ n := by
  intro f
  induction f with
  | zero => intro a h; exact h
  | succ f ih =>
    intro a h
    unfold runP
    split
    · rename_i h1; exact ih _ (by omega)
    · exact h
theorem runP_all {P : Int32 → Bool} {T : Nat → Int32} {n : Nat} : ∀ f a j, a ≤ j → j < runP P T n f a → P (T j) = true ∧ j < n := by
  intro f
  induction f with
  | zero =>
    intro a j h1 h2
    have h3 : j < a := h2
    omega
  | succ f ih =>
    intro a j h1 h2
    unfold runP at h2
    split at h2
    · rename_i h
      by_cases e : j = a
      · subst e; exact ⟨h.2, h.1⟩
      · exact ih (a + 1) j (by omega) h2
    · omega
theorem runP_step {P : Int32 → Bool} {T : Nat → Int32} {n a : Nat} (h : a < n) (hp : P (T a) = true) : runP P T n (n - a) a = runP P T n (n - (a + 1)) (a + 1) := by
  rw [show n - a = (n - (a + 1)) + 1 by omega]
  show (if a < n ∧ P (T a) = true then _ else _) = _
  rw [if_pos ⟨h, hp⟩]
theorem runP_stop {P : Int32 → Bool} {T : Nat → Int32} {n a : Nat} (h : ¬ (a < n ∧ P (T a) = true)) : runP P T n (n - a) a = a := by
  cases hf : n - a with
  | zero => rfl
  | succ f =>
    unfold runP
    rw [if_neg h]
def isBl (x : Int32) : Bool := decide (x = 32 ∨ x = 10)
def isLt (x : Int32) : Bool := decide (97 ≤ x ∧ x ≤ 122)
def isDg (x : Int32) : Bool := decide (48 ≤ x ∧ x ≤ 57)
def isSg (x : Int32) : Bool := decide (x = 40 ∨ x = 41 ∨ x = 42 ∨ x = 43 ∨ x = 45 ∨ x = 59 ∨ x = 60 ∨ x = 61)
def skp (T : Nat → Int32) (n a : Nat) : Nat := runP isBl T n (n - a) a
def wend (T : Nat → Int32) (n a : Nat) : Nat := runP isLt T n (n - a) a
def dend (T : Nat → Int32) (n a : Nat) : Nat := runP isDg T n (n - a) a
def Lw (T : Nat → Int32) (p e : Nat) : List Int32 := (List.range (e - p)).map (fun j => T (p + j))
def tokW (L : List Int32) : Int32 := if L = bytS.getD 0 [] then 3 else if L = bytS.getD 1 [] then 4 else if L = bytS.getD 2 [] then 5 else if L = bytS.getD 3 [] then 6 else if L = bytS.getD 4 [] then 7 else if L = bytS.getD 5 [] then 8 else if L = bytS.getD 6 [] then -1 else if L = bytS.getD 7 [] then -2 else if L = bytS.getD 8 [] then -3 else if L = bytS.getD 9 [] then -4 else if L = bytS.getD 10 [] then -5 else if L = bytS.getD 11 [] then -6 else 1
def nmv (T : Nat → Int32) (p : Nat) : Nat → Int32
  | 0 => 0
  | k + 1 => if k < 4 then nmv T p k * 10 + T (p + k) - 48 else 0
/-- the token from a place on: what it is (the class's word for it), how much, what is behind it -/
def TK (T : Nat → Int32) (n a : Nat) : Int32 := if skp T n a < n then (if isLt (T (skp T n a)) = true then tokW (Lw T (skp T n a) (wend T n (skp T n a))) else if isDg (T (skp T n a)) = true then (if dend T n (skp T n a) - skp T n a ≤ 4 then 2 else 1) else if isSg (T (skp T n a)) = true then T (skp T n a) else 1) else 0
def NM (T : Nat → Int32) (n a : Nat) : Int32 := nmv T (skp T n a) (dend T n (skp T n a) - skp T n a)
def BH (T : Nat → Int32) (n a : Nat) : Nat := if skp T n a < n then (if isLt (T (skp T n a)) = true then wend T n (skp T n a) else if isDg (T (skp T n a)) = true then dend T n (skp T n a) else skp T n a + 1) else skp T n a
/-- the class's tape -/
def TpC (T : Nat → Int32) (n : Nat) (w : Mem) : Prop := n ≤ 160 ∧ w 1 0 1 = nI n ∧ ∀ i, i < n → w 9 0 i = T i
theorem TpC.at {T : Nat → Int32} {n i : Nat} {w : Mem} (h : TpC T n w) (hi : i < n) : atV w 9 0 (nI i) = T i := (atV_n w 0 (show i < lenK 9 by show i < 160; have := h.1; omega) (by decide)).trans (h.2.2 i hi)
theorem TpC.of {T : Nat → Int32} {n : Nat} {w w' : Mem} (h : TpC T n w) (h1 : w' 1 0 1 = w 1 0 1) (h9 : ∀ c, w' 9 0 c = w 9 0 c) : TpC T n w' := ⟨h.1, h1.trans h.2.1, fun i hi => (h9 i).trans (h.2.2 i hi)⟩
theorem blank_c {T : Nat → Int32} {n : Nat} {w : Mem} (h : TpC T n w) (k : Int32 → Mem → Option Mem) : ∀ (r a m : Nat), a + r = n → r < m → h_X1_next_5 k m (nI a) w = k (nI (skp T n a)) w := by
  have hn := h.1
  intro r
  induction r with
  | zero =>
    intro a m ha hm
    obtain ⟨m, rfl⟩ : ∃ q, m = q + 1 := ⟨m - 1, by omega⟩
    unfold h_X1_next_5 skp
    rw [h.2.1, if_neg (nI_nlt (by omega) (by omega)), runP_stop (by omega)]
  | succ r ih =>
    intro a m ha hm
    obtain ⟨m, rfl⟩ : ∃ q, m = q + 1 := ⟨m - 1, by omega⟩
    unfold h_X1_next_5
    rw [h.2.1, if_pos (nI_lt (by omega) (by omega)), h.at (by omega), nI_1]
    by_cases h1 : T a = 32
    · rw [if_pos h1, ih (a + 1) m (by omega) (by omega)]
      unfold skp
      rw [runP_step (a := a) (by omega) (decide_eq_true (Or.inl h1))]
    · rw [if_neg h1]
      by_cases h2 : T a = 10
      · rw [if_pos h2, ih (a + 1) m (by omega) (by omega)]
        unfold skp
        rw [runP_step (a := a) (by omega) (decide_eq_true (Or.inr h2))]
      · rw [if_neg h2]
        unfold skp
        rw [runP_stop (fun z => by
          have := of_decide_eq_true z.2
          exact this.elim h1 h2)]
theorem isL_c {T : Nat → Int32} {n a : Nat} {w : Mem} (h : TpC T n w) (ha : a < n) : f_X1_isLetter (nI a) w = some (if isLt (T a) = true then 1 else 0, w) := by
  unfold f_X1_isLetter isLt
  rw [h.at ha]
  by_cases h1 : T a < 97
  · rw [if_pos h1, if_neg (fun z => absurd (of_decide_eq_true z).1 (Int32.not_le.mpr h1))]
  · rw [if_neg h1]
    by_cases h2 : T a ≤ 122
    · rw [if_pos h2, if_pos (decide_eq_true ⟨Int32.not_lt.mp h1, h2⟩)]
    · rw [if_neg h2, if_neg (fun z => h2 (of_decide_eq_true z).2)]
theorem isD_c {T : Nat → Int32} {n a : Nat} {w : Mem} (h : TpC T n w) (ha : a < n) : f_X1_isDigit (nI a) w = some (if isDg (T a) = true then 1 else 0, w) := by
  unfold f_X1_isDigit isDg
  rw [h.at ha]
  by_cases h1 : T a < 48
  · rw [if_pos h1, if_neg (fun z => absurd (of_decide_eq_true z).1 (Int32.not_le.mpr h1))]
  · rw [if_neg h1]
    by_cases h2 : T a ≤ 57
    · rw [if_pos h2, if_pos (decide_eq_true ⟨Int32.not_lt.mp h1, h2⟩)]
    · rw [if_neg h2, if_neg (fun z => h2 (of_decide_eq_true z).2)]
theorem word_c {T : Nat → Int32} {n : Nat} {w : Mem} (h : TpC T n w) (k : Int32 → Mem → Option (Int32 × Mem)) : ∀ (r a m : Nat), a + r = n → r < m → h_X1_endOfWord_2 k m (nI a) w = k (nI (wend T n a)) w := by
  have hn := h.1
  intro r
  induction r with
  | zero =>
    intro a m ha hm
    obtain ⟨m, rfl⟩ : ∃ q, m = q + 1 := ⟨m - 1, by omega⟩
    unfold h_X1_endOfWord_2 wend
    rw [h.2.1, if_neg (nI_nlt (by omega) (by omega)), runP_stop (by omega)]
  | succ r ih =>
    intro a m ha hm
    obtain ⟨m, rfl⟩ : ∃ q, m = q + 1 := ⟨m - 1, by omega⟩
    unfold h_X1_endOfWord_2
    rw [h.2.1, if_pos (nI_lt (by omega) (by omega)), isL_c h (by omega), ob, nI_1]
    dsimp only
    by_cases h1 : isLt (T a) = true
    · rw [if_pos h1, if_neg (show ¬ (1 : Int32) = 0 by decide), ih (a + 1) m (by omega) (by omega)]
      unfold wend
      rw [runP_step (a := a) (by omega) h1]
    · rw [if_neg h1, if_pos rfl]
      unfold wend
      rw [runP_stop (fun z => h1 z.2)]
theorem num_c {T : Nat → Int32} {n p : Nat} (k : Int32 → Mem → Option (Int32 × Mem)) : ∀ (r j m : Nat) (w : Mem), TpC T n w → p + j + r = n → r < m → w 1 0 8 = nmv T p j → (∀ x, x < j → isDg (T (p + x)) = true) → ∃ w', h_X1_endOfNumber_7 (nI p) k m (nI (p + j)) w = k (nI (dend T n (p + j))) w' ∧ w' 1 0 8 = nmv T p (dend T n (p + j) - p) ∧ (∀ a b c, ¬ (a = 1 ∧ b = 0 ∧ c = 8) → w' a b c = w a b c) := by
  intro r
  induction r with
  | zero =>
    intro j m w h ha hm h8 hd
    have hn := h.1
    obtain ⟨m, rfl⟩ : ∃ q, m = q + 1 := ⟨m - 1, by omega⟩
    refine ⟨w, ?_, ?_, fun _ _ _ _ => rfl⟩
    · unfold h_X1_endOfNumber_7 dend
      rw [h.2.1, if_neg (nI_nlt (by omega) (by omega)), runP_stop (by omega)]
    · unfold dend
      rw [runP_stop (by omega), show p + j - p = j by omega]; exact h8
  | succ r ih =>
    intro j m w h ha hm h8 hd
    have hn := h.1
    obtain ⟨m, rfl⟩ : ∃ q, m = q + 1 := ⟨m - 1, by omega⟩
    unfold h_X1_endOfNumber_7
    rw [h.2.1, if_pos (nI_lt (by omega) (by omega)), isD_c h (by omega), ob, nI_1]
    dsimp only
    by_cases h1 : isDg (T (p + j)) = true
    · have hs : dend T n (p + j) = dend T n (p + (j + 1)) := by
        unfold dend
        rw [runP_step (a := p + j) (by omega) h1, Nat.add_assoc]
      rw [if_pos h1, if_neg (show ¬ (1 : Int32) = 0 by decide), h.at (by omega), show nI (p + j) - nI p = nI j by rw [nI_sub (by omega)]; congr 1; omega, hs, Nat.add_assoc]
      by_cases h4 : j < 4
      · rw [if_pos (show nI j < 4 from nI_lt (b := 4) h4 (by omega)), h8]
        obtain ⟨w', b1, b2, b3⟩ := ih (j + 1) m (up w 1 0 8 (nmv T p j * 10 + T (p + j) - 48)) (h.of (up_j (by decide)) (fun _ => up_k (by decide))) (by omega) (by omega) (by rw [up_s]; exact (if_pos h4).symm) (fun x hx => by
          by_cases e : x = j
          · subst e; exact h1
          · exact hd x (by omega))
        exact ⟨w', b1, b2, fun a b c hn => by rw [b3 a b c hn, up_n hn]⟩
      · rw [if_neg (show ¬ nI j < 4 from nI_nlt (b := 4) (by omega) (by omega))]
        obtain ⟨w', b1, b2, b3⟩ := ih (j + 1) m (up w 1 0 8 0) (h.of (up_j (by decide)) (fun _ => up_k (by decide))) (by omega) (by omega) (by rw [up_s]; exact (if_neg h4).symm) (fun x hx => by
          by_cases e : x = j
          · subst e; exact h1
          · exact hd x (by omega))
        exact ⟨w', b1, b2, fun a b c hn => by rw [b3 a b c hn, up_n hn]⟩
    · rw [if_neg h1, if_pos rfl]
      refine ⟨w, ?_, ?_, fun _ _ _ _ => rfl⟩
      · unfold dend
        rw [runP_stop (fun z => h1 z.2)]
      · unfold dend
        rw [runP_stop (fun z => h1 z.2), show p + j - p = j by omega]; exact h8
def swI (x : Int32) : Int → List Int32 → Int32 → Int32
  | _, [], d => d
  | a, e :: es, d => if x = Int32.ofInt a then e else swI x (a + 1) es d
theorem swE_I {w : Mem} (x : Int32) (d : Int32) : ∀ (es : List Int32) (a : Int), swE x a (es.map (fun v => some (v, w))) (some (d, w)) = some (swI x a es d, w) := by
  intro es
  induction es with
  | nil => intro a; rfl
  | cons e es ih =>
    intro a
    show (if x = Int32.ofInt a then some (e, w) else swE x (a + 1) (es.map (fun v => some (v, w))) (some (d, w))) = some (if x = Int32.ofInt a then e else swI x (a + 1) es d, w)
    rw [ih]
    split <;> rfl
theorem sign_tab : ∀ b, b < 256 → swI (nI b) 40 [1, 1, 1, 1, 0, 1, 0, 0, 0, 0, 0, 0, 0, 0, 0, 0, 0, 0, 0, 1, 1, 1] 0 = if isSg (nI b) = true then 1 else 0 := by decide +kernel
theorem isS_c {b : Nat} (hb : b < 256) (w : Mem) : f_X1_isSign (nI b) w = some (if isSg (nI b) = true then 1 else 0, w) := by
  have := swE_I (w := w) (nI b) 0 [1, 1, 1, 1, 0, 1, 0, 0, 0, 0, 0, 0, 0, 0, 0, 0, 0, 0, 0, 1, 1, 1] 40
  rw [sign_tab b hb] at this
  exact this
/-- a word of the class's -/
theorem chS_eq : ∀ i, i < 12 → ∀ k, k < lenS.getD i 0 → chS i (nI k) = (bytS.getD i []).getD k 0 := by decide +kernel
theorem lenS_eq : ∀ i, i < 12 → (bytS.getD i []).length = lenS.getD i 0 := by decide +kernel
theorem Lw_get {T : Nat → Int32} {p e k : Nat} (h : k < e - p) : (Lw T p e).getD k 0 = T (p + k) := by
  unfold Lw
  rw [List.getD_eq_getElem?_getD, List.getElem?_map, List.getElem?_range h]
  rfl
theorem Lw_len {T : Nat → Int32} {p e : Nat} : (Lw T p e).length = e - p := by
  unfold Lw
  rw [List.length_map, List.length_range]
theorem list_ext {L1 L2 : List Int32} (hl : L1.length = L2.length) (h : ∀ k, k < L1.length → L1.getD k 0 = L2.getD k 0) : L1 = L2 := by
  refine List.ext_getElem hl (fun k h1 h2 => ?_)
  have := h k h1
  rw [List.getD_eq_getElem?_getD, List.getD_eq_getElem?_getD, List.getElem?_eq_getElem h1, List.getElem?_eq_getElem h2] at this
  exact this
theorem spells_c {T : Nat → Int32} {n p e i : Nat} {w : Mem} (h : TpC T n w) (hi : i < 12) (hpe : p ≤ e) (hen : e ≤ n) (h6 : w 1 0 6 = nI p) (h7 : w 1 0 7 = nI e) : f_X1_spells i w = some (b2i (Lw T p e = bytS.getD i []), w) := by
  have hn := h.1
  have hl8 := lenS_sm i hi
  unfold f_X1_spells
  rw [h6, h7, nI_sub hpe]
  by_cases hl : lenS.getD i 0 = e - p
  · rw [if_pos (by rw [hl])]
    have loop : ∀ (r k m : Nat), k + r = lenS.getD i 0 → r < m → (∀ x, x < k → T (p + x) = (bytS.getD i []).getD x 0) → h_X1_spells_24 i (fun w5 => some (1, w5)) m (nI k) w = some (b2i (Lw T p e = bytS.getD i []), w) := by
      intro r
      induction r with
      | zero =>
        intro k m hk hm hx
        obtain ⟨m, rfl⟩ : ∃ q, m = q + 1 := ⟨m - 1, by omega⟩
        unfold h_X1_spells_24
        rw [if_neg (nI_nlt (by omega) (by omega)), b2i_t]
        refine list_ext (by rw [Lw_len, lenS_eq i hi]; omega) (fun x hx2 => ?_)
        rw [Lw_len] at hx2
        rw [Lw_get hx2]
        exact hx x (by omega)
      | succ r ih =>
        intro k m hk hm hx
        obtain ⟨m, rfl⟩ : ∃ q, m = q + 1 := ⟨m - 1, by omega⟩
        unfold h_X1_spells_24
        rw [if_pos (nI_lt (by omega) (by omega)), if_pos (nI_in (by omega) (by omega)), h6, nI_add, h.at (by omega), chS_eq i hi k (by omega), nI_1]
        by_cases hc : (bytS.getD i []).getD k 0 = T (p + k)
        · rw [if_pos hc]
          exact ih (k + 1) m (by omega) (by omega) (fun x hx2 => by
            by_cases e : x = k
            · subst e; exact hc.symm
            · exact hx x (by omega))
        · rw [if_neg hc, b2i_f]
          intro z
          rw [← z, Lw_get (by omega)] at hc
          exact hc rfl
    have := loop (lenS.getD i 0) 0 FU (by omega) (by show lenS.getD i 0 < 1000000; omega) (fun x hx => by omega)
    rw [show nI 0 = 0 from rfl] at this
    exact this
  · rw [if_neg (fun z => hl ((nI_eq (by omega) (by omega)).mp z)), b2i_f]
    intro z
    have := congrArg List.length z
    rw [Lw_len, lenS_eq i hi] at this
    exact hl this.symm
theorem wordOf_c {T : Nat → Int32} {n p e : Nat} {w : Mem} (h : TpC T n w) (hpe : p ≤ e) (hen : e ≤ n) (h6 : w 1 0 6 = nI p) (h7 : w 1 0 7 = nI e) : f_X1_wordOf w = some (tokW (Lw T p e), w) := by
  have s := fun i (hi : i < 12) => spells_c h hi hpe hen h6 h7
  unfold f_X1_wordOf tokW
  rw [s 0 (by omega), ob]
  dsimp only
  by_cases h0 : Lw T p e = bytS.getD 0 []
  · rw [if_pos h0, b2i_t h0, if_neg (by decide)]
  rw [if_neg h0, b2i_f h0, if_pos rfl]
  rw [s 1 (by omega), ob]
  dsimp only
  by_cases h1 : Lw T p e = bytS.getD 1 []
  · rw [if_pos h1, b2i_t h1, if_neg (by decide)]
  rw [if_neg h1, b2i_f h1, if_pos rfl]
  rw [s 2 (by omega), ob]
  dsimp only
  by_cases h2 : Lw T p e = bytS.getD 2 []
  · rw [if_pos h2, b2i_t h2, if_neg (by decide)]
  rw [if_neg h2, b2i_f h2, if_pos rfl]
  rw [s 3 (by omega), ob]
  dsimp only
  by_cases h3 : Lw T p e = bytS.getD 3 []
  · rw [if_pos h3, b2i_t h3, if_neg (by decide)]
  rw [if_neg h3, b2i_f h3, if_pos rfl]
  rw [s 4 (by omega), ob]
  dsimp only
  by_cases h4 : Lw T p e = bytS.getD 4 []
  · rw [if_pos h4, b2i_t h4, if_neg (by decide)]
  rw [if_neg h4, b2i_f h4, if_pos rfl]
  rw [s 5 (by omega), ob]
  dsimp only
  by_cases h5 : Lw T p e = bytS.getD 5 []
  · rw [if_pos h5, b2i_t h5, if_neg (by decide)]
  rw [if_neg h5, b2i_f h5, if_pos rfl]
  rw [s 6 (by omega), ob]
  dsimp only
  by_cases h6 : Lw T p e = bytS.getD 6 []
  · rw [if_pos h6, b2i_t h6, if_neg (by decide)]
  rw [if_neg h6, b2i_f h6, if_pos rfl]
  rw [s 7 (by omega), ob]
  dsimp only
  by_cases h7 : Lw T p e = bytS.getD 7 []
  · rw [if_pos h7, b2i_t h7, if_neg (by decide)]
  rw [if_neg h7, b2i_f h7, if_pos rfl]
  rw [s 8 (by omega), ob]
  dsimp only
  by_cases h8 : Lw T p e = bytS.getD 8 []
  · rw [if_pos h8, b2i_t h8, if_neg (by decide)]
  rw [if_neg h8, b2i_f h8, if_pos rfl]
  rw [s 9 (by omega), ob]
  dsimp only
  by_cases h9 : Lw T p e = bytS.getD 9 []
  · rw [if_pos h9, b2i_t h9, if_neg (by decide)]
  rw [if_neg h9, b2i_f h9, if_pos rfl]
  rw [s 10 (by omega), ob]
  dsimp only
  by_cases h10 : Lw T p e = bytS.getD 10 []
  · rw [if_pos h10, b2i_t h10, if_neg (by decide)]
  rw [if_neg h10, b2i_f h10, if_pos rfl]
  rw [s 11 (by omega), ob]
  dsimp only
  by_cases h11 : Lw T p e = bytS.getD 11 []
  · rw [if_pos h11, b2i_t h11, if_neg (by decide)]
  rw [if_neg h11, b2i_f h11, if_pos rfl]
