/-! the words of the text -/
def NX (w w' : Mem) : Prop := ∀ a b c, ¬ (a = 1 ∧ b = 0 ∧ 5 ≤ c ∧ c ≤ 8) → w' a b c = w a b c
theorem NX.rf {w : Mem} : NX w w := fun _ _ _ _ => rfl
theorem NX.up {w w' : Mem} {c : Nat} {v : Int32} (h : NX w w') (hc : 5 ≤ c ∧ c ≤ 8) : NX w (up w' 1 0 c v) := fun a b d g => by rw [up_n (fun z => g ⟨z.1, z.2.1, by omega⟩)]; exact h a b d g
def AtB (p : Nat) (r : List Int32) (w : Mem) : Prop := w 1 0 1 = nI (p + r.length) ∧ p + r.length ≤ 160 ∧ Row w 9 p r
def Tk (r : List Int32) (w : Mem) : Prop := ∃ p, w 1 0 7 = nI p ∧ AtB p r w
theorem AtB.nx {p : Nat} {r : List Int32} {w w' : Mem} (h : AtB p r w) (hn : NX w w') : AtB p r w' := ⟨by rw [hn 1 0 1 (by omega)]; exact h.1, h.2.1, fun j hj => by rw [hn 9 0 _ (by omega)]; exact h.2.2 j hj⟩
theorem AtB.hd {p : Nat} {c : Int32} {r : List Int32} {w : Mem} (h : AtB p (c :: r) w) : p < 160 ∧ atV w 9 0 (nI p) = c ∧ nI p < w 1 0 1 := by
  have hl : (c :: r).length = r.length + 1 := rfl
  obtain ⟨h1, h2, h3⟩ := h
  rw [hl] at h1 h2
  refine ⟨by omega, ?_, by rw [h1]; exact nI_lt (by omega) (by omega)⟩
  rw [atV_n w 0 (show p < lenK 9 by show p < 160; omega) (by decide)]
  exact (Row.tl h3).1
theorem AtB.tl {p : Nat} {c : Int32} {r : List Int32} {w : Mem} (h : AtB p (c :: r) w) : AtB (p + 1) r w := by
  have hl : (c :: r).length = r.length + 1 := rfl
  obtain ⟨h1, h2, h3⟩ := h
  rw [hl] at h1 h2
  exact ⟨by rw [h1]; congr 1; omega, by omega, (Row.tl h3).2⟩
theorem AtB.app {p : Nat} {r : List Int32} {w : Mem} : ∀ {L : List Int32}, AtB p (L ++ r) w → AtB (p + L.length) r w := by
  intro L
  induction L generalizing p with
  | nil => intro h; exact h
  | cons a L ih =>
    intro h
    have h2 := ih (AtB.tl h)
    rw [show p + (a :: L).length = p + 1 + L.length by show p + (L.length + 1) = _; omega]
    exact h2
theorem next_sp {p fuel : Nat} {r : List Int32} {w : Mem} (k : Int32 → Mem → Option Mem) (h : AtB p (32 :: r) w) : h_X1_next_5 k (fuel + 1) (nI p) w = h_X1_next_5 k fuel (nI (p + 1)) w := by
  obtain ⟨h1, h2, h3⟩ := h.hd
  conv => lhs; unfold h_X1_next_5
  rw [if_pos h3, h2, if_pos rfl, nI_1]
theorem next_no {p fuel : Nat} {c : Int32} {r : List Int32} {w : Mem} (k : Int32 → Mem → Option Mem) (h : AtB p (c :: r) w) (hc : ¬ c = 32 ∧ ¬ c = 10) : h_X1_next_5 k (fuel + 1) (nI p) w = k (nI p) w := by
  obtain ⟨h1, h2, h3⟩ := h.hd
  unfold h_X1_next_5
  rw [if_pos h3, h2, if_neg hc.1, if_neg hc.2]
theorem next_nil {p fuel : Nat} {w : Mem} (k : Int32 → Mem → Option Mem) (h : AtB p [] w) : h_X1_next_5 k (fuel + 1) (nI p) w = k (nI p) w := by
  obtain ⟨h1, h2, h3⟩ := h
  have h2' : p + 0 ≤ 160 := h2
  unfold h_X1_next_5
  rw [h1, if_neg (show ¬ nI p < nI (p + ([] : List Int32).length) from (nI_nlt (a := p) (b := p + 0) (by omega) (by omega) : ¬ nI p < nI (p + 0)))]
/-- the place where the next word begins -/
theorem next_at {sp r : List Int32} {c : Int32} {w : Mem} (h : Tk (sp ++ c :: r) w) (hs : sp = [] ∨ sp = [32]) (hc : ¬ c = 32 ∧ ¬ c = 10) : ∃ p, AtB p (c :: r) w ∧ f_X1_next w = j_X1_next_45 (nI p) w := by
  obtain ⟨p, h1, h2⟩ := h
  rcases hs with rfl | rfl
  · refine ⟨p, h2, ?_⟩
    unfold f_X1_next
    rw [h1]
    exact next_no (fuel := 999999) _ h2 hc
  · refine ⟨p + 1, h2.tl, ?_⟩
    unfold f_X1_next
    rw [h1]
    exact (next_sp (fuel := 999999) _ h2).trans (next_no (fuel := 999998) _ h2.tl hc)
def isLt (b : Int32) : Prop := ¬ b < 97 ∧ b ≤ 122
def isDg (b : Int32) : Prop := ¬ b < 48 ∧ b ≤ 57
theorem letter_c {p : Nat} {c : Int32} {r : List Int32} {w : Mem} (h : AtB p (c :: r) w) : (isLt c → f_X1_isLetter (nI p) w = some (1, w)) ∧ (¬ isLt c → f_X1_isLetter (nI p) w = some (0, w)) := by
  obtain ⟨h1, h2, h3⟩ := h.hd
  unfold f_X1_isLetter
  rw [h2]
  refine ⟨fun g => by rw [if_neg g.1, if_pos g.2], fun g => ?_⟩
  by_cases g1 : c < 97
  · rw [if_pos g1]
  · rw [if_neg g1, if_neg (fun z => g ⟨g1, z⟩)]
theorem digit_c {p : Nat} {c : Int32} {r : List Int32} {w : Mem} (h : AtB p (c :: r) w) : (isDg c → f_X1_isDigit (nI p) w = some (1, w)) ∧ (¬ isDg c → f_X1_isDigit (nI p) w = some (0, w)) := by
  obtain ⟨h1, h2, h3⟩ := h.hd
  unfold f_X1_isDigit
  rw [h2]
  refine ⟨fun g => by rw [if_neg g.1, if_pos g.2], fun g => ?_⟩
  by_cases g1 : c < 48
  · rw [if_pos g1]
  · rw [if_neg g1, if_neg (fun z => g ⟨g1, z⟩)]
theorem word_end (k : Int32 → Mem → Option (Int32 × Mem)) {d : Int32} (hd : ¬ isLt d) {r : List Int32} : ∀ (L : List Int32) (p fuel : Nat) (w : Mem), (∀ b, b ∈ L → isLt b) → AtB p (L ++ d :: r) w → L.length < fuel → h_X1_endOfWord_2 k fuel (nI p) w = k (nI (p + L.length)) w := by
  intro L
  induction L with
  | nil =>
    intro p fuel w _ h hf
    obtain ⟨fuel, rfl⟩ : ∃ m, fuel = m + 1 := ⟨fuel - 1, by omega⟩
    unfold h_X1_endOfWord_2
    rw [if_pos (AtB.hd h).2.2, (letter_c h).2 hd, Option.bind_some, if_pos rfl]
    rfl
  | cons a L ih =>
    intro p fuel w hL h hf
    obtain ⟨fuel, rfl⟩ : ∃ m, fuel = m + 1 := ⟨fuel - 1, by omega⟩
    have h' : AtB p (a :: (L ++ d :: r)) w := h
    have hl : (a :: L).length = L.length + 1 := rfl
    rw [hl] at hf
    unfold h_X1_endOfWord_2
    rw [if_pos h'.hd.2.2, (letter_c h').1 (hL a (by simp)), Option.bind_some, if1, nI_1]
    refine (ih (p + 1) fuel w (fun b hb => hL b (by simp [hb])) h'.tl (by omega)).trans ?_
    rw [hl, show p + 1 + L.length = p + (L.length + 1) by omega]
theorem chS_e : ∀ i, i < 12 → ∀ j, j < 6 → chS i (nI j) = (bytS.getD i []).getD j 0 := by decide +kernel
theorem lenS_e : ∀ i, i < 12 → lenS.getD i 0 = (bytS.getD i []).length := by decide +kernel
theorem len6 : ∀ i, i < 12 → (bytS.getD i []).length < 6 := by decide +kernel
theorem spells_loop {i p : Nat} {L : List Int32} {w : Mem} (k : Mem → Option (Int32 × Mem)) (hi : i < 12) (h6 : w 1 0 6 = nI p) (hp : p + L.length ≤ 160) (hR : Row w 9 p L) (hl : (bytS.getD i []).length = L.length) : ∀ (m j fuel : Nat), j + m = L.length → m < fuel → h_X1_spells_24 i k fuel (nI j) w = if (bytS.getD i []).drop j = L.drop j then k w else some (0, w) := by
  have h66 := len6 i hi
  intro m
  induction m with
  | zero =>
    intro j fuel hj hf
    obtain ⟨fuel, rfl⟩ : ∃ m, fuel = m + 1 := ⟨fuel - 1, by omega⟩
    unfold h_X1_spells_24
    rw [lenS_e i hi, hl, if_neg (nI_nlt (by omega) (by omega)), List.drop_eq_nil_of_le (by omega), List.drop_eq_nil_of_le (by omega), if_pos rfl]
  | succ m ih =>
    intro j fuel hj hf
    obtain ⟨fuel, rfl⟩ : ∃ m, fuel = m + 1 := ⟨fuel - 1, by omega⟩
    have d1 : (bytS.getD i []).drop j = (bytS.getD i []).getD j 0 :: (bytS.getD i []).drop (j + 1) := by
      rw [List.drop_eq_getElem_cons (show j < (bytS.getD i []).length by omega), List.getD_eq_getElem?_getD (l := bytS.getD i []), List.getElem?_eq_getElem (show j < (bytS.getD i []).length by omega), Option.getD_some]
    have d2 : L.drop j = L.getD j 0 :: L.drop (j + 1) := by
      rw [List.drop_eq_getElem_cons (show j < L.length by omega), List.getD_eq_getElem?_getD (l := L), List.getElem?_eq_getElem (show j < L.length by omega), Option.getD_some]
    have e9 : atV w 9 0 (w 1 0 6 + nI j) = L.getD j 0 := by
      rw [h6, nI_add, atV_n w 0 (show p + j < lenK 9 by show p + j < 160; omega) (by decide)]
      exact hR j (by omega)
    unfold h_X1_spells_24
    rw [lenS_e i hi, if_pos (nI_lt (by omega) (by omega)), if_pos (nI_in (by omega) (by omega)), chS_e i hi j (by omega), e9, nI_1, ih (j + 1) fuel (by omega) (by omega), d1, d2]
    by_cases g : (bytS.getD i []).getD j 0 = L.getD j 0
    · rw [if_pos g, g]
      by_cases g2 : (bytS.getD i []).drop (j + 1) = L.drop (j + 1)
      · rw [if_pos g2, if_pos (by rw [g2])]
      · rw [if_neg g2, if_neg (fun z => g2 (List.cons.inj z).2)]
    · rw [if_neg g, if_neg (fun z => g (List.cons.inj z).1)]
theorem spells_c {i p : Nat} {L : List Int32} {w : Mem} (hi : i < 12) (h6 : w 1 0 6 = nI p) (h7 : w 1 0 7 = nI (p + L.length)) (hp : p + L.length ≤ 160) (hR : Row w 9 p L) : f_X1_spells i w = some (if bytS.getD i [] = L then 1 else 0, w) := by
  have h66 := len6 i hi
  have e : w 1 0 7 - w 1 0 6 = nI L.length := by rw [h6, h7, nI_sub (by omega)]; congr 1; omega
  unfold f_X1_spells
  rw [e, lenS_e i hi]
  by_cases g : (bytS.getD i []).length = L.length
  · rw [if_pos (by rw [g])]
    have h := spells_loop (fun w5 => some (1, w5)) hi h6 hp hR g L.length 0 FU (by omega) (by show L.length < 1000000; omega)
    refine Eq.trans h ?_
    rw [List.drop_zero, List.drop_zero]
    split <;> rfl
  · rw [if_neg (fun z => g ((nI_eq (by omega) (by omega)).mp z)), if_neg (fun z => g (by rw [z]))]
theorem word_0 {p : Nat} {w : Mem} (h6 : w 1 0 6 = nI p) (h7 : w 1 0 7 = nI (p + (bytS.getD 0 []).length)) (hp : p + (bytS.getD 0 []).length ≤ 160) (hR : Row w 9 p (bytS.getD 0 [])) : f_X1_wordOf w = some (3, w) := by
  unfold f_X1_wordOf
  rw [spells_c (i := 0) (by omega) h6 h7 hp hR, Option.bind_some]
  dsimp only
  rw [if_pos rfl, if1]
theorem word_6 {p : Nat} {w : Mem} (h6 : w 1 0 6 = nI p) (h7 : w 1 0 7 = nI (p + (bytS.getD 6 []).length)) (hp : p + (bytS.getD 6 []).length ≤ 160) (hR : Row w 9 p (bytS.getD 6 [])) : f_X1_wordOf w = some ((-1), w) := by
  unfold f_X1_wordOf
  rw [spells_c (i := 0) (by omega) h6 h7 hp hR, Option.bind_some]
  dsimp only
  rw [if_neg (show ¬ bytS.getD 0 [] = bytS.getD 6 [] by decide +kernel), if_pos rfl]
  rw [spells_c (i := 1) (by omega) h6 h7 hp hR, Option.bind_some]
  dsimp only
  rw [if_neg (show ¬ bytS.getD 1 [] = bytS.getD 6 [] by decide +kernel), if_pos rfl]
  rw [spells_c (i := 2) (by omega) h6 h7 hp hR, Option.bind_some]
  dsimp only
  rw [if_neg (show ¬ bytS.getD 2 [] = bytS.getD 6 [] by decide +kernel), if_pos rfl]
  rw [spells_c (i := 3) (by omega) h6 h7 hp hR, Option.bind_some]
  dsimp only
  rw [if_neg (show ¬ bytS.getD 3 [] = bytS.getD 6 [] by decide +kernel), if_pos rfl]
  rw [spells_c (i := 4) (by omega) h6 h7 hp hR, Option.bind_some]
  dsimp only
  rw [if_neg (show ¬ bytS.getD 4 [] = bytS.getD 6 [] by decide +kernel), if_pos rfl]
  rw [spells_c (i := 5) (by omega) h6 h7 hp hR, Option.bind_some]
  dsimp only
  rw [if_neg (show ¬ bytS.getD 5 [] = bytS.getD 6 [] by decide +kernel), if_pos rfl]
  rw [spells_c (i := 6) (by omega) h6 h7 hp hR, Option.bind_some]
  dsimp only
  rw [if_pos rfl, if1]
theorem word_7 {p : Nat} {w : Mem} (h6 : w 1 0 6 = nI p) (h7 : w 1 0 7 = nI (p + (bytS.getD 7 []).length)) (hp : p + (bytS.getD 7 []).length ≤ 160) (hR : Row w 9 p (bytS.getD 7 [])) : f_X1_wordOf w = some ((-2), w) := by
  unfold f_X1_wordOf
  rw [spells_c (i := 0) (by omega) h6 h7 hp hR, Option.bind_some]
  dsimp only
  rw [if_neg (show ¬ bytS.getD 0 [] = bytS.getD 7 [] by decide +kernel), if_pos rfl]
  rw [spells_c (i := 1) (by omega) h6 h7 hp hR, Option.bind_some]
  dsimp only
  rw [if_neg (show ¬ bytS.getD 1 [] = bytS.getD 7 [] by decide +kernel), if_pos rfl]
  rw [spells_c (i := 2) (by omega) h6 h7 hp hR, Option.bind_some]
  dsimp only
  rw [if_neg (show ¬ bytS.getD 2 [] = bytS.getD 7 [] by decide +kernel), if_pos rfl]
  rw [spells_c (i := 3) (by omega) h6 h7 hp hR, Option.bind_some]
  dsimp only
  rw [if_neg (show ¬ bytS.getD 3 [] = bytS.getD 7 [] by decide +kernel), if_pos rfl]
  rw [spells_c (i := 4) (by omega) h6 h7 hp hR, Option.bind_some]
  dsimp only
  rw [if_neg (show ¬ bytS.getD 4 [] = bytS.getD 7 [] by decide +kernel), if_pos rfl]
  rw [spells_c (i := 5) (by omega) h6 h7 hp hR, Option.bind_some]
  dsimp only
  rw [if_neg (show ¬ bytS.getD 5 [] = bytS.getD 7 [] by decide +kernel), if_pos rfl]
  rw [spells_c (i := 6) (by omega) h6 h7 hp hR, Option.bind_some]
  dsimp only
  rw [if_neg (show ¬ bytS.getD 6 [] = bytS.getD 7 [] by decide +kernel), if_pos rfl]
  rw [spells_c (i := 7) (by omega) h6 h7 hp hR, Option.bind_some]
  dsimp only
  rw [if_pos rfl, if1]
theorem word_9 {p : Nat} {w : Mem} (h6 : w 1 0 6 = nI p) (h7 : w 1 0 7 = nI (p + (bytS.getD 9 []).length)) (hp : p + (bytS.getD 9 []).length ≤ 160) (hR : Row w 9 p (bytS.getD 9 [])) : f_X1_wordOf w = some ((-4), w) := by
  unfold f_X1_wordOf
  rw [spells_c (i := 0) (by omega) h6 h7 hp hR, Option.bind_some]
  dsimp only
  rw [if_neg (show ¬ bytS.getD 0 [] = bytS.getD 9 [] by decide +kernel), if_pos rfl]
  rw [spells_c (i := 1) (by omega) h6 h7 hp hR, Option.bind_some]
  dsimp only
  rw [if_neg (show ¬ bytS.getD 1 [] = bytS.getD 9 [] by decide +kernel), if_pos rfl]
  rw [spells_c (i := 2) (by omega) h6 h7 hp hR, Option.bind_some]
  dsimp only
  rw [if_neg (show ¬ bytS.getD 2 [] = bytS.getD 9 [] by decide +kernel), if_pos rfl]
  rw [spells_c (i := 3) (by omega) h6 h7 hp hR, Option.bind_some]
  dsimp only
  rw [if_neg (show ¬ bytS.getD 3 [] = bytS.getD 9 [] by decide +kernel), if_pos rfl]
  rw [spells_c (i := 4) (by omega) h6 h7 hp hR, Option.bind_some]
  dsimp only
  rw [if_neg (show ¬ bytS.getD 4 [] = bytS.getD 9 [] by decide +kernel), if_pos rfl]
  rw [spells_c (i := 5) (by omega) h6 h7 hp hR, Option.bind_some]
  dsimp only
  rw [if_neg (show ¬ bytS.getD 5 [] = bytS.getD 9 [] by decide +kernel), if_pos rfl]
  rw [spells_c (i := 6) (by omega) h6 h7 hp hR, Option.bind_some]
  dsimp only
  rw [if_neg (show ¬ bytS.getD 6 [] = bytS.getD 9 [] by decide +kernel), if_pos rfl]
  rw [spells_c (i := 7) (by omega) h6 h7 hp hR, Option.bind_some]
  dsimp only
  rw [if_neg (show ¬ bytS.getD 7 [] = bytS.getD 9 [] by decide +kernel), if_pos rfl]
  rw [spells_c (i := 8) (by omega) h6 h7 hp hR, Option.bind_some]
  dsimp only
  rw [if_neg (show ¬ bytS.getD 8 [] = bytS.getD 9 [] by decide +kernel), if_pos rfl]
  rw [spells_c (i := 9) (by omega) h6 h7 hp hR, Option.bind_some]
  dsimp only
  rw [if_pos rfl, if1]
theorem word_1 {p : Nat} {w : Mem} (h6 : w 1 0 6 = nI p) (h7 : w 1 0 7 = nI (p + (bytS.getD 1 []).length)) (hp : p + (bytS.getD 1 []).length ≤ 160) (hR : Row w 9 p (bytS.getD 1 [])) : f_X1_wordOf w = some (4, w) := by
  unfold f_X1_wordOf
  rw [spells_c (i := 0) (by omega) h6 h7 hp hR, Option.bind_some]
  dsimp only
  rw [if_neg (show ¬ bytS.getD 0 [] = bytS.getD 1 [] by decide +kernel), if_pos rfl]
  rw [spells_c (i := 1) (by omega) h6 h7 hp hR, Option.bind_some]
  dsimp only
  rw [if_pos rfl, if1]
theorem word_8 {p : Nat} {w : Mem} (h6 : w 1 0 6 = nI p) (h7 : w 1 0 7 = nI (p + (bytS.getD 8 []).length)) (hp : p + (bytS.getD 8 []).length ≤ 160) (hR : Row w 9 p (bytS.getD 8 [])) : f_X1_wordOf w = some ((-3), w) := by
  unfold f_X1_wordOf
  rw [spells_c (i := 0) (by omega) h6 h7 hp hR, Option.bind_some]
  dsimp only
  rw [if_neg (show ¬ bytS.getD 0 [] = bytS.getD 8 [] by decide +kernel), if_pos rfl]
  rw [spells_c (i := 1) (by omega) h6 h7 hp hR, Option.bind_some]
  dsimp only
  rw [if_neg (show ¬ bytS.getD 1 [] = bytS.getD 8 [] by decide +kernel), if_pos rfl]
  rw [spells_c (i := 2) (by omega) h6 h7 hp hR, Option.bind_some]
  dsimp only
  rw [if_neg (show ¬ bytS.getD 2 [] = bytS.getD 8 [] by decide +kernel), if_pos rfl]
  rw [spells_c (i := 3) (by omega) h6 h7 hp hR, Option.bind_some]
  dsimp only
  rw [if_neg (show ¬ bytS.getD 3 [] = bytS.getD 8 [] by decide +kernel), if_pos rfl]
  rw [spells_c (i := 4) (by omega) h6 h7 hp hR, Option.bind_some]
  dsimp only
  rw [if_neg (show ¬ bytS.getD 4 [] = bytS.getD 8 [] by decide +kernel), if_pos rfl]
  rw [spells_c (i := 5) (by omega) h6 h7 hp hR, Option.bind_some]
  dsimp only
  rw [if_neg (show ¬ bytS.getD 5 [] = bytS.getD 8 [] by decide +kernel), if_pos rfl]
  rw [spells_c (i := 6) (by omega) h6 h7 hp hR, Option.bind_some]
  dsimp only
  rw [if_neg (show ¬ bytS.getD 6 [] = bytS.getD 8 [] by decide +kernel), if_pos rfl]
  rw [spells_c (i := 7) (by omega) h6 h7 hp hR, Option.bind_some]
  dsimp only
  rw [if_neg (show ¬ bytS.getD 7 [] = bytS.getD 8 [] by decide +kernel), if_pos rfl]
  rw [spells_c (i := 8) (by omega) h6 h7 hp hR, Option.bind_some]
  dsimp only
  rw [if_pos rfl, if1]
theorem word_2 {p : Nat} {w : Mem} (h6 : w 1 0 6 = nI p) (h7 : w 1 0 7 = nI (p + (bytS.getD 2 []).length)) (hp : p + (bytS.getD 2 []).length ≤ 160) (hR : Row w 9 p (bytS.getD 2 [])) : f_X1_wordOf w = some (5, w) := by
  unfold f_X1_wordOf
  rw [spells_c (i := 0) (by omega) h6 h7 hp hR, Option.bind_some]
  dsimp only
  rw [if_neg (show ¬ bytS.getD 0 [] = bytS.getD 2 [] by decide +kernel), if_pos rfl]
  rw [spells_c (i := 1) (by omega) h6 h7 hp hR, Option.bind_some]
  dsimp only
  rw [if_neg (show ¬ bytS.getD 1 [] = bytS.getD 2 [] by decide +kernel), if_pos rfl]
  rw [spells_c (i := 2) (by omega) h6 h7 hp hR, Option.bind_some]
  dsimp only
  rw [if_pos rfl, if1]
theorem word_10 {p : Nat} {w : Mem} (h6 : w 1 0 6 = nI p) (h7 : w 1 0 7 = nI (p + (bytS.getD 10 []).length)) (hp : p + (bytS.getD 10 []).length ≤ 160) (hR : Row w 9 p (bytS.getD 10 [])) : f_X1_wordOf w = some ((-5), w) := by
  unfold f_X1_wordOf
  rw [spells_c (i := 0) (by omega) h6 h7 hp hR, Option.bind_some]
  dsimp only
  rw [if_neg (show ¬ bytS.getD 0 [] = bytS.getD 10 [] by decide +kernel), if_pos rfl]
  rw [spells_c (i := 1) (by omega) h6 h7 hp hR, Option.bind_some]
  dsimp only
  rw [if_neg (show ¬ bytS.getD 1 [] = bytS.getD 10 [] by decide +kernel), if_pos rfl]
  rw [spells_c (i := 2) (by omega) h6 h7 hp hR, Option.bind_some]
  dsimp only
  rw [if_neg (show ¬ bytS.getD 2 [] = bytS.getD 10 [] by decide +kernel), if_pos rfl]
  rw [spells_c (i := 3) (by omega) h6 h7 hp hR, Option.bind_some]
  dsimp only
  rw [if_neg (show ¬ bytS.getD 3 [] = bytS.getD 10 [] by decide +kernel), if_pos rfl]
  rw [spells_c (i := 4) (by omega) h6 h7 hp hR, Option.bind_some]
  dsimp only
  rw [if_neg (show ¬ bytS.getD 4 [] = bytS.getD 10 [] by decide +kernel), if_pos rfl]
  rw [spells_c (i := 5) (by omega) h6 h7 hp hR, Option.bind_some]
  dsimp only
  rw [if_neg (show ¬ bytS.getD 5 [] = bytS.getD 10 [] by decide +kernel), if_pos rfl]
  rw [spells_c (i := 6) (by omega) h6 h7 hp hR, Option.bind_some]
  dsimp only
  rw [if_neg (show ¬ bytS.getD 6 [] = bytS.getD 10 [] by decide +kernel), if_pos rfl]
  rw [spells_c (i := 7) (by omega) h6 h7 hp hR, Option.bind_some]
  dsimp only
  rw [if_neg (show ¬ bytS.getD 7 [] = bytS.getD 10 [] by decide +kernel), if_pos rfl]
  rw [spells_c (i := 8) (by omega) h6 h7 hp hR, Option.bind_some]
  dsimp only
  rw [if_neg (show ¬ bytS.getD 8 [] = bytS.getD 10 [] by decide +kernel), if_pos rfl]
  rw [spells_c (i := 9) (by omega) h6 h7 hp hR, Option.bind_some]
  dsimp only
  rw [if_neg (show ¬ bytS.getD 9 [] = bytS.getD 10 [] by decide +kernel), if_pos rfl]
  rw [spells_c (i := 10) (by omega) h6 h7 hp hR, Option.bind_some]
  dsimp only
  rw [if_pos rfl, if1]
/-- the next word: a word of the tongue -/
theorem next_word {sp r : List Int32} {d code : Int32} {i : Nat} {w : Mem} (hi : i < 12) (hL : ∀ b, b ∈ bytS.getD i [] → isLt b) (h0 : bytS.getD i [] ≠ []) (hw : ∀ (p : Nat) (w : Mem), w 1 0 6 = nI p → w 1 0 7 = nI (p + (bytS.getD i []).length) → p + (bytS.getD i []).length ≤ 160 → Row w 9 p (bytS.getD i []) → f_X1_wordOf w = some (code, w)) (hd : ¬ isLt d) (hs : sp = [] ∨ sp = [32]) (h : Tk (sp ++ (bytS.getD i [] ++ d :: r)) w) : ∃ w', f_X1_next w = some w' ∧ w' 1 0 5 = code ∧ Tk (d :: r) w' ∧ NX w w' := by
  have h66 := len6 i hi
  generalize bytS.getD i [] = L at *
  obtain ⟨c, L2, rfl⟩ : ∃ c L2, L = c :: L2 := List.exists_cons_of_ne_nil h0
  have hc := hL c (by simp)
  have hne : ¬ c = 32 ∧ ¬ c = 10 := ⟨fun z => hc.1 (by rw [z]; decide), fun z => hc.1 (by rw [z]; decide)⟩
  obtain ⟨p, a1, a2⟩ := next_at (r := L2 ++ d :: r) h hs hne
  have hp160 : p + (c :: L2).length ≤ 160 := by have := a1.2.1; rw [show (c :: (L2 ++ d :: r)).length = (c :: L2).length + (r.length + 1) by show (L2 ++ d :: r).length + 1 = _; rw [List.length_append]; show L2.length + (r.length + 1) + 1 = L2.length + 1 + (r.length + 1); omega] at this; omega
  have n6 : NX w (up w 1 0 6 (nI p)) := NX.rf.up (by omega)
  have b1 := a1.nx n6
  have n7 : NX w (up (up w 1 0 6 (nI p)) 1 0 7 (nI (p + (c :: L2).length))) := n6.up (by omega)
  have n5 : NX w (up (up (up w 1 0 6 (nI p)) 1 0 7 (nI (p + (c :: L2).length))) 1 0 5 code) := n7.up (by omega)
  have hR : Row (up (up w 1 0 6 (nI p)) 1 0 7 (nI (p + (c :: L2).length))) 9 p (c :: L2) := by
    intro j hj
    have h9 := (a1.nx n7).2.2 j (by show j < (L2 ++ d :: r).length + 1; rw [List.length_append]; have : j < L2.length + 1 := hj; omega)
    rw [h9]
    show ((c :: L2) ++ d :: r).getD j 0 = _
    rw [List.getD_eq_getElem?_getD, List.getD_eq_getElem?_getD, List.getElem?_append_left hj]
  have hwd := hw p (up (up w 1 0 6 (nI p)) 1 0 7 (nI (p + (c :: L2).length))) (by rw [up_j (by decide), up_s]) (up_s ..) hp160 hR
  refine ⟨_, ?_, up_s .., ⟨p + (c :: L2).length, by rw [up_j (by decide), up_s], (AtB.app (L := c :: L2) (r := d :: r) a1).nx n5⟩, n5⟩
  rw [a2]
  unfold j_X1_next_45
  rw [if_pos b1.hd.2.2, (letter_c b1).1 hc, Option.bind_some]
  dsimp only
  rw [if1]
  unfold f_X1_endOfWord
  rw [word_end (fun x2_4 w5 => some (x2_4, w5)) hd (c :: L2) p FU _ hL b1 (by show _ < 1000000; omega), Option.bind_some]
  dsimp only
  rw [hwd, Option.bind_some]
/-- a sign -/
theorem next_sign {sp r : List Int32} {c : Int32} {w : Mem} (h1 : ¬ isLt c) (h2 : ¬ isDg c) (h3 : ∀ w, f_X1_isSign c w = some (1, w)) (hne : ¬ c = 32 ∧ ¬ c = 10) (hs : sp = [] ∨ sp = [32]) (h : Tk (sp ++ c :: r) w) : ∃ w', f_X1_next w = some w' ∧ w' 1 0 5 = c ∧ Tk r w' ∧ NX w w' := by
  obtain ⟨p, a1, a2⟩ := next_at h hs hne
  have n6 : NX w (up w 1 0 6 (nI p)) := NX.rf.up (by omega)
  have n7 : NX w (up (up w 1 0 6 (nI p)) 1 0 7 (nI (p + 1))) := n6.up (by omega)
  have n5 : NX w (up (up (up w 1 0 6 (nI p)) 1 0 7 (nI (p + 1))) 1 0 5 c) := n7.up (by omega)
  have b1 := a1.nx n6
  have b2 := a1.nx n7
  refine ⟨_, ?_, up_s .., ⟨p + 1, by rw [up_j (by decide), up_s], a1.tl.nx n5⟩, n5⟩
  rw [a2]
  unfold j_X1_next_45
  rw [if_pos b1.hd.2.2, (letter_c b1).2 h1, Option.bind_some]
  dsimp only
  rw [if_pos rfl, (digit_c b1).2 h2, Option.bind_some]
  dsimp only
  rw [if_pos rfl, nI_1, b2.hd.2.1, h3, Option.bind_some]
  dsimp only
  rw [if1, b2.hd.2.1]
/-- the end -/
theorem next_end {w : Mem} (h : Tk [] w) : ∃ w', f_X1_next w = some w' ∧ w' 1 0 5 = 0 ∧ Tk [] w' ∧ NX w w' := by
  obtain ⟨p, h1, h2⟩ := h
  have n5 : NX w (up (up (up w 1 0 6 (nI p)) 1 0 7 (nI p)) 1 0 5 0) := ((NX.rf.up (by omega)).up (by omega)).up (by omega)
  refine ⟨_, ?_, up_s .., ⟨p, by rw [up_j (by decide), up_s], h2.nx n5⟩, n5⟩
  unfold f_X1_next
  rw [h1]
  refine (next_nil (fuel := 999999) _ h2).trans ?_
  have h160 : p + 0 ≤ 160 := h2.2.1
  unfold j_X1_next_45
  rw [up_j (by decide), h2.1, if_neg (show ¬ nI p < nI (p + ([] : List Int32).length) from (nI_nlt (a := p) (b := p + 0) (by omega) (by omega) : ¬ nI p < nI (p + 0)))]
