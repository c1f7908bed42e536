/-! what a part comes to: both sides do the same with a row of numbers that wait -/
/-- the numbers that wait, the last one first, in an array -/
def Rep (w : Mem) (k : Nat) : List Int32 → Prop
  | [] => True
  | a :: r => w k 0 r.length = a ∧ Rep w k r
theorem Rep_up {w : Mem} {k p : Nat} {v : Int32} : ∀ {st : List Int32}, st.length ≤ p → Rep w k st → Rep (up w k 0 p v) k st := by
  intro st
  induction st with
  | nil => intro _ _; exact trivial
  | cons a r ih =>
    intro h h2
    have h3 : r.length + 1 ≤ p := h
    exact ⟨by rw [up_n (by omega)]; exact h2.1, ih (by omega) h2.2⟩
theorem Rep_push {w : Mem} {k : Nat} {v : Int32} {st : List Int32} (h : Rep w k st) : Rep (up w k 0 st.length v) k (v :: st) := ⟨up_s _ _ _ _ _, Rep_up (Nat.le_refl _) h⟩
/-- only what waits is otherwise -/
def OnlyK (k : Nat) (w w' : Mem) : Prop := ∀ a b c, a ≠ k → w' a b c = w a b c
theorem OnlyK.rf {k : Nat} {w : Mem} : OnlyK k w w := fun _ _ _ _ => rfl
theorem OnlyK.up {k i p : Nat} {v : Int32} {w w' : Mem} (h : OnlyK k w w') : OnlyK k w (up w' k i p v) := fun a b c hk => by rw [up_n (fun z => hk z.1)]; exact h a b c hk
/-- what is done to two -/
def opC (c a b : Int32) : Int32 := if c = -13 then a - b else if c = -12 then a + b else if c = -11 then b2i (a = b) else if c = -10 then b2i (a < b) else if c = -9 then a * b else if c = -8 then b2i (a ≠ 0 ∧ b ≠ 0) else if c = -7 then b2i (a ≠ 0 ∨ b ≠ 0) else a * b
theorem ofTwo_eq (c a b : Int32) (w : Mem) : f_X3_ofTwo c a b w = some (opC c a b, w) := by
  unfold f_X3_ofTwo opC b2i
  simp only [swE]
  rw [show Int32.ofInt (-13) = -13 from rfl, show Int32.ofInt (-13 + 1) = -12 from rfl, show Int32.ofInt (-13 + 1 + 1) = -11 from rfl, show Int32.ofInt (-13 + 1 + 1 + 1) = -10 from rfl, show Int32.ofInt (-13 + 1 + 1 + 1 + 1) = -9 from rfl, show Int32.ofInt (-13 + 1 + 1 + 1 + 1 + 1) = -8 from rfl, show Int32.ofInt (-13 + 1 + 1 + 1 + 1 + 1 + 1) = -7 from rfl]
  by_cases ha : a = 0 <;> by_cases hb : b = 0 <;> by_cases he : a = b <;> by_cases hl : a < b <;> simp only [ha, hb, he, hl, if_true, if_false, ne_eq, not_true_eq_false, not_false_eq_true, and_true, true_and, and_false, false_and, or_true, true_or, or_false, false_or, and_self, or_self] <;> (repeat' split) <;> first | rfl | simp_all
/-- one step with a code, over the numbers that wait -/
def stp (nm : Nat → Int32) (c : Int32) (st : List Int32) : List Int32 :=
  if c < -6 then
    if c = -9 then (match st with | a :: r => b2i (a = 0) :: r | [] => [])
    else if c = -15 then (match st with | a :: r => (-a) :: r | [] => [])
    else (match st with | b :: a :: r => opC c a b :: r | r => r)
  else if c < 0 then nm (tn (-1 - c)) :: st else c :: st
/-- codes that can be worked off, n numbers waiting -/
def okC : List Int32 → Nat → Prop
  | [], n => 1 ≤ n
  | c :: cs, n => if c < -6 then (if c = -9 ∨ c = -15 then 1 ≤ n ∧ okC cs n else -14 ≤ c ∧ 2 ≤ n ∧ okC cs (n - 1)) else c ≤ 9999 ∧ n < 40 ∧ okC cs (n + 1)
/-- codes in a row of an array -/
def Row (w : Mem) (k p : Nat) (cs : List Int32) : Prop := ∀ j, j < cs.length → w k 0 (p + j) = cs.getD j 0
theorem Row.tl {w : Mem} {k p : Nat} {c : Int32} {cs : List Int32} (h : Row w k p (c :: cs)) : w k 0 p = c ∧ Row w k (p + 1) cs :=
  ⟨h 0 (by simp), fun j hj => by have := h (j + 1) (by simp; omega); rw [show p + 1 + j = p + (j + 1) by omega, this]; rfl⟩
theorem sub1_add (n : Nat) : nI n - 1 + 1 = nI n := Int32.sub_add_cancel _ _
theorem atV_in (w : Mem) {k : Nat} (i : Nat) {x : Int32} {p : Nat} (hx : x = nI p) (h : p < lenK k) (hk : k < 37) : atV w k i x = w k i p := by rw [hx]; exact atV_n w i h hk
theorem name_ix {c : Int32} (h1 : ¬ c < -6) (h2 : c < 0) : ∃ j, j < 6 ∧ -1 - c = nI j := by
  have a1 : (-6 : Int32).toInt = -6 := by decide
  have a2 : (0 : Int32).toInt = 0 := by decide
  have a3 : (-1 : Int32).toInt = -1 := by decide
  have b1 : ¬ c.toInt < -6 := fun z => h1 (Int32.lt_iff_toInt_lt.mpr (by rw [a1]; exact z))
  have b2 : c.toInt < 0 := by have := Int32.lt_iff_toInt_lt.mp h2; rw [a2] at this; exact this
  refine ⟨(-1 - c.toInt).toNat, by omega, Int32.toInt_inj.mp ?_⟩
  rw [Int32.toInt_sub, a3, nI_toInt (by omega), Int.bmod_eq_of_le (by omega) (by omega)]
  omega
def evl (nm : Nat → Int32) (cs : List Int32) (st : List Int32) : List Int32 := cs.foldl (fun s c => stp nm c s) st
theorem Rep_bot {w : Mem} {k : Nat} : ∀ {st : List Int32}, st ≠ [] → Rep w k st → w k 0 0 = st.getLastD 0 := by
  intro st
  induction st with
  | nil => intro h _; exact absurd rfl h
  | cons a r ih =>
    intro _ h
    cases r with
    | nil => exact h.1
    | cons b r => exact (ih (by simp) h.2).trans rfl
theorem val_c (i : Nat) (x5 : Int32) (kf : Mem → Option (Int32 × Mem)) (nm : Nat → Int32) : ∀ (cs : List Int32) (p fuel : Nat) (st : List Int32) (w : Mem), okC cs st.length → st.length ≤ 40 → p + cs.length ≤ 960 → x5 = nI (p + cs.length) → cs.length < fuel → Row w 6 p cs → Rep w 8 st → (∀ j, j < 6 → w 12 i j = nm j) →
    ∃ w', h_X3_value_49 i x5 kf fuel (nI st.length - 1) (nI p) w = kf w' ∧ OnlyK 8 w w' ∧ Rep w' 8 (evl nm cs st) ∧ 1 ≤ (evl nm cs st).length := by
  intro cs
  induction cs with
  | nil =>
    intro p fuel st w hok h40 hp hx5 hf hR hS hn
    obtain ⟨fuel, rfl⟩ : ∃ m, fuel = m + 1 := ⟨fuel - 1, by omega⟩
    refine ⟨w, ?_, .rf, hS, hok⟩
    unfold h_X3_value_49
    rw [if_neg (by rw [hx5]; exact nI_nlt (by simp) (by have : p + 0 ≤ 960 := hp; omega))]
  | cons c cs ih =>
    intro p fuel st w hok h40 hp hx5 hf hR hS hn
    obtain ⟨fuel, rfl⟩ : ∃ m, fuel = m + 1 := ⟨fuel - 1, by omega⟩
    have hlen : (c :: cs).length = cs.length + 1 := rfl
    rw [hlen] at hp hf hx5
    obtain ⟨hc, hR2⟩ := hR.tl
    have hat : atV w 6 0 (nI p) = c := by rw [atV_n w 0 (show p < lenK 6 by show p < 960; omega) (by decide)]; exact hc
    have step : ∀ (st2 : List Int32) (w2 : Mem), okC cs st2.length → st2.length ≤ 40 → OnlyK 8 w w2 → Rep w2 8 st2 → stp nm c st = st2 → ∃ w', h_X3_value_49 i x5 kf fuel (nI st2.length - 1) (nI p + 1) w2 = kf w' ∧ OnlyK 8 w w' ∧ Rep w' 8 (evl nm (c :: cs) st) ∧ 1 ≤ (evl nm (c :: cs) st).length := by
      intro st2 w2 g1 g2 g3 g4 g5
      obtain ⟨w', h1, h2, h3, h4⟩ := ih (p + 1) fuel st2 w2 g1 g2 (by omega) (by rw [hx5]; congr 1; omega) (by omega) (fun j hj => by rw [g3 6 0 _ (by decide)]; exact hR2 j hj) g4 (fun j hj => by rw [g3 12 i j (by decide)]; exact hn j hj)
      refine ⟨w', by rw [nI_1]; exact h1, fun a b c2 hk => (h2 a b c2 hk).trans (g3 a b c2 hk), ?_, ?_⟩
      · show Rep w' 8 (evl nm cs (stp nm c st)); rw [g5]; exact h3
      · show 1 ≤ (evl nm cs (stp nm c st)).length; rw [g5]; exact h4
    unfold h_X3_value_49
    rw [if_pos (by rw [hx5]; exact nI_lt (by omega) (by omega)), hat]
    unfold okC at hok
    by_cases h6 : c < -6
    · rw [if_pos h6] at hok ⊢
      by_cases h9 : c = -9
      · rw [if_pos (Or.inl h9)] at hok
        rw [if_pos h9]
        match st, hok, h40, hS, step with
        | a :: r, hok, h40, hS, step =>
          have hl : (a :: r).length = r.length + 1 := rfl
          have hr : r.length < lenK 8 := by show r.length < 40; rw [hl] at h40; omega
          have e1 : nI (a :: r).length - 1 = nI r.length := nI_pred r.length
          have ea : atV w 8 0 (nI r.length) = a := by rw [atV_n w 0 hr (by decide)]; exact hS.1
          have es : stp nm c (a :: r) = b2i (a = 0) :: r := by unfold stp; rw [if_pos h6, if_pos h9]
          rw [e1, ea, setV_n w 0 1 hr (by decide), setV_n w 0 0 hr (by decide)]
          by_cases ha : a = 0
          · rw [if_pos ha]
            have := step (1 :: r) (up w 8 0 r.length 1) hok.2 h40 (.up .rf) (Rep_push hS.2) (by rw [es, b2i_t ha])
            rw [show nI (1 :: r).length - 1 = nI r.length from nI_pred r.length] at this
            exact this
          · rw [if_neg ha]
            have := step (0 :: r) (up w 8 0 r.length 0) hok.2 h40 (.up .rf) (Rep_push hS.2) (by rw [es, b2i_f ha])
            rw [show nI (0 :: r).length - 1 = nI r.length from nI_pred r.length] at this
            exact this
      · rw [if_neg h9]
        by_cases h15 : c = -15
        · rw [if_pos (Or.inr h15)] at hok
          rw [if_pos h15]
          match st, hok, h40, hS, step with
          | a :: r, hok, h40, hS, step =>
            have hl : (a :: r).length = r.length + 1 := rfl
            have hr : r.length < lenK 8 := by show r.length < 40; rw [hl] at h40; omega
            have e1 : nI (a :: r).length - 1 = nI r.length := nI_pred r.length
            have ea : atV w 8 0 (nI r.length) = a := by rw [atV_n w 0 hr (by decide)]; exact hS.1
            have es : stp nm c (a :: r) = (-a) :: r := by unfold stp; rw [if_pos h6, if_neg h9, if_pos h15]
            rw [e1, ea, setV_n w 0 _ hr (by decide)]
            have := step ((-a) :: r) (up w 8 0 r.length (-a)) hok.2 h40 (.up .rf) (Rep_push hS.2) es
            rw [show nI ((-a) :: r).length - 1 = nI r.length from nI_pred r.length] at this
            exact this
        · rw [if_neg (fun z => z.elim h9 h15)] at hok
          rw [if_neg h15]
          match st, hok, h40, hS, step with
          | b :: a :: r, hok, h40, hS, step =>
            have hl : (b :: a :: r).length = r.length + 1 + 1 := rfl
            rw [hl] at h40
            have hr : r.length < lenK 8 := by show r.length < 40; omega
            have hr1 : r.length + 1 < lenK 8 := by show r.length + 1 < 40; omega
            have e1 : nI (b :: a :: r).length - 1 = nI (r.length + 1) := nI_pred (r.length + 1)
            have e2 : nI (r.length + 1) + -1 = nI r.length := by rw [← Int32.sub_eq_add_neg]; exact nI_pred r.length
            have es : stp nm c (b :: a :: r) = opC c a b :: r := by unfold stp; rw [if_pos h6, if_neg h9, if_neg h15]
            have eb : atV w 8 0 (nI (r.length + 1)) = b := by rw [atV_n w 0 hr1 (by decide)]; exact hS.1
            have ea : atV w 8 0 (nI r.length) = a := by rw [atV_n w 0 hr (by decide)]; exact hS.2.1
            rw [e1, e2, nI_1, eb, ea, ofTwo_eq]
            show ∃ w', h_X3_value_49 i x5 kf fuel (nI r.length) (nI p + 1) (setV w 8 0 (nI r.length) (opC c a b)) = kf w' ∧ _
            rw [setV_n w 0 _ hr (by decide)]
            have := step (opC c a b :: r) (up w 8 0 r.length (opC c a b)) hok.2.2 (by show r.length + 1 ≤ 40; omega) (.up .rf) (Rep_push hS.2.2) es
            rw [show nI (opC c a b :: r).length - 1 = nI r.length from nI_pred r.length] at this
            exact this
    · rw [if_neg h6] at hok ⊢
      have hr : st.length < lenK 8 := hok.2.1
      rw [sub1_add]
      by_cases h0 : c < 0
      · rw [if_pos h0]
        obtain ⟨j, hj, ej⟩ := name_ix h6 h0
        rw [ej, atV_n w i (show j < lenK 12 from hj) (by decide), setV_n w 0 _ hr (by decide), hn j hj]
        have := step (nm j :: st) (up w 8 0 st.length (nm j)) hok.2.2 hok.2.1 (.up .rf) (Rep_push hS) (by unfold stp; rw [if_neg h6, if_pos h0, ej]; show nm (nI j).toNatClampNeg :: st = _; rw [nI_clamp (by omega)])
        rw [show nI (nm j :: st).length - 1 = nI st.length from nI_pred st.length] at this
        exact this
      · rw [if_neg h0, setV_n w 0 _ hr (by decide)]
        have := step (c :: st) (up w 8 0 st.length c) hok.2.2 hok.2.1 (.up .rf) (Rep_push hS) (by unfold stp; rw [if_neg h6, if_neg h0])
        rw [show nI (c :: st).length - 1 = nI st.length from nI_pred st.length] at this
        exact this
