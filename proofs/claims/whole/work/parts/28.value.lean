/-! what a part comes to: both sides do the same with a row of numbers that wait -/
/-- the numbers that wait, the last one first, in an array -/
def Rep (w : Mem) (k : Nat) : List Int32 → Prop
  | [] => True
  | a :: r => w k 0 r.length = a ∧ Rep w k r
theorem Rep_up {w : Mem} {k p : Nat} {v : Int32} : ∀ {st : List Int32}, st.length ≤ p → Rep w k st → Rep (up w k 0 p v) k st := by
  intro st
  induction st with
  | nil => intro _ _; exact trivial
  | cons a r ih =>
    intro h h2
    have h3 : r.length + 1 ≤ p := h
    exact ⟨by rw [up_n (by omega)]; exact h2.1, ih (by omega) h2.2⟩
theorem Rep_push {w : Mem} {k : Nat} {v : Int32} {st : List Int32} (h : Rep w k st) : Rep (up w k 0 st.length v) k (v :: st) := ⟨up_s _ _ _ _ _, Rep_up (Nat.le_refl _) h⟩
/-- only what waits is otherwise -/
def OnlyK (k : Nat) (w w' : Mem) : Prop := ∀ a b c, a ≠ k → w' a b c = w a b c
theorem OnlyK.rf {k : Nat} {w : Mem} : OnlyK k w w := fun _ _ _ _ => rfl
theorem OnlyK.up {k i p : Nat} {v : Int32} {w w' : Mem} (h : OnlyK k w w') : OnlyK k w (up w' k i p v) := fun a b c hk => by rw [up_n (fun z => hk z.1)]; exact h a b c hk
/-- what is done to two -/
def opC (c a b : Int32) : Int32 := if c = -13 then a - b else if c = -12 then a + b else if c = -11 then b2i (a = b) else if c = -10 then b2i (a < b) else if c = -9 then a * b else if c = -8 then b2i (a ≠ 0 ∧ b ≠ 0) else if c = -7 then b2i (a ≠ 0 ∨ b ≠ 0) else a * b
theorem ofTwo_eq (c a b : Int32) (w : Mem) : f_X3_ofTwo c a b w = some (opC c a b, w) := by
  unfold f_X3_ofTwo opC b2i
  simp only [swE]
  rw [show Int32.ofInt (-13) = -13 from rfl, show Int32.ofInt (-13 + 1) = -12 from rfl, show Int32.ofInt (-13 + 1 + 1) = -11 from rfl, show Int32.ofInt (-13 + 1 + 1 + 1) = -10 from rfl, show Int32.ofInt (-13 + 1 + 1 + 1 + 1) = -9 from rfl, show Int32.ofInt (-13 + 1 + 1 + 1 + 1 + 1) = -8 from rfl, show Int32.ofInt (-13 + 1 + 1 + 1 + 1 + 1 + 1) = -7 from rfl]
  by_cases ha : a = 0 <;> by_cases hb : b = 0 <;> by_cases he : a = b <;> by_cases hl : a < b <;> simp only [ha, hb, he, hl, if_true, if_false, ne_eq, not_true_eq_false, not_false_eq_true, and_true, true_and, and_false, false_and, or_true, true_or, or_false, false_or, and_self, or_self] <;> (repeat' split) <;> first | rfl | simp_all
/-- one step with a code, over the numbers that wait -/
def stp (nm : Nat → Int32) (c : Int32) (st : List Int32) : List Int32 :=
  if c < -6 then
    if c = -9 then (match st with | a :: r => b2i (a = 0) :: r | [] => [])
    else if c = -15 then (match st with | a :: r => (-a) :: r | [] => [])
    else (match st with | b :: a :: r => opC c a b :: r | r => r)
  else if c < 0 then nm (tn (-1 - c)) :: st else c :: st
/-- codes that can be worked off, n numbers waiting -/
def okC : List Int32 → Nat → Prop
  | [], n => 1 ≤ n
  | c :: cs, n => if c < -6 then (if c = -9 ∨ c = -15 then 1 ≤ n ∧ okC cs n else -14 ≤ c ∧ 2 ≤ n ∧ okC cs (n - 1)) else c ≤ 9999 ∧ n < 40 ∧ okC cs (n + 1)
/-- codes in a row of an array -/
def Row (w : Mem) (k p : Nat) (cs : List Int32) : Prop := ∀ j, j < cs.length → w k 0 (p + j) = cs.getD j 0
theorem Row.tl {w : Mem} {k p : Nat} {c : Int32} {cs : List Int32} (h : Row w k p (c :: cs)) : w k 0 p = c ∧ Row w k (p + 1) cs :=
  ⟨h 0 (by simp), fun j hj => by have := h (j + 1) (by simp; omega); rw [show p + 1 + j = p + (j + 1) by omega, this]; rfl⟩
theorem sub1_add (n : Nat) : nI n - 1 + 1 = nI n := Int32.sub_add_cancel _ _
