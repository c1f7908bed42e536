/-! sets as rows of their numbers -/
def cb (n : Nat) : Nat := n &&& (n - 1)
def bl : Nat → Nat → Nat → List Nat
  | 0, _, _ => []
  | f + 1, n, o => if n % 2 = 1 then o :: bl f (n / 2) (o + 1) else bl f (n / 2) (o + 1)
abbrev BL (n : Nat) : List Nat := bl 16 n 0
theorem cb_odd {n : Nat} (h : n % 2 = 1) : cb n = n - 1 := by
  unfold cb
  have h1 : (n &&& (n - 1)) / 2 = n / 2 &&& (n - 1) / 2 := Nat.and_div_two
  have h2 : (n - 1) / 2 = n / 2 := by omega
  rw [h2, Nat.and_self] at h1
  have h3 : ¬ (n &&& (n - 1)) % 2 = 1 := fun z => by
    have := (Nat.and_mod_two_eq_one.mp z).2
    omega
  omega
theorem cb_even {n : Nat} (h : n % 2 = 0) (h0 : 0 < n) : cb n = 2 * cb (n / 2) := by
  unfold cb
  have h1 : (n &&& (n - 1)) / 2 = n / 2 &&& (n - 1) / 2 := Nat.and_div_two
  have h2 : (n - 1) / 2 = n / 2 - 1 := by omega
  rw [h2] at h1
  have h3 : ¬ (n &&& (n - 1)) % 2 = 1 := fun z => by
    have := (Nat.and_mod_two_eq_one.mp z).1
    omega
  omega
theorem cb_le (n : Nat) : cb n ≤ n := Nat.and_le_left
theorem bl_0 : ∀ f o, bl f 0 o = [] := by
  intro f
  induction f with
  | zero => intro o; rfl
  | succ f ih => intro o; exact ih (o + 1)
theorem bl_cb : ∀ (f n o : Nat), n < 2 ^ f → 0 < n → bl f (cb n) o = (bl f n o).tail := by
  intro f
  induction f with
  | zero => intro n o h h0; simp at h; omega
  | succ f ih =>
    intro n o h h0
    have h9 : n / 2 < 2 ^ f := by rw [Nat.pow_succ] at h; omega
    by_cases hp : n % 2 = 1
    · rw [cb_odd hp]
      have e1 : (n - 1) % 2 = 0 := by omega
      have e2 : (n - 1) / 2 = n / 2 := by omega
      show (if (n - 1) % 2 = 1 then _ else bl f ((n - 1) / 2) (o + 1)) = List.tail (if n % 2 = 1 then o :: bl f (n / 2) (o + 1) else _)
      rw [if_neg (by omega), if_pos hp, e2]
      rfl
    · have hp0 : n % 2 = 0 := by omega
      rw [cb_even hp0 h0]
      show (if (2 * cb (n / 2)) % 2 = 1 then _ else bl f (2 * cb (n / 2) / 2) (o + 1)) = List.tail (if n % 2 = 1 then _ else bl f (n / 2) (o + 1))
      rw [if_neg (by omega), if_neg hp, show 2 * cb (n / 2) / 2 = cb (n / 2) by omega]
      exact ih (n / 2) (o + 1) h9 (by omega)
theorem bl_in : ∀ (f n o b : Nat), b ∈ bl f n o → o ≤ b ∧ b < o + f := by
  intro f
  induction f with
  | zero => intro n o b h; cases h
  | succ f ih =>
    intro n o b h
    have h2 : b ∈ (if n % 2 = 1 then o :: bl f (n / 2) (o + 1) else bl f (n / 2) (o + 1)) := h
    split at h2
    · rcases List.mem_cons.mp h2 with h3 | h3
      · omega
      · have := ih _ _ _ h3; omega
    · have := ih _ _ _ h2; omega
theorem bl_ne : ∀ (f n o : Nat), n < 2 ^ f → 0 < n → bl f n o ≠ [] := by
  intro f
  induction f with
  | zero => intro n o h h0; simp at h; omega
  | succ f ih =>
    intro n o h h0
    have h9 : n / 2 < 2 ^ f := by rw [Nat.pow_succ] at h; omega
    show (if n % 2 = 1 then o :: bl f (n / 2) (o + 1) else bl f (n / 2) (o + 1)) ≠ []
    split
    · exact List.cons_ne_nil _ _
    · exact ih _ _ h9 (by omega)
theorem bsN_low (n : Nat) : ∀ k, bsN n (k + 1) = n % 2 + bsN (n / 2) k := by
  intro k
  induction k with
  | zero => show 0 + n / 2 ^ 0 % 2 = n % 2 + 0; simp
  | succ k ih =>
    show bsN n (k + 1) + n / 2 ^ (k + 1) % 2 = n % 2 + (bsN (n / 2) k + n / 2 / 2 ^ k % 2)
    rw [ih, Nat.div_div_eq_div_mul, Nat.pow_succ, Nat.mul_comm (2 ^ k) 2]
    omega
theorem bl_len : ∀ (f n o : Nat), (bl f n o).length = bsN n f := by
  intro f
  induction f with
  | zero => intro n o; rfl
  | succ f ih =>
    intro n o
    rw [bsN_low]
    show (if n % 2 = 1 then o :: bl f (n / 2) (o + 1) else bl f (n / 2) (o + 1)).length = _
    split
    · rw [List.length_cons, ih]; omega
    · rw [ih]; omega
/-- the nth number of a set -/
def pick (l : List Nat) (j : Nat) : Int32 := match l[j]? with
  | some b => nI b
  | none => -1
theorem nth_bl {n : Nat} (hn : n < 2 ^ 31) (j : Nat) (hj : j < 1000) : ∀ (k t c : Nat), t + k ≤ 16 → c ≤ j → nthG (nI n) (nI j) k (nI t) (nI c) = pick (bl k (n / 2 ^ t) t) (j - c) := by
  intro k
  induction k with
  | zero => intro t c _ _; rfl
  | succ k ih =>
    intro t c ht hc
    unfold nthG
    rw [bit_N hn (by omega), nI_1, nI_1]
    show _ = pick (if n / 2 ^ t % 2 = 1 then t :: bl k (n / 2 ^ t / 2) (t + 1) else bl k (n / 2 ^ t / 2) (t + 1)) (j - c)
    have e1 : n / 2 ^ t / 2 = n / 2 ^ (t + 1) := by rw [Nat.div_div_eq_div_mul, Nat.pow_succ]
    have hm := Nat.mod_lt (n / 2 ^ t) (show 0 < 2 by omega)
    rw [e1]
    by_cases hb : n / 2 ^ t % 2 = 1
    · rw [hb, if_pos (show nI 1 = 1 from rfl), if_pos rfl]
      by_cases he : c = j
      · subst he
        rw [if_pos rfl, Nat.sub_self]
        rfl
      · rw [if_neg (fun z => he ((nI_eq (by omega) (by omega)).mp z)), ih (t + 1) (c + 1) (by omega) (by omega), show j - c = (j - (c + 1)) + 1 by omega]
        rfl
    · have h0 : n / 2 ^ t % 2 = 0 := by omega
      rw [h0, if_neg (show ¬ nI 0 = 1 by decide), if_neg (by omega)]
      exact ih (t + 1) c (by omega) hc
theorem nthF_bl {n j : Nat} (hn : n < 2 ^ 31) (hj : j < 1000) : nthF (nI n) (nI j) = pick (BL n) j := by
  have h := nth_bl hn j hj 16 0 0 (by omega) (by omega)
  rw [show n / 2 ^ 0 = n by simp, Nat.sub_zero] at h
  exact h
/-- the least so many: their sum -/
def vs (l : List Nat) : Nat := (l.map fun b => 2 ^ b).sum
theorem vs_bl : ∀ (f n o : Nat), n < 2 ^ f → vs (bl f n o) = n * 2 ^ o := by
  intro f
  induction f with
  | zero => intro n o h; simp at h; subst h; simp [vs, bl]
  | succ f ih =>
    intro n o h
    have h9 : n / 2 < 2 ^ f := by rw [Nat.pow_succ] at h; omega
    show vs (if n % 2 = 1 then o :: bl f (n / 2) (o + 1) else bl f (n / 2) (o + 1)) = _
    have h1 := ih (n / 2) (o + 1) h9
    have h2 : n / 2 * 2 ^ (o + 1) = (n / 2 * 2) * 2 ^ o := by rw [Nat.pow_succ, Nat.mul_comm (2 ^ o) 2, Nat.mul_assoc]
    split
    · rename_i hb
      show 2 ^ o + vs (bl f (n / 2) (o + 1)) = _
      rw [h1, h2]
      have h3 : n = n / 2 * 2 + 1 := by omega
      generalize n / 2 * 2 = z at h3
      subst h3
      rw [Nat.add_mul]; omega
    · rename_i hb
      rw [h1, h2]
      congr 1
      omega
theorem ls_bl {n : Nat} (hn : n < 2 ^ 31) : ∀ (k t l f : Nat), t + k = 16 → l < 1000 → f < 2 ^ t → lsG (nI n) k (nI t) (nI l) (nI f) = nI (f + vs ((bl k (n / 2 ^ t) t).take l)) := by
  intro k
  induction k with
  | zero => intro t l f _ _ _; simp [lsG, bl, vs]
  | succ k ih =>
    intro t l f ht hl hf
    have hp : 2 ^ (t + 1) = 2 ^ t * 2 := Nat.pow_succ 2 t
    have h16 : 2 ^ t ≤ 2 ^ 15 := Nat.pow_le_pow_right (by omega) (by omega)
    unfold lsG
    rw [bit_N hn (by omega), nI_1]
    show _ = nI (f + vs ((if n / 2 ^ t % 2 = 1 then t :: bl k (n / 2 ^ t / 2) (t + 1) else bl k (n / 2 ^ t / 2) (t + 1)).take l))
    have e1 : n / 2 ^ t / 2 = n / 2 ^ (t + 1) := by rw [Nat.div_div_eq_div_mul, Nat.pow_succ]
    have hm := Nat.mod_lt (n / 2 ^ t) (show 0 < 2 by omega)
    rw [e1]
    by_cases h0 : l = 0
    · subst h0
      rw [if_neg (show ¬ (0 : Int32) < nI 0 by decide)]
      simp [vs]
    · obtain ⟨m, rfl⟩ : ∃ m, l = m + 1 := ⟨l - 1, by omega⟩
      rw [if_pos (show (0 : Int32) < nI (m + 1) from nI_lt (a := 0) (b := m + 1) (by omega) (by omega))]
      by_cases hb : n / 2 ^ t % 2 = 1
      · rw [hb, if_pos (show nI 1 = 1 from rfl), if_pos rfl]
        have e2 : nI (m + 1) + -1 = nI m := by rw [← Int32.sub_eq_add_neg]; exact nI_pred m
        have e3 : nI f ||| shlI 1 (nI t) = nI (f + 2 ^ t) := by
          rw [nI_shl (by omega), nI_or]
          congr 1
          have := Nat.two_pow_add_eq_or_of_lt hf 1
          rw [Nat.mul_one] at this
          rw [Nat.or_comm, ← this, Nat.add_comm]
        rw [e2, e3, ih (t + 1) m (f + 2 ^ t) (by omega) (by omega) (by omega)]
        congr 1
        show _ = f + vs (t :: (bl k (n / 2 ^ (t + 1)) (t + 1)).take m)
        show _ = f + (2 ^ t + vs ((bl k (n / 2 ^ (t + 1)) (t + 1)).take m))
        omega
      · have hz : n / 2 ^ t % 2 = 0 := by omega
        rw [hz, if_neg (show ¬ nI 0 = 1 by decide), if_neg (by omega)]
        exact ih (t + 1) (m + 1) f (by omega) hl (by omega)
/-- a set without its least l -/
def cbN : Nat → Nat → Nat
  | 0, n => n
  | l + 1, n => cbN l (cb n)
theorem cb_0 : cb 0 = 0 := by decide
theorem cbN_bl : ∀ (l n : Nat), n < 65536 → cbN l n ≤ n ∧ BL (cbN l n) = (BL n).drop l := by
  intro l
  induction l with
  | zero => intro n h; exact ⟨Nat.le_refl _, rfl⟩
  | succ l ih =>
    intro n h
    obtain ⟨h1, h2⟩ := ih (cb n) (by have := cb_le n; omega)
    refine ⟨Nat.le_trans h1 (cb_le n), ?_⟩
    show BL (cbN l (cb n)) = _
    rw [h2]
    by_cases h0 : n = 0
    · subst h0
      rw [cb_0, show BL 0 = [] from bl_0 16 0, List.drop_nil, List.drop_nil]
    · rw [show BL (cb n) = (BL n).tail from bl_cb 16 n 0 (by omega) (by omega), List.drop_tail]
theorem vs_BL {n : Nat} (h : n < 65536) : vs (BL n) = n := by rw [vs_bl 16 n 0 h]; simp
theorem vs_app (a b : List Nat) : vs (a ++ b) = vs a + vs b := by unfold vs; rw [List.map_append, List.sum_append]
theorem leastF_cb {n l : Nat} (h : n < 65536) (hl : l < 1000) : leastF (nI n) (nI l) = nI (n - cbN l n) := by
  have h1 := ls_bl (n := n) (by omega) 16 0 l 0 (by omega) hl (by decide)
  rw [show n / 2 ^ 0 = n by simp, Nat.zero_add] at h1
  refine Eq.trans h1 ?_
  congr 1
  obtain ⟨h2, h3⟩ := cbN_bl l n h
  have h4 : vs ((BL n).take l) + vs ((BL n).drop l) = n := by
    rw [← vs_app, List.take_append_drop]; exact vs_BL h
  rw [← h3, vs_BL (by omega)] at h4
  show vs ((BL n).take l) = _
  omega
