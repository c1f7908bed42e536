/-! the numbers of the text; the reader over its words -/
theorem num_stop {p p2 fuel : Nat} {c : Int32} {r : List Int32} {w : Mem} (k : Int32 → Mem → Option (Int32 × Mem)) (h : AtB p2 (c :: r) w) (hc : ¬ isDg c) : h_X1_endOfNumber_7 (nI p) k (fuel + 1) (nI p2) w = k (nI p2) w := by
  unfold h_X1_endOfNumber_7
  rw [if_pos h.hd.2.2, (digit_c h).2 hc, Option.bind_some, if_pos rfl]
theorem isDg_n {d : Nat} (h : d < 10) : isDg (nI (48 + d)) := ⟨nI_nlt (a := 48 + d) (b := 48) (by omega) (by omega), nI_le (a := 48 + d) (b := 57) (by omega) (by omega)⟩
theorem num_step {p p2 fuel d v : Nat} {r : List Int32} {w : Mem} (k : Int32 → Mem → Option (Int32 × Mem)) (h : AtB p2 (nI (48 + d) :: r) w) (hd : d < 10) (hp : p ≤ p2) (h4 : p2 < p + 4) (hv : w 1 0 8 = nI v) : h_X1_endOfNumber_7 (nI p) k (fuel + 1) (nI p2) w = h_X1_endOfNumber_7 (nI p) k fuel (nI (p2 + 1)) (up w 1 0 8 (nI (v * 10 + d))) := by
  have h160 := h.hd.1
  have e : nI v * 10 + nI (48 + d) - 48 = nI (v * 10 + d) := by
    rw [show (10 : Int32) = nI 10 from rfl, nI_mul, nI_add, show (48 : Int32) = nI 48 from rfl, nI_sub (by omega)]; congr 1; omega
  conv => lhs; unfold h_X1_endOfNumber_7
  rw [if_pos h.hd.2.2, (digit_c h).1 (isDg_n hd), Option.bind_some]
  dsimp only
  rw [if1, nI_sub hp, if_pos (show nI (p2 - p) < 4 from nI_lt (a := p2 - p) (b := 4) (by omega) (by omega)), hv, h.hd.2.1, e, nI_1]
theorem AtB.n8 {p : Nat} {r : List Int32} {w : Mem} {v : Int32} (h : AtB p r w) : AtB p r (up w 1 0 8 v) := h.nx (NX.rf.up (by omega))
theorem next_num {sp r : List Int32} {d : Int32} {k : Nat} {w : Mem} (hk : k < 64) (hd : ¬ isDg d) (hs : sp = [] ∨ sp = [32]) (h : Tk (sp ++ (dig k ++ d :: r)) w) : ∃ w', f_X1_next w = some w' ∧ w' 1 0 5 = 2 ∧ w' 1 0 8 = nI k ∧ Tk (d :: r) w' ∧ NX w w' := by
  have nl : ∀ x : Nat, x < 10 → ¬ isLt (nI (48 + x)) := fun x hx z => z.1 (nI_lt (a := 48 + x) (b := 97) (by omega) (by omega))
  have n32 : ∀ x : Nat, x < 10 → ¬ nI (48 + x) = 32 ∧ ¬ nI (48 + x) = 10 := fun x hx => ⟨fun z => by have := (nI_eq (a := 48 + x) (b := 32) (by omega) (by omega)).mp z; omega, fun z => by have := (nI_eq (a := 48 + x) (b := 10) (by omega) (by omega)).mp z; omega⟩
  have fin : ∀ (p : Nat) (x : Nat) (r2 : List Int32), x < 10 → AtB p (nI (48 + x) :: r2) w → f_X1_next w = j_X1_next_45 (nI p) w → ((∃ l, l ≤ 4 ∧ f_X1_endOfNumber (nI p) (up w 1 0 6 (nI p)) = some (nI (p + l), up (up (up w 1 0 6 (nI p)) 1 0 8 0) 1 0 8 (nI k)) ∧ AtB (p + l) (d :: r) w) ∨ ∃ l v, l ≤ 4 ∧ f_X1_endOfNumber (nI p) (up w 1 0 6 (nI p)) = some (nI (p + l), up (up (up (up w 1 0 6 (nI p)) 1 0 8 0) 1 0 8 v) 1 0 8 (nI k)) ∧ AtB (p + l) (d :: r) w) → ∃ w', f_X1_next w = some w' ∧ w' 1 0 5 = 2 ∧ w' 1 0 8 = nI k ∧ Tk (d :: r) w' ∧ NX w w' := by
    intro p x r2 hx ha hn hor
    have n6 : NX w (up w 1 0 6 (nI p)) := NX.rf.up (by omega)
    have b1 := ha.nx n6
    have key : ∀ (l : Nat) (w8 : Mem), l ≤ 4 → f_X1_endOfNumber (nI p) (up w 1 0 6 (nI p)) = some (nI (p + l), w8) → NX w w8 → w8 1 0 8 = nI k → AtB (p + l) (d :: r) w → ∃ w', f_X1_next w = some w' ∧ w' 1 0 5 = 2 ∧ w' 1 0 8 = nI k ∧ Tk (d :: r) w' ∧ NX w w' := by
      intro l w8 hl he n8 h8 hA
      have h160 := hA.hd.1
      have n5 : NX w (up (up w8 1 0 7 (nI (p + l))) 1 0 5 2) := (n8.up (by omega)).up (by omega)
      refine ⟨_, ?_, up_s .., by rw [up_j (by decide), up_j (by decide)]; exact h8, ⟨p + l, by rw [up_j (by decide), up_s], hA.nx n5⟩, n5⟩
      rw [hn]
      unfold j_X1_next_45
      rw [if_pos b1.hd.2.2, (letter_c b1).2 (nl x hx), Option.bind_some]
      dsimp only
      rw [if_pos rfl, (digit_c b1).1 (isDg_n hx), Option.bind_some]
      dsimp only
      rw [if1, he, Option.bind_some]
      dsimp only
      rw [up_s, nI_sub (by omega), Nat.add_sub_cancel_left, if_pos (show nI l ≤ 4 from nI_le (a := l) (b := 4) hl (by omega))]
    rcases hor with ⟨l, hl, he, hA⟩ | ⟨l, v, hl, he, hA⟩
    · exact key l _ hl he ((n6.up (by omega)).up (by omega)) (up_s ..) hA
    · exact key l _ hl he (((n6.up (by omega)).up (by omega)).up (by omega)) (up_s ..) hA
  unfold dig at h
  by_cases h10 : k < 10
  · rw [if_pos h10] at h
    obtain ⟨p, a1, a2⟩ := next_at (c := dgO k) (r := d :: r) h hs (n32 _ (Nat.mod_lt _ (by omega)))
    have hm := Nat.mod_lt k (show 0 < 10 by omega)
    have b8 : AtB p (nI (48 + k % 10) :: d :: r) (up (up w 1 0 6 (nI p)) 1 0 8 0) := a1.nx ((NX.rf.up (by omega)).up (by omega))
    refine fin p (k % 10) (d :: r) hm a1 a2 (Or.inl ⟨1, by omega, ?_, a1.tl⟩)
    unfold f_X1_endOfNumber
    show h_X1_endOfNumber_7 (nI p) _ (999999 + 1) (nI p) _ = _
    rw [num_step (v := 0) _ b8 hm (by omega) (by omega) (by rw [up_s]; rfl)]
    refine (num_stop (fuel := 999998) _ b8.tl.n8 hd).trans ?_
    rw [show 0 * 10 + k % 10 = k by omega]
  · rw [if_neg h10] at h
    have hm := Nat.mod_lt k (show 0 < 10 by omega)
    have hq : k / 10 < 10 := by omega
    obtain ⟨p, a1, a2⟩ := next_at (c := dgT k) (r := dgO k :: d :: r) h hs (n32 _ hq)
    have b8 : AtB p (nI (48 + k / 10) :: nI (48 + k % 10) :: d :: r) (up (up w 1 0 6 (nI p)) 1 0 8 0) := a1.nx ((NX.rf.up (by omega)).up (by omega))
    refine fin p (k / 10) _ hq a1 a2 (Or.inr ⟨2, nI (0 * 10 + k / 10), by omega, ?_, a1.tl.tl⟩)
    unfold f_X1_endOfNumber
    show h_X1_endOfNumber_7 (nI p) _ (999998 + 1 + 1) (nI p) _ = _
    rw [num_step (v := 0) _ b8 hq (by omega) (by omega) (by rw [up_s]; rfl), num_step (v := 0 * 10 + k / 10) _ b8.tl.n8 hm (by omega) (by omega) (up_s ..)]
    refine (num_stop (fuel := 999997) _ b8.tl.n8.tl.n8 hd).trans ?_
    rw [show (0 * 10 + k / 10) * 10 + k % 10 = k by omega]
/-- the words to come -/
def Sm : List (Int32 × Int32) → Mem → Prop
  | [], _ => True
  | t :: ts, w => w 1 0 5 = t.1 ∧ (t.1 = 2 → w 1 0 8 = t.2) ∧ ∀ w2 : Mem, (∀ a b c, (a = 1 ∧ b = 0 ∧ (c = 1 ∨ c = 7)) ∨ a = 9 → w2 a b c = w a b c) → ∃ w3, f_X1_next w2 = some w3 ∧ NX w2 w3 ∧ Sm ts w3
def Ou (os : List Int32) (w : Mem) : Prop := w 1 0 3 = nI os.length ∧ Row w 10 0 os ∧ os.length ≤ 60
def NY (w w' : Mem) : Prop := ∀ a b c, ¬ (a = 1 ∧ b = 0 ∧ (c = 3 ∨ 5 ≤ c ∧ c ≤ 8)) → a ≠ 10 → w' a b c = w a b c
theorem NY.rf {w : Mem} : NY w w := fun _ _ _ _ _ => rfl
theorem NY.tr {w w1 w2 : Mem} (h : NY w w1) (h2 : NY w1 w2) : NY w w2 := fun a b c g1 g2 => (h2 a b c g1 g2).trans (h a b c g1 g2)
theorem NX.ny {w w' : Mem} (h : NX w w') : NY w w' := fun a b c g1 g2 => h a b c (fun z => g1 ⟨z.1, z.2.1, Or.inr z.2.2⟩)
theorem Ou.nx {os : List Int32} {w w' : Mem} (h : Ou os w) (hn : NX w w') : Ou os w' := ⟨by rw [hn 1 0 3 (by omega)]; exact h.1, fun j hj => by rw [hn 10 0 _ (by omega)]; exact h.2.1 j hj, h.2.2⟩
theorem Sm.of : ∀ {ts : List (Int32 × Int32)} {w w' : Mem}, Sm ts w → (∀ a b c, (a = 1 ∧ b = 0 ∧ (c = 1 ∨ c = 5 ∨ c = 7 ∨ c = 8)) ∨ a = 9 → w' a b c = w a b c) → Sm ts w' := by
  intro ts w w' h hk
  cases ts with
  | nil => trivial
  | cons t ts =>
    obtain ⟨h1, h2, h3⟩ := h
    exact ⟨by rw [hk 1 0 5 (by omega)]; exact h1, fun z => by rw [hk 1 0 8 (by omega)]; exact h2 z, fun w2 h => h3 w2 (fun a b c g => (h a b c g).trans (hk a b c (by omega)))⟩
theorem Sm.nx {t : Int32 × Int32} {ts : List (Int32 × Int32)} {w : Mem} (h : Sm (t :: ts) w) : ∃ w', f_X1_next w = some w' ∧ NX w w' ∧ Sm ts w' := h.2.2 w (fun _ _ _ _ => rfl)
theorem write_c {os : List Int32} {ts : List (Int32 × Int32)} {v : Int32} {w : Mem} (ho : Ou os w) (hs : Sm ts w) (hl : os.length < 60) : ∃ w', f_X1_write v w = some w' ∧ Ou (os ++ [v]) w' ∧ Sm ts w' ∧ NY w w' := by
  obtain ⟨h1, h2, h3⟩ := ho
  have e : setV w 10 0 (w 1 0 3) v = up w 10 0 os.length v := by rw [h1]; exact setV_n w 0 v (show os.length < lenK 10 by show os.length < 160; omega) (by decide)
  refine ⟨up (up w 10 0 os.length v) 1 0 3 (nI (os.length + 1)), ?_, ⟨?_, ?_, ?_⟩, hs.of (fun a b c g => by rw [up_n (by omega), up_n (by omega)]), fun a b c g1 g2 => by rw [up_n (fun z => g1 ⟨z.1, z.2.1, by omega⟩), up_k g2]⟩
  · unfold f_X1_write
    rw [e, up_k (by decide), h1, nI_1]
  · rw [up_s, List.length_append]; rfl
  · intro j hj
    rw [List.length_append] at hj
    have hj' : j < os.length + 1 := hj
    rw [up_k (by decide), Nat.zero_add]
    by_cases g : j = os.length
    · subst g
      rw [up_s, List.getD_eq_getElem?_getD, List.getElem?_append_right (Nat.le_refl _), Nat.sub_self]
      rfl
    · rw [up_j g, List.getD_eq_getElem?_getD, List.getElem?_append_left (by omega), ← List.getD_eq_getElem?_getD]
      have := h2 j (by omega)
      rw [Nat.zero_add] at this
      exact this
  · rw [List.length_append]; show os.length + 1 ≤ 60; omega
def PP (lv m : Nat) (a : Int32) (ts : List (Int32 × Int32)) (os : List Int32) (ts' : List (Int32 × Int32)) (os' : List Int32) : Prop := ∀ w, Sm ts w → Ou os w → ∃ w', rd m lv a w = some (1, w') ∧ Sm ts' w' ∧ Ou os' w' ∧ NY w w'
theorem one_v {m : Nat} {a v : Int32} {ts : List (Int32 × Int32)} {os : List Int32} (hl : os.length < 60) : PP 5 (m + 1) a ((2, v) :: ts) os ts (os ++ [v]) := by
  intro w hs ho
  obtain ⟨w1, l1, l2, l3, l4⟩ := write_c (v := v) ho hs hl
  obtain ⟨w2, m1, m2, m3⟩ := l3.nx
  refine ⟨w2, ?_, m3, l2.nx m2, l4.tr m2.ny⟩
  show f_X1_readsOne (rd m) a w = _
  unfold f_X1_readsOne j_X1_readsOne_21 j_X1_readsOne_40
  rw [hs.1, if_pos rfl, if_neg (show ¬ ((2 : Int32), v).1 < 0 by show ¬ (2 : Int32) < 0; decide), hs.2.1 rfl, l1, Option.bind_some, m1, Option.bind_some]
theorem one_n {m : Nat} {a c v : Int32} {ts : List (Int32 × Int32)} {os : List Int32} (hc : c < 0) (hc2 : ¬ c = 2) (hl : os.length < 60) : PP 5 (m + 1) a ((c, v) :: ts) os ts (os ++ [c]) := by
  intro w hs ho
  obtain ⟨w1, l1, l2, l3, l4⟩ := write_c (v := c) ho hs hl
  obtain ⟨w2, m1, m2, m3⟩ := l3.nx
  refine ⟨w2, ?_, m3, l2.nx m2, l4.tr m2.ny⟩
  show f_X1_readsOne (rd m) a w = _
  unfold f_X1_readsOne j_X1_readsOne_21 j_X1_readsOne_40
  rw [hs.1, if_neg (show ¬ (c, v).1 = 2 from hc2), if_pos (show (c, v).1 < 0 from hc), if_pos (show (c, v).1 < 0 from hc), l1, Option.bind_some, m1, Option.bind_some]
theorem one_p {m : Nat} {a v v2 : Int32} {ts ts' : List (Int32 × Int32)} {os os' : List Int32} (ha : a < 5) (h : PP 0 m (a + 1) ts os ((41, v2) :: ts') os') : PP 5 (m + 1) a ((40, v) :: ts) os ts' os' := by
  intro w hs ho
  obtain ⟨w1, m1, m2, m3⟩ := hs.nx
  obtain ⟨w2, n1, n2, n3, n4⟩ := h w1 m3 (ho.nx m2)
  obtain ⟨w3, o1, o2, o3⟩ := n2.nx
  refine ⟨w3, ?_, o3, n3.nx o2, (m2.ny.tr n4).tr o2.ny⟩
  show f_X1_readsOne (rd m) a w = _
  unfold f_X1_readsOne j_X1_readsOne_67 j_X1_readsOne_88
  rw [hs.1, if_neg (show ¬ ((40 : Int32), v).1 = 2 by show ¬ (40 : Int32) = 2; decide), if_neg (show ¬ ((40 : Int32), v).1 < 0 by show ¬ (40 : Int32) < 0; decide), if_neg (show ¬ ((40 : Int32), v).1 = 45 by show ¬ (40 : Int32) = 45; decide), if_pos rfl, if_pos ha, if_neg (show ¬ ((40 : Int32), v).1 = 45 by show ¬ (40 : Int32) = 45; decide), m1, Option.bind_some, if_pos rfl, n1, Option.bind_some]
  dsimp only
  rw [if1]
  refine (if_pos n2.1).trans ?_
  rw [o1, Option.bind_some]
theorem term_0 {m : Nat} {a : Int32} {ts ts' : List (Int32 × Int32)} {t : Int32 × Int32} {os os' : List Int32} (ht : ¬ t.1 = 42) (h : PP 5 m a ts os (t :: ts') os') : PP 4 (m + 1) a ts os (t :: ts') os' := by
  intro w hs ho
  obtain ⟨w2, n1, n2, n3, n4⟩ := h w hs ho
  refine ⟨w2, ?_, n2, n3, n4⟩
  show f_X1_readsTerm (rd m) a w = _
  unfold f_X1_readsTerm
  rw [n1, Option.bind_some]
  dsimp only
  rw [if1]
  show h_X1_readsTerm_16 (rd m) a (fun w9 => some (1, w9)) (999999 + 1) 0 w2 = _
  unfold h_X1_readsTerm_16
  rw [if_pos (by decide), n2.1, if_neg ht]
theorem term_1 {m : Nat} {a v : Int32} {ts ts1 ts' : List (Int32 × Int32)} {t : Int32 × Int32} {os os1 os' : List Int32} (ht : ¬ t.1 = 42) (h : PP 5 m a ts os ((42, v) :: ts1) os1) (h2 : PP 5 m a ts1 os1 (t :: ts') os') (hl : os'.length < 60) : PP 4 (m + 1) a ts os (t :: ts') (os' ++ [-14]) := by
  intro w hs ho
  obtain ⟨w2, n1, n2, n3, n4⟩ := h w hs ho
  obtain ⟨w3, m1, m2, m3⟩ := n2.nx
  obtain ⟨w4, o1, o2, o3, o4⟩ := h2 w3 m3 (n3.nx m2)
  obtain ⟨w5, p1, p2, p3, p4⟩ := write_c (v := -14) o3 o2 hl
  refine ⟨w5, ?_, p3, p2, ((n4.tr m2.ny).tr o4).tr p4⟩
  show f_X1_readsTerm (rd m) a w = _
  unfold f_X1_readsTerm
  rw [n1, Option.bind_some]
  dsimp only
  rw [if1]
  show h_X1_readsTerm_16 (rd m) a (fun w9 => some (1, w9)) (999998 + 1 + 1) 0 w2 = _
  unfold h_X1_readsTerm_16
  rw [if_pos (by decide), n2.1, if_pos rfl, m1, Option.bind_some, o1, Option.bind_some]
  dsimp only
  rw [if1, p1, Option.bind_some]
  unfold h_X1_readsTerm_16
  rw [if_pos (by decide), p3.1, if_neg ht]
