/-! the reader's state and the reference's -/
theorem BH_le {T : Nat → Int32} {n a : Nat} (h : a ≤ n) : BH T n a ≤ n ∧ a ≤ BH T n a := by
  have h1 : skp T n a ≤ n := runP_le _ _ h
  have h2 : a ≤ skp T n a := runP_ge _ _
  unfold BH
  split
  · rename_i hp
    split
    · exact ⟨runP_le _ _ (by omega), Nat.le_trans h2 (runP_ge _ _)⟩
    · split
      · exact ⟨runP_le _ _ (by omega), Nat.le_trans h2 (runP_ge _ _)⟩
      · omega
  · omega
theorem BH_gt {T : Nat → Int32} {n a : Nat} (h : TK T n a ≠ 0) : a < BH T n a := by
  have h2 : a ≤ skp T n a := runP_ge _ _
  unfold TK at h
  unfold BH
  by_cases hp : skp T n a < n
  · rw [if_pos hp]
    by_cases hl : isLt (T (skp T n a)) = true
    · rw [if_pos hl]
      have : wend T n (skp T n a) = wend T n (skp T n a + 1) := by unfold wend; exact runP_step hp hl
      have h3 : skp T n a + 1 ≤ wend T n (skp T n a + 1) := runP_ge _ _
      omega
    · rw [if_neg hl]
      by_cases hd : isDg (T (skp T n a)) = true
      · rw [if_pos hd]
        have : dend T n (skp T n a) = dend T n (skp T n a + 1) := by unfold dend; exact runP_step hp hd
        have h3 : skp T n a + 1 ≤ dend T n (skp T n a + 1) := runP_ge _ _
        omega
      · rw [if_neg hd]; omega
  · rw [if_neg hp] at h; exact absurd rfl h
theorem TK_in {T : Nat → Int32} {n a : Nat} (h : TK T n a ≠ 0) : a < n := by
  have h2 : a ≤ skp T n a := runP_ge _ _
  unfold TK at h
  by_cases hp : skp T n a < n
  · omega
  · rw [if_neg hp] at h; exact absurd rfl h
/-- the class's codes so far -/
def CO (OC : List Int32) (w : Mem) : Prop := w 1 0 3 = nI OC.length ∧ ∀ j, j < OC.length → w 10 0 j = OC.getD j 0
/-- the class's token -/
def CT (T : Nat → Int32) (n a : Nat) (w : Mem) : Prop := w 1 0 5 = TK T n a ∧ w 1 0 6 = nI (skp T n a) ∧ w 1 0 7 = nI (BH T n a) ∧ (TK T n a = 2 → w 1 0 8 = NM T n a)
def CSt (T : Nat → Int32) (n a : Nat) (OC : List Int32) (w : Mem) : Prop := TpC T n w ∧ a ≤ n ∧ CT T n a w ∧ CO OC w
def FrR (w w' : Mem) : Prop := ∀ x y z, ¬ (x = 1 ∧ y = 0 ∧ 3 ≤ z) → x ≠ 10 → w' x y z = w x y z
theorem FrR.rf {w : Mem} : FrR w w := fun _ _ _ _ _ => rfl
theorem FrR.tr {w w1 w2 : Mem} (h : FrR w w1) (h2 : FrR w1 w2) : FrR w w2 := fun x y z a b => (h2 x y z a b).trans (h x y z a b)
theorem getD_app {L : List Int32} {c : Int32} {j : Nat} (h : j < L.length) : (L ++ [c]).getD j 0 = L.getD j 0 := by
  rw [List.getD_eq_getElem?_getD, List.getD_eq_getElem?_getD, List.getElem?_append_left h]
theorem getD_last {L : List Int32} {c : Int32} : (L ++ [c]).getD L.length 0 = c := by
  rw [List.getD_eq_getElem?_getD, List.getElem?_append_right (Nat.le_refl _), Nat.sub_self]; rfl
theorem len1 (L : List Int32) (c : Int32) : (L ++ [c]).length = L.length + 1 := by rw [List.length_append]; rfl
theorem write_c {OC : List Int32} {w : Mem} (h : CO OC w) (hl : OC.length < 160) (c : Int32) : ∃ w', f_X1_write c w = some w' ∧ CO (OC ++ [c]) w' ∧ ∀ x y z, ¬ (x = 1 ∧ y = 0 ∧ z = 3) → x ≠ 10 → w' x y z = w x y z := by
  unfold f_X1_write
  rw [h.1, setV_n w 0 c (show OC.length < lenK 10 from hl) (by decide)]
  refine ⟨_, rfl, ⟨?_, fun j hj => ?_⟩, fun x y z h1 h2 => ?_⟩
  · rw [up_s, up_k (by decide), h.1, nI_1, len1]
  · rw [len1] at hj
    rw [up_k (by decide)]
    by_cases e : j = OC.length
    · subst e; rw [up_s, getD_last]
    · rw [up_j e, getD_app (by omega)]; exact h.2 j (by omega)
  · rw [up_n h1, up_k h2]
theorem write_st {T : Nat → Int32} {n a : Nat} {OC : List Int32} {w : Mem} (h : CSt T n a OC w) (hl : OC.length < 160) (c : Int32) : ∃ w', f_X1_write c w = some w' ∧ CSt T n a (OC ++ [c]) w' ∧ FrR w w' := by
  obtain ⟨w', e, ho, f⟩ := write_c h.2.2.2 hl c
  obtain ⟨h1, h2, ⟨h5, h6, h7, h8⟩, -⟩ := h
  refine ⟨w', e, ⟨h1.of (f 1 0 1 (by decide) (by decide)) (fun c => f 9 0 c (by omega) (by omega)), h2, ⟨(f 1 0 5 (by decide) (by decide)).trans h5, (f 1 0 6 (by decide) (by decide)).trans h6, (f 1 0 7 (by decide) (by decide)).trans h7, fun z => (f 1 0 8 (by decide) (by decide)).trans (h8 z)⟩, ho⟩, fun x y z h1 h2 => f x y z (fun q => h1 ⟨q.1, q.2.1, by omega⟩) h2⟩
theorem next_st {T : Nat → Int32} {n a : Nat} {OC : List Int32} {w : Mem} (hb : Byt T n) (h : CSt T n a OC w) : ∃ w', f_X1_next w = some w' ∧ CSt T n (BH T n a) OC w' ∧ FrR w w' := by
  obtain ⟨h1, h2, ⟨h5, h6, h7, h8⟩, ho⟩ := h
  have hb2 := BH_le (T := T) h2
  obtain ⟨w', e, e5, e6, e7, e8, f⟩ := next_c h1 hb hb2.1 h7
  refine ⟨w', e, ⟨h1.of (f 1 0 1 (by decide)) (fun c => f 9 0 c (by omega)), hb2.1, ⟨e5, e6, e7, e8⟩, ⟨(f 1 0 3 (by decide)).trans ho.1, fun j hj => (f 10 0 j (by omega)).trans (ho.2 j hj)⟩⟩, fun x y z h1 h2 => f x y z (fun q => h1 ⟨q.1, q.2.1, by omega⟩)⟩
/-! the reference's signs that are held -/
def rk (c : Int32) : Nat := if c = 0 then 0 else if c = 11 then 1 else if c = 12 then 2 else if c = 13 then 3 else if c ≤ 15 then 4 else if c ≤ 17 then 5 else if c = 18 then 6 else 7
theorem rk_7 (c : Int32) : rk c ≤ 7 := by
  unfold rk
  repeat' split
  all_goals omega
theorem rank_r (c : Int32) (w : Mem) : f_X5_rank c w = some (nI (rk c), w) := by
  unfold f_X5_rank rk
  repeat' split
  all_goals rfl
def opn : List Int32 → Nat
  | [] => 0
  | c :: r => (if c = 0 ∨ c = 13 ∨ c = 19 then 1 else 0) + opn r
def unw (l : Nat) : List Int32 → List Int32 → List Int32 × List Int32
  | [], O => ([], O)
  | c :: r, O => if l ≤ rk c then unw l r (O ++ [c]) else (c :: r, O)
theorem unw_len (l : Nat) : ∀ (S O : List Int32), (unw l S O).1.length + (unw l S O).2.length = S.length + O.length := by
  intro S
  induction S with
  | nil => intro O; rfl
  | cons c r ih =>
    intro O
    unfold unw
    split
    · rw [ih, len1]; show _ = r.length + 1 + _; omega
    · rfl
theorem unw_le (l : Nat) : ∀ (S O : List Int32), (unw l S O).1.length ≤ S.length := by
  intro S
  induction S with
  | nil => intro O; exact Nat.le_refl _
  | cons c r ih =>
    intro O
    unfold unw
    split
    · exact Nat.le_succ_of_le (ih _)
    · exact Nat.le_refl _
theorem unw_unw {l m : Nat} (h : l ≤ m) : ∀ (S O : List Int32), unw l (unw m S O).1 (unw m S O).2 = unw l S O := by
  intro S
  induction S with
  | nil => intro O; rfl
  | cons c r ih =>
    intro O
    show unw l (if m ≤ rk c then unw m r (O ++ [c]) else (c :: r, O)).1 (if m ≤ rk c then unw m r (O ++ [c]) else (c :: r, O)).2 = _
    split
    · rename_i hm
      rw [ih]
      conv => rhs; unfold unw
      rw [if_pos (by omega)]
    · rfl
theorem unw_top {l : Nat} {c : Int32} {r O : List Int32} (h : rk c < l) : unw l (c :: r) O = (c :: r, O) := by
  show (if l ≤ rk c then _ else _) = _
  rw [if_neg (by omega)]
theorem unw_pop {l : Nat} {c : Int32} {r O : List Int32} (h : l ≤ rk c) : unw l (c :: r) O = unw l r (O ++ [c]) := if_pos h
/-- the sign on top binds less -/
def Top (l : Nat) : List Int32 → Prop
  | [] => True
  | c :: _ => rk c < l
theorem Top.un {l : Nat} {S : List Int32} (h : Top l S) (O : List Int32) : unw l S O = (S, O) := by
  match S, h with
  | [], _ => rfl
  | c :: r, h => exact unw_top h
theorem Top.mono {l m : Nat} {S : List Int32} (h : Top l S) (hm : l ≤ m) : Top m S := by
  match S, h with
  | [], _ => exact trivial
  | c :: r, h => exact Nat.lt_of_lt_of_le h hm
def RSt (T : Nat → Int32) (n t a : Nat) (S O : List Int32) (w : Mem) : Prop := TpR T n w ∧ w 5 0 19 = nI a ∧ w 5 0 25 = nI S.length ∧ Rep w 33 S ∧ w 5 0 26 = nI (opn S) ∧ w 5 0 27 = nI O.length ∧ w 5 0 10 = nI t ∧ ∀ j, j < O.length → w 24 0 (200 * t + j) = O.getD j 0
def FrX (t : Nat) (w w' : Mem) : Prop := ∀ x y z, ¬ (x = 5 ∧ y = 0 ∧ 19 ≤ z ∧ z ≤ 27) → x ≠ 33 → ¬ (x = 24 ∧ y = 0 ∧ 200 * t ≤ z) → w' x y z = w x y z
theorem FrX.rf {t : Nat} {w : Mem} : FrX t w w := fun _ _ _ _ _ _ => rfl
theorem FrX.tr {t : Nat} {w w1 w2 : Mem} (h : FrX t w w1) (h2 : FrX t w1 w2) : FrX t w w2 := fun x y z a b c => (h2 x y z a b c).trans (h x y z a b c)
theorem Only5.x {t : Nat} {w w' : Mem} (h : Only5 w w') : FrX t w w' := fun x y z a _ _ => h x y z (fun q => a ⟨q.1, q.2.1, by omega, by omega⟩)
theorem Rep_k {w w' : Mem} {k : Nat} (h : ∀ j, w' k 0 j = w k 0 j) : ∀ {S : List Int32}, Rep w k S → Rep w' k S := by
  intro S
  induction S with
  | nil => intro _; exact trivial
  | cons c r ih => intro h2; exact ⟨(h _).trans h2.1, ih h2.2⟩
theorem RSt.of {T : Nat → Int32} {n t a a' : Nat} {S O : List Int32} {w w' : Mem} (h : RSt T n t a S O w) (hf : Only5 w w') (h19 : w' 5 0 19 = nI a') : RSt T n t a' S O w' := by
  obtain ⟨h1, h2, h3, h4, h5, h6, h7, h8⟩ := h
  exact ⟨h1.of (hf 5 0 7 (by decide)) (fun c => hf 23 0 c (by omega)) (fun c => hf 32 0 c (by omega)), h19, (hf 5 0 25 (by decide)).trans h3, Rep_k (fun j => hf 33 0 j (by omega)) h4, (hf 5 0 26 (by decide)).trans h5, (hf 5 0 27 (by decide)).trans h6, (hf 5 0 10 (by decide)).trans h7, fun j hj => (hf 24 0 _ (by omega)).trans (h8 j hj)⟩
theorem next_rs {T : Nat → Int32} {n t a : Nat} {S O : List Int32} {w : Mem} (h : RSt T n t a S O w) (ha : a ≤ n) : ∃ w', f_X5_next w = some w' ∧ RSt T n t (BH T n a) S O w' ∧ w' 5 0 21 = RT (TK T n a) ∧ w' 5 0 20 = nI (skp T n a) ∧ RV (TK T n a) (w' 5 0 22) (NM T n a) ∧ FrX t w w' := by
  obtain ⟨w', e, e1, e2, e3, e4, e5⟩ := next_r h.1 ha h.2.1
  exact ⟨w', e, h.of e5 e3, e1, e2, e4, e5.x⟩
theorem puts_r {T : Nat → Int32} {n t a : Nat} {S O : List Int32} {w : Mem} (h : RSt T n t a S O w) (ht : t < 6) (hO : O.length < 200) (c : Int32) : ∃ w', f_X5_puts c w = some w' ∧ RSt T n t a S (O ++ [c]) w' ∧ FrX t w w' ∧ w' 5 0 20 = w 5 0 20 ∧ w' 5 0 21 = w 5 0 21 := by
  obtain ⟨h1, h2, h3, h4, h5, h6, h7, h8⟩ := h
  unfold f_X5_puts
  have e : 200 * nI t + nI O.length = nI (200 * t + O.length) := by rw [show (200 : Int32) = nI 200 from rfl, nI_mul, nI_add]
  rw [h7, h6, e, if_pos (nI_in (by omega) (by omega)), show tn (nI (200 * t + O.length)) = 200 * t + O.length from nI_clamp (by omega)]
  refine ⟨_, rfl, ⟨h1.of (by rw [up_j (by decide), up_k (by decide)]) (fun c => by rw [up_k (by decide), up_k (by decide)]) (fun c => by rw [up_k (by decide), up_k (by decide)]), by rw [up_j (by decide), up_k (by decide)]; exact h2, by rw [up_j (by decide), up_k (by decide)]; exact h3, Rep_k (fun j => by rw [up_k (by decide), up_k (by decide)]) h4, by rw [up_j (by decide), up_k (by decide)]; exact h5, by rw [up_s, up_k (by decide), h6, nI_1, len1], by rw [up_j (by decide), up_k (by decide)]; exact h7, fun j hj => ?_⟩, fun x y z hx hy hz => ?_, by rw [up_j (by decide), up_k (by decide)], by rw [up_j (by decide), up_k (by decide)]⟩
  · rw [len1] at hj
    rw [up_k (by decide)]
    by_cases ej : j = O.length
    · subst ej; rw [up_s, getD_last]
    · rw [up_j (by omega), getD_app (by omega)]; exact h8 j (by omega)
  · rw [up_n (fun q => hx ⟨q.1, q.2.1, by omega, by omega⟩), up_n (fun q => hz ⟨q.1, q.2.1, by omega⟩)]
theorem hold_r {T : Nat → Int32} {n t a : Nat} {S O : List Int32} {w : Mem} (h : RSt T n t a S O w) (hS : S.length < 200) {c : Int32} (hc : ¬ (c = 0 ∨ c = 13 ∨ c = 19)) : ∃ w', f_X5_holds c w = some w' ∧ RSt T n t a (c :: S) O w' ∧ FrX t w w' := by
  obtain ⟨h1, h2, h3, h4, h5, h6, h7, h8⟩ := h
  unfold f_X5_holds
  rw [h3, if_pos (nI_in hS (by omega)), show tn (nI S.length) = S.length from nI_clamp (by omega)]
  refine ⟨_, rfl, ⟨h1.of (by rw [up_j (by decide), up_k (by decide)]) (fun c => by rw [up_k (by decide), up_k (by decide)]) (fun c => by rw [up_k (by decide), up_k (by decide)]), by rw [up_j (by decide), up_k (by decide)]; exact h2, by rw [up_s, up_k (by decide), h3, nI_1]; rfl, Rep_k (fun j => by rw [up_k (by decide)]) (Rep_push h4), ?_, by rw [up_j (by decide), up_k (by decide)]; exact h6, by rw [up_j (by decide), up_k (by decide)]; exact h7, fun j hj => by rw [up_k (by decide), up_k (by decide)]; exact h8 j hj⟩, fun x y z hx hy hz => ?_⟩
  · rw [up_j (by decide), up_k (by decide), h5]
    show _ = nI ((if c = 0 ∨ c = 13 ∨ c = 19 then 1 else 0) + opn S)
    rw [if_neg hc, Nat.zero_add]
  · rw [up_n (fun q => hx ⟨q.1, q.2.1, by omega, by omega⟩), up_k hy]
theorem open_r {T : Nat → Int32} {n t a : Nat} {S O : List Int32} {w : Mem} (h : RSt T n t a S O w) (hS : S.length < 200) (ho : opn S < 5) {c : Int32} (hc : c = 0 ∨ c = 13 ∨ c = 19) : ∃ w', f_X5_opensOne c w = some (1, w') ∧ RSt T n t a (c :: S) O w' ∧ FrX t w w' := by
  obtain ⟨h1, h2, h3, h4, h5, h6, h7, h8⟩ := h
  unfold f_X5_opensOne f_X5_holds
  rw [h5, if_neg (show ¬ nI (opn S) = 5 from fun z => by have := (nI_eq (b := 5) (by omega) (by omega)).mp z; omega), up_j (show (25 : Nat) ≠ 26 by decide), h3, if_pos (nI_in hS (by omega)), show tn (nI S.length) = S.length from nI_clamp (by omega), ob]
  refine ⟨_, rfl, ⟨h1.of (by rw [up_j (by decide), up_k (by decide), up_j (by decide)]) (fun c => by rw [up_k (by decide), up_k (by decide), up_k (by decide)]) (fun c => by rw [up_k (by decide), up_k (by decide), up_k (by decide)]), by rw [up_j (by decide), up_k (by decide), up_j (by decide)]; exact h2, by rw [up_s, up_k (by decide), up_j (by decide), h3, nI_1]; rfl, Rep_k (fun j => by rw [up_k (by decide)]) (Rep_push (Rep_k (fun j => by rw [up_k (by decide)]) h4)), ?_, by rw [up_j (by decide), up_k (by decide), up_j (by decide)]; exact h6, by rw [up_j (by decide), up_k (by decide), up_j (by decide)]; exact h7, fun j hj => by rw [up_k (by decide), up_k (by decide), up_k (by decide)]; exact h8 j hj⟩, fun x y z hx hy hz => ?_⟩
  · rw [up_j (by decide), up_k (by decide), up_s, nI_1]
    show _ = nI ((if c = 0 ∨ c = 13 ∨ c = 19 then 1 else 0) + opn S)
    rw [if_pos hc, Nat.add_comm]
  · rw [up_n (fun q => hx ⟨q.1, q.2.1, by omega, by omega⟩), up_k hy, up_n (fun q => hx ⟨q.1, q.2.1, by omega, by omega⟩)]
theorem open_no {T : Nat → Int32} {n t a : Nat} {S O : List Int32} {w : Mem} (h : RSt T n t a S O w) (ho : opn S = 5) (c : Int32) : f_X5_opensOne c w = some (0, w) := by
  unfold f_X5_opensOne
  rw [h.2.2.2.2.1, ho, if_pos (show nI 5 = 5 from rfl)]
theorem unwinds_r {T : Nat → Int32} {n t a l : Nat} (ht : t < 6) (hl1 : 1 ≤ l) (hl7 : l ≤ 7) : ∀ (S O : List Int32) (m : Nat) (w : Mem), RSt T n t a S O w → S.length + O.length ≤ 190 → S.length < m → ∃ w', h_X5_unwinds_0 (nI l) (fun w9 => some w9) m w = some w' ∧ RSt T n t a (unw l S O).1 (unw l S O).2 w' ∧ FrX t w w' ∧ w' 5 0 20 = w 5 0 20 ∧ w' 5 0 21 = w 5 0 21 := by
  intro S
  induction S with
  | nil =>
    intro O m w h hso hm
    obtain ⟨m, rfl⟩ : ∃ q, m = q + 1 := ⟨m - 1, by omega⟩
    refine ⟨w, ?_, h, .rf, rfl, rfl⟩
    unfold h_X5_unwinds_0
    rw [h.2.2.1, if_pos (show nI ([] : List Int32).length ≤ 0 by decide)]
  | cons c r ih =>
    intro O m w h hso hm
    obtain ⟨m, rfl⟩ : ∃ q, m = q + 1 := ⟨m - 1, by omega⟩
    have hlen : (c :: r).length = r.length + 1 := rfl
    obtain ⟨h1, h2, h3, h4, h5, h6, h7, h8⟩ := id h
    have e25 : nI (c :: r).length - 1 = nI r.length := nI_pred r.length
    have i1 : inB (nI r.length) 200 := nI_in (by omega) (by omega)
    have t1 : tn (nI r.length) = r.length := nI_clamp (by omega)
    unfold h_X5_unwinds_0
    rw [h3, if_neg (show ¬ nI (c :: r).length ≤ 0 from nI_nle (by rw [hlen]; omega) (by omega)), e25, if_pos i1, t1, h4.1, rank_r, ob]
    simp only [h3, e25]
    by_cases hr : rk c < l
    · rw [if_pos (nI_lt hr (by omega)), unw_top hr]
      exact ⟨w, rfl, h, .rf, rfl, rfl⟩
    · have hc0 : c ≠ 0 := fun z => by subst z; exact hr (by show 0 < l; omega)
      rw [if_neg (nI_nlt (by omega) (by have := rk_7 c; omega)), up_s, if_pos i1, t1, up_k (show (33 : Nat) ≠ 5 by decide), h4.1, unw_pop (by omega)]
      have go : ∀ d : Int32, nI (opn (c :: r)) - d = nI (opn r) → ∃ w', j_X5_unwinds_67 (h_X5_unwinds_0 (nI l) (fun w9 => some w9) m) (nI l) c d (up w 5 0 25 (nI r.length) 5 0 26) (up w 5 0 25 (nI r.length)) = some w' ∧ RSt T n t a (unw l r (O ++ [c])).1 (unw l r (O ++ [c])).2 w' ∧ FrX t w w' ∧ w' 5 0 20 = w 5 0 20 ∧ w' 5 0 21 = w 5 0 21 := by
        intro d hd
        unfold j_X5_unwinds_67
        rw [up_j (show (26 : Nat) ≠ 25 by decide), h5, hd]
        have h0 : RSt T n t a r O (up (up w 5 0 25 (nI r.length)) 5 0 26 (nI (opn r))) :=
          ⟨(h1.up (by decide)).up (by decide), by rw [up_j (by decide), up_j (by decide)]; exact h2, by rw [up_j (by decide), up_s], Rep_k (fun j => by rw [up_k (by decide), up_k (by decide)]) h4.2, up_s _ _ _ _ _, by rw [up_j (by decide), up_j (by decide)]; exact h6, by rw [up_j (by decide), up_j (by decide)]; exact h7, fun j hj => by rw [up_k (by decide), up_k (by decide)]; exact h8 j hj⟩
        obtain ⟨w1, p1, p2, p3, p4, p5⟩ := puts_r h0 ht (by omega) c
        rw [p1, ob]
        obtain ⟨w2, q1, q2, q3, q4, q5⟩ := ih (O ++ [c]) m w1 p2 (by rw [len1]; omega) (by omega)
        refine ⟨w2, q1, q2, ?_, ?_, ?_⟩
        · refine FrX.tr (fun x y z hx hy hz => ?_) (p3.tr q3)
          rw [up_n (fun q => hx ⟨q.1, q.2.1, by omega, by omega⟩), up_n (fun q => hx ⟨q.1, q.2.1, by omega, by omega⟩)]
        · rw [q4, p4, up_j (by decide), up_j (by decide)]
        · rw [q5, p5, up_j (by decide), up_j (by decide)]
      have ho : opn (c :: r) = (if c = 0 ∨ c = 13 ∨ c = 19 then 1 else 0) + opn r := rfl
      unfold j_X5_unwinds_62
      by_cases h13 : c = 13
      · rw [if_pos h13]
        exact go 1 (by rw [ho, if_pos (Or.inr (Or.inl h13)), Nat.add_comm]; exact nI_pred _)
      · rw [if_neg h13]
        by_cases h19 : c = 19
        · rw [if_pos h19]
          exact go 1 (by rw [ho, if_pos (Or.inr (Or.inr h19)), Nat.add_comm]; exact nI_pred _)
        · rw [if_neg h19]
          exact go 0 (by rw [ho, if_neg (by rintro (z | z | z); exact hc0 z; exact h13 z; exact h19 z), Nat.zero_add]; exact Int32.sub_zero _)
theorem unwinds_st {T : Nat → Int32} {n t a l : Nat} {S O : List Int32} {w : Mem} (ht : t < 6) (hl1 : 1 ≤ l) (hl7 : l ≤ 7) (h : RSt T n t a S O w) (hso : S.length + O.length ≤ 190) : ∃ w', f_X5_unwinds (nI l) w = some w' ∧ RSt T n t a (unw l S O).1 (unw l S O).2 w' ∧ FrX t w w' ∧ w' 5 0 20 = w 5 0 20 ∧ w' 5 0 21 = w 5 0 21 :=
  unwinds_r ht hl1 hl7 S O FU w h hso (by show S.length < 1000000; omega)
