/-! the parsers, step by step -/
noncomputable def KK : Mem → Option (Int32 × Mem) := fun w28 => Option.bind (f_X5_unwinds 1 w28) (fun r29 => if (r29 5 0 25) = 0 then (some (1, r29)) else (some (0, r29)))
theorem rd_0 (m : Nat) (a : Int32) (w : Mem) : rd (m + 1) 0 a w = f_X1_readsE (rd m) a w := Eq.trans rfl rfl
theorem rd_1 (m : Nat) (a : Int32) (w : Mem) : rd (m + 1) 1 a w = f_X1_readsAnd (rd m) a w := Eq.trans rfl rfl
theorem rd_2 (m : Nat) (a : Int32) (w : Mem) : rd (m + 1) 2 a w = f_X1_readsNot (rd m) a w := Eq.trans rfl rfl
theorem rd_3 (m : Nat) (a : Int32) (w : Mem) : rd (m + 1) 3 a w = f_X1_readsSum (rd m) a w := Eq.trans rfl rfl
theorem rd_4 (m : Nat) (a : Int32) (w : Mem) : rd (m + 1) 4 a w = f_X1_readsTerm (rd m) a w := Eq.trans rfl rfl
theorem rd_5 (m : Nat) (a : Int32) (w : Mem) : rd (m + 1) 5 a w = f_X1_readsOne (rd m) a w := Eq.trans rfl rfl
def lv (k : Nat) : Nat := [1, 2, 3, 5, 6, 7].getD k 7
def tp (k : Nat) : Nat := [1, 2, 4, 5, 6, 8].getD k 8
def Okp (d0 : Nat) (C : List Int32) : Prop := ∀ d rest, d ≤ d0 → okC rest (d + 1) → okC (C ++ rest) d
def Post (k : Nat) (tk : Int32) (S2 O2 : List Int32) : Prop := (k ≤ 4 → tk ≠ 42) ∧ (k ≤ 3 → tk ≠ 43 ∧ tk ≠ 45) ∧ (k ≤ 2 → (tk = 60 ∨ tk = 61) → ∃ c r, (unw 5 S2 O2).1 = c :: r ∧ rk c = 4) ∧ (k ≤ 1 → tk ≠ 7) ∧ (k = 0 → tk ≠ 6)
def Pre (T : Nat → Int32) (n t k o a : Nat) (S OC : List Int32) (mn : Int32) (wc wr : Mem) : Prop := CSt T n a OC wc ∧ RSt T n t a S (OC.map cmap) wr ∧ opn S = o ∧ o ≤ 5 ∧ Top (tp k) S ∧ S.length + OC.length ≤ a ∧ (k ≤ 2 → mn = 1) ∧ (3 ≤ k → mn = 0 ∨ TK T n a ≠ 8)
/-- the class has read what it should; the reference is as far -/
def Won (T : Nat → Int32) (n t k d0 l a : Nat) (S OC : List Int32) (mn : Int32) (res : Option (Int32 × Mem)) (wc wr : Mem) : Prop := ∃ (a' : Nat) (C : List Int32) (wc' wr' : Mem) (S2 O2 : List Int32) (j : Nat) (mn' : Int32), res = some (1, wc') ∧ CSt T n a' (OC ++ C) wc' ∧ FrR wc wc' ∧ (∀ x, h_X5_eRead_14 KK (x + j) 1 mn wr = h_X5_eRead_14 KK x 0 mn' wr') ∧ RSt T n t a' S2 O2 wr' ∧ FrX t wr wr' ∧ unw l S2 O2 = unw l S ((OC ++ C).map cmap) ∧ a + 1 ≤ a' ∧ a + C.length ≤ a' ∧ a + j ≤ a' ∧ Okp d0 C ∧ Post k (TK T n a') S2 O2
/-- both have a fault, at one place -/
def Lost (T : Nat → Int32) (n t a : Nat) (mn : Int32) (res : Option (Int32 × Mem)) (wc wr : Mem) : Prop := ∃ (wc' wr' : Mem) (q j : Nat), res = some (0, wc') ∧ wc' 1 0 6 = nI q ∧ q ≤ n ∧ FrR wc wc' ∧ (∀ x, h_X5_eRead_14 KK (x + j) 1 mn wr = some (0, wr')) ∧ wr' 5 0 20 = nI q ∧ FrX t wr wr' ∧ a + j ≤ n + 1
theorem skp_le {T : Nat → Int32} {n a : Nat} (h : a ≤ n) : skp T n a ≤ n := runP_le _ _ h
theorem TK_neg {T : Nat → Int32} {n a : Nat} (h : TK T n a < 0) : TK T n a = -1 ∨ TK T n a = -2 ∨ TK T n a = -3 ∨ TK T n a = -4 ∨ TK T n a = -5 ∨ TK T n a = -6 := by
  unfold TK at h ⊢
  split at h
  · rename_i hp
    rw [if_pos hp]
    split at h
    · rename_i hl
      rw [if_pos hl]
      rcases tokW_rel (Lw T (skp T n a) (wend T n (skp T n a))) with ⟨e, -⟩ | ⟨e, -⟩ | ⟨e, -⟩ | ⟨e, -⟩ | ⟨e, -⟩ | ⟨e, -⟩ | ⟨e, -⟩ | ⟨e, -⟩ | ⟨e, -⟩ | ⟨e, -⟩ | ⟨e, -⟩ | ⟨e, -⟩ | ⟨e, -⟩ <;> rw [e] at h ⊢ <;> first | exact absurd h (by decide) | decide
    · split at h
      · split at h
        · exact absurd h (by decide)
        · exact absurd h (by decide)
      · split at h
        · rename_i hs
          exact absurd h (sg_n2 hs).2.1
        · exact absurd h (by decide)
  · exact absurd h (by decide)
theorem nmv_b {T : Nat → Int32} {p : Nat} : ∀ k, k ≤ 4 → (∀ j, j < k → isDg (T (p + j)) = true) → ∃ v, v < 10 ^ k ∧ nmv T p k = nI v := by
  intro k
  induction k with
  | zero => intro _ _; exact ⟨0, by decide, rfl⟩
  | succ k ih =>
    intro hk hd
    obtain ⟨v, hv, e⟩ := ih (by omega) (fun j hj => hd j (by omega))
    have h1 := of_decide_eq_true (hd k (by omega))
    obtain ⟨d, hd9, ed⟩ := nI_of2 (M := 57) (n := 57) rfl (Int32.not_lt.mpr (Int32.le_trans (show (0 : Int32) ≤ 48 by decide) h1.1)) h1.2
    have h48 : 48 ≤ d := by
      rw [ed] at h1
      exact (nI_leI (a := 48) (b := d) (by omega) (by omega)).mp h1.1
    have h10 : 10 ^ k ≤ 10 ^ 3 := Nat.pow_le_pow_right (by omega) (by omega)
    refine ⟨v * 10 + (d - 48), by rw [Nat.pow_succ]; omega, ?_⟩
    show (if k < 4 then nmv T p k * 10 + T (p + k) - 48 else 0) = _
    rw [if_pos (by omega), e, ed, show (10 : Int32) = nI 10 from rfl, nI_mul, nI_add, show (48 : Int32) = nI 48 from rfl, nI_sub (by omega)]
    congr 1; omega
theorem NM_b {T : Nat → Int32} {n a : Nat} (h : TK T n a = 2) : ∃ v, v ≤ 9999 ∧ NM T n a = nI v := by
  unfold TK at h
  split at h
  · split at h
    · exact absurd h (tokW_n2 _)
    · split at h
      · split at h
        · rename_i h4
          have hall : ∀ j, j < dend T n (skp T n a) - skp T n a → isDg (T (skp T n a + j)) = true := fun j hj => by
            have h5 : skp T n a + j < runP isDg T n (n - skp T n a) (skp T n a) := by
              show skp T n a + j < dend T n (skp T n a)
              omega
            exact (runP_all _ _ _ (by omega) h5).1
          obtain ⟨v, hv, e⟩ := nmv_b (T := T) (p := skp T n a) (dend T n (skp T n a) - skp T n a) h4 hall
          have h10 : 10 ^ (dend T n (skp T n a) - skp T n a) ≤ 10 ^ 4 := Nat.pow_le_pow_right (by omega) h4
          exact ⟨v, by omega, e⟩
        · exact absurd h (by decide)
      · split at h
        · rename_i hs
          exact absurd h (sg_n2 hs).1
        · exact absurd h (by decide)
  · exact absurd h (by decide)
theorem RT_D {k : Int32} (h2 : k ≠ 2) (h0 : ¬ k < 0) (h45 : k ≠ 45) (h40 : k ≠ 40) : RT k ≠ 1 ∧ RT k ≠ 2 ∧ RT k ≠ 45 ∧ RT k ≠ 40 ∧ (RT k = 6 → k = 8) := by
  unfold RT
  rw [if_neg h0]
  by_cases a0 : k = 0
  · rw [if_pos a0]; exact ⟨by decide, by decide, by decide, by decide, fun z => absurd z (by decide)⟩
  rw [if_neg a0]
  by_cases a1 : k = 1
  · rw [if_pos a1]; exact ⟨by decide, by decide, by decide, by decide, fun z => absurd z (by decide)⟩
  rw [if_neg a1, if_neg h2]
  by_cases a3 : k = 3
  · rw [if_pos a3]; exact ⟨by decide, by decide, by decide, by decide, fun z => absurd z (by decide)⟩
  rw [if_neg a3]
  by_cases a4 : k = 4
  · rw [if_pos a4]; exact ⟨by decide, by decide, by decide, by decide, fun z => absurd z (by decide)⟩
  rw [if_neg a4]
  by_cases a5 : k = 5
  · rw [if_pos a5]; exact ⟨by decide, by decide, by decide, by decide, fun z => absurd z (by decide)⟩
  rw [if_neg a5]
  by_cases a6 : k = 6
  · rw [if_pos a6]; exact ⟨by decide, by decide, by decide, by decide, fun z => absurd z (by decide)⟩
  rw [if_neg a6]
  by_cases a7 : k = 7
  · rw [if_pos a7]; exact ⟨by decide, by decide, by decide, by decide, fun z => absurd z (by decide)⟩
  rw [if_neg a7]
  by_cases a8 : k = 8
  · rw [if_pos a8]; exact ⟨by decide, by decide, by decide, by decide, fun _ => a8⟩
  rw [if_neg a8]
  exact ⟨a1, h2, h45, h40, fun z => absurd z a6⟩
/-- a sign between two: the reference takes what binds more, and holds it -/
theorem between_r {T : Nat → Int32} {n t a : Nat} {S2 O2 S X : List Int32} {w : Mem} {sg : Int32} (ht : t < 6) (h : RSt T n t a S2 O2 w) (hso : S2.length + O2.length ≤ 190) (hl1 : 1 ≤ rk sg) (hl4 : rk sg ≠ 4) (hsg : ¬ (sg = 0 ∨ sg = 13 ∨ sg = 19)) (hu : unw (rk sg) S2 O2 = (S, X)) : ∃ w', f_X5_between sg w = some (1, w') ∧ RSt T n t a (sg :: S) X w' ∧ FrX t w w' := by
  obtain ⟨w1, e1, h1, f1, -⟩ := unwinds_st ht hl1 (rk_7 sg) h hso
  rw [hu] at h1
  have hlen := unw_len (rk sg) S2 O2
  rw [hu] at hlen
  dsimp only at h1 hlen
  obtain ⟨w2, e2, h2, f2⟩ := hold_r h1 (by omega) hsg
  have n4 : ¬ nI (rk sg) = 4 := fun z => hl4 ((nI_eq (b := 4) (by have := rk_7 sg; omega) (by omega)).mp z)
  refine ⟨w2, ?_, h2, f1.tr f2⟩
  unfold f_X5_between
  rw [rank_r, ob]
  dsimp only
  rw [if_neg n4, rank_r, ob]
  unfold j_X5_between_17 j_X5_between_55
  dsimp only
  rw [e1, ob, rank_r, ob]
  dsimp only
  rw [if_neg n4, e2, ob]
/-- < and =: none may stand there already -/
theorem compare_r {T : Nat → Int32} {n t a : Nat} {S2 O2 S X : List Int32} {w : Mem} {sg : Int32} (ht : t < 6) (h : RSt T n t a S2 O2 w) (hso : S2.length + O2.length ≤ 190) (hl4 : rk sg = 4) (hsg : ¬ (sg = 0 ∨ sg = 13 ∨ sg = 19)) (hu : unw 5 S2 O2 = (S, X)) : (Top 4 S → ∃ w', f_X5_between sg w = some (1, w') ∧ RSt T n t a (sg :: S) X w' ∧ FrX t w w') ∧ ((∃ c r, S = c :: r ∧ rk c = 4) → ∃ w', f_X5_between sg w = some (0, w') ∧ w' 5 0 20 = w 5 0 20 ∧ FrX t w w') := by
  obtain ⟨w1, e1, h1, f1, f20, -⟩ := unwinds_st ht (l := 5) (by omega) (by omega) h hso
  rw [hu] at h1
  have hlen := unw_len 5 S2 O2
  rw [hu] at hlen
  dsimp only at h1 hlen
  have p4 : nI (rk sg) = 4 := by rw [hl4]; rfl
  have e0 : f_X5_between sg w = if (w1 5 0 25) ≤ 0 then (j_X5_between_55 sg w1) else (if inB ((w1 5 0 25) - 1) 200 then (Option.bind (f_X5_rank (w1 33 0 (tn ((w1 5 0 25) - 1))) w1) (fun r9 => if r9.1 = 4 then (some (0, r9.2)) else (j_X5_between_55 sg r9.2))) else none) := by
    unfold f_X5_between
    rw [rank_r, ob]
    dsimp only
    rw [if_pos p4]
    unfold j_X5_between_17
    rw [show (5 : Int32) = nI 5 from rfl, e1, ob, rank_r, ob]
    dsimp only
    rw [if_pos p4]
  rw [e0, h1.2.2.1]
  constructor
  · intro htop
    obtain ⟨w2, e2, h2, f2⟩ := hold_r h1 (by omega) hsg
    refine ⟨w2, ?_, h2, f1.tr f2⟩
    unfold j_X5_between_55
    match S, htop, h1 with
    | [], _, _ => rw [if_pos (show nI ([] : List Int32).length ≤ 0 by decide), e2, ob]
    | c :: r, htop, h1 =>
      have hlc : (c :: r).length = r.length + 1 := rfl
      have e25 : nI (c :: r).length - 1 = nI r.length := nI_pred r.length
      have hrc : rk c < 4 := htop
      rw [if_neg (show ¬ nI (c :: r).length ≤ 0 from nI_nle (by rw [hlc]; omega) (by omega)), e25, if_pos (nI_in (by omega) (by omega)), show tn (nI r.length) = r.length from nI_clamp (by omega), h1.2.2.2.1.1, rank_r, ob]
      dsimp only
      rw [if_neg (show ¬ nI (rk c) = 4 from fun z => by have := (nI_eq (b := 4) (by omega) (by omega)).mp z; omega), e2, ob]
  · rintro ⟨c, r, rfl, hrc⟩
    refine ⟨w1, ?_, f20, f1⟩
    have hlc : (c :: r).length = r.length + 1 := rfl
    have e25 : nI (c :: r).length - 1 = nI r.length := nI_pred r.length
    rw [if_neg (show ¬ nI (c :: r).length ≤ 0 from nI_nle (by rw [hlc]; omega) (by omega)), e25, if_pos (nI_in (by omega) (by omega)), show tn (nI r.length) = r.length from nI_clamp (by omega), h1.2.2.2.1.1, rank_r, ob]
    dsimp only
    rw [hrc, if_pos (show nI 4 = 4 from rfl)]
/-- one turn of the reference's loop -/
theorem turn_w (x : Nat) (mn : Int32) {w r1 : Mem} (h : f_X5_next w = some r1) : h_X5_eRead_14 KK (x + 1) 1 mn w = (if (r1 5 0 21) = 1 then (j_X5_eRead_38 (h_X5_eRead_14 KK x) mn r1) else (if (r1 5 0 21) = 2 then (j_X5_eRead_38 (h_X5_eRead_14 KK x) mn r1) else (if (r1 5 0 21) = 6 then (if mn = 0 then (j_X5_eRead_99 (h_X5_eRead_14 KK x) 1 r1) else (Option.bind (f_X5_opensOne 13 r1) (fun r26 => if r26.1 = 0 then (some (0, r26.2)) else ((h_X5_eRead_14 KK x) 1 mn r26.2)))) else (j_X5_eRead_99 (h_X5_eRead_14 KK x) 1 r1)))) := by
  conv => lhs; unfold h_X5_eRead_14
  rw [h, ob, if_neg (show ¬ (1 : Int32) = 0 by decide)]
theorem turn_n (x : Nat) (mn : Int32) {w r1 : Mem} (h : f_X5_next w = some r1) : h_X5_eRead_14 KK (x + 1) 0 mn w = (if (r1 5 0 21) = 59 then (KK r1) else (if (r1 5 0 21) = 41 then (Option.bind (f_X5_unwinds 1 r1) (fun r5 => if (r5 5 0 25) = 0 then (some (0, r5)) else (Option.bind (f_X5_unwinds 7 (up (up r5 5 0 25 ((r5 5 0 25) - 1)) 5 0 26 (((up r5 5 0 25 ((r5 5 0 25) - 1)) 5 0 26) - 1))) (fun r7 => (h_X5_eRead_14 KK x) 0 mn r7)))) else (Option.bind (f_X5_signOf r1) (fun r8 => if r8.1 = (-1) then (some (0, r8.2)) else (Option.bind (f_X5_between r8.1 r8.2) (fun r10 => if r10.1 = 0 then (some (0, r10.2)) else (if r8.1 ≤ 12 then ((h_X5_eRead_14 KK x) 1 1 r10.2) else ((h_X5_eRead_14 KK x) 1 0 r10.2)))))))) := by
  conv => lhs; unfold h_X5_eRead_14
  rw [h, ob, if_pos (show (0 : Int32) = 0 from rfl)]
