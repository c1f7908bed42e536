/-! the text is fed, read, kept -/
def NZ (w w' : Mem) : Prop := ∀ a b c, ¬ (a = 1 ∧ b = 0) → a ≠ 9 → a ≠ 10 → a ≠ 11 → w' a b c = w a b c
theorem NZ.rf {w : Mem} : NZ w w := fun _ _ _ _ _ _ _ => rfl
theorem NZ.tr {w w1 w2 : Mem} (h : NZ w w1) (h2 : NZ w1 w2) : NZ w w2 := fun a b c g1 g2 g3 g4 => (h2 a b c g1 g2 g3 g4).trans (h a b c g1 g2 g3 g4)
theorem NX.nz {w w' : Mem} (h : NX w w') : NZ w w' := fun a b c g1 _ _ _ => h a b c (fun z => g1 ⟨z.1, z.2.1⟩)
theorem NY.nz {w w' : Mem} (h : NY w w') : NZ w w' := fun a b c g1 _ g3 _ => h a b c (fun z => g1 ⟨z.1, z.2.1⟩) g3
theorem byte_c {x : Int32} (h1 : 0 ≤ x) (h2 : x ≤ 127) : ((x &&& 255).toUInt32 % 65536).toInt32 = x ∧ rng x 0 255 = 1 := by
  obtain ⟨j, hj, rfl⟩ := nI_of2 (M := 127) (n := 127) rfl (Int32.not_lt.mpr h1) h2
  have e : ∀ b, b < 128 → ((nI b &&& 255).toUInt32 % 65536).toInt32 = nI b ∧ rng (nI b) 0 255 = 1 := by decide +kernel
  exact e j (by omega)
theorem feed_c {j : Nat} {b : Int32} {w : Mem} (hb : rng b 0 255 = 1) (hj : j < 160) (h : w 1 0 1 = nI j) : ∃ r, f_X4_feed 1 b 0 0 0 0 w = some (r, up (up w 9 0 j b) 1 0 1 (nI (j + 1))) := by
  have r0 : rng 0 0 255 = 1 := by decide
  have e : setV w 9 0 (nI j) b = up w 9 0 j b := setV_n w 0 b (show j < lenK 9 by show j < 160; omega) (by decide)
  have hadd : f_X1_add b w = some (up (up w 9 0 j b) 1 0 1 (nI (j + 1))) := by
    unfold f_X1_add
    rw [h, if_pos (show nI j < 160 from nI_lt (a := j) (b := 160) hj (by omega)), e, up_k (by decide), h, nI_1]
  unfold f_X4_feed j_X4_feed_90 j_X4_feed_104 j_X4_feed_118
  rw [if_neg (by decide), if_pos (by decide), hb, if1, r0, if1, if1, if1, if1, h, nI_1, if_pos (show nI (j + 1) ≤ 160 from nI_le (a := j + 1) (b := 160) (by omega) (by omega)), hadd, Option.bind_some, if_pos (by decide), if_pos (by decide), if_pos (by decide), if_pos (by decide)]
  exact ⟨_, rfl⟩
theorem feed_loop {T : List Int32} (i2 v2 : Nat) (k : Mem → Option Mem) (hT : ∀ x, x ∈ T → 0 ≤ x ∧ x ≤ 127) (hl : T.length ≤ 160) : ∀ (m j fuel : Nat) (w : Mem), j + m = T.length → m < fuel → w 1 0 1 = nI j → (∀ i, i < j → w 9 0 i = T.getD i 0) → ∃ w', h_L_text_2 i2 v2 T.length (fun j => T.getD j 0) k fuel (nI j) w = k w' ∧ w' 1 0 1 = nI T.length ∧ Row w' 9 0 T ∧ NZ w w' := by
  intro m
  induction m with
  | zero =>
    intro j fuel w hj hf h1 h2
    obtain ⟨fuel, rfl⟩ : ∃ m, fuel = m + 1 := ⟨fuel - 1, by omega⟩
    obtain rfl : j = T.length := by omega
    refine ⟨w, ?_, h1, fun i hi => by rw [Nat.zero_add]; exact h2 i hi, .rf⟩
    unfold h_L_text_2
    rw [if_neg (nI_nlt (by omega) (by omega))]
  | succ m ih =>
    intro j fuel w hj hf h1 h2
    obtain ⟨fuel, rfl⟩ : ∃ m, fuel = m + 1 := ⟨fuel - 1, by omega⟩
    have hjl : j < T.length := by omega
    have hx : T.getD j 0 ∈ T := by
      rw [List.getD_eq_getElem?_getD, List.getElem?_eq_getElem hjl, Option.getD_some]
      exact List.getElem_mem hjl
    obtain ⟨c1, c2⟩ := byte_c (hT _ hx).1 (hT _ hx).2
    have ec : chB (fun j => T.getD j 0) (nI j) = T.getD j 0 := by
      unfold chB
      rw [tnn (by omega)]
      exact c1
    obtain ⟨r, hr⟩ := feed_c c2 (show j < 160 by omega) h1
    obtain ⟨w', g1, g2, g3, g4⟩ := ih (j + 1) fuel (up (up w 9 0 j (T.getD j 0)) 1 0 1 (nI (j + 1))) (by omega) (by omega) (up_s ..) (fun i hi => by
      rw [up_k (by decide)]
      by_cases g : i = j
      · subst g; exact up_s ..
      · rw [up_j g]; exact h2 i (by omega))
    refine ⟨w', ?_, g2, g3, fun a b c q1 q2 q3 q4 => (g4 a b c q1 q2 q3 q4).trans (by rw [up_n (fun z => q1 ⟨z.1, z.2.1⟩), up_k q2])⟩
    unfold h_L_text_2
    rw [if_pos (nI_lt hjl (by omega)), if_pos (nI_in hjl (by omega)), ec, hr, Option.bind_some, nI_1]
    exact g1
theorem fault_step {j n : Nat} {ts R : List (Int32 × Int32)} {os os' : List Int32} {x : Int32} {w : Mem} (k : Mem → Option (Int32 × Mem)) (hj : j < 3) (hs : Sm ((nI (3 + j), 0) :: ts) w) (h : PP 0 40 0 ts os ((59, x) :: R) os') (ho : Ou os w) : ∃ w', h_X1_faultOf_16 k (n + 1) (nI j) w = h_X1_faultOf_16 k n (nI (j + 1)) w' ∧ Sm R w' ∧ Ou os' w' ∧ w' 11 0 j = nI os'.length ∧ (∀ i, i ≠ j → w' 11 0 i = w 11 0 i) ∧ NZ w w' := by
  obtain ⟨w1, m1, m2, m3⟩ := hs.nx
  obtain ⟨w2, n1, n2, n3, n4⟩ := h w1 m3 (ho.nx m2)
  have e : setV w2 11 0 (nI j) (w2 1 0 3) = up w2 11 0 j (nI os'.length) := by rw [setV_n w2 0 _ (show j < lenK 11 by show j < 3; omega) (by decide), n3.1]
  have n2' : Sm ((59, x) :: R) (up w2 11 0 j (nI os'.length)) := n2.of (fun a b c g => up_k (by omega))
  have n3' : Ou os' (up w2 11 0 j (nI os'.length)) := ⟨by rw [up_k (by decide)]; exact n3.1, fun i hi => by rw [up_k (by decide)]; exact n3.2.1 i hi, n3.2.2⟩
  obtain ⟨w3, o1, o2, o3⟩ := n2'.nx
  refine ⟨w3, ?_, o3, n3'.nx o2, by rw [o2 11 0 j (by omega), up_s], fun i hi => by rw [o2 11 0 i (by omega), up_j hi, n4 11 0 i (by omega) (by decide), m2 11 0 i (by omega)], fun a b c q1 q2 q3 q4 => (o2.nz a b c q1 q2 q3 q4).trans ((up_k q4).trans ((n4.nz a b c q1 q2 q3 q4).trans (m2.nz a b c q1 q2 q3 q4)))⟩
  conv => lhs; unfold h_X1_faultOf_16
  rw [if_pos (show nI j < 3 from nI_lt (a := j) (b := 3) (by omega) (by omega))]
  refine (if_pos (show w 1 0 5 = 3 + nI j by rw [hs.1]; exact (nI_add 3 j).symm)).trans ?_
  rw [m1, Option.bind_some, n1, Option.bind_some]
  dsimp only
  rw [if1]
  refine (if_pos (show w2 1 0 5 = 59 from n2.1)).trans ?_
  rw [e, o1, Option.bind_some, nI_1]
def CT (k0 k1 k2 k3 k4 k5 : Nat) (k : Nat) : List Int32 := if k = 0 then [-1, nI k0, -14, -2, -13, -4, -12] else if k = 1 then [nI k1, -3, nI k2, -10, nI k3, -14, -13] else [nI k4, -5, nI k5, -10, -12]
def CTa (k0 k1 k2 k3 k4 k5 : Nat) : List Int32 := [-1, nI k0, -14, -2, -13, -4, -12, nI k1, -3, nI k2, -10, nI k3, -14, -13, nI k4, -5, nI k5, -10, -12]
theorem fault_c {k0 k1 k2 k3 k4 k5 : Nat} (h0 : k0 < 64) (h1 : k1 < 64) (h2 : k2 < 64) (h3 : k3 < 64) (h4 : k4 < 64) (h5 : k5 < 64) {w : Mem} (hn : w 1 0 1 = nI (TR k0 k1 k2 k3 k4 k5).length) (hl : (TR k0 k1 k2 k3 k4 k5).length ≤ 160) (hR : Row w 9 0 (TR k0 k1 k2 k3 k4 k5)) : ∃ w', f_X1_faultOf w = some (-1, w') ∧ Row w' 10 0 (CTa k0 k1 k2 k3 k4 k5) ∧ w' 11 0 0 = nI 7 ∧ w' 11 0 1 = nI 14 ∧ w' 11 0 2 = nI 19 ∧ NZ w w' := by
  have hT : Tk (TR k0 k1 k2 k3 k4 k5) (up (up w 1 0 3 0) 1 0 7 0) := ⟨0, up_s .., by rw [up_j (by decide), up_j (by decide), hn, Nat.zero_add], by omega, fun j hj => by rw [up_k (by decide), up_k (by decide)]; exact hR j hj⟩
  have hO : Ou [] (up (up w 1 0 3 0) 1 0 7 0) := ⟨by rw [up_j (by decide), up_s]; rfl, fun j hj => absurd hj (by show ¬ j < 0; omega), by decide⟩
  obtain ⟨w1, l1, l2, l3⟩ := lex_all h0 h1 h2 h3 h4 h5 _ hT
  obtain ⟨w2, m1, m2, m3, m4, m5, m6⟩ := fault_step (j := 0) (n := 999999) (fun w9 => if (w9 1 0 5) = 0 then (some ((-1), w9)) else (some (w9 1 0 6, w9))) (by omega) l3 part_lets (hO.nx l2)
  obtain ⟨w3, n1, n2, n3, n4, n5, n6⟩ := fault_step (j := 1) (n := 999998) (fun w9 => if (w9 1 0 5) = 0 then (some ((-1), w9)) else (some (w9 1 0 6, w9))) (by omega) m2 (part_lucks (os := [-1, nI k0, -14, -2, -13, -4, -12]) (by show 7 < 20; omega)) m3
  obtain ⟨w4, o1, o2, o3, o4, o5, o6⟩ := fault_step (j := 2) (n := 999997) (fun w9 => if (w9 1 0 5) = 0 then (some ((-1), w9)) else (some (w9 1 0 6, w9))) (by omega) n2 (part_takes (os := [-1, nI k0, -14, -2, -13, -4, -12, nI k1, -3, nI k2, -10, nI k3, -14, -13]) (by show 14 < 20; omega)) n3
  refine ⟨w4, ?_, o3.2.1, ?_, ?_, o4, ?_⟩
  · unfold f_X1_faultOf
    rw [l1, Option.bind_some]
    refine m1.trans (n1.trans (o1.trans ?_))
    show h_X1_faultOf_16 _ (999996 + 1) (nI 3) w4 = _
    unfold h_X1_faultOf_16
    rw [if_neg (show ¬ nI 3 < 3 by decide)]
    exact if_pos o2.1
  · rw [o5 0 (by decide), n5 0 (by decide)]; exact m4
  · rw [o5 1 (by decide)]; exact n4
  · refine NZ.tr ?_ (NZ.tr l2.nz (m6.tr (n6.tr o6)))
    exact fun a b c q1 _ _ _ => by rw [up_n (fun z => q1 ⟨z.1, z.2.1⟩), up_n (fun z => q1 ⟨z.1, z.2.1⟩)]
