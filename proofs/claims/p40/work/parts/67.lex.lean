/-! the text, word by word -/
def Lx (ts : List (Int32 × Int32)) (r : List Int32) : Prop := ∀ w2, Tk r w2 → ∃ w3, f_X1_next w2 = some w3 ∧ NX w2 w3 ∧ Sm ts w3
theorem Tk.ag {r : List Int32} {w w2 : Mem} (h : Tk r w) (g : ∀ a b c, (a = 1 ∧ b = 0 ∧ (c = 1 ∨ c = 7)) ∨ a = 9 → w2 a b c = w a b c) : Tk r w2 := by
  obtain ⟨p, h1, h2, h3, h4⟩ := h
  exact ⟨p, by rw [g 1 0 7 (by omega)]; exact h1, by rw [g 1 0 1 (by omega)]; exact h2, h3, fun j hj => by rw [g 9 0 _ (by omega)]; exact h4 j hj⟩
theorem Lx.sm {ts : List (Int32 × Int32)} {r : List Int32} {c v : Int32} {w : Mem} (h : Lx ts r) (h5 : w 1 0 5 = c) (h8 : c = 2 → w 1 0 8 = v) (hT : Tk r w) : Sm ((c, v) :: ts) w := ⟨h5, h8, fun w2 g => h w2 (hT.ag g)⟩
theorem lt_w : ∀ i, i < 12 → ∀ b, b ∈ bytS.getD i [] → ¬ b < 97 ∧ b ≤ 122 := by decide +kernel
theorem ne_w : ∀ i, i < 12 → bytS.getD i [] ≠ [] := by decide +kernel
theorem Lx_w {sp r : List Int32} {d code : Int32} {ts : List (Int32 × Int32)} {i : Nat} (hi : i < 12) (hw : ∀ (p : Nat) (w : Mem), w 1 0 6 = nI p → w 1 0 7 = nI (p + (bytS.getD i []).length) → p + (bytS.getD i []).length ≤ 160 → Row w 9 p (bytS.getD i []) → f_X1_wordOf w = some (code, w)) (hs : sp = [] ∨ sp = [32]) (hd : d < 97) (hc : ¬ code = 2) (h : Lx ts (d :: r)) : Lx ((code, 0) :: ts) (sp ++ (bytS.getD i [] ++ d :: r)) := by
  intro w hT
  obtain ⟨w3, h1, h2, h3, h4⟩ := next_word hi (lt_w i hi) (ne_w i hi) hw (fun z => z.1 hd) hs hT
  exact ⟨w3, h1, h4, h.sm h2 (fun z => absurd z hc) h3⟩
theorem Lx_s {r : List Int32} {c : Int32} {ts : List (Int32 × Int32)} (h1 : c < 48) (h2 : ¬ c = 32 ∧ ¬ c = 10) (h3 : ∀ w, f_X1_isSign c w = some (1, w)) (hc : ¬ c = 2) (h : Lx ts r) : Lx ((c, 0) :: ts) (c :: r) := by
  intro w hT
  obtain ⟨w3, g1, g2, g3, g4⟩ := next_sign (sp := []) (fun z => z.1 (Int32.lt_trans h1 (by decide))) (fun z => z.1 h1) h3 h2 (Or.inl rfl) hT
  exact ⟨w3, g1, g4, h.sm g2 (fun z => absurd z hc) g3⟩
theorem Lx_s2 {r : List Int32} {c : Int32} {ts : List (Int32 × Int32)} (h1 : ¬ c ≤ 57 ∧ c < 97) (h2 : ¬ c = 32 ∧ ¬ c = 10) (h3 : ∀ w, f_X1_isSign c w = some (1, w)) (hc : ¬ c = 2) (h : Lx ts r) : Lx ((c, 0) :: ts) (c :: r) := by
  intro w hT
  obtain ⟨w3, g1, g2, g3, g4⟩ := next_sign (sp := []) (fun z => z.1 h1.2) (fun z => h1.1 z.2) h3 h2 (Or.inl rfl) hT
  exact ⟨w3, g1, g4, h.sm g2 (fun z => absurd z hc) g3⟩
theorem Lx_n {sp r : List Int32} {d : Int32} {k : Nat} {ts : List (Int32 × Int32)} (hk : k < 64) (hd : ¬ isDg d) (hs : sp = [] ∨ sp = [32]) (h : Lx ts (d :: r)) : Lx ((2, nI k) :: ts) (sp ++ (dig k ++ d :: r)) := by
  intro w hT
  obtain ⟨w3, g1, g2, g3, g4, g5⟩ := next_num hk hd hs hT
  exact ⟨w3, g1, g5, h.sm g2 (fun _ => g3) g4⟩
theorem Lx_e : Lx [(0, 0)] [] := by
  intro w hT
  obtain ⟨w3, g1, g2, g3, g4⟩ := next_end hT
  refine ⟨w3, g1, g4, g2, fun z => absurd z (by decide), fun w2 g => ?_⟩
  obtain ⟨w4, e1, e2, e3, e4⟩ := next_end (g3.ag g)
  exact ⟨w4, e1, e4, trivial⟩
theorem sg40 (w : Mem) : f_X1_isSign 40 w = some (1, w) := rfl
theorem sg41 (w : Mem) : f_X1_isSign 41 w = some (1, w) := rfl
theorem sg42 (w : Mem) : f_X1_isSign 42 w = some (1, w) := rfl
theorem sg43 (w : Mem) : f_X1_isSign 43 w = some (1, w) := rfl
theorem sg45 (w : Mem) : f_X1_isSign 45 w = some (1, w) := rfl
theorem sg59 (w : Mem) : f_X1_isSign 59 w = some (1, w) := rfl
theorem sg60 (w : Mem) : f_X1_isSign 60 w = some (1, w) := rfl
def TK (k0 k1 k2 k3 k4 k5 : Nat) : List (Int32 × Int32) := (3, 0) :: (-1, 0) :: (42, 0) :: (2, nI k0) :: (45, 0) :: (-2, 0) :: (43, 0) :: (-4, 0) :: (59, 0) :: (4, 0) :: (2, nI k1) :: (45, 0) :: (40, 0) :: (-3, 0) :: (60, 0) :: (2, nI k2) :: (41, 0) :: (42, 0) :: (2, nI k3) :: (59, 0) :: (5, 0) :: (2, nI k4) :: (43, 0) :: (40, 0) :: (-5, 0) :: (60, 0) :: (2, nI k5) :: (41, 0) :: (59, 0) :: (0, 0) :: []
def TR (k0 k1 k2 k3 k4 k5 : Nat) : List Int32 := bytS.getD 0 [] ++ 32 :: (bytS.getD 6 [] ++ 42 :: (dig k0 ++ 45 :: (bytS.getD 7 [] ++ 43 :: (bytS.getD 9 [] ++ 59 :: (bytS.getD 1 [] ++ 32 :: (dig k1 ++ 45 :: 40 :: (bytS.getD 8 [] ++ 60 :: (dig k2 ++ 41 :: 42 :: (dig k3 ++ 59 :: (bytS.getD 2 [] ++ 32 :: (dig k4 ++ 43 :: 40 :: (bytS.getD 10 [] ++ 60 :: (dig k5 ++ 41 :: 59 :: [])))))))))))))
theorem TX_TR (k0 k1 k2 k3 k4 k5 : Nat) : TX k0 k1 k2 k3 k4 k5 = TR k0 k1 k2 k3 k4 k5 := by
  unfold TX
  simp only [List.append_assoc]
  rfl
theorem nd {c : Int32} (h : c < 48) : ¬ isDg c := fun z => z.1 h
theorem nd2 {c : Int32} (h : ¬ c ≤ 57) : ¬ isDg c := fun z => h z.2
theorem lex_all {k0 k1 k2 k3 k4 k5 : Nat} (h0 : k0 < 64) (h1 : k1 < 64) (h2 : k2 < 64) (h3 : k3 < 64) (h4 : k4 < 64) (h5 : k5 < 64) : Lx (TK k0 k1 k2 k3 k4 k5) (TR k0 k1 k2 k3 k4 k5) := by
  have a1 := Lx_s2 (c := 59) (by decide) (by decide) sg59 (by decide) Lx_e
  have a2 := Lx_s (c := 41) (by decide) (by decide) sg41 (by decide) a1
  have a3 := Lx_n (sp := []) h5 (nd (by decide)) (Or.inl rfl) a2
  have a4 := Lx_s2 (c := 60) (by decide) (by decide) sg60 (by decide) a3
  have a5 := Lx_w (sp := []) (i := 10) (by decide) (fun p w => word_10) (Or.inl rfl) (by decide) (by decide) a4
  have a6 := Lx_s (c := 40) (by decide) (by decide) sg40 (by decide) a5
  have a7 := Lx_s (c := 43) (by decide) (by decide) sg43 (by decide) a6
  have a8 := Lx_n (sp := [32]) h4 (nd (by decide)) (Or.inr rfl) a7
  have a9 := Lx_w (sp := []) (i := 2) (by decide) (fun p w => word_2) (Or.inl rfl) (by decide) (by decide) a8
  have b1 := Lx_s2 (c := 59) (by decide) (by decide) sg59 (by decide) a9
  have b2 := Lx_n (sp := []) h3 (nd2 (by decide)) (Or.inl rfl) b1
  have b3 := Lx_s (c := 42) (by decide) (by decide) sg42 (by decide) b2
  have b4 := Lx_s (c := 41) (by decide) (by decide) sg41 (by decide) b3
  have b5 := Lx_n (sp := []) h2 (nd (by decide)) (Or.inl rfl) b4
  have b6 := Lx_s2 (c := 60) (by decide) (by decide) sg60 (by decide) b5
  have b7 := Lx_w (sp := []) (i := 8) (by decide) (fun p w => word_8) (Or.inl rfl) (by decide) (by decide) b6
  have b8 := Lx_s (c := 40) (by decide) (by decide) sg40 (by decide) b7
  have b9 := Lx_s (c := 45) (by decide) (by decide) sg45 (by decide) b8
  have c1 := Lx_n (sp := [32]) h1 (nd (by decide)) (Or.inr rfl) b9
  have c2 := Lx_w (sp := []) (i := 1) (by decide) (fun p w => word_1) (Or.inl rfl) (by decide) (by decide) c1
  have c3 := Lx_s2 (c := 59) (by decide) (by decide) sg59 (by decide) c2
  have c4 := Lx_w (sp := []) (i := 9) (by decide) (fun p w => word_9) (Or.inl rfl) (by decide) (by decide) c3
  have c5 := Lx_s (c := 43) (by decide) (by decide) sg43 (by decide) c4
  have c6 := Lx_w (sp := []) (i := 7) (by decide) (fun p w => word_7) (Or.inl rfl) (by decide) (by decide) c5
  have c7 := Lx_s (c := 45) (by decide) (by decide) sg45 (by decide) c6
  have c8 := Lx_n (sp := []) h0 (nd (by decide)) (Or.inl rfl) c7
  have c9 := Lx_s (c := 42) (by decide) (by decide) sg42 (by decide) c8
  have d1 := Lx_w (sp := [32]) (i := 6) (by decide) (fun p w => word_6) (Or.inr rfl) (by decide) (by decide) c9
  exact Lx_w (sp := []) (i := 0) (by decide) (fun p w => word_0) (Or.inl rfl) (by decide) (by decide) d1
