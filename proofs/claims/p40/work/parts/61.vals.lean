/-! what the script says of the coast -/
def Nq (q : Int32 → Int32) : Nat := 1 + cut (q 0) 3
def κq (q : Int32 → Int32) (p : Nat) : Nat := cut (q (nI (1 + p))) 7 % 6
def μq (q : Int32 → Int32) (p : Nat) : Nat := cut (shrI (q (nI (1 + p))) 3) 15 % 10
def stq (q : Int32 → Int32) : St := (fun p => cut (shrI (q (nI (1 + p))) 7) 65535, fun p => cut (shrI (q 7) (nI (7 * p))) 127 * 2 ^ (3 * p), fun p => cut (shrI (q (nI (1 + p))) 23) 127 % 100, cut (q 5) 65535, cut (shrI (q 5) 16) 7)
theorem at_1 (q : Int32 → Int32) {p : Nat} (hp : p < 4) (w : Mem) : f_L_at q (1 + nI p) w = some (q (nI (1 + p)), w) := by
  rw [show (1 : Int32) + nI p = nI (1 + p) from nI_add 1 p]
  exact at_n q (1 + p) (by omega) w
theorem shlI_n {c k : Nat} (hk : k < 31) (h : c * 2 ^ k < 2 ^ 32) : shlI (nI c) (nI k) = nI (c * 2 ^ k) := pk_shlN (nI k &&& 31) k (sh_amt k (by omega)) h
theorem kept_lt {c p : Nat} (hc : c ≤ 127) (hp : p < 4) : c * 2 ^ (3 * p) < 65536 := by
  match p, hp with
  | 0, _ => show c * 1 < 65536; omega
  | 1, _ => show c * 8 < 65536; omega
  | 2, _ => show c * 64 < 65536; omega
  | 3, _ => show c * 512 < 65536; omega
theorem Nq_b (q : Int32 → Int32) : 1 ≤ Nq q ∧ Nq q ≤ 4 := by
  have := cut_le (q 0) 3
  unfold Nq; omega
theorem QPq (q : Int32 → Int32) : QP q (Nq q) (κq q) (μq q) := by
  have hN := Nq_b q
  refine ⟨fun w => ?_, fun p hp w => ⟨?_, ?_⟩⟩
  · unfold f_L_many Nq
    rw [at_0q, Option.bind_some]
    dsimp only
    rw [show (q 0 &&& 3 : Int32) = nI (cut (q 0) 3) from and_cut (q 0) (m := 3) (by decide), show (1 : Int32) = nI 1 from rfl, nI_add]
  · have h7 := cut_le (q (nI (1 + p))) 7
    unfold f_L_kind κq
    rw [at_1 q (by omega), Option.bind_some, if_pos (by decide)]
    dsimp only
    rw [show (q (nI (1 + p)) &&& 7 : Int32) = nI (cut (q (nI (1 + p))) 7) from and_cut _ (m := 7) (by decide), show rmI (nI (cut (q (nI (1 + p))) 7)) 6 = nI (cut (q (nI (1 + p))) 7 % 6) from pk_rem (d := 6) (by omega) (by omega) (by omega)]
  · have h7 := cut_le (shrI (q (nI (1 + p))) 3) 15
    unfold f_L_more μq
    rw [at_1 q (by omega), Option.bind_some, if_pos (by decide)]
    dsimp only
    rw [show (shrI (q (nI (1 + p))) 3 &&& 15 : Int32) = nI (cut (shrI (q (nI (1 + p))) 3) 15) from and_cut _ (m := 15) (by decide), show rmI (nI (cut (shrI (q (nI (1 + p))) 3) 15)) 10 = nI (cut (shrI (q (nI (1 + p))) 3) 15 % 10) from pk_rem (d := 10) (by omega) (by omega) (by omega)]
theorem OkSq (q : Int32 → Int32) : OkS (Nq q) (κq q) (μq q) (stq q) := by
  have hN := Nq_b q
  have h1 := cut_le (q 5) 65535
  have h2 := cut_le (shrI (q 5) 16) 7
  refine ⟨hN.1, hN.2, by show cut (q 5) 65535 < 65536; omega, by show cut (shrI (q 5) 16) 7 < 900; omega, fun p hp => ⟨Nat.mod_lt _ (by omega), Nat.mod_lt _ (by omega), ?_, kept_lt (cut_le _ _) (by omega), ?_⟩⟩
  · have := cut_le (shrI (q (nI (1 + p))) 7) 65535
    show cut (shrI (q (nI (1 + p))) 7) 65535 < 65536; omega
  · have := Nat.mod_lt (cut (shrI (q (nI (1 + p))) 23) 127) (show 0 < 100 by omega)
    show cut (shrI (q (nI (1 + p))) 23) 127 % 100 ≤ 99; omega
theorem QSq (q : Int32 → Int32) : QS q (Nq q) (stq q) := by
  have hN := Nq_b q
  have a5 : ∀ w, f_L_at q 5 w = some (q 5, w) := fun w => at_n q 5 (by omega) w
  have a7 : ∀ w, f_L_at q 7 w = some (q 7, w) := fun w => at_n q 7 (by omega) w
  refine ⟨fun w => ?_, fun w => ?_, fun p hp w => ⟨?_, ?_, ?_⟩⟩
  · unfold f_L_sea
    rw [a5, Option.bind_some]
    dsimp only
    rw [show (q 5 &&& 65535 : Int32) = nI (cut (q 5) 65535) from and_cut (q 5) (m := 65535) (by decide)]
    rfl
  · unfold f_L_tide
    rw [a5, Option.bind_some]
    dsimp only
    rw [show (shrI (q 5) 16 &&& 7 : Int32) = nI (cut (shrI (q 5) 16) 7) from and_cut _ (m := 7) (by decide)]
    rfl
  · unfold f_L_known
    rw [at_1 q (by omega), Option.bind_some]
    dsimp only
    rw [show (shrI (q (nI (1 + p))) 7 &&& 65535 : Int32) = nI (cut (shrI (q (nI (1 + p))) 7) 65535) from and_cut _ (m := 65535) (by decide)]
    rfl
  · have h1 := cut_le (shrI (q 7) (nI (7 * p))) 127
    have h2 := kept_lt h1 (show p < 4 by omega)
    unfold f_L_kept
    rw [a7, Option.bind_some]
    dsimp only
    rw [t3, show (7 : Int32) * nI p = nI (7 * p) by rw [show (7 : Int32) = nI 7 from rfl, nI_mul], show (shrI (q 7) (nI (7 * p)) &&& 127 : Int32) = nI (cut (shrI (q 7) (nI (7 * p))) 127) from and_cut _ (m := 127) (by decide), shlI_n (by omega) (by omega)]
    rfl
  · have h7 := cut_le (shrI (q (nI (1 + p))) 23) 127
    unfold f_L_luck
    rw [at_1 q (by omega), Option.bind_some, if_pos (by decide)]
    dsimp only
    rw [show (shrI (q (nI (1 + p))) 23 &&& 127 : Int32) = nI (cut (shrI (q (nI (1 + p))) 23) 127) from and_cut _ (m := 127) (by decide), show rmI (nI (cut (shrI (q (nI (1 + p))) 23) 127)) 100 = nI (cut (shrI (q (nI (1 + p))) 23) 127 % 100) from pk_rem (d := 100) (by omega) (by omega) (by omega)]
    rfl
theorem sTq (q : Int32 → Int32) : sT (stq q) < 700 := by
  have := cut_le (shrI (q 5) 16) 7
  show cut (shrI (q 5) 16) 7 < 700; omega
/-- the fishers come -/
def KB (w w' : Mem) : Prop := ∀ a b c, a ≠ 0 → a < 13 ∨ 17 < a → w' a b c = w a b c
theorem KB.rf {w : Mem} : KB w w := fun _ _ _ _ _ => rfl
theorem KB.tr {w w1 w2 : Mem} (h : KB w w1) (h2 : KB w1 w2) : KB w w2 := fun a b c g1 g2 => (h2 a b c g1 g2).trans (h a b c g1 g2)
theorem KB.up {w w' : Mem} {k i j : Nat} {v : Int32} (h : KB w w') (hk : k = 0 ∨ 13 ≤ k ∧ k ≤ 17) : KB w (up w' k i j v) := fun a b c g1 g2 => by rw [up_k (by omega)]; exact h a b c g1 g2
theorem fisher_c {N t kd mr kn : Nat} {κ μ : Nat → Nat} {st : St} {w : Mem} (hN : N ≤ 3) (h1 : kd < 6) (h2 : mr < 10) (h3 : kn < 65536) (h4 : w 0 0 2 = nI N) : f_X4_fisher (10 * nI kd + nI mr) (nI kn) w = some (nI N, up (up (up (up (up (up w 13 0 N (nI kd)) 14 0 N (nI mr)) 15 0 N (nI kn)) 16 0 N 0) 17 0 N 50) 0 0 2 (nI (N + 1))) := by
  have e : (10 : Int32) * nI kd + nI mr = nI (10 * kd + mr) := by rw [show (10 : Int32) = nI 10 from rfl, nI_mul, nI_add]
  have r : rng (nI kn) 0 65535 = 1 := b2i_t ⟨nI_pos' (by omega), nI_le (a := kn) (b := 65535) (by omega) (by omega)⟩
  have e10 : nI (10 * kd + mr) / 10 = nI kd := by
    rw [show (10 : Int32) = nI 10 from rfl, pk_div (by omega) (by omega) (by omega)]; congr 1; omega
  have em10 : rmI (nI (10 * kd + mr)) 10 = nI mr := by
    rw [show rmI (nI (10 * kd + mr)) 10 = nI ((10 * kd + mr) % 10) from pk_rem (d := 10) (by omega) (by omega) (by omega)]; congr 1; omega
  have s13 : ∀ (w : Mem) v, setV w 13 0 (nI N) v = up w 13 0 N v := fun w v => setV_n w 0 v (show N < lenK 13 by show N < 6; omega) (by decide)
  have s14 : ∀ (w : Mem) v, setV w 14 0 (nI N) v = up w 14 0 N v := fun w v => setV_n w 0 v (show N < lenK 14 by show N < 6; omega) (by decide)
  have s15 : ∀ (w : Mem) v, setV w 15 0 (nI N) v = up w 15 0 N v := fun w v => setV_n w 0 v (show N < lenK 15 by show N < 6; omega) (by decide)
  have s16 : ∀ (w : Mem) v, setV w 16 0 (nI N) v = up w 16 0 N v := fun w v => setV_n w 0 v (show N < lenK 16 by show N < 6; omega) (by decide)
  have s17 : ∀ (w : Mem) v, setV w 17 0 (nI N) v = up w 17 0 N v := fun w v => setV_n w 0 v (show N < lenK 17 by show N < 6; omega) (by decide)
  unfold f_X4_fisher
  rw [e, if_neg (nI_pos (by omega)), if_pos (show nI (10 * kd + mr) < 60 from nI_lt (a := 10 * kd + mr) (b := 60) (by omega) (by omega)), r, if1, h4, if_pos (show nI N < 6 from nI_lt (a := N) (b := 6) (by omega) (by omega)), if_pos (by decide), if_pos (by decide), e10, em10]
  unfold f_X0_comes
  rw [h4, s13, s14, s15, s16, s17, up_k (by decide), up_k (by decide), up_k (by decide), up_k (by decide), up_k (by decide), h4, nI_1]
  rfl
