/-! by how few lessons: the reference's search -/
theorem give_up {w1 r4 w2 : Mem} (hk : Kp w1 r4) (hts : ThS r4 w2) (s0 : Int32) (h01 : s0 = 0 ∨ s0 = 1) : ∃ w3, j_X5_knowsBy_211 s0 w2 = some (s0, w3) ∧ QR w1 w3 ∧ FR w2 w3 ∧ w3 5 0 32 = w2 5 0 32 := by
  obtain ⟨w3, e, q, f, g⟩ := lays_r hk hts
  refine ⟨w3, ?_, q, f, g 32 (by omega)⟩
  unfold j_X5_knowsBy_211
  rw [e, ob, if_pos h01]
theorem dig {N M p t m : Nat} {CC : Nat → Nat → List Int32} {wc wr w1 r4 : Mem} (hB : Bo 1 N M CC wc wr) (hp : p < N) (ht : t < 16) (hm : m ≤ 3) (hk : Kp w1 r4) : ∀ (r k n num acc : Nat) (K : Nat → Int32) (w : Mem), k + r = m → r + 1 < n → KS N K → QR (wrp N wr K) w → ThS r4 w → w 5 0 32 = nI acc → num < 36 ^ r → ∃ z w3, h_X5_knowsBy_44 (nI p) (nI t) (nI m) (fun x7_18 w19 => j_X5_knowsBy_185 (nI p) (nI t) x7_18 w19) n (nI (36 ^ (r - 1))) (nI num) 1 (nI k) w = some (z, w3) ∧ QR w1 w3 ∧ FR w w3 ∧ (∀ l, okK wc N p t r num K = some l → z = 1 ∧ w3 5 0 32 = nI (acc * 100 ^ r + l)) ∧ (okK wc N p t r num K = none → z = 0) := by
  have hN := hB.1.1
  have i0 : inB (nI (3 * p)) 18 := nI_in (by omega) (by omega)
  have t0 : tn (nI (3 * p)) = 3 * p := nI_clamp (by omega)
  have n1 : ¬ (1 : Int32) = 0 := by decide
  have n6 : ¬ (6 : Int32) = 0 := by decide
  have n36 : ¬ (36 : Int32) = 0 := by decide
  have eK : ∀ (K : Nat → Int32) (w : Mem), QR (wrp N wr K) w → w 22 0 (3 * p) = K p := fun K w h => by
    rw [h.2.1 _ (by omega)]
    unfold wrp
    rw [if_pos ⟨rfl, rfl, by omega, by omega⟩, show 3 * p / 3 = p by omega]
  have eN : ∀ (K : Nat → Int32) (w : Mem), QR (wrp N wr K) w → w 5 0 0 = nI N := fun K w h => by
    rw [h.1 0 (by omega)]
    unfold wrp
    rw [if_neg (by omega)]; exact hB.1.2.2.1
  have drop : ∀ (x5 x6 : Int32) (k n : Nat) (w : Mem), 0 < n → ThS r4 w → ∃ w3, h_X5_knowsBy_44 (nI p) (nI t) (nI m) (fun x7_18 w19 => j_X5_knowsBy_185 (nI p) (nI t) x7_18 w19) n x5 x6 0 (nI k) w = some (0, w3) ∧ QR w1 w3 ∧ FR w w3 := by
    intro x5 x6 k n w hn hts
    obtain ⟨n, rfl⟩ : ∃ q, n = q + 1 := ⟨n - 1, by omega⟩
    obtain ⟨w3, e, q, f, -⟩ := give_up hk hts 0 (Or.inl rfl)
    refine ⟨w3, ?_, q, f⟩
    have e2 : j_X5_knowsBy_185 (nI p) (nI t) 0 w = some (0, w3) := by
      unfold j_X5_knowsBy_185 j_X5_knowsBy_210
      rw [if_pos rfl]; exact e
    unfold h_X5_knowsBy_44
    rw [if_pos (show (0 : Int32) = 0 from rfl), e2]
    split <;> rfl
  intro r
  induction r with
  | zero =>
    intro k n num acc K w hkm hn hK hw hts ha hnum
    obtain ⟨n, rfl⟩ : ∃ q, n = q + 1 := ⟨n - 1, by omega⟩
    have e : k = m := by omega
    subst e
    unfold h_X5_knowsBy_44
    rw [if_neg (nI_nlt (Nat.le_refl _) (by omega))]
    unfold j_X5_knowsBy_185
    rw [if_neg n1, m3, if_pos i0, t0, eK K w hw]
    unfold okK
    by_cases hb : bit (K p) (nI t) = 1
    · obtain ⟨w3, e, q, f, g⟩ := give_up hk hts 1 (Or.inr rfl)
      rw [if_pos (show (shrI (K p) (nI t)) &&& 1 = 1 from hb), if_pos hb]
      refine ⟨1, w3, e, q, f, fun l hl => ⟨rfl, ?_⟩, fun h => by cases h⟩
      rw [g, ha, ← Option.some.inj hl]
      congr 1; omega
    · obtain ⟨w3, e, q, f, -⟩ := give_up hk hts 0 (Or.inl rfl)
      rw [if_neg (show ¬ (shrI (K p) (nI t)) &&& 1 = 1 from hb), if_neg hb]
      exact ⟨0, w3, e, q, f, fun l hl => (by cases hl), fun _ => rfl⟩
  | succ r ih =>
    intro k n num acc K w hkm hn hK hw hts ha hnum
    obtain ⟨n, rfl⟩ : ∃ q, n = q + 1 := ⟨n - 1, by omega⟩
    have h36 : 0 < 36 ^ r := Nat.pow_pos (by omega)
    have h36b : 36 ^ r ≤ 36 ^ 2 := Nat.pow_le_pow_right (by omega) (by omega)
    have hnum2 : num < 36 ^ r * 36 := by rw [← Nat.pow_succ]; exact hnum
    have hd36 : num / 36 ^ r < 36 := Nat.div_lt_of_lt_mul hnum2
    have hx5 : ¬ nI (36 ^ r) = 0 := nI_ne0 h36 (by omega)
    have ed : nI num / nI (36 ^ r) = nI (num / 36 ^ r) := pk_div (by omega) h36 (by omega)
    have er : rmI (nI num) (nI (36 ^ r)) = nI (num % 36 ^ r) := pk_rem (by omega) h36 (by omega)
    have hrl := Nat.mod_lt num h36
    have hda : nI (num / 36 ^ r) / 6 = nI (num / 36 ^ r / 6) := pk_div (d := 6) (by omega) (by omega) (by omega)
    have hdb : rmI (nI (num / 36 ^ r)) 6 = nI (num / 36 ^ r % 6) := pk_rem (d := 6) (by omega) (by omega) (by omega)
    have ha6 : num / 36 ^ r / 6 < 6 := by omega
    have hb6 := Nat.mod_lt (num / 36 ^ r) (show 0 < 6 by omega)
    have wi5 : ∀ a, a < 6 → wiF (nI a) 0 5 = nI a := by
      intro a h
      unfold wiF
      rw [if_neg (nI_pos (by omega)), if_neg (show ¬ 5 < nI a from nI_nlt (a := 5) (b := a) (by omega) (by omega))]
    have hok : okK wc N p t (r + 1) num K = if num / 36 ^ r / 6 < N ∧ num / 36 ^ r % 6 < N ∧ num / 36 ^ r / 6 ≠ num / 36 ^ r % 6 then (okK wc N p t r (num % 36 ^ r) (app wc K (num / 36 ^ r / 6) (num / 36 ^ r % 6))).map (fun l => (10 * (num / 36 ^ r / 6) + num / 36 ^ r % 6 + 1) * 100 ^ r + l) else none := by
      conv => lhs; unfold okK
    have key : ∀ s : Int32, (s = nI (36 ^ (r - 1))) → ∃ z w3, j_X5_knowsBy_85 (h_X5_knowsBy_44 (nI p) (nI t) (nI m) (fun x7_18 w19 => j_X5_knowsBy_185 (nI p) (nI t) x7_18 w19) n) (nI p) (nI t) (nI m) (nI (num % 36 ^ r)) (nI k) (nI (num / 36 ^ r)) s w = some (z, w3) ∧ QR w1 w3 ∧ FR w w3 ∧ (∀ l, okK wc N p t (r + 1) num K = some l → z = 1 ∧ w3 5 0 32 = nI (acc * 100 ^ (r + 1) + l)) ∧ (okK wc N p t (r + 1) num K = none → z = 0) := by
      intro s hs
      subst hs
      unfold j_X5_knowsBy_85 j_X5_knowsBy_140 j_X5_knowsBy_141
      rw [if_pos n6, if_pos n6, hda, hdb, wi5 _ ha6, wi5 _ hb6, eN K w hw, nI_1]
      rw [hok]
      generalize num / 36 ^ r / 6 = a at *
      generalize num / 36 ^ r % 6 = b at *
      have bad : ¬ (a < N ∧ b < N ∧ a ≠ b) → ∀ e : Option (Int32 × Mem), e = h_X5_knowsBy_44 (nI p) (nI t) (nI m) (fun x7_18 w19 => j_X5_knowsBy_185 (nI p) (nI t) x7_18 w19) n (nI (36 ^ (r - 1))) (nI (num % 36 ^ r)) 0 (nI (k + 1)) w → ∃ z w3, e = some (z, w3) ∧ QR w1 w3 ∧ FR w w3 ∧ (∀ l, (if a < N ∧ b < N ∧ a ≠ b then (okK wc N p t r (num % 36 ^ r) (app wc K a b)).map (fun l => (10 * a + b + 1) * 100 ^ r + l) else none) = some l → z = 1 ∧ w3 5 0 32 = nI (acc * 100 ^ (r + 1) + l)) ∧ ((if a < N ∧ b < N ∧ a ≠ b then (okK wc N p t r (num % 36 ^ r) (app wc K a b)).map (fun l => (10 * a + b + 1) * 100 ^ r + l) else none) = none → z = 0) := by
        intro hbad e he
        subst he
        obtain ⟨w3, e, q, f⟩ := drop (nI (36 ^ (r - 1))) (nI (num % 36 ^ r)) (k + 1) n w (by omega) hts
        rw [if_neg hbad]
        exact ⟨0, w3, e, q, f, fun l hl => (by cases hl), fun _ => rfl⟩
      by_cases haN : a < N
      · rw [if_pos (nI_lt haN (by omega))]
        by_cases hbN : b < N
        · rw [if_pos (nI_lt hbN (by omega))]
          by_cases hab : a = b
          · rw [if_pos (show nI a = nI b by rw [hab]), if_pos (show (0 : Int32) = 0 from rfl)]
            exact bad (fun z => z.2.2 hab) _ rfl
          · have hne : ¬ nI a = nI b := fun z => hab ((nI_eq (by omega) (by omega)).mp z)
            obtain ⟨-, -, -, hVr⟩ := VV_c hB hK haN hbN
            obtain ⟨w2, d1, d2, d3, d4⟩ := hVr w hw
            rw [if_neg hne, if_neg n1, d1, ob, if_pos ⟨haN, hbN, hab⟩]
            dsimp only
            have e32 : 100 * w2 5 0 32 + 10 * nI a + nI b + 1 = nI (100 * acc + 10 * a + b + 1) := by
              rw [d4 32 (by omega), ha, show (100 : Int32) = nI 100 from rfl, show (10 : Int32) = nI 10 from rfl, nI_mul, nI_mul, nI_add, nI_add, nI_1]
            rw [e32]
            have q2 : QR (wrp N wr (app wc K a b)) (up w2 5 0 32 (nI (100 * acc + 10 * a + b + 1))) :=
              ⟨fun c hc => by rw [up_j (by omega)]; exact d2.1 c hc, fun c hc => by rw [up_k (by decide)]; exact d2.2.1 c hc, fun x y z h => by rw [up_k (by omega)]; exact d2.2.2 x y z h⟩
            obtain ⟨z, w3, b1, b2, b3, b4, b5⟩ := ih (k + 1) n (num % 36 ^ r) (100 * acc + 10 * a + b + 1) _ _ (by omega) (by omega) (app_S hB hK haN hbN) q2 ((hts.tr d3).up (by omega)) (up_s _ _ _ _ _) hrl
            refine ⟨z, w3, b1, b2, (d3.f.tr (FR.rf.up (by omega))).tr b3, fun l hl => ?_, fun h => ?_⟩
            · cases ho : okK wc N p t r (num % 36 ^ r) (app wc K a b) with
              | none => rw [ho] at hl; cases hl
              | some l2 =>
                rw [ho] at hl
                have hl2 : (10 * a + b + 1) * 100 ^ r + l2 = l := Option.some.inj hl
                obtain ⟨z1, z2⟩ := b4 l2 ho
                refine ⟨z1, z2.trans ?_⟩
                congr 1
                have e1 : acc * 100 ^ (r + 1) = 100 * acc * 100 ^ r := by rw [Nat.pow_succ, Nat.mul_comm (100 ^ r) 100, ← Nat.mul_assoc, Nat.mul_comm acc 100]
                have e2 : (100 * acc + 10 * a + b + 1) * 100 ^ r = 100 * acc * 100 ^ r + (10 * a + b + 1) * 100 ^ r := by
                  rw [← Nat.add_mul]; congr 1; omega
                omega
            · cases ho : okK wc N p t r (num % 36 ^ r) (app wc K a b) with
              | none => exact b5 ho
              | some l2 => rw [ho] at h; cases h
        · rw [if_neg (nI_nlt (by omega) (by omega)), if_pos (show (0 : Int32) = 0 from rfl)]
          exact bad (fun z => hbN z.2.1) _ rfl
      · rw [if_neg (nI_nlt (by omega) (by omega)), if_pos (show (0 : Int32) = 0 from rfl)]
        exact bad (fun z => haN z.1) _ rfl
    unfold h_X5_knowsBy_44
    rw [if_pos (nI_lt (by omega) (by omega)), if_neg n1, show r + 1 - 1 = r by omega, if_pos hx5, if_pos hx5, ed, er]
    by_cases h1 : r = 0
    · subst h1
      rw [if_pos (show nI (36 ^ 0) ≤ 1 by decide)]
      exact key 1 rfl
    · have h36r : 36 ≤ 36 ^ r := by
        have := Nat.pow_le_pow_right (n := 36) (by omega) (show 1 ≤ r by omega)
        omega
      have hle : ¬ nI (36 ^ r) ≤ 1 := nI_ge (a := 1) (by omega) (by omega)
      rw [if_neg hle, if_pos n36]
      refine key _ ?_
      rw [show (36 : Int32) = nI 36 from rfl, pk_div (by omega) (by omega) (by omega)]
      congr 1
      obtain ⟨q, rfl⟩ : ∃ q, r = q + 1 := ⟨r - 1, by omega⟩
      rw [Nat.pow_succ, Nat.mul_div_cancel _ (by omega : 0 < 36), show q + 1 - 1 = q by omega]
theorem knows_r {N M p t m num : Nat} {CC : Nat → Nat → List Int32} {wc wr : Mem} {K : Nat → Int32} (hB : Bo 1 N M CC wc wr) (hp : p < N) (ht : t < 16) (hm : m ≤ 3) (hK : KS N K) (hnum : num < 36 ^ m) {w : Mem} (hw : QR (wrp N wr K) w) : ∃ z w3, f_X5_knowsBy (nI p) (nI t) (nI num) (nI m) w = some (z, w3) ∧ QR (wrp N wr K) w3 ∧ FR w w3 ∧ (∀ l, okK wc N p t m num K = some l → z = 1 ∧ w3 5 0 32 = nI l) ∧ (okK wc N p t m num K = none → z = 0) := by
  have pw : ∀ (kk : Int32 → Mem → Option (Int32 × Mem)) (r q n : Nat), (q + r = m ∨ (m = 0 ∧ q = 1 ∧ r = 0)) → 1 ≤ q → r < n → h_X5_knowsBy_6 (nI p) (nI t) (nI num) (nI m) kk n (nI (36 ^ (q - 1))) (nI q) w = kk (nI (36 ^ (m - 1))) w := by
    intro kk r
    induction r with
    | zero =>
      intro q n hq h1 hn
      obtain ⟨n, rfl⟩ : ∃ x, n = x + 1 := ⟨n - 1, by omega⟩
      unfold h_X5_knowsBy_6
      rw [if_neg (nI_nlt (by omega) (by omega))]
      rcases hq with hq | ⟨rfl, rfl, -⟩
      · rw [show q = m by omega]
      · rfl
    | succ r ih =>
      intro q n hq h1 hn
      obtain ⟨n, rfl⟩ : ∃ x, n = x + 1 := ⟨n - 1, by omega⟩
      unfold h_X5_knowsBy_6
      rw [if_pos (nI_lt (by omega) (by omega)), nI_1, show (36 : Int32) = nI 36 from rfl, nI_mul, ← Nat.pow_succ, show (q - 1).succ = q + 1 - 1 by omega]
      exact ih (q + 1) n (by omega) (by omega) (by omega)
  obtain ⟨r4, k1, k2⟩ := keeps_r (up w 5 0 32 0)
  have q1 : QR (wrp N wr K) (up w 5 0 32 0) := ⟨fun c hc => by rw [up_j (by omega)]; exact hw.1 c hc, fun c hc => by rw [up_k (by decide)]; exact hw.2.1 c hc, fun x y z h => by rw [up_k (by omega)]; exact hw.2.2 x y z h⟩
  obtain ⟨z, w3, b1, b2, b3, b4, b5⟩ := dig hB hp ht hm k2 m 0 FU num 0 K r4 (by omega) (by show m + 1 < 1000000; omega) hK (q1.tr k2.q) .rf ((k2.2.2.2 5 0 32 (by decide)).trans (up_s _ _ _ _ _)) hnum
  refine ⟨z, w3, ?_, q1.tr b2, ((FR.rf.up (by omega)).tr k2.f).tr b3, fun l hl => ?_, b5⟩
  · unfold f_X5_knowsBy
    have := pw (fun x5_2 w3 => Option.bind (f_X5_keeps (up w3 5 0 32 0)) (fun r4 => h_X5_knowsBy_44 (nI p) (nI t) (nI m) (fun x7_18 w19 => j_X5_knowsBy_185 (nI p) (nI t) x7_18 w19) FU x5_2 (nI num) 1 0 r4)) (m - 1) 1 FU (by omega) (by omega) (by show m - 1 < 1000000; omega)
    rw [show nI (36 ^ (1 - 1)) = 1 from rfl] at this
    rw [this, k1, ob]
    exact b1
  · obtain ⟨z1, z2⟩ := b4 l hl
    exact ⟨z1, by rw [z2]; congr 1; omega⟩
