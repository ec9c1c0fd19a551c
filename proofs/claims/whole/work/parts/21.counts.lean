/-! PURE 2: bitCount, bits, pairs -/
/-- bitCount over plain numbers -/
def bcN (x : Nat) : Nat :=
  let x1 := x - ((x / 2) &&& 1431655765)
  let x2 := (x1 &&& 858993459) + ((x1 / 4) &&& 858993459)
  let x3 := (x2 + x2 / 16) &&& 252645135
  let x4 := x3 + x3 / 256
  let x5 := x4 + x4 / 65536
  x5 &&& 63
def pcr : Nat → Nat → Nat
  | 0, _ => 0
  | k + 1, x => x % 2 + pcr k (x / 2)
theorem bcN_0 : ∀ a, a < 32 → ∀ b, b < 64 → bcN (0 + (64 * a + b)) = pcr 15 (0 + (64 * a + b)) := by decide +kernel
theorem bcN_1 : ∀ a, a < 32 → ∀ b, b < 64 → bcN (2048 + (64 * a + b)) = pcr 15 (2048 + (64 * a + b)) := by decide +kernel
theorem bcN_2 : ∀ a, a < 32 → ∀ b, b < 64 → bcN (4096 + (64 * a + b)) = pcr 15 (4096 + (64 * a + b)) := by decide +kernel
theorem bcN_3 : ∀ a, a < 32 → ∀ b, b < 64 → bcN (6144 + (64 * a + b)) = pcr 15 (6144 + (64 * a + b)) := by decide +kernel
theorem bcN_4 : ∀ a, a < 32 → ∀ b, b < 64 → bcN (8192 + (64 * a + b)) = pcr 15 (8192 + (64 * a + b)) := by decide +kernel
theorem bcN_5 : ∀ a, a < 32 → ∀ b, b < 64 → bcN (10240 + (64 * a + b)) = pcr 15 (10240 + (64 * a + b)) := by decide +kernel
theorem bcN_6 : ∀ a, a < 32 → ∀ b, b < 64 → bcN (12288 + (64 * a + b)) = pcr 15 (12288 + (64 * a + b)) := by decide +kernel
theorem bcN_7 : ∀ a, a < 32 → ∀ b, b < 64 → bcN (14336 + (64 * a + b)) = pcr 15 (14336 + (64 * a + b)) := by decide +kernel
theorem bcN_8 : ∀ a, a < 32 → ∀ b, b < 64 → bcN (16384 + (64 * a + b)) = pcr 15 (16384 + (64 * a + b)) := by decide +kernel
theorem bcN_9 : ∀ a, a < 32 → ∀ b, b < 64 → bcN (18432 + (64 * a + b)) = pcr 15 (18432 + (64 * a + b)) := by decide +kernel
theorem bcN_10 : ∀ a, a < 32 → ∀ b, b < 64 → bcN (20480 + (64 * a + b)) = pcr 15 (20480 + (64 * a + b)) := by decide +kernel
theorem bcN_11 : ∀ a, a < 32 → ∀ b, b < 64 → bcN (22528 + (64 * a + b)) = pcr 15 (22528 + (64 * a + b)) := by decide +kernel
theorem bcN_12 : ∀ a, a < 32 → ∀ b, b < 64 → bcN (24576 + (64 * a + b)) = pcr 15 (24576 + (64 * a + b)) := by decide +kernel
theorem bcN_13 : ∀ a, a < 32 → ∀ b, b < 64 → bcN (26624 + (64 * a + b)) = pcr 15 (26624 + (64 * a + b)) := by decide +kernel
theorem bcN_14 : ∀ a, a < 32 → ∀ b, b < 64 → bcN (28672 + (64 * a + b)) = pcr 15 (28672 + (64 * a + b)) := by decide +kernel
theorem bcN_15 : ∀ a, a < 32 → ∀ b, b < 64 → bcN (30720 + (64 * a + b)) = pcr 15 (30720 + (64 * a + b)) := by decide +kernel
theorem bcN_at {k : Nat} (f : ∀ a, a < 32 → ∀ b, b < 64 → bcN (2048 * k + (64 * a + b)) = pcr 15 (2048 * k + (64 * a + b))) {x : Nat} (h : x / 2048 = k) : bcN x = pcr 15 x := by
  have h1 := f (x % 2048 / 64) (by omega) (x % 2048 % 64) (by omega)
  have e : 2048 * k + (64 * (x % 2048 / 64) + x % 2048 % 64) = x := by omega
  rwa [e] at h1
theorem bcN_ok {x : Nat} (h : x < 32768) : bcN x = pcr 15 x := by
  rcases (show x / 2048 = 0 ∨ x / 2048 = 1 ∨ x / 2048 = 2 ∨ x / 2048 = 3 ∨ x / 2048 = 4 ∨ x / 2048 = 5 ∨ x / 2048 = 6 ∨ x / 2048 = 7 ∨ x / 2048 = 8 ∨ x / 2048 = 9 ∨ x / 2048 = 10 ∨ x / 2048 = 11 ∨ x / 2048 = 12 ∨ x / 2048 = 13 ∨ x / 2048 = 14 ∨ x / 2048 = 15 by omega) with hq | hq | hq | hq | hq | hq | hq | hq | hq | hq | hq | hq | hq | hq | hq | hq
  · exact bcN_at (k := 0) bcN_0 hq
  · exact bcN_at (k := 1) bcN_1 hq
  · exact bcN_at (k := 2) bcN_2 hq
  · exact bcN_at (k := 3) bcN_3 hq
  · exact bcN_at (k := 4) bcN_4 hq
  · exact bcN_at (k := 5) bcN_5 hq
  · exact bcN_at (k := 6) bcN_6 hq
  · exact bcN_at (k := 7) bcN_7 hq
  · exact bcN_at (k := 8) bcN_8 hq
  · exact bcN_at (k := 9) bcN_9 hq
  · exact bcN_at (k := 10) bcN_10 hq
  · exact bcN_at (k := 11) bcN_11 hq
  · exact bcN_at (k := 12) bcN_12 hq
  · exact bcN_at (k := 13) bcN_13 hq
  · exact bcN_at (k := 14) bcN_14 hq
  · exact bcN_at (k := 15) bcN_15 hq
theorem pcr_ctb : ∀ (k x : Nat), pcr k x = ctb (fun i => x.testBit i) k
  | 0, _ => rfl
  | k + 1, x => by
    have h1 : ∀ (g : Nat → Bool) (m : Nat), ctb g (m + 1) = (if g 0 = true then 1 else 0) + ctb (fun i => g (i + 1)) m := by
      intro g m
      induction m with
      | zero => simp [ctb]
      | succ m ih => rw [ctb, ih, ctb]; omega
    rw [pcr, h1, pcr_ctb k (x / 2)]
    have h2 : x % 2 = (if x.testBit 0 = true then 1 else 0) := by
      rw [Nat.testBit_zero]
      by_cases e : x % 2 = 1
      · simp [e]
      · simp [e]; omega
    rw [h2]
    congr 1
    exact ctb_cong (fun i _ => by rw [Nat.testBit_add_one])
theorem us_I {a : Nat} (ha : a < 2 ^ 31) (k : Nat) (hk : k = 1 ∨ k = 2 ∨ k = 4 ∨ k = 8 ∨ k = 16) : ((nI a).toUInt32 >>> ((nI k).toUInt32 &&& Int32.toUInt32 31)).toInt32 = nI (a / 2 ^ k) := by
  refine pk_ushrN (by omega) (nI k) k ?_
  rcases hk with rfl | rfl | rfl | rfl | rfl <;> decide
theorem bc_N {x : Nat} (h : x < 32768) : f_In_bitCount (nI x) = nI (bcN x) := by
  unfold f_In_bitCount bcN
  simp only [lt]
  have q1 : (x / 2) &&& 1431655765 ≤ x / 2 := Nat.and_le_left
  rw [show (1 : Int32) = nI 1 from rfl, us_I (by omega) 1 (by decide), show (1431655765 : Int32) = nI 1431655765 from rfl, an_I, show x / 2 ^ 1 = x / 2 from rfl, pk_sub (by omega)]
  generalize hx1 : x - (x / 2 &&& 1431655765) = x1
  have b1 : x1 < 32768 := by omega
  have q2 : x1 &&& 858993459 ≤ x1 := Nat.and_le_left
  have q3 : (x1 / 4) &&& 858993459 ≤ x1 / 4 := Nat.and_le_left
  rw [show (2 : Int32) = nI 2 from rfl, us_I (by omega) 2 (by decide), show (858993459 : Int32) = nI 858993459 from rfl, an_I, an_I, show x1 / 2 ^ 2 = x1 / 4 from rfl, nI_add]
  generalize hx2 : (x1 &&& 858993459) + (x1 / 4 &&& 858993459) = x2
  have b2 : x2 < 65536 := by omega
  have q4 : (x2 + x2 / 16) &&& 252645135 ≤ x2 + x2 / 16 := Nat.and_le_left
  rw [show (4 : Int32) = nI 4 from rfl, us_I (by omega) 4 (by decide), show (252645135 : Int32) = nI 252645135 from rfl, show x2 / 2 ^ 4 = x2 / 16 from rfl, nI_add, an_I]
  generalize hx3 : (x2 + x2 / 16) &&& 252645135 = x3
  have b3 : x3 < 131072 := by omega
  rw [show (8 : Int32) = nI 8 from rfl, us_I (by omega) 8 (by decide), show x3 / 2 ^ 8 = x3 / 256 from rfl, nI_add]
  generalize hx4 : x3 + x3 / 256 = x4
  have b4 : x4 < 262144 := by omega
  rw [show (16 : Int32) = nI 16 from rfl, us_I (by omega) 16 (by decide), show x4 / 2 ^ 16 = x4 / 65536 from rfl, nI_add, show (63 : Int32) = nI 63 from rfl, an_I]
theorem bc_I {x : Nat} (h : x < 2 ^ 15) : f_In_bitCount (nI x) = nI (ctb (fun i => x.testBit i) 15) := by
  rw [bc_N h, bcN_ok h, pcr_ctb]
theorem ctb_ext {f : Nat → Bool} {k : Nat} (h : ∀ i, k ≤ i → f i = false) : ∀ d, ctb f (k + d) = ctb f k
  | 0 => rfl
  | d + 1 => by rw [← Nat.add_assoc, ctb, ctb_ext h d, h (k + d) (by omega)]; simp
theorem ctb_bs {f : Nat → Bool} {k K : Nat} (h : k ≤ K) : ctb (fun i => (bs f k).testBit i) K = ctb f k := by
  obtain ⟨d, rfl⟩ : ∃ d, K = k + d := ⟨K - k, by omega⟩
  rw [ctb_ext (k := k) (fun i hi => by rw [bs_bit]; simp; omega)]
  exact ctb_cong (fun i hi => by rw [bs_bit]; simp [hi])
/-- bitCount of a number made of at most 15 bits -/
theorem bc_bs {f : Nat → Bool} {k : Nat} (h : k ≤ 15) : f_In_bitCount (nI (bs f k)) = nI (ctb f k) := by
  rw [bc_I (Nat.lt_of_lt_of_le (bs_lt f k) (Nat.pow_le_pow_right (by decide) h)), ctb_bs h]
theorem bits_loop (N x : Nat) (hx : x < 2 ^ 31) : ∀ (d k nu : Nat), k + d = 28 → d < nu → L_Mo_bits_4 N (nI x) nu (nI (ctb (fun i => x.testBit i) k)) (nI k) = some (nI (ctb (fun i => x.testBit i) 28))
  | 0, k, nu + 1, hk, hn => by
    have hk : k = 28 := by omega
    subst hk
    rw [L_Mo_bits_4, if_pos (by decide)]
  | d + 1, k, nu + 1, hk, hn => by
    rw [L_Mo_bits_4, if_neg (show ¬ (28 : Int32) ≤ nI k from nI_ge (a := k) (b := 28) (by omega) (by decide)), bit_I hx (by omega), nI_add]
    simp only [lt]
    rw [nI_1]
    have := bits_loop N x hx d (k + 1) nu (by omega) (by omega)
    rw [ctb] at this
    exact this
theorem bits_I {N x : Nat} (hN : 28 < N) (hx : x < 2 ^ 31) : f_Mo_bits N (nI x) = some (nI (ctb (fun i => x.testBit i) 28)) := bits_loop N x hx 28 0 N rfl hN
theorem bits_bs {N : Nat} {f : Nat → Bool} {k : Nat} (hN : 28 < N) (h : k ≤ 28) : f_Mo_bits N (nI (bs f k)) = some (nI (ctb f k)) := by
  rw [bits_I hN (Nat.lt_of_lt_of_le (bs_lt f k) (Nat.pow_le_pow_right (by decide) (by omega))), ctb_bs h]
/-! the number of a pair -/
def pr0 (n p : Nat) : Nat := p * (2 * n - p - 1) / 2
def pn (n p q : Nat) : Nat := if p < q then pr0 n p + (q - p - 1) else pr0 n q + (p - q - 1)
def np (n : Nat) : Nat := n * (n - 1) / 2
theorem pn_comm {n p q : Nat} (h : p ≠ q) : pn n p q = pn n q p := by
  unfold pn
  rcases Nat.lt_or_gt_of_ne h with e | e
  · rw [if_pos e, if_neg (by omega)]
  · rw [if_neg (by omega), if_pos e]
theorem np_le : ∀ n, n < 9 → np n ≤ 28 := by decide
theorem pn_lt : ∀ n, n < 9 → ∀ p, p < n → ∀ q, q < n → p ≠ q → pn n p q < np n := by decide
def pinv (n k : Nat) : Nat := ((List.range 64).find? (fun c => decide (c / 8 < c % 8) && (decide (c % 8 < n) && decide (pn n (c / 8) (c % 8) = k)))).getD 0
theorem pinv_ok : ∀ n, n < 9 → ∀ p, p < n → ∀ q, q < n → (p < q → pinv n (pn n p q) = 8 * p + q) := by decide +kernel
theorem pn_inj0 {n p q a b : Nat} (hn : n < 9) (hp : p < n) (hq : q < n) (hpq : p < q) (ha : a < n) (hb : b < n) (hab : a < b) (h : pn n p q = pn n a b) : p = a ∧ q = b := by
  have h1 := pinv_ok n hn p hp q hq hpq
  have h2 := pinv_ok n hn a ha b hb hab
  rw [h, h2] at h1
  omega
theorem pn_inj {n p q b : Nat} (hn : n < 9) (hp : p < n) (hq : q < n) (hpq : p ≠ q) (hb : b < n) (hpb : p ≠ b) (h : pn n p q = pn n p b) : q = b := by
  rcases Nat.lt_or_gt_of_ne hpq with e | e <;> rcases Nat.lt_or_gt_of_ne hpb with f | f
  · exact (pn_inj0 hn hp hq e hp hb f h).2
  · rw [pn_comm hpb] at h; have := pn_inj0 hn hp hq e hb hp f h; omega
  · rw [pn_comm hpq] at h; have := pn_inj0 hn hq hp e hp hb f h; omega
  · rw [pn_comm hpq, pn_comm hpb] at h; exact (pn_inj0 hn hq hp e hb hp f h).1
theorem pn_on : ∀ n, n < 9 → ∀ k, k < np n → ∃ p, p < n ∧ ∃ q, q < n ∧ p < q ∧ pn n p q = k := by decide +kernel
