/-! PURE 1: numbers and bits -/
theorem ix_nI {i : Nat} (h : i < 2 ^ 31) : Int32.toNatClampNeg (nI i) = i := nI_clamp h
theorem inb_nI {i n : Nat} (h : i < n) (hn : n < 2 ^ 31) : inb (nI i) n = true := inb_iff.mpr (vp_in_nI h hn)
theorem li_I (k : Nat) : (OfNat.ofNat k : Int32) = nI k := rfl
theorem an_I (a b : Nat) : nI a &&& nI b = nI (a &&& b) := by
  apply Int32.toBitVec_inj.1
  show BitVec.ofNat 32 a &&& BitVec.ofNat 32 b = BitVec.ofNat 32 (a &&& b)
  apply BitVec.eq_of_getLsbD_eq
  intro i hi
  simp [hi]
theorem or_I (a b : Nat) : nI a ||| nI b = nI (a ||| b) := by
  apply Int32.toBitVec_inj.1
  show BitVec.ofNat 32 a ||| BitVec.ofNat 32 b = BitVec.ofNat 32 (a ||| b)
  apply BitVec.eq_of_getLsbD_eq
  intro i hi
  simp [hi]
theorem xo_I (a b : Nat) : nI a ^^^ nI b = nI (a ^^^ b) := by
  apply Int32.toBitVec_inj.1
  show BitVec.ofNat 32 a ^^^ BitVec.ofNat 32 b = BitVec.ofNat 32 (a ^^^ b)
  apply BitVec.eq_of_getLsbD_eq
  intro i hi
  simp [hi]
theorem amt_I : ∀ b, b < 32 → ((nI b &&& 31).toBitVec.smod 32).toNat = b := by decide +kernel
theorem sr_I {a b : Nat} (ha : a < 2 ^ 31) (hb : b < 32) : nI a >>> (nI b &&& 31) = nI (a / 2 ^ b) := pk_shrN ha _ b (amt_I b hb)
theorem sl_I {a b : Nat} (hb : b < 32) (h : a * 2 ^ b < 2 ^ 32) : nI a <<< (nI b &&& 31) = nI (a * 2 ^ b) := pk_shlN _ b (amt_I b hb) h
theorem one_sl {b : Nat} (hb : b < 32) : (1 : Int32) <<< (nI b &&& 31) = nI (2 ^ b) := by
  have h : 1 * 2 ^ b < 2 ^ 32 := by rw [Nat.one_mul]; exact Nat.pow_lt_pow_right (by decide) hb
  have := sl_I (a := 1) hb h
  rwa [Nat.one_mul] at this
/-- bit b of a as a number -/
def bt (a b : Nat) : Nat := if a.testBit b = true then 1 else 0
theorem bt_le (a b : Nat) : bt a b ≤ 1 := by unfold bt; split <;> omega
theorem bt_div (a b : Nat) : a / 2 ^ b &&& 1 = bt a b := by
  rw [Nat.and_one_is_mod, ← Nat.shiftRight_eq_div_pow]
  have h := Nat.testBit_zero (a >>> b)
  rw [Nat.testBit_shiftRight, Nat.add_zero] at h
  unfold bt
  rw [h]
  by_cases e : a >>> b % 2 = 1
  · simp [e]
  · simp [e]; omega
theorem bit_I {a b : Nat} (ha : a < 2 ^ 31) (hb : b < 32) : (nI a >>> (nI b &&& 31)) &&& 1 = nI (bt a b) := by
  rw [sr_I ha hb, show (1 : Int32) = nI 1 from rfl, an_I, bt_div]
theorem bit_1 {a b : Nat} (ha : a < 2 ^ 31) (hb : b < 32) : ((nI a >>> (nI b &&& 31)) &&& 1) = 1 ↔ a.testBit b = true := by
  rw [bit_I ha hb, show (1 : Int32) = nI 1 from rfl, nI_eq (Nat.lt_of_le_of_lt (bt_le a b) (by decide)) (by decide)]
  unfold bt
  split <;> simp_all
/-- the number whose bits below k are f -/
def bs (f : Nat → Bool) : Nat → Nat
  | 0 => 0
  | k + 1 => bs f k + (if f k = true then 2 ^ k else 0)
theorem bs_lt (f : Nat → Bool) : ∀ k, bs f k < 2 ^ k
  | 0 => by simp [bs]
  | k + 1 => by
    have h := bs_lt f k
    rw [bs, Nat.pow_succ]
    split <;> omega
theorem bs_bit (f : Nat → Bool) (i : Nat) : ∀ k, (bs f k).testBit i = (decide (i < k) && f i)
  | 0 => by simp [bs]
  | k + 1 => by
    have h := bs_bit f i k
    have hl := bs_lt f k
    rw [bs]
    by_cases hf : f k = true
    · rw [if_pos hf, Nat.add_comm]
      rcases Nat.lt_trichotomy i k with q | q | q
      · rw [Nat.testBit_two_pow_add_gt q, h]
        simp [q, Nat.lt_succ_of_lt q]
      · subst q
        rw [Nat.testBit_two_pow_add_eq, Nat.testBit_lt_two_pow hl]
        simp [hf]
      · have : 2 ^ k + bs f k < 2 ^ i := by
          have h2 : 2 ^ (k + 1) ≤ 2 ^ i := Nat.pow_le_pow_right (by decide) q
          rw [Nat.pow_succ] at h2
          omega
        rw [Nat.testBit_lt_two_pow this]
        have e : ¬ i < k + 1 := by omega
        simp [e]
    · rw [if_neg hf, Nat.add_zero, h]
      by_cases e : i = k
      · subst e; simp [hf]
      · have : i < k + 1 ↔ i < k := by omega
        simp [this]
theorem bs_cong {f g : Nat → Bool} : ∀ {k}, (∀ i, i < k → f i = g i) → bs f k = bs g k
  | 0, _ => rfl
  | k + 1, h => by rw [bs, bs, bs_cong (fun i hi => h i (by omega)), h k (by omega)]
/-- a number below 2^k is its bits -/
theorem bs_self {x k : Nat} (h : x < 2 ^ k) : bs (fun i => x.testBit i) k = x := by
  apply Nat.eq_of_testBit_eq
  intro i
  rw [bs_bit]
  by_cases q : i < k
  · simp [q]
  · have : x < 2 ^ i := Nat.lt_of_lt_of_le h (Nat.pow_le_pow_right (by decide) (by omega))
    simp [q, Nat.testBit_lt_two_pow this]
/-- how many below k -/
def ctb (f : Nat → Bool) : Nat → Nat
  | 0 => 0
  | k + 1 => ctb f k + (if f k = true then 1 else 0)
theorem ctb_le (f : Nat → Bool) : ∀ k, ctb f k ≤ k
  | 0 => Nat.le_refl 0
  | k + 1 => by have := ctb_le f k; rw [ctb]; split <;> omega
theorem ctb_cong {f g : Nat → Bool} : ∀ {k}, (∀ i, i < k → f i = g i) → ctb f k = ctb g k
  | 0, _ => rfl
  | k + 1, h => by rw [ctb, ctb, ctb_cong (fun i hi => h i (by omega)), h k (by omega)]
theorem si1 (M : Mm) (a k : Nat) (x : Int32) (b j : Nat) : (si M a k x).1 b j = if b = a ∧ j = k then x else M.1 b j := rfl
theorem si2 (M : Mm) (a k : Nat) (x : Int32) : (si M a k x).2 = M.2 := rfl
theorem sl1 (M : Mm) (a k : Nat) (x : Int64) : (sl M a k x).1 = M.1 := rfl
theorem sl2 (M : Mm) (a k : Nat) (x : Int64) (b j : Nat) : (sl M a k x).2 b j = if b = a ∧ j = k then x else M.2 b j := rfl
theorem si_s (M : Mm) (a k : Nat) (x : Int32) : (si M a k x).1 a k = x := by rw [si1, if_pos ⟨rfl, rfl⟩]
theorem si_a (M : Mm) {a k b j : Nat} (x : Int32) (h : b ≠ a) : (si M a k x).1 b j = M.1 b j := by rw [si1, if_neg (fun q => h q.1)]
theorem si_k (M : Mm) {a k b j : Nat} (x : Int32) (h : j ≠ k) : (si M a k x).1 b j = M.1 b j := by rw [si1, if_neg (fun q => h q.2)]
