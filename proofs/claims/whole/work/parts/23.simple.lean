/-! PURE 4: the town's small methods -/
theorem cnt_I {M : Mm} {a n t b m mk dr p : Nat} {sd : Nat → Nat} (hn : n < 9) (h : CT M a n t b m mk dr sd) (hp : p < 8) : f_To_countOf a (nI p) M = some (nI (dgr n t p)) := by
  unfold f_To_countOf
  rw [if_pos (inb_nI hp (by decide)), ix_nI (by omega), (h.2.2.2 p hp).1, rwo_bc hn]
theorem fri_I {M : Mm} {a n t b m mk dr p q : Nat} {sd : Nat → Nat} (hn : n < 9) (h : CT M a n t b m mk dr sd) (hp : p < n) (hq : q < n) (hpq : p ≠ q) : f_To_areFriends a (nI p) (nI q) M = some (if t.testBit (pn n p q) = true then 1 else 0) := by
  unfold f_To_areFriends
  rw [if_pos (inb_nI (by omega) (by decide)), ix_nI (by omega), (h.2.2.2 p (by omega)).1]
  have hb := bit_1 (a := rwo n t p) (b := q) (Nat.lt_trans (rwo_lt hn) (by decide)) (by omega)
  have hq2 : ¬ q = p := fun z => hpq z.symm
  have e : (rwo n t p).testBit q = t.testBit (pn n p q) := by rw [rwo_bit]; simp [rwf, hp, hq, hq2]
  rw [e] at hb
  by_cases z : t.testBit (pn n p q) = true
  · rw [if_pos (hb.mpr z), if_pos z]
  · rw [if_neg (fun w => z (hb.mp w)), if_neg z]
/-- bars of two: 0 none, 1 barred, 2 must -/
def brs (n b m p q : Nat) : Nat := if b.testBit (pn n p q) = true then 1 else if m.testBit (pn n p q) = true then 2 else 0
theorem bar_I {M : Mm} {a n t b m mk dr p q : Nat} {sd : Nat → Nat} (hn : n < 9) (h : CT M a n t b m mk dr sd) (hp : p < n) (hq : q < n) (hpq : p ≠ q) : f_To_barOf a (nI p) (nI q) M = some (nI (brs n b m p q)) := by
  unfold f_To_barOf brs
  rw [if_pos (inb_nI (by omega) (by decide)), ix_nI (by omega), (h.2.2.2 p (by omega)).2.1, (h.2.2.2 p (by omega)).2.2.1]
  have hq2 : ¬ q = p := fun z => hpq z.symm
  have hb := bit_1 (a := rwo n b p) (b := q) (Nat.lt_trans (rwo_lt hn) (by decide)) (by omega)
  have hm := bit_1 (a := rwo n m p) (b := q) (Nat.lt_trans (rwo_lt hn) (by decide)) (by omega)
  have eb : (rwo n b p).testBit q = b.testBit (pn n p q) := by rw [rwo_bit]; simp [rwf, hp, hq, hq2]
  have em : (rwo n m p).testBit q = m.testBit (pn n p q) := by rw [rwo_bit]; simp [rwf, hp, hq, hq2]
  rw [eb] at hb
  rw [em] at hm
  by_cases z : b.testBit (pn n p q) = true
  · rw [if_pos (hb.mpr z), if_pos z]; rfl
  · rw [if_neg (fun w => z (hb.mp w)), if_neg z, if_pos (inb_nI (by omega) (by decide))]
    by_cases z2 : m.testBit (pn n p q) = true
    · rw [if_pos (hm.mpr z2), if_pos z2]; rfl
    · rw [if_neg (fun w => z2 (hm.mp w)), if_neg z2]; rfl
/-! the reference's pair number -/
def psum (n : Nat) : Nat → Nat
  | 0 => 0
  | a + 1 => psum n a + (n - 1 - a)
theorem psum_ok : ∀ n, n < 9 → ∀ a, a < n → psum n a = pr0 n a := by decide
theorem po_loop (N n lo : Nat) (ju : Int32 → Option Int32) (hn : n < 9) (hlo : lo < n) : ∀ (d k nu : Nat), k + d = lo → d < nu → L_Mo_pairOf_29 N (nI n) (nI lo) ju nu (nI (psum n k)) (nI k) = ju (nI (psum n lo))
  | 0, k, nu + 1, hk, hnu => by
    have hk : k = lo := by omega
    subst hk
    rw [L_Mo_pairOf_29, if_pos (nI_le (Nat.le_refl k) (by omega))]
  | d + 1, k, nu + 1, hk, hnu => by
    rw [L_Mo_pairOf_29, if_neg (nI_ge (by omega) (by omega))]
    simp only [lt]
    obtain ⟨n', rfl⟩ : ∃ n', n = n' + 1 := ⟨n - 1, by omega⟩
    rw [nI_pred, pk_sub (by omega), nI_add, nI_1]
    have := po_loop N (n' + 1) lo ju hn hlo d (k + 1) nu (by omega) (by omega)
    rw [psum, Nat.add_sub_cancel] at this
    exact this
theorem po_I {N n p q : Nat} (hN : 8 < N) (hn : n < 9) (hp : p < n) (hq : q < n) (hpq : p ≠ q) : f_Mo_pairOf N (nI n) (nI p) (nI q) = some (nI (pn n p q)) := by
  unfold f_Mo_pairOf
  simp only [lt]
  have key : ∀ lo hi : Nat, lo < n → hi < n → lo < hi → L_Mo_pairOf_29 N (nI n) (nI lo) (fun xu6 => some (((xu6 + nI hi) - nI lo) - 1)) N 0 0 = some (nI (pr0 n lo + (hi - lo - 1))) := by
    intro lo hi h1 h2 h3
    have := po_loop N n lo (fun xu6 => some (((xu6 + nI hi) - nI lo) - 1)) hn h1 lo 0 N (by omega) (by omega)
    rw [show (nI (psum n 0)) = 0 from rfl, show nI 0 = 0 from rfl] at this
    rw [this, psum_ok n hn lo h1, nI_add, pk_sub (by omega), show (1 : Int32) = nI 1 from rfl, pk_sub (by omega)]
    congr 2
    omega
  unfold pn
  rcases Nat.lt_or_gt_of_ne hpq with e | e
  · have c1 : ¬ nI q ≤ nI p := nI_ge e (by omega)
    simp only [if_neg c1, if_pos e]
    exact key p q hp hq e
  · have c1 : nI q ≤ nI p := nI_le (by omega) (by omega)
    have c2 : ¬ p < q := by omega
    simp only [if_pos c1, if_neg c2]
    exact key q p hq hp e
theorem has_I {t k : Nat} (ht : t < 2 ^ 31) (hk : k < 32) : f_Mo_has (nI t) (nI k) = if t.testBit k = true then 1 else 0 := by
  unfold f_Mo_has
  by_cases z : t.testBit k = true
  · rw [if_pos z, if_pos ((bit_1 ht hk).mpr z)]
  · rw [if_neg z, if_neg (fun w => z ((bit_1 ht hk).mp w))]
theorem pnu_all : ∀ n, n < 9 → ∀ p, p < n → ∀ q, q < n → (p < q → p * (2 * n - p - 1) / 2 + q - p - 1 = pn n p q) := by decide
/-- the class's pair number -/
theorem pnu_I {M : Mm} {a n p q : Nat} (hn : n < 9) (h : M.1 a 0 = nI n) (hp : p < n) (hq : q < n) (hpq : p ≠ q) : f_To_pairNumber a (nI p) (nI q) M = nI (pn n p q) := by
  have key : ∀ lo hi : Nat, lo < n → hi < n → lo < hi → ((((nI lo * (((nI 2 * nI n) - nI lo) - nI 1)) / nI 2) + nI hi) - nI lo) - nI 1 = nI (pn n lo hi) := by
    intro lo hi h1 h2 h3
    have b1 : lo * (2 * n - lo - 1) ≤ 8 * 16 := Nat.mul_le_mul (by omega) (by omega)
    rw [pk_mul, pk_sub (by omega), pk_sub (by omega), pk_mul, pk_div (by omega) (by decide) (by decide), nI_add, pk_sub (by omega), pk_sub (by omega), pnu_all n hn lo h1 hi h2 h3]
  unfold f_To_pairNumber f_Ma_min_II f_Ma_max
  simp only [lt]
  rw [h]
  rcases Nat.lt_or_gt_of_ne hpq with e | e
  · rw [if_neg (nI_nlt (by omega) (by omega)), if_pos (nI_lt e (by omega))]
    exact key p q hp hq e
  · rw [if_pos (nI_lt e (by omega)), if_neg (nI_nlt (by omega) (by omega)), pn_comm hpq]
    exact key q p hq hp e
