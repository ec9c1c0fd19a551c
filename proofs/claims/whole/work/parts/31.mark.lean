/-! PURE 12: one bit of a town changes -/
def stb (t k : Nat) (v : Bool) (w : Nat) : Nat := bs (fun i => if i = k then v else t.testBit i) w
theorem stb_bit {t k w i : Nat} {v : Bool} (ht : t < 2 ^ w) (hk : k < w) : (stb t k v w).testBit i = if i = k then v else t.testBit i := by
  unfold stb
  rw [bs_bit]
  by_cases e : i = k
  · subst e; simp [hk]
  · by_cases q : i < w
    · simp [q, e]
    · have : t < 2 ^ i := Nat.lt_of_lt_of_le ht (Nat.pow_le_pow_right (by decide) (by omega))
      simp [q, e, Nat.testBit_lt_two_pow this]
theorem stb_lt {t k w : Nat} {v : Bool} : stb t k v w < 2 ^ w := bs_lt _ _
theorem m1_I : (-1 : Int32) = nI 4294967295 := by decide
theorem or_stb {t k w : Nat} (ht : t < 2 ^ w) (hk : k < w) : t ||| 2 ^ k = stb t k true w := by
  apply Nat.eq_of_testBit_eq
  intro i
  rw [stb_bit ht hk, Nat.testBit_or, Nat.testBit_two_pow]
  by_cases e : i = k
  · subst e; simp
  · have e2 : ¬ k = i := fun z => e z.symm
    simp [e, e2]
theorem an_stb {t k w : Nat} (ht : t < 2 ^ w) (hk : k < w) (hw : w ≤ 31) : t &&& (2 ^ k ^^^ 4294967295) = stb t k false w := by
  apply Nat.eq_of_testBit_eq
  intro i
  rw [stb_bit ht hk, Nat.testBit_and, Nat.testBit_xor, Nat.testBit_two_pow, show (4294967295 : Nat) = 2 ^ 32 - 1 from rfl, Nat.testBit_two_pow_sub_one]
  by_cases e : i = k
  · subst e; simp; omega
  · have e2 : ¬ k = i := fun z => e z.symm
    by_cases q : i < 32
    · simp [e, e2, q]
    · have : t < 2 ^ i := Nat.lt_of_lt_of_le ht (Nat.pow_le_pow_right (by decide) (by omega))
      simp [e, Nat.testBit_lt_two_pow this]
theorem or_sI {t k w : Nat} (ht : t < 2 ^ w) (hk : k < w) (hw : w ≤ 31) : nI t ||| ((1 : Int32) <<< (nI k &&& 31)) = nI (stb t k true w) := by
  rw [one_sl (by omega), or_I, or_stb ht hk]
theorem an_sI {t k w : Nat} (ht : t < 2 ^ w) (hk : k < w) (hw : w ≤ 31) : nI t &&& (((1 : Int32) <<< (nI k &&& 31)) ^^^ (-1)) = nI (stb t k false w) := by
  rw [one_sl (by omega), m1_I, xo_I, an_I, an_stb ht hk hw]
/-- a row behind the change of the pair p, q -/
theorem rwo_stb {n t p q : Nat} {v : Bool} (hn : n < 9) (ht : t < 2 ^ np n) (hp : p < n) (hq : q < n) (hpq : p ≠ q) : rwo n (stb t (pn n p q) v (np n)) p = stb (rwo n t p) q v 8 := by
  have hk := pn_lt n hn p hp q hq hpq
  apply Nat.eq_of_testBit_eq
  intro i
  rw [stb_bit (rwo_lt hn) (by omega), rwo_bit, rwo_bit]
  by_cases e : i = q
  · subst e
    rw [rwf_at hp (fun z => hpq z.symm), stb_bit ht hk]
    simp [hq]
  · rw [if_neg e]
    by_cases hi : i < n
    · by_cases e2 : i = p
      · subst e2; simp [rwf]
      · rw [rwf_at hp e2, rwf_at hp e2, stb_bit ht hk, if_neg (fun z => e (pn_inj hn hp hi (fun w => e2 w.symm) hq hpq z))]
    · simp [hi]
theorem rwo_stb' {n t p q j : Nat} {v : Bool} (hn : n < 9) (ht : t < 2 ^ np n) (hp : p < n) (hq : q < n) (hpq : p ≠ q) (h1 : j ≠ p) (h2 : j ≠ q) : rwo n (stb t (pn n p q) v (np n)) j = rwo n t j := by
  have hk := pn_lt n hn p hp q hq hpq
  refine bs_cong (fun i hi => ?_)
  unfold rwf
  by_cases hj : j < n
  · by_cases e : i = j
    · subst e; simp
    · have hne : pn n j i ≠ pn n p q := by
        intro z
        rcases Nat.lt_or_gt_of_ne e with f | f <;> rcases Nat.lt_or_gt_of_ne hpq with g | g
        · rw [pn_comm (fun w => e w.symm)] at z; have := pn_inj0 hn hi hj f hp hq g z; omega
        · rw [pn_comm (fun w => e w.symm), pn_comm hpq] at z; have := pn_inj0 hn hi hj f hq hp g z; omega
        · have := pn_inj0 hn hj hi f hp hq g z; omega
        · rw [pn_comm hpq] at z; have := pn_inj0 hn hj hi f hq hp g z; omega
      rw [stb_bit ht hk, if_neg hne]
  · simp [hj]
/-- the class's mark: rows of a number become rows of the changed number -/
def mkM (c p q n t : Nat) (v : Bool) (M : Mm) : Mm := si (si M c p (nI (stb (rwo n t p) q v 8))) c q (nI (stb (rwo n t q) p v 8))
theorem mark_I {M : Mm} {a c n t p q : Nat} {v : Bool} (hn : n < 9) (hr : ∀ p, p < 8 → M.1 c p = nI (rwo n t p)) (hp : p < n) (hq : q < n) (hpq : p ≠ q) : f_To_mark a c (nI p) (nI q) (if v = true then 1 else 0) M = some (mkM c p q n t v M) := by
  have ip8 : inb (nI p) 8 = true := inb_nI (by omega) (by decide)
  have iq8 : inb (nI q) 8 = true := inb_nI (by omega) (by decide)
  unfold f_To_mark
  simp only [if_pos ip8, if_pos iq8, ix_nI (show p < 2 ^ 31 by omega), ix_nI (show q < 2 ^ 31 by omega), lt]
  cases v with
  | true =>
    rw [if_neg (show ¬ (if true = true then (1 : Int32) else 0) = 0 by decide), si_k _ _ (fun z => hpq z.symm), hr p (by omega), hr q (by omega), or_sI (rwo_lt hn) (by omega) (by decide), or_sI (rwo_lt hn) (by omega) (by decide)]
    rfl
  | false =>
    rw [if_pos (show (if false = true then (1 : Int32) else 0) = 0 by decide), si_k _ _ (fun z => hpq z.symm), hr p (by omega), hr q (by omega), an_sI (rwo_lt hn) (by omega) (by decide), an_sI (rwo_lt hn) (by omega) (by decide)]
    rfl
theorem mk_rows {M : Mm} {c n t p q : Nat} {v : Bool} (hn : n < 9) (ht : t < 2 ^ np n) (hr : ∀ p, p < 8 → M.1 c p = nI (rwo n t p)) (hp : p < n) (hq : q < n) (hpq : p ≠ q) : ∀ j, j < 8 → (mkM c p q n t v M).1 c j = nI (rwo n (stb t (pn n p q) v (np n)) j) := by
  intro j hj
  unfold mkM
  by_cases e2 : j = q
  · subst e2; rw [si_s, pn_comm hpq, rwo_stb hn ht hq hp (fun z => hpq z.symm)]
  · rw [si_k _ _ e2]
    by_cases e1 : j = p
    · subst e1; rw [si_s, rwo_stb hn ht hp hq hpq]
    · rw [si_k _ _ e1, hr j hj, rwo_stb' hn ht hp hq hpq e1 e2]
theorem mk_off {M : Mm} {c n t p q a j : Nat} {v : Bool} (h : a ≠ c) : (mkM c p q n t v M).1 a j = M.1 a j := by
  unfold mkM
  rw [si_a _ _ h, si_a _ _ h]
