/-! PURE 6: loops over persons -/
theorem or_top {x k : Nat} (h : x < 2 ^ k) : x ||| 2 ^ k = x + 2 ^ k := by
  have e := Nat.two_pow_add_eq_or_of_lt h 1
  rw [Nat.mul_one] at e
  rw [Nat.or_comm, ← e, Nat.add_comm]
theorem bs_or {g : Nat → Bool} {k : Nat} (h : g k = true) : bs g k ||| 2 ^ k = bs g (k + 1) := by
  rw [or_top (bs_lt g k), bs, if_pos h]
theorem bs_no {g : Nat → Bool} {k : Nat} (h : ¬ g k = true) : bs g k = bs g (k + 1) := by rw [bs, if_neg h, Nat.add_zero]
theorem ct_yes {g : Nat → Bool} {k : Nat} (h : g k = true) : ctb g k + 1 = ctb g (k + 1) := by rw [ctb, if_pos h]
theorem ct_no {g : Nat → Bool} {k : Nat} (h : ¬ g k = true) : ctb g k = ctb g (k + 1) := by rw [ctb, if_neg h, Nat.add_zero]
theorem rwf_at {n t p q : Nat} (hp : p < n) (hq : q ≠ p) : rwf n t p q = t.testBit (pn n p q) := by simp [rwf, hp, hq]
theorem rwf_self {n t p : Nat} : ¬ rwf n t p p = true := by simp [rwf]
theorem ci_loop (N n t p : Nat) (hN : 8 < N) (hn : n < 9) (ht : t < 2 ^ 31) (hp : p < n) : ∀ (d k nu : Nat), k + d = n → d < nu → L_Mo_countIn_5 N (nI n) (nI t) (nI p) nu (nI (ctb (rwf n t p) k)) (nI k) = some (nI (ctb (rwf n t p) n))
  | 0, k, nu + 1, hk, hnu => by
    have hk : k = n := by omega
    subst hk
    rw [L_Mo_countIn_5, if_pos (nI_le (Nat.le_refl k) (by omega))]
  | d + 1, k, nu + 1, hk, hnu => by
    have ih := ci_loop N n t p hN hn ht hp d (k + 1) nu (by omega) (by omega)
    rw [L_Mo_countIn_5, if_neg (nI_ge (by omega) (by omega))]
    simp only [lt]
    by_cases e : k = p
    · subst e
      rw [if_pos rfl, show (0 : Int32) = nI 0 from rfl, nI_add, nI_1, Nat.add_zero, ct_no rwf_self]
      exact ih
    · have hb : pn n p k < 32 := Nat.lt_of_lt_of_le (pn_lt n hn p hp k (by omega) (fun z => e z.symm)) (Nat.le_trans (np_le n hn) (by decide))
      rw [if_neg (fun z => e ((nI_eq (by omega) (by omega)).mp z)), po_I hN hn hp (by omega) (fun z => e z.symm)]
      show (if f_Mo_has (nI t) (nI (pn n p k)) = 0 then _ else _) = _
      rw [has_I ht hb]
      have hr := rwf_at (t := t) hp e
      by_cases z : t.testBit (pn n p k) = true
      · rw [if_pos z, if_neg h10, nI_1, nI_1, ct_yes (by rw [hr]; exact z)]
        exact ih
      · rw [if_neg z, if_pos rfl, show (0 : Int32) = nI 0 from rfl, nI_add, nI_1, Nat.add_zero, ct_no (by rw [hr]; exact z)]
        exact ih
theorem ci_I {N n t p : Nat} (hN : 9 < N) (hn : n < 9) (ht : t < 2 ^ 31) (hp : p < n) : f_Mo_countIn N (nI n) (nI t) (nI p) = some (nI (dgr n t p)) := ci_loop N n t p (by omega) hn ht hp n 0 N (by omega) (by omega)
theorem fi_loop (N n t p : Nat) (hN : 8 < N) (hn : n < 9) (ht : t < 2 ^ 31) (hp : p < n) : ∀ (d k nu : Nat), k + d = n → d < nu → L_Mo_friendsIn_6 N (nI n) (nI t) (nI p) nu (nI (bs (rwf n t p) k)) (nI k) = some (nI (bs (rwf n t p) n))
  | 0, k, nu + 1, hk, hnu => by
    have hk : k = n := by omega
    subst hk
    rw [L_Mo_friendsIn_6, if_pos (nI_le (Nat.le_refl k) (by omega))]
  | d + 1, k, nu + 1, hk, hnu => by
    have ih := fi_loop N n t p hN hn ht hp d (k + 1) nu (by omega) (by omega)
    rw [L_Mo_friendsIn_6, if_neg (nI_ge (by omega) (by omega))]
    simp only [lt]
    by_cases e : k = p
    · subst e
      rw [if_pos rfl, show (0 : Int32) = nI 0 from rfl, or_I, nI_1, Nat.or_zero, bs_no rwf_self]
      exact ih
    · have hb : pn n p k < 32 := Nat.lt_of_lt_of_le (pn_lt n hn p hp k (by omega) (fun z => e z.symm)) (Nat.le_trans (np_le n hn) (by decide))
      rw [if_neg (fun z => e ((nI_eq (by omega) (by omega)).mp z)), po_I hN hn hp (by omega) (fun z => e z.symm)]
      show (if f_Mo_has (nI t) (nI (pn n p k)) = 0 then _ else _) = _
      rw [has_I ht hb]
      have hr := rwf_at (t := t) hp e
      by_cases z : t.testBit (pn n p k) = true
      · rw [if_pos z, if_neg h10, one_sl (by omega), or_I, nI_1, bs_or (by rw [hr]; exact z)]
        exact ih
      · rw [if_neg z, if_pos rfl, show (0 : Int32) = nI 0 from rfl, or_I, nI_1, Nat.or_zero, bs_no (by rw [hr]; exact z)]
        exact ih
theorem fi_I {N n t p : Nat} (hN : 9 < N) (hn : n < 9) (ht : t < 2 ^ 31) (hp : p < n) : f_Mo_friendsIn N (nI n) (nI t) (nI p) = some (nI (rwo n t p)) := fi_loop N n t p (by omega) hn ht hp n 0 N (by omega) (by omega)
theorem q_friends {N : Nat} {M : Mm} (h : Rel M) (x : Int32) (hN : 9 < N) : ∃ r, f_Uc_friends x M = some r ∧ f_Mo_friends N x M = some r := by
  obtain ⟨n, t, b, m, mk, dr, sd, h1, h2, h3, -⟩ := h
  unfold f_Uc_friends f_Mo_friends
  have hn := h1.1
  rcases pers x h1.1 with ⟨j, hj, rfl⟩ | hx
  · refine ⟨nI (rwo n t j), ?_, ?_⟩
    · rw [has_yes h1.1 h2.1 hj, if_neg h10, if_pos (inb_nI (by omega) (by decide)), ix_nI (by omega)]
      exact congrArg some (h2.2.2.2 j (by omega)).1
    · rw [per_yes h1.1 h3.1 hj, if_neg h10, h3.1, h3.2.1, fi_I hN h1.1 (np_lt31 h1.1 h1.2.1) hj]; rfl
  · rw [has_no h1.1 h2.1 hx, if_pos rfl, per_no h1.1 h3.1 hx, if_pos rfl]
    exact ⟨_, rfl, rfl⟩
/-- with whom one is alike -/
def alf (n t p q : Nat) : Bool := decide (q ≠ p) && decide (dgr n t q = dgr n t p)
theorem dgr_le {n t p : Nat} : dgr n t p ≤ n := ctb_le _ _
theorem aw_loop (N : Nat) {M : Mm} {a n t b m mk dr p : Nat} {sd : Nat → Nat} (hn : n < 9) (h : CT M a n t b m mk dr sd) (hp : p < n) : ∀ (d k nu : Nat), k + d = n → d < nu → L_To_alikeWith_4 N a (nI p) M nu (nI (bs (alf n t p) k)) (nI k) = some (nI (bs (alf n t p) n))
  | 0, k, nu + 1, hk, hnu => by
    have hk : k = n := by omega
    subst hk
    rw [L_To_alikeWith_4, h.1, if_pos (nI_le (Nat.le_refl k) (by omega))]
  | d + 1, k, nu + 1, hk, hnu => by
    have ih := aw_loop N hn h hp d (k + 1) nu (by omega) (by omega)
    rw [L_To_alikeWith_4, h.1, if_neg (nI_ge (by omega) (by omega))]
    simp only [lt]
    by_cases e : k = p
    · subst e
      rw [if_pos rfl, nI_1, bs_no (by simp [alf])]
      exact ih
    · rw [if_neg (fun z => e ((nI_eq (by omega) (by omega)).mp z)), cnt_I hn h (by omega), cnt_I hn h (by omega)]
      show (if nI (dgr n t k) = nI (dgr n t p) then _ else _) = _
      have l1 : dgr n t k ≤ n := dgr_le
      have l2 : dgr n t p ≤ n := dgr_le
      by_cases z : dgr n t k = dgr n t p
      · rw [if_pos (by rw [z]), one_sl (by omega), or_I, nI_1, bs_or (by simp [alf, e, z])]
        exact ih
      · rw [if_neg (fun w => z ((nI_eq (by omega) (by omega)).mp w)), nI_1, bs_no (by simp [alf, z])]
        exact ih
theorem aw_I {N : Nat} {M : Mm} {a n t b m mk dr p : Nat} {sd : Nat → Nat} (hN : 9 < N) (hn : n < 9) (h : CT M a n t b m mk dr sd) (hp : p < n) : f_To_alikeWith N a (nI p) M = some (nI (bs (alf n t p) n)) := aw_loop N hn h hp n 0 N (by omega) (by omega)
