/-! PURE 8: sums over pairs; told -/
def smN (f : Nat → Nat) : Nat → Nat
  | 0 => 0
  | k + 1 => smN f k + f k
theorem smN_cong {f g : Nat → Nat} : ∀ {k}, (∀ i, i < k → f i = g i) → smN f k = smN g k
  | 0, _ => rfl
  | k + 1, h => by rw [smN, smN, smN_cong (fun i hi => h i (by omega)), h k (by omega)]
theorem smN_add (f g : Nat → Nat) : ∀ k, smN (fun i => f i + g i) k = smN f k + smN g k
  | 0 => rfl
  | k + 1 => by rw [smN, smN, smN, smN_add f g k]; omega
theorem smN_le {f : Nat → Nat} {c : Nat} : ∀ {k}, (∀ i, i < k → f i ≤ c) → smN f k ≤ k * c
  | 0, _ => by simp [smN]
  | k + 1, h => by
    have := smN_le (k := k) (fun i hi => h i (by omega))
    have := h k (by omega)
    rw [smN, Nat.succ_mul]; omega
theorem smN_zero : ∀ k, smN (fun _ => 0) k = 0
  | 0 => rfl
  | k + 1 => by rw [smN, smN_zero k]
theorem smN_swap (F : Nat → Nat → Nat) (m : Nat) : ∀ n, smN (fun p => smN (F p) m) n = smN (fun q => smN (fun p => F p q) n) m
  | 0 => (smN_zero m).symm
  | n + 1 => by
    rw [smN, smN_swap F m n, ← smN_add]
    rfl
def b1 (b : Bool) : Nat := if b = true then 1 else 0
theorem ctb_sm (g : Nat → Bool) : ∀ n, ctb g n = smN (fun q => b1 (g q)) n
  | 0 => rfl
  | n + 1 => by rw [ctb, smN, ctb_sm g n]; rfl
/-- each pair of a symmetric relation is counted twice -/
theorem twice {R : Nat → Nat → Bool} {n : Nat} (hs : ∀ p q, p < n → q < n → R p q = R q p) (hi : ∀ p, p < n → R p p = false) : smN (fun p => ctb (R p) n) n = 2 * smN (fun p => ctb (fun q => decide (p < q) && R p q) n) n := by
  have e1 : smN (fun p => ctb (R p) n) n = smN (fun p => smN (fun q => b1 (decide (p < q) && R p q) + b1 (decide (q < p) && R p q)) n) n := by
    refine smN_cong (fun p hp => ?_)
    rw [ctb_sm]
    refine smN_cong (fun q hq => ?_)
    rcases Nat.lt_trichotomy p q with e | e | e
    · have e2 : ¬ q < p := by omega
      simp [b1, e, e2]
    · subst e; simp [b1, hi p hp]
    · have e2 : ¬ p < q := by omega
      simp [b1, e, e2]
  have e2 : smN (fun p => smN (fun q => b1 (decide (q < p) && R p q)) n) n = smN (fun p => smN (fun q => b1 (decide (p < q) && R p q)) n) n := by
    rw [smN_swap]
    refine smN_cong (fun p hp => smN_cong (fun q hq => ?_))
    rw [hs q p hq hp]
  have e3 : smN (fun p => smN (fun q => b1 (decide (p < q) && R p q) + b1 (decide (q < p) && R p q)) n) n = smN (fun p => smN (fun q => b1 (decide (p < q) && R p q)) n) n + smN (fun p => smN (fun q => b1 (decide (q < p) && R p q)) n) n := by
    rw [← smN_add]
    exact smN_cong (fun p _ => smN_add _ _ n)
  have e4 : smN (fun p => ctb (fun q => decide (p < q) && R p q) n) n = smN (fun p => smN (fun q => b1 (decide (p < q) && R p q)) n) n := smN_cong (fun p _ => ctb_sm _ n)
  rw [e1, e3, e2, e4]
  omega
/-- pairs alike -/
def alU (n t p q : Nat) : Bool := decide (p < q) && decide (dgr n t p = dgr n t q)
def alN (n t : Nat) : Nat := smN (fun p => ctb (alU n t p) n) n
theorem alN_lt {n t : Nat} (hn : n < 9) : alN n t < 2 ^ 31 := by
  have h1 : alN n t ≤ n * n := smN_le (fun i _ => ctb_le _ _)
  have : n * n ≤ 8 * 8 := Nat.mul_le_mul (by omega) (by omega)
  omega
theorem al_low {n t p : Nat} : ∀ k, k ≤ p + 1 → ctb (alU n t p) k = 0
  | 0, _ => rfl
  | k + 1, h => by
    have e : ¬ p < k := by omega
    rw [ctb, al_low k (by omega)]; simp [alU, e]
theorem ai_in (N n t p base : Nat) (M : Mm) (ju : Int32 → Option (Int32 × Mm)) (hn : n < 9) (hp : p < n) (hM : ∀ j, j < n → M.1 51 j = nI (dgr n t j)) : ∀ (d q nu : Nat), q + d = n → p < q → d < nu → L_Mo_alikeIn_23 N (nI n) M (nI p) ju nu (nI (base + ctb (alU n t p) q)) (nI q) = ju (nI (base + ctb (alU n t p) n))
  | 0, q, nu + 1, hq, hpq, hnu => by
    have hq : q = n := by omega
    subst hq
    rw [L_Mo_alikeIn_23, if_pos (nI_le (Nat.le_refl q) (by omega))]
  | d + 1, q, nu + 1, hq, hpq, hnu => by
    have ih := ai_in N n t p base M ju hn hp hM d (q + 1) nu (by omega) (by omega) (by omega)
    have l1 : dgr n t p ≤ n := dgr_le
    have l2 : dgr n t q ≤ n := dgr_le
    rw [L_Mo_alikeIn_23, if_neg (nI_ge (by omega) (by omega)), if_pos (inb_nI (by omega) (by decide)), if_pos (inb_nI (by omega) (by decide))]
    simp only [lt]
    rw [ix_nI (by omega), ix_nI (by omega), hM p hp, hM q (by omega)]
    by_cases z : dgr n t p = dgr n t q
    · rw [if_pos (by rw [z]), nI_1, nI_1, Nat.add_assoc, ct_yes (by simp [alU, hpq, z])]
      exact ih
    · rw [if_neg (fun w => z ((nI_eq (by omega) (by omega)).mp w)), show (0 : Int32) = nI 0 from rfl, nI_add, nI_1, Nat.add_zero, ct_no (by simp [alU, z])]
      exact ih
theorem ai_out (N n t : Nat) (M : Mm) (hN : 9 < N) (hn : n < 9) (hM : ∀ j, j < n → M.1 51 j = nI (dgr n t j)) : ∀ (d p nu : Nat), p + d = n → d < nu → L_Mo_alikeIn_11 N (nI n) M nu (nI (smN (fun p => ctb (alU n t p) n) p)) (nI p) = some (nI (alN n t), M)
  | 0, p, nu + 1, hp, hnu => by
    have hp : p = n := by omega
    subst hp
    rw [L_Mo_alikeIn_11, if_pos (nI_le (Nat.le_refl p) (by omega))]
    rfl
  | d + 1, p, nu + 1, hp, hnu => by
    have ih := ai_out N n t M hN hn hM d (p + 1) nu (by omega) (by omega)
    rw [L_Mo_alikeIn_11, if_neg (nI_ge (by omega) (by omega))]
    simp only [lt]
    rw [nI_1]
    have h := ai_in N n t p (smN (fun p => ctb (alU n t p) n) p) M (fun xu5 => L_Mo_alikeIn_11 N (nI n) M nu xu5 (nI (p + 1))) hn (by omega) hM (n - (p + 1)) (p + 1) N (by omega) (by omega) (by omega)
    rw [al_low (p + 1) (by omega)] at h
    simp only [Nat.add_zero] at h
    rw [h]
    exact ih
theorem ai_I {N n t : Nat} {M : Mm} (hN : 9 < N) (hn : n < 9) (ht : t < 2 ^ 31) : f_Mo_alikeIn N (nI n) (nI t) M = some (nI (alN n t), cnM n t (np n) M) := by
  unfold f_Mo_alikeIn
  rw [fc_I hN hn ht]
  exact ai_out N n t (cnM n t (np n) M) hN hn (fun j hj => by rw [cn_at hj, pd_full hn hj]) n 0 N (by omega) (by omega)
theorem ap_loop (N : Nat) {M : Mm} {a n t b m mk dr : Nat} {sd : Nat → Nat} (ju : Int32 → Option Int32) (hN : 9 < N) (hn : n < 9) (h : CT M a n t b m mk dr sd) : ∀ (d k nu : Nat), k + d = n → d < nu → L_To_alikePairs_4 N a M ju nu (nI (smN (fun p => ctb (alf n t p) n) k)) (nI k) = ju (nI (smN (fun p => ctb (alf n t p) n) n))
  | 0, k, nu + 1, hk, hnu => by
    have hk : k = n := by omega
    subst hk
    rw [L_To_alikePairs_4, h.1, if_pos (nI_le (Nat.le_refl k) (by omega))]
  | d + 1, k, nu + 1, hk, hnu => by
    have ih := ap_loop N ju hN hn h d (k + 1) nu (by omega) (by omega)
    rw [L_To_alikePairs_4, h.1, if_neg (nI_ge (by omega) (by omega)), aw_I hN hn h (by omega)]
    show lt _ _ = _
    simp only [lt]
    rw [bc_bs (by omega), nI_add, nI_1]
    exact ih
theorem ap_I {N : Nat} {M : Mm} {a n t b m mk dr : Nat} {sd : Nat → Nat} (hN : 9 < N) (hn : n < 9) (h : CT M a n t b m mk dr sd) : f_To_alikePairs N a M = some (nI (alN n t)) := by
  unfold f_To_alikePairs
  simp only [lt]
  have e := ap_loop N (fun xu2 => some (xu2 / 2)) hN hn h n 0 N (by omega) (by omega)
  have e2 : smN (fun p => ctb (alf n t p) n) n = 2 * alN n t := by
    have h1 := twice (R := fun p q => alf n t p q) (n := n) (fun p q _ _ => by
      unfold alf
      by_cases e : p = q
      · subst e; rfl
      · have e2 : ¬ q = p := fun z => e z.symm
        by_cases z : dgr n t p = dgr n t q
        · simp [e, e2, z]
        · have z2 : ¬ dgr n t q = dgr n t p := fun w => z w.symm
          simp [z, z2]) (fun p _ => by simp [alf])
    rw [h1]
    congr 1
    refine smN_cong (fun p hp => ctb_cong (fun q hq => ?_))
    unfold alf alU
    by_cases e : p < q
    · have e2 : ¬ q = p := by omega
      by_cases z : dgr n t p = dgr n t q
      · simp [e, e2, z]
      · have z2 : ¬ dgr n t q = dgr n t p := fun w => z w.symm
        simp [z, z2]
    · simp [e]
  rw [e2] at e
  have hb : 2 * alN n t < 2 ^ 31 := by
    have h1 : alN n t ≤ n * n := smN_le (fun i _ => ctb_le _ _)
    have : n * n ≤ 8 * 8 := Nat.mul_le_mul (by omega) (by omega)
    omega
  rw [show (2 : Int32) = nI 2 from rfl] at *
  have e3 : L_To_alikePairs_4 N a M (fun xu2 => some (xu2 / nI 2)) N 0 0 = some (nI (2 * alN n t) / nI 2) := e
  rw [e3, pk_div hb (by decide) (by decide), Nat.mul_div_cancel_left _ (by decide)]
/-! friendships -/
theorem up_in {n t p : Nat} (hn : n < 9) (hp : p < n) : ∀ d, p + 1 + d ≤ n → ctb (fun i => t.testBit i) (pr0 n p + d) = ctb (fun i => t.testBit i) (pr0 n p) + ctb (fun q => decide (p < q) && rwf n t p q) (p + 1 + d)
  | 0, h => by
    have : ∀ k, k ≤ p + 1 → ctb (fun q => decide (p < q) && rwf n t p q) k = 0 := by
      intro k
      induction k with
      | zero => intro _; rfl
      | succ k ih => intro hk; have e : ¬ p < k := by omega
                     rw [ctb, ih (by omega)]; simp [e]
    rw [Nat.add_zero, Nat.add_zero, this (p + 1) (Nat.le_refl _), Nat.add_zero]
  | d + 1, h => by
    have ih := up_in (t := t) hn hp d (by omega)
    rw [← Nat.add_assoc, ctb, ih, ← Nat.add_assoc, ctb, Nat.add_assoc]
    congr 2
    have e1 : p < p + 1 + d := by omega
    have e2 : pn n p (p + 1 + d) = pr0 n p + d := by rw [pn_up e1]; omega
    rw [rwf_at hp (by omega), e2]
    simp [e1]
theorem up_all {n t : Nat} (hn : n < 9) : ∀ p, p ≤ n → smN (fun p => ctb (fun q => decide (p < q) && rwf n t p q) n) p = ctb (fun i => t.testBit i) (pr0 n p)
  | 0, _ => by unfold pr0; simp [smN, ctb]
  | p + 1, h => by
    have ih := up_all (t := t) hn p (by omega)
    have h1 := up_in (t := t) hn (show p < n by omega) (n - p - 1) (by omega)
    rw [pr_next n hn p (by omega), show p + 1 + (n - p - 1) = n by omega] at h1
    rw [smN, ih, h1]
theorem dg_sum {n t : Nat} (hn : n < 9) : smN (fun p => dgr n t p) n = 2 * ctb (fun i => t.testBit i) (np n) := by
  have h1 := twice (R := fun p q => rwf n t p q) (n := n) (fun p q hp hq => rwf_sym hp hq) (fun p _ => by simp [rwf])
  rw [up_all hn n (Nat.le_refl n), pr_end n hn] at h1
  exact h1
theorem fs_loop (N : Nat) {M : Mm} {a n t b m mk dr : Nat} {sd : Nat → Nat} (ju : Int32 → Option Int32) (hn : n < 9) (h : CT M a n t b m mk dr sd) : ∀ (d k nu : Nat), k + d = n → d < nu → L_To_friendships_4 N a M ju nu (nI (smN (fun p => dgr n t p) k)) (nI k) = ju (nI (smN (fun p => dgr n t p) n))
  | 0, k, nu + 1, hk, hnu => by
    have hk : k = n := by omega
    subst hk
    rw [L_To_friendships_4, h.1, if_pos (nI_le (Nat.le_refl k) (by omega))]
  | d + 1, k, nu + 1, hk, hnu => by
    have ih := fs_loop N ju hn h d (k + 1) nu (by omega) (by omega)
    rw [L_To_friendships_4, h.1, if_neg (nI_ge (by omega) (by omega)), cnt_I hn h (by omega)]
    show lt _ _ = _
    simp only [lt]
    rw [nI_add, nI_1]
    exact ih
theorem fs_I {N : Nat} {M : Mm} {a n t b m mk dr : Nat} {sd : Nat → Nat} (hN : 9 < N) (hn : n < 9) (h : CT M a n t b m mk dr sd) : f_To_friendships N a M = some (nI (ctb (fun i => t.testBit i) (np n))) := by
  unfold f_To_friendships
  simp only [lt]
  have e := fs_loop N (fun xu2 => some (xu2 / 2)) hn h n 0 N (by omega) (by omega)
  rw [dg_sum hn] at e
  have hb : 2 * ctb (fun i => t.testBit i) (np n) < 2 ^ 31 := by
    have := ctb_le (fun i => t.testBit i) (np n)
    have := np_le n hn
    omega
  have e3 : L_To_friendships_4 N a M (fun xu2 => some (xu2 / 2)) N 0 0 = some (nI (2 * ctb (fun i => t.testBit i) (np n)) / nI 2) := e
  rw [e3, pk_div hb (by decide) (by decide), Nat.mul_div_cancel_left _ (by decide)]
