/-! PURE 7: the reference's findCounts -/
theorem ctb_one {g g' : Nat → Bool} {q : Nat} : ∀ {n : Nat}, q < n → (∀ i, i < n → i ≠ q → g' i = g i) → ctb g' n + (if g q = true then 1 else 0) = ctb g n + (if g' q = true then 1 else 0)
  | 0, hq, _ => absurd hq (Nat.not_lt_zero q)
  | n + 1, hq, h => by
    rw [ctb, ctb]
    by_cases e : q = n
    · subst e
      rw [ctb_cong (fun i hi => h i (by omega) (by omega))]
      omega
    · have ih := ctb_one (n := n) (g := g) (g' := g') (by omega) (fun i hi => h i (by omega))
      rw [h n (by omega) (fun z => e z.symm)]
      omega
theorem pr_next : ∀ n, n < 9 → ∀ p, p < n → pr0 n p + (n - p - 1) = pr0 n (p + 1) := by decide
theorem pr_end : ∀ n, n < 9 → pr0 n n = np n := by decide
theorem pr_le : ∀ n, n < 9 → ∀ p, p < n + 1 → pr0 n p ≤ 28 := by decide
theorem pn_up {n p q : Nat} (h : p < q) : pn n p q = pr0 n p + (q - p - 1) := by unfold pn; rw [if_pos h]
def pdf (n t K j q : Nat) : Bool := rwf n t j q && decide (pn n j q < K)
def pdg (n t K j : Nat) : Nat := ctb (pdf n t K j) n
theorem pd_step {n t p q K j : Nat} (hn : n < 9) (hpq : p < q) (hq : q < n) (hK : pn n p q = K) (hj : j < n) : pdg n t (K + 1) j = pdg n t K j + (if j = p ∨ j = q then bt t K else 0) := by
  have one : ∀ x y : Nat, x < n → y < n → x ≠ y → pn n x y = K → pdg n t (K + 1) x = pdg n t K x + bt t K := by
    intro x y hx hy hxy hk
    have h := ctb_one (g := pdf n t K x) (g' := pdf n t (K + 1) x) hy (fun i hi hiy => by
      unfold pdf
      by_cases e : i = x
      · subst e; simp [rwf]
      · have : pn n x i ≠ K := fun z => hiy (pn_inj hn hx hi (fun w => e w.symm) hy hxy (z.trans hk.symm))
        have e2 : (pn n x i < K + 1) ↔ (pn n x i < K) := by omega
        simp [e2])
    have g1 : pdf n t K x y = false := by unfold pdf; rw [hk]; simp
    have g2 : pdf n t (K + 1) x y = t.testBit K := by unfold pdf; rw [rwf_at hx (fun z => hxy z.symm), hk]; simp
    rw [g1, g2] at h
    unfold pdg bt
    simp only [Bool.false_eq_true, if_false, Nat.add_zero] at h
    exact h
  by_cases e1 : j = p
  · subst e1; rw [if_pos (Or.inl rfl)]; exact one j q hj hq (by omega) hK
  · by_cases e2 : j = q
    · subst e2; rw [if_pos (Or.inr rfl)]; exact one j p hj (by omega) (by omega) (by rw [pn_comm (by omega)]; exact hK)
    · rw [if_neg (by omega), Nat.add_zero]
      refine ctb_cong (fun i hi => ?_)
      unfold pdf
      by_cases e : i = j
      · subst e; simp [rwf]
      · have hne : pn n j i ≠ K := by
          intro z
          rcases Nat.lt_or_gt_of_ne e with f | f
          · rw [pn_comm (fun w => e w.symm)] at z
            have := pn_inj0 hn hi hj f (by omega) hq hpq (z.trans hK.symm)
            omega
          · have := pn_inj0 hn hj hi f (by omega) hq hpq (z.trans hK.symm)
            omega
        have e3 : (pn n j i < K + 1) ↔ (pn n j i < K) := by omega
        simp [e3]
theorem pd_full {n t j : Nat} (hn : n < 9) (hj : j < n) : pdg n t (np n) j = dgr n t j := by
  refine ctb_cong (fun i hi => ?_)
  unfold pdf
  by_cases e : i = j
  · subst e; simp [rwf]
  · have := pn_lt n hn j hj i hi (fun z => e z.symm)
    simp [this]
theorem pd_zero {n t j : Nat} : pdg n t 0 j = 0 := by
  have : ∀ k, ctb (pdf n t 0 j) k = 0 := by
    intro k
    induction k with
    | zero => rfl
    | succ k ih => rw [ctb, ih]; simp [pdf]
  exact this n
/-- the memory with the counts of the pairs below K -/
def cnM (n t K : Nat) (M : Mm) : Mm := (fun a j => if a = 51 ∧ j < n then nI (pdg n t K j) else M.1 a j, M.2)
theorem cn_at {n t K j : Nat} {M : Mm} (hj : j < n) : (cnM n t K M).1 51 j = nI (pdg n t K j) := if_pos ⟨rfl, hj⟩
theorem cn_off {n t K a j : Nat} {M : Mm} (h : a ≠ 51) : (cnM n t K M).1 a j = M.1 a j := if_neg (fun q => h q.1)
theorem mm_ext {M M' : Mm} (h : ∀ a j, M.1 a j = M'.1 a j) (h2 : M.2 = M'.2) : M = M' := by
  obtain ⟨f, g⟩ := M
  obtain ⟨f', g'⟩ := M'
  have e : f = f' := funext fun a => funext fun j => h a j
  have e2 : g = g' := h2
  rw [e, e2]
theorem cn_step {n t p q K : Nat} {M : Mm} (hn : n < 9) (hpq : p < q) (hq : q < n) (hK : pn n p q = K) : si (si (cnM n t K M) 51 p (nI (pdg n t K p + bt t K))) 51 q (nI (pdg n t K q + bt t K)) = cnM n t (K + 1) M := by
  refine mm_ext (fun a j => ?_) rfl
  by_cases ha : a = 51 ∧ j < n
  · obtain ⟨rfl, hj⟩ := ha
    rw [cn_at hj, pd_step hn hpq hq hK hj]
    by_cases e2 : j = q
    · subst e2; rw [si_s, if_pos (Or.inr rfl)]
    · rw [si_k _ _ e2]
      by_cases e1 : j = p
      · subst e1; rw [si_s, if_pos (Or.inl rfl)]
      · rw [si_k _ _ e1, cn_at hj, if_neg (by omega), Nat.add_zero]
  · have e1 : ¬ (a = 51 ∧ j = q) := fun z => ha ⟨z.1, by omega⟩
    have e2 : ¬ (a = 51 ∧ j = p) := fun z => ha ⟨z.1, by omega⟩
    rw [si1, if_neg e1, si1, if_neg e2]
    show (if a = 51 ∧ j < n then _ else _) = (if a = 51 ∧ j < n then _ else _)
    rw [if_neg ha, if_neg ha]
theorem fc_in (N n t p : Nat) (M : Mm) (ju : Int32 → Mm → Option Mm) (hn : n < 9) (ht : t < 2 ^ 31) (hp : p < n) : ∀ (d q nu : Nat), q + d = n → p < q → d < nu → L_Mo_findCounts_37 N (nI n) (nI t) (nI p) ju nu (nI (pr0 n p + (q - p - 1))) (nI q) (cnM n t (pr0 n p + (q - p - 1)) M) = ju (nI (pr0 n (p + 1))) (cnM n t (pr0 n (p + 1)) M)
  | 0, q, nu + 1, hq, hpq, hnu => by
    have hq : q = n := by omega
    subst hq
    rw [L_Mo_findCounts_37, if_pos (nI_le (Nat.le_refl q) (by omega)), pr_next q hn p hp]
  | d + 1, q, nu + 1, hq, hpq, hnu => by
    have ih := fc_in N n t p M ju hn ht hp d (q + 1) nu (by omega) (by omega) (by omega)
    have hK := pn_up (n := n) hpq
    have hb : pr0 n p + (q - p - 1) < 32 := by
      have := pn_lt n hn p hp q (by omega) (by omega)
      have := np_le n hn
      omega
    rw [L_Mo_findCounts_37, if_neg (nI_ge (by omega) (by omega))]
    simp only [lt]
    rw [if_pos (inb_nI (by omega) (by decide)), if_pos (inb_nI (by omega) (by decide)), if_pos (inb_nI (by omega) (by decide)), if_pos (inb_nI (by omega) (by decide)), ix_nI (by omega), ix_nI (by omega), bit_I ht hb, cn_at hp, nI_add, si_k _ _ (show q ≠ p by omega), cn_at (by omega), nI_add, cn_step hn hpq (by omega) hK, nI_1, nI_1]
    have e : pr0 n p + (q + 1 - p - 1) = pr0 n p + (q - p - 1) + 1 := by omega
    rw [e] at ih
    exact ih
theorem fc_out (N n t : Nat) (M : Mm) (hN : 9 < N) (hn : n < 9) (ht : t < 2 ^ 31) : ∀ (d p nu : Nat), p + d = n → d < nu → L_Mo_findCounts_25 N (nI n) (nI t) nu (nI (pr0 n p)) (nI p) (cnM n t (pr0 n p) M) = some (cnM n t (np n) M)
  | 0, p, nu + 1, hp, hnu => by
    have hp : p = n := by omega
    subst hp
    rw [L_Mo_findCounts_25, if_pos (nI_le (Nat.le_refl p) (by omega)), pr_end p hn]
  | d + 1, p, nu + 1, hp, hnu => by
    have ih := fc_out N n t M hN hn ht d (p + 1) nu (by omega) (by omega)
    rw [L_Mo_findCounts_25, if_neg (nI_ge (by omega) (by omega))]
    simp only [lt]
    rw [nI_1]
    have h := fc_in N n t p M (fun xu6 Mu7 => L_Mo_findCounts_25 N (nI n) (nI t) nu xu6 (nI (p + 1)) Mu7) hn ht (by omega) (n - (p + 1)) (p + 1) N (by omega) (by omega) (by omega)
    simp only [show p + 1 - p - 1 = 0 by omega, Nat.add_zero] at h
    rw [h]
    exact ih
def zrM (k : Nat) (M : Mm) : Mm := (fun a j => if a = 51 ∧ j < k then 0 else M.1 a j, M.2)
theorem zr_step {k : Nat} {M : Mm} : si (zrM k M) 51 k 0 = zrM (k + 1) M := by
  refine mm_ext (fun a j => ?_) rfl
  rw [si1]
  show (if _ then _ else (if a = 51 ∧ j < k then _ else _)) = (if a = 51 ∧ j < k + 1 then _ else _)
  by_cases h1 : a = 51 ∧ j = k
  · rw [if_pos h1, if_pos ⟨h1.1, by omega⟩]
  · rw [if_neg h1]
    by_cases h2 : a = 51 ∧ j < k
    · rw [if_pos h2, if_pos ⟨h2.1, by omega⟩]
    · rw [if_neg h2, if_neg (fun z => h2 ⟨z.1, by have := z.2; by_cases e : j = k; exact absurd ⟨z.1, e⟩ h1; omega⟩)]
theorem fc_zero (N n : Nat) (M : Mm) (ju : Mm → Option Mm) (hn : n < 9) : ∀ (d k nu : Nat), k + d = n → d < nu → L_Mo_findCounts_2 N (nI n) ju nu (nI k) (zrM k M) = ju (zrM n M)
  | 0, k, nu + 1, hk, hnu => by
    have hk : k = n := by omega
    subst hk
    rw [L_Mo_findCounts_2, if_pos (nI_le (Nat.le_refl k) (by omega))]
  | d + 1, k, nu + 1, hk, hnu => by
    have ih := fc_zero N n M ju hn d (k + 1) nu (by omega) (by omega)
    rw [L_Mo_findCounts_2, if_neg (nI_ge (by omega) (by omega))]
    simp only [lt]
    rw [if_pos (inb_nI (by omega) (by decide)), ix_nI (by omega), zr_step, nI_1]
    exact ih
theorem fc_I {N n t : Nat} {M : Mm} (hN : 9 < N) (hn : n < 9) (ht : t < 2 ^ 31) : f_Mo_findCounts N (nI n) (nI t) M = some (cnM n t (np n) M) := by
  unfold f_Mo_findCounts
  simp only [lt]
  have h0 : zrM 0 M = M := mm_ext (fun a j => if_neg (fun z => by omega)) rfl
  have h1 : zrM n M = cnM n t (pr0 n 0) M := mm_ext (fun a j => by
    show (if a = 51 ∧ j < n then (0 : Int32) else M.1 a j) = (if a = 51 ∧ j < n then nI (pdg n t (pr0 n 0) j) else M.1 a j)
    rw [show pr0 n 0 = 0 by unfold pr0; simp, pd_zero]
    rfl) rfl
  have h := fc_zero N n M (fun Mu2 => L_Mo_findCounts_25 N (nI n) (nI t) N 0 0 Mu2) hn n 0 N (by omega) (by omega)
  rw [h0] at h
  have h2 := fc_out N n t M hN hn ht n 0 N (by omega) (by omega)
  rw [show pr0 n 0 = 0 by unfold pr0; simp] at h2 h1
  rw [show (0 : Int32) = nI 0 from rfl] at *
  rw [h, h1]
  exact h2
