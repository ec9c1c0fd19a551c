/-! PURE 19: numbers made of pairs; births -/
def tof (n : Nat) (R : Nat → Nat → Bool) : Nat := bs (fun k => R (pinv n k / 8) (pinv n k % 8)) (np n)
theorem tof_lt {n : Nat} {R : Nat → Nat → Bool} : tof n R < 2 ^ np n := bs_lt _ _
theorem tof_bit {n p q : Nat} {R : Nat → Nat → Bool} (hn : n < 9) (hp : p < q) (hq : q < n) : (tof n R).testBit (pn n p q) = R p q := by
  unfold tof
  have h1 := pinv_ok n hn p (by omega) q hq hp
  have h2 := pn_lt n hn p (by omega) q hq (by omega)
  rw [bs_bit, h1]
  have e1 : (8 * p + q) / 8 = p := by omega
  have e2 : (8 * p + q) % 8 = q := by omega
  rw [e1, e2]
  simp [h2]
theorem lt_bit {x i k : Nat} (hx : x < 2 ^ k) (h : k ≤ i) : x.testBit i = false := Nat.testBit_lt_two_pow (Nat.lt_of_lt_of_le hx (Nat.pow_le_pow_right (by decide) h))
/-- two numbers with the same bits at all pairs are the same -/
theorem tn_ext {n x y : Nat} (hn : n < 9) (hx : x < 2 ^ np n) (hy : y < 2 ^ np n) (h : ∀ p q, p < q → q < n → x.testBit (pn n p q) = y.testBit (pn n p q)) : x = y := by
  apply Nat.eq_of_testBit_eq
  intro i
  by_cases hi : i < np n
  · obtain ⟨p, hp, q, hq, hpq, e⟩ := pn_on n hn i hi
    rw [← e]
    exact h p q hpq hq
  · rw [lt_bit hx (by omega), lt_bit hy (by omega)]
theorem tof_self {n t : Nat} (hn : n < 9) (ht : t < 2 ^ np n) : tof n (fun p q => t.testBit (pn n p q)) = t := tn_ext hn tof_lt ht (fun p q h1 h2 => tof_bit hn h1 h2)
theorem tof_cong {n : Nat} {R R' : Nat → Nat → Bool} (hn : n < 9) (h : ∀ p q, p < q → q < n → R p q = R' p q) : tof n R = tof n R' := tn_ext hn tof_lt tof_lt (fun p q h1 h2 => by rw [tof_bit hn h1 h2, tof_bit hn h1 h2, h p q h1 h2])
theorem tof_zero {n : Nat} {R : Nat → Nat → Bool} (hn : n < 9) (h : ∀ p q, p < q → q < n → R p q = false) : tof n R = 0 := tn_ext hn tof_lt (Nat.two_pow_pos _) (fun p q h1 h2 => by rw [tof_bit hn h1 h2, h p q h1 h2, Nat.zero_testBit])
/-- one more pair -/
theorem tof_or {n p q : Nat} {R R' : Nat → Nat → Bool} (hn : n < 9) (hpq : p < q) (hq : q < n) (h1 : R' p q = true) (h2 : ∀ a b, a < b → b < n → ¬ (a = p ∧ b = q) → R' a b = R a b) : tof n R ||| 2 ^ pn n p q = tof n R' := by
  have hk := pn_lt n hn p (by omega) q hq (by omega)
  rw [or_stb tof_lt hk]
  refine tn_ext hn stb_lt tof_lt (fun a b hab hb => ?_)
  rw [stb_bit tof_lt hk, tof_bit hn hab hb, tof_bit hn hab hb]
  by_cases e : a = p ∧ b = q
  · obtain ⟨rfl, rfl⟩ := e
    rw [if_pos rfl, h1]
  · rw [if_neg (fun z => e (pn_inj0 hn (by omega) hb hab (by omega) hq hpq z)), h2 a b hab hb e]
/-! a town made of another's pairs -/
def tfm (n' : Nat) (c : Nat → Nat → Bool) (e : Nat → Nat → Nat) (x : Nat) : Nat := tof n' (fun a b => c a b && x.testBit (e a b))
theorem TOK.map {n n' t b m mk dr : Nat} {sd sd' : Nat → Nat} {c : Nat → Nat → Bool} {e : Nat → Nat → Nat} (h : TOK n t b m mk dr sd) (hn' : n' < 9) (hs : ∀ p, sd' p ≤ 7 ∧ (n' ≤ p → sd' p = 0)) : TOK n' (tfm n' c e t) (tfm n' c e b) (tfm n' c e m) mk dr sd' := by
  obtain ⟨h1, h2, h3, h4, h5, h6, h7, h8, h9, h10', h11⟩ := h
  have key : ∀ k, (∀ x, (tfm n' c e x).testBit k = false) ∨ ∃ k', ∀ x, (tfm n' c e x).testBit k = x.testBit k' := by
    intro k
    by_cases hk : k < np n'
    · obtain ⟨p, hp, q, hq, hpq, ek⟩ := pn_on n' hn' k hk
      by_cases hc : c p q = true
      · refine Or.inr ⟨e p q, fun x => ?_⟩
        rw [← ek]
        unfold tfm
        rw [tof_bit hn' hpq hq, hc, Bool.true_and]
      · refine Or.inl (fun x => ?_)
        rw [← ek]
        unfold tfm
        rw [tof_bit hn' hpq hq]
        simp [hc]
    · exact Or.inl (fun x => lt_bit tof_lt (by omega))
  refine ⟨hn', tof_lt, tof_lt, tof_lt, fun k z => ?_, fun k z => ?_, h7, h8, h9, h10', hs⟩
  · rcases key k with g | ⟨k', g⟩
    · rw [g] at z; exact absurd z.1 (by decide)
    · rw [g, g] at z; exact h5 k' z
  · rcases key k with g | ⟨k', g⟩
    · rw [g] at z; exact absurd z (by decide)
    · rw [g] at z ⊢; exact h6 k' z
/-- what is told when all counts are said anew -/
def dgS (n t p : Nat) : Nat := if p < n then dgr n t p else 0
theorem dgS_ok {n t : Nat} (hn : n < 9) (p : Nat) : dgS n t p ≤ 7 ∧ (n ≤ p → dgS n t p = 0) := by
  unfold dgS
  by_cases h : p < n
  · rw [if_pos h]
    have := dgr_lt (t := t) h
    exact ⟨by omega, fun z => by omega⟩
  · rw [if_neg h]; exact ⟨by omega, fun _ => rfl⟩
theorem cnt_R {M : Mm} {a n t p : Nat} (hn : n < 9) (hr : M.1 (a + 1) p = nI (rwo n t p)) (hp : p < 8) : f_To_countOf a (nI p) M = some (nI (dgr n t p)) := by
  unfold f_To_countOf
  rw [if_pos (inb_nI hp (by decide)), ix_nI (by omega), hr, rwo_bc hn]
/-! the counts said anew -/
def scK (a n t k : Nat) (M : Mm) : Mm := (fun x j => if x = a + 4 ∧ j < k then nI (dgr n t j) else M.1 x j, M.2)
theorem sc_off {a n t k x j : Nat} {M : Mm} (h : x ≠ a + 4) : (scK a n t k M).1 x j = M.1 x j := if_neg (fun z => h z.1)
theorem sc_step {a n t k : Nat} {M : Mm} : si (scK a n t k M) (a + 4) k (nI (dgr n t k)) = scK a n t (k + 1) M := by
  refine mm_ext (fun x j => ?_) rfl
  rw [si1]
  show (if _ then _ else (if x = a + 4 ∧ j < k then _ else _)) = (if x = a + 4 ∧ j < k + 1 then _ else _)
  by_cases h1 : x = a + 4 ∧ j = k
  · rw [if_pos h1, if_pos ⟨h1.1, by omega⟩, h1.2]
  · rw [if_neg h1]
    by_cases h2 : x = a + 4 ∧ j < k
    · rw [if_pos h2, if_pos ⟨h2.1, by omega⟩]
    · rw [if_neg h2, if_neg (fun z => h2 ⟨z.1, by have := z.2; by_cases e : j = k; exact absurd ⟨z.1, e⟩ h1; omega⟩)]
theorem sc_loop (N : Nat) {M : Mm} {a n t : Nat} (hn : n < 9) (h0 : M.1 a 0 = nI n) (hr : ∀ p, p < 8 → M.1 (a + 1) p = nI (rwo n t p)) : ∀ (d k nu : Nat), k + d = n → d < nu → L_To_sayCounts_2 N a nu (nI k) (scK a n t k M) = some (scK a n t n M)
  | 0, k, nu + 1, hk, hnu => by
    have hk : k = n := by omega
    subst hk
    rw [L_To_sayCounts_2, sc_off (by omega), h0, if_pos (nI_le (Nat.le_refl k) (by omega))]
  | d + 1, k, nu + 1, hk, hnu => by
    have ih := sc_loop N hn h0 hr d (k + 1) nu (by omega) (by omega)
    rw [L_To_sayCounts_2, sc_off (by omega), h0, if_neg (nI_ge (by omega) (by omega)), cnt_R (t := t) hn (by rw [sc_off (by omega)]; exact hr k (by omega)) (by omega), bnd_s, if_pos (inb_nI (by omega) (by decide))]
    simp only [lt]
    rw [ix_nI (by omega), sc_step, nI_1]
    exact ih
theorem say_I {M : Mm} {a n t : Nat} (hn : n < 9) (h0 : M.1 a 0 = nI n) (hr : ∀ p, p < 8 → M.1 (a + 1) p = nI (rwo n t p)) (N : Nat) (hN : 9 < N) : f_To_sayCounts N a M = some (scK a n t n M) := by
  have e : scK a n t 0 M = M := mm_ext (fun x j => if_neg (fun z => by omega)) rfl
  have h := sc_loop N hn h0 hr n 0 N (by omega) (by omega)
  rw [e] at h
  exact h
theorem sc_at {a n t p : Nat} {M : Mm} {sd : Nat → Nat} (hs : M.1 (a + 4) p = nI (sd p)) (hz : n ≤ p → sd p = 0) : (scK a n t n M).1 (a + 4) p = nI (dgS n t p) := by
  unfold dgS
  show (if a + 4 = a + 4 ∧ p < n then _ else M.1 (a + 4) p) = _
  by_cases h : p < n
  · rw [if_pos ⟨rfl, h⟩, if_pos h]
  · rw [if_neg (fun z => h z.2), if_neg h, hs, hz (by omega)]
/-! the reference's counts told anew -/
def tcK (n t k : Nat) (M : Mm) : Mm := (fun x j => if x = 50 ∧ j < k then nI (dgS n t j) else M.1 x j, M.2)
theorem tc_off {n t k x j : Nat} {M : Mm} (h : x ≠ 50) : (tcK n t k M).1 x j = M.1 x j := if_neg (fun z => h z.1)
theorem tc_step {n t k : Nat} {M : Mm} : si (tcK n t k M) 50 k (nI (dgS n t k)) = tcK n t (k + 1) M := by
  refine mm_ext (fun x j => ?_) rfl
  rw [si1]
  show (if _ then _ else (if x = 50 ∧ j < k then _ else _)) = (if x = 50 ∧ j < k + 1 then _ else _)
  by_cases h1 : x = 50 ∧ j = k
  · rw [if_pos h1, if_pos ⟨h1.1, by omega⟩, h1.2]
  · rw [if_neg h1]
    by_cases h2 : x = 50 ∧ j < k
    · rw [if_pos h2, if_pos ⟨h2.1, by omega⟩]
    · rw [if_neg h2, if_neg (fun z => h2 ⟨z.1, by have := z.2; by_cases e : j = k; exact absurd ⟨z.1, e⟩ h1; omega⟩)]
theorem tc_loop (N : Nat) {M : Mm} {n t : Nat} (hN : 9 < N) (hn : n < 9) (ht : t < 2 ^ 31) (h0 : M.1 49 0 = nI n) (h1 : M.1 49 1 = nI t) : ∀ (d k nu : Nat), k + d = 8 → d < nu → L_Mo_tellCounts_2 N nu (nI k) (tcK n t k M) = some (tcK n t 8 M)
  | 0, k, nu + 1, hk, hnu => by
    have hk : k = 8 := by omega
    subst hk
    rw [L_Mo_tellCounts_2, if_pos (by decide)]
  | d + 1, k, nu + 1, hk, hnu => by
    have ih := tc_loop N hN hn ht h0 h1 d (k + 1) nu (by omega) (by omega)
    rw [L_Mo_tellCounts_2, if_neg (show ¬ (8 : Int32) ≤ nI k from nI_ge (a := k) (b := 8) (by omega) (by decide)), tc_off (by decide), tc_off (by decide), h0, h1]
    simp only [lt, nI_1]
    rw [if_pos (inb_nI (show k < 8 by omega) (by decide)), ix_nI (by omega)]
    have e := tc_step (n := n) (t := t) (k := k) (M := M)
    by_cases z : k < n
    · rw [if_neg (nI_ge z (by omega)), ci_I hN hn ht z, bnd_s, if_pos (inb_nI (show k < 8 by omega) (by decide))]
      rw [show dgS n t k = dgr n t k from if_pos z] at e
      rw [e]
      exact ih
    · rw [if_pos (nI_le (by omega) (by omega))]
      rw [show dgS n t k = 0 from if_neg z] at e
      rw [show (0 : Int32) = nI 0 from rfl, e]
      exact ih
theorem tc_I {M : Mm} {n t : Nat} (hn : n < 9) (ht : t < 2 ^ 31) (h0 : M.1 49 0 = nI n) (h1 : M.1 49 1 = nI t) (N : Nat) (hN : 9 < N) : f_Mo_tellCounts N M = some (tcK n t 8 M) := by
  have e : tcK n t 0 M = M := mm_ext (fun x j => if_neg (fun z => by omega)) rfl
  have h := tc_loop N hN hn ht h0 h1 8 0 N (by omega) (by omega)
  rw [e] at h
  exact h
