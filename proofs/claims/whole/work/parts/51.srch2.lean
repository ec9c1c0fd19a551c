/-! PURE 32: the search's small methods -/
theorem pn_row0 : ∀ n, n < 7 → ∀ q, q < n → ∀ r, r < n → (r ≠ q → pn n q r < pr0 n (q + 1)) := by decide
theorem pn_row (n : Nat) (hn : n < 7) (q : Nat) (hq : q < n) (p : Nat) (hp : p < n) (r : Nat) (hr : r < n) (h1 : q ≤ p) (h2 : r ≠ q) : pn n q r < pr0 n (p + 1) := by
  have h := pn_row0 n hn q hq r hr h2
  by_cases e : q = p
  · subst e; exact h
  · have h3 := pr_mono n (by omega) q hq p hp (by omega)
    have h4 := pr_next n (by omega) p hp
    omega
theorem dgr_agr {n t x p q : Nat} (hn : n < 7) (hp : p < n) (hq : q ≤ p) (h : ∀ k, k < pr0 n (p + 1) → t.testBit k = x.testBit k) : dgr n t q = dgr n x q := by
  unfold dgr
  refine ctb_cong (fun r hr => ?_)
  unfold rwf
  by_cases e : r = q
  · subst e; simp
  · rw [h _ (pn_row n hn q (by omega) p hp r hr hq e)]
theorem mod_bits {t K x : Nat} (h : t % 2 ^ K = x) : ∀ k, k < K → t.testBit k = x.testBit k := fun k hk => by
  rw [← h, Nat.testBit_mod_two_pow]
  simp [hk]
/-- extends the prefix x of the persons below p -/
def ext (n p x t : Nat) : Bool := decide (t % 2 ^ pr0 n p = x)
theorem ext_split {K L x row t : Nat} (hx : x < 2 ^ K) (hr : row < 2 ^ L) : (t % 2 ^ (K + L) = x + row * 2 ^ K) ↔ (t % 2 ^ K = x ∧ t / 2 ^ K % 2 ^ L = row) := by
  have hpos : 0 < 2 ^ K := Nat.two_pow_pos K
  rw [Nat.pow_add, Nat.mod_mul]
  generalize t / 2 ^ K % 2 ^ L = r
  have h1 : t % 2 ^ K < 2 ^ K := Nat.mod_lt _ hpos
  generalize t % 2 ^ K = u at h1 ⊢
  generalize 2 ^ K = A at *
  constructor
  · intro h
    have e1 : (u + A * r) % A = u := by rw [Nat.add_mul_mod_self_left, Nat.mod_eq_of_lt h1]
    have e2 : (x + row * A) % A = x := by rw [Nat.add_mul_mod_self_right, Nat.mod_eq_of_lt hx]
    have e3 : (u + A * r) / A = r := by rw [Nat.add_mul_div_left _ _ hpos, Nat.div_eq_of_lt h1, Nat.zero_add]
    have e4 : (x + row * A) / A = row := by rw [Nat.add_mul_div_right _ _ hpos, Nat.div_eq_of_lt hx, Nat.zero_add]
    rw [h] at e1 e3
    exact ⟨e1.symm.trans e2, e3.symm.trans e4⟩
  · rintro ⟨rfl, rfl⟩
    rw [Nat.mul_comm]
theorem nx_I {x row K : Nat} (hx : x < 2 ^ K) (hK : K < 32) (hb : row * 2 ^ K < 2 ^ 32) : nI x ||| (nI row <<< (nI K &&& 31)) = nI (x + row * 2 ^ K) := by
  rw [sl_I hK hb, or_I]
  congr 1
  have := Nat.two_pow_add_eq_or_of_lt hx row
  rw [Nat.or_comm, Nat.mul_comm row, ← this, Nat.add_comm]
section SMALL
variable {n t b m mk dr : Nat} {sd : Nat → Nat} {M : Mm}
theorem pr_lt1 {n p : Nat} (hn : n < 7) (hp : p < n + 1) : pr0 n p ≤ 15 := Nat.le_trans (pr_np n (by omega) p hp) (np6 n hn)
theorem set_I {p : Nat} (h : SS n t b m mk dr sd M) (hn : n < 7) (hp : p < n) : f_Se_settled (nI p) M = some (nI (2 ^ pr0 n (p + 1) - 1)) := by
  have hl := pr_lt1 hn (show p + 1 < n + 1 by omega)
  unfold f_Se_settled
  rw [if_pos (nI_pos' (by omega)), nI_1, if_pos (inb_nI (show p + 1 < 7 by omega) (by decide)), ix_nI (by omega), h.2.2.2.2.2.2.2.1 (p + 1) (by omega), one_sl (by omega), show (1 : Int32) = nI 1 from rfl, pk_sub (Nat.two_pow_pos _)]
theorem rows_I {p : Nat} (h : SS n t b m mk dr sd M) (hn : n < 7) (hp : p < n) : f_Se_rowsOf (nI p) M = nI (2 ^ (n - 1 - p)) := by
  unfold f_Se_rowsOf
  rw [h.1, show (1 : Int32) = nI 1 from rfl, pk_sub (by omega), pk_sub (by omega), ← show (1 : Int32) = nI 1 from rfl, one_sl (by omega)]
theorem cin_I {x p : Nat} (h : SS n t b m mk dr sd M) (hn : n < 7) (hp : p < n) (hx : x < 2 ^ 15) : f_Se_countIn (nI x) (nI p) M = some (nI (dgr n x p)) := by
  unfold f_Se_countIn
  rw [if_pos (inb_nI (show p < 6 by omega) (by decide)), ix_nI (by omega), h.2.2.2.2.2.2.1 p hp, bcp_I hn hx hp]
/-- the price, as far as the pairs below K -/
def prK (t mk dr x K : Nat) : Nat := mk * ctb (fun k => x.testBit k && !(t.testBit k)) K + dr * ctb (fun k => !(x.testBit k) && t.testBit k) K
theorem prK_le {t mk dr x K : Nat} (h1 : mk ≤ 9) (h2 : dr ≤ 9) (hK : K ≤ 28) : prK t mk dr x K ≤ 504 := by
  unfold prK
  have a1 : mk * ctb (fun k => x.testBit k && !(t.testBit k)) K ≤ 9 * 28 := Nat.mul_le_mul h1 (Nat.le_trans (ctb_le _ _) hK)
  have a2 : dr * ctb (fun k => !(x.testBit k) && t.testBit k) K ≤ 9 * 28 := Nat.mul_le_mul h2 (Nat.le_trans (ctb_le _ _) hK)
  omega
theorem ctb_mono {f : Nat → Bool} {k : Nat} : ∀ d, ctb f k ≤ ctb f (k + d)
  | 0 => Nat.le_refl _
  | d + 1 => by rw [← Nat.add_assoc, ctb]; exact Nat.le_trans (ctb_mono d) (Nat.le_add_right _ _)
theorem prK_mono {t mk dr x K K' : Nat} (h : K ≤ K') : prK t mk dr x K ≤ prK t mk dr x K' := by
  obtain ⟨d, rfl⟩ : ∃ d, K' = K + d := ⟨K' - K, by omega⟩
  exact Nat.add_le_add (Nat.mul_le_mul (Nat.le_refl _) (ctb_mono d)) (Nat.mul_le_mul (Nat.le_refl _) (ctb_mono d))
theorem prK_agr {t mk dr x y K : Nat} (h : ∀ k, k < K → y.testBit k = x.testBit k) : prK t mk dr y K = prK t mk dr x K := by
  unfold prK
  rw [ctb_cong (f := fun k => y.testBit k && !(t.testBit k)) (g := fun k => x.testBit k && !(t.testBit k)) (fun k hk => by rw [h k hk]), ctb_cong (f := fun k => !(y.testBit k) && t.testBit k) (g := fun k => !(x.testBit k) && t.testBit k) (fun k hk => by rw [h k hk])]
theorem bcK_I {y K : Nat} {f : Nat → Bool} (hK : K ≤ 15) (h : ∀ i, y.testBit i = (decide (i < K) && f i)) : f_In_bitCount (nI y) = nI (ctb f K) := by
  have e : y = bs f K := Nat.eq_of_testBit_eq (fun i => by rw [h, bs_bit])
  rw [e, bc_bs hK]
theorem prT_I {x p : Nat} {S : Nat} (h : SS n t b m mk dr sd M) (hS : S ≤ 15) (hx : x < 2 ^ 15) (hs : f_Se_settled (nI p) M = some (nI (2 ^ S - 1))) : f_Se_priceTo (nI x) (nI p) M = some (nI (prK t mk dr x S)) := by
  unfold f_Se_priceTo
  rw [hs, bnd_s, h.2.2.2.1, h.2.1, h.2.2.1]
  dsimp only [lt]
  rw [xo_I, an_I, an_I, an_I]
  have e1 : f_In_bitCount (nI (((x ^^^ t) &&& (2 ^ S - 1)) &&& x)) = nI (ctb (fun k => x.testBit k && !(t.testBit k)) S) := bcK_I hS (fun i => by
    rw [Nat.testBit_and, Nat.testBit_and, Nat.testBit_xor, Nat.testBit_two_pow_sub_one]
    cases x.testBit i <;> cases t.testBit i <;> cases decide (i < S) <;> rfl)
  have e2 : f_In_bitCount (nI (((x ^^^ t) &&& (2 ^ S - 1)) &&& t)) = nI (ctb (fun k => !(x.testBit k) && t.testBit k) S) := bcK_I hS (fun i => by
    rw [Nat.testBit_and, Nat.testBit_and, Nat.testBit_xor, Nat.testBit_two_pow_sub_one]
    cases x.testBit i <;> cases t.testBit i <;> cases decide (i < S) <;> rfl)
  rw [e1, e2, pk_mul, pk_mul, nI_add]
  rfl
/-- bars are kept, as far as the pairs below K -/
def KB (b m x K : Nat) : Prop := (∀ k, ¬ (x.testBit k = true ∧ b.testBit k = true)) ∧ ∀ k, k < K → m.testBit k = true → x.testBit k = true
theorem and_0 {a c : Nat} : a &&& c = 0 ↔ ∀ k, ¬ (a.testBit k = true ∧ c.testBit k = true) := by
  constructor
  · intro h k z
    have : (a &&& c).testBit k = true := by rw [Nat.testBit_and, z.1, z.2]; rfl
    rw [h, Nat.zero_testBit] at this
    cases this
  · intro h
    apply Nat.eq_of_testBit_eq
    intro k
    rw [Nat.testBit_and, Nat.zero_testBit]
    have := h k
    cases ha : a.testBit k <;> cases hc : c.testBit k <;> simp_all
theorem nI0_iff {a : Nat} (h : a < 2 ^ 31) : nI a = 0 ↔ a = 0 := nI_eq (b := 0) h (by decide)
theorem kb_I {x p S : Nat} (h : SS n t b m mk dr sd M) (hS : S ≤ 15) (hx : x < 2 ^ 15) (hs : f_Se_settled (nI p) M = some (nI (2 ^ S - 1))) : (KB b m x S → f_Se_keepsBars (nI x) (nI p) M = some 1) ∧ (¬ KB b m x S → f_Se_keepsBars (nI x) (nI p) M = some 0) := by
  have hx31 : x < 2 ^ 31 := Nat.lt_trans hx (by decide)
  have ha : x &&& b < 2 ^ 31 := Nat.lt_of_le_of_lt Nat.and_le_left hx31
  have hS2 : 2 ^ S - 1 < 2 ^ 31 := Nat.lt_of_le_of_lt (Nat.sub_le _ _) (Nat.lt_of_le_of_lt (Nat.pow_le_pow_right (by decide) hS) (by decide))
  have hm : (m &&& (2 ^ S - 1)) &&& (x ^^^ 4294967295) < 2 ^ 31 := Nat.lt_of_le_of_lt Nat.and_le_left (Nat.lt_of_le_of_lt Nat.and_le_right hS2)
  have q2 : ((m &&& (2 ^ S - 1)) &&& (x ^^^ 4294967295) = 0) ↔ (∀ k, k < S → m.testBit k = true → x.testBit k = true) := by
    rw [and_0]
    constructor
    · intro z k hk hm
      have z := z k
      rw [Nat.testBit_and, Nat.testBit_two_pow_sub_one, Nat.testBit_xor, show (4294967295 : Nat) = 2 ^ 32 - 1 from rfl, Nat.testBit_two_pow_sub_one] at z
      have h32 : k < 32 := by omega
      cases hxk : x.testBit k
      · exact absurd (by simp [hm, hk, hxk, h32]) z
      · rfl
    · intro z k w
      rw [Nat.testBit_and, Nat.testBit_two_pow_sub_one, Nat.testBit_xor, show (4294967295 : Nat) = 2 ^ 32 - 1 from rfl, Nat.testBit_two_pow_sub_one] at w
      by_cases hk : k < S
      · have h32 : k < 32 := by omega
        by_cases hmk : m.testBit k = true
        · have := z k hk hmk
          simp [this, h32] at w
        · simp [hmk] at w
      · simp [hk] at w
  have q1 := and_0 (a := x) (c := b)
  unfold f_Se_keepsBars
  rw [h.2.2.2.2.1, an_I, hs, bnd_s, h.2.2.2.2.2.1, m1_I, xo_I, an_I, an_I]
  constructor
  · intro z
    rw [if_pos ((nI0_iff ha).mpr (q1.mpr z.1)), if_pos ((nI0_iff hm).mpr (q2.mpr z.2))]
  · intro z
    by_cases w : x &&& b = 0
    · rw [if_pos ((nI0_iff ha).mpr w), if_neg (fun v => z ⟨q1.mp w, q2.mp ((nI0_iff hm).mp v)⟩)]
    · rw [if_neg (fun v => w ((nI0_iff ha).mp v))]
theorem abl_I {x p : Nat} (h : SS n t b m mk dr sd M) (hn : n < 7) (hp : p < n) (hx : x < 2 ^ 15) (N : Nat) : ∀ (d k nu : Nat), k + d = p → d < nu → L_Se_alikeBelow_5 N (nI x) (nI p) M nu (nI (ctb (fun q => decide (dgr n x q = dgr n x p)) k)) (nI k) = some (nI (ctb (fun q => decide (dgr n x q = dgr n x p)) p))
  | 0, k, nu + 1, hk, hnu => by
    have hk : k = p := by omega
    subst hk
    rw [L_Se_alikeBelow_5, if_pos (nI_le (Nat.le_refl k) (by omega))]
  | d + 1, k, nu + 1, hk, hnu => by
    have ih := abl_I h hn hp hx N d (k + 1) nu (by omega) (by omega)
    have l1 : dgr n x k ≤ n := dgr_le
    have l2 : dgr n x p ≤ n := dgr_le
    rw [L_Se_alikeBelow_5, if_neg (nI_ge (by omega) (by omega)), cin_I h hn (by omega) hx, bnd_s, cin_I h hn hp hx, bnd_s]
    dsimp only [lt]
    by_cases z : dgr n x k = dgr n x p
    · rw [if_pos (by rw [z]), nI_1, nI_1, ct_yes (by simp [z])]
      exact ih
    · rw [if_neg (fun w => z ((nI_eq (by omega) (by omega)).mp w)), nI_1, ct_no (by simp [z])]
      exact ih
theorem ab_I {x p N : Nat} (h : SS n t b m mk dr sd M) (hn : n < 7) (hp : p < n) (hx : x < 2 ^ 15) (hN : 9 < N) : f_Se_alikeBelow N (nI x) (nI p) M = some (nI (ctb (fun q => decide (dgr n x q = dgr n x p)) p)) := abl_I h hn hp hx N p 0 N (by omega) (by omega)
end SMALL
