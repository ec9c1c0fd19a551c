/-! PURE 56: reading of texts: blanks, numbers, words -/
def sbI (c : Nat) : Int32 := (nI c).toInt8.toInt32
theorem sb_lo : ∀ c, c < 128 → sbI c = nI c := by decide +kernel
theorem sb_hi : ∀ c, c < 256 → (128 ≤ c → sbI c < 0) := by decide +kernel
theorem sb_eq {c k : Nat} (hc : c < 256) (hk : k < 128) : sbI c = nI k ↔ c = k := by
  by_cases h : c < 128
  · rw [sb_lo c h, nI_eq (by omega) (by omega)]
  · have h1 := sb_hi c hc (by omega)
    constructor
    · intro e; rw [e] at h1; exact absurd h1 (nI_pos (by omega))
    · intro e; omega
theorem sb_lt {c k : Nat} (hc : c < 256) (hk : k < 128) : sbI c < nI k ↔ (c < k ∨ 128 ≤ c) := by
  by_cases h : c < 128
  · rw [sb_lo c h, nI_ltI (by omega) (by omega)]; omega
  · have h1 := sb_hi c hc (by omega)
    constructor
    · intro _; omega
    · intro _; exact Int32.lt_of_lt_of_le h1 (nI_pos' (by omega))
theorem sb_gt {c k : Nat} (hc : c < 256) (hk : k < 128) : nI k < sbI c ↔ (k < c ∧ c < 128) := by
  by_cases h : c < 128
  · rw [sb_lo c h, nI_ltI (by omega) (by omega)]; omega
  · have h1 := sb_hi c hc (by omega)
    constructor
    · intro z; exact absurd (Int32.lt_trans z h1) (nI_pos (by omega))
    · intro z; omega
/-- as long as P holds, d places at most -/
def scF (P : Nat → Bool) : Nat → Nat → Nat
  | 0, i => i
  | d + 1, i => if P i = true then scF P d (i + 1) else i
theorem sc_le {P : Nat → Bool} : ∀ {d i}, i ≤ scF P d i ∧ scF P d i ≤ i + d
  | 0, i => ⟨Nat.le_refl i, Nat.le_refl i⟩
  | d + 1, i => by
    rw [scF]
    split
    · have := sc_le (P := P) (d := d) (i := i + 1); omega
    · omega
theorem sc_in {P : Nat → Bool} : ∀ {d i}, ∀ j, i ≤ j → j < scF P d i → P j = true
  | 0, i, j, h1, h2 => by rw [scF] at h2; omega
  | d + 1, i, j, h1, h2 => by
    rw [scF] at h2
    by_cases q : P i = true
    · rw [if_pos q] at h2
      by_cases e : j = i
      · rw [e]; exact q
      · exact sc_in (d := d) j (by omega) h2
    · rw [if_neg q] at h2; omega
theorem sc_out {P : Nat → Bool} : ∀ {d i}, scF P d i < i + d → P (scF P d i) = false
  | 0, i, h => by rw [scF] at h; omega
  | d + 1, i, h => by
    rw [scF] at h ⊢
    by_cases q : P i = true
    · rw [if_pos q] at h ⊢
      exact sc_out (d := d) (by omega)
    · rw [if_neg q]; simpa using q
theorem sc_self {P : Nat → Bool} {d i : Nat} (h : P i = false) : scF P d i = i := by
  cases d with
  | zero => rfl
  | succ d => rw [scF, if_neg (by rw [h]; decide)]
def blB (c : Nat → Nat) : Nat → Bool := fun i => decide (c i = 32)
def leB (c : Nat → Nat) : Nat → Bool := fun i => decide (97 ≤ c i ∧ c i ≤ 122)
def dgB (c : Nat → Nat) : Nat → Bool := fun i => decide (48 ≤ c i ∧ c i ≤ 57)
def skp (c : Nat → Nat) (len i : Nat) : Nat := scF (blB c) (len - i) i
theorem si_si (M : Mm) (a k : Nat) (x y : Int32) : si (si M a k x) a k y = si M a k y := mm_ext (fun b j => by
  rw [si1, si1, si1]
  by_cases h : b = a ∧ j = k
  · rw [if_pos h, if_pos h]
  · rw [if_neg h, if_neg h, if_neg h]) rfl
theorem si_id {M : Mm} {a k : Nat} {x : Int32} (h : M.1 a k = x) : si M a k x = M := mm_ext (fun b j => by
  rw [si1]
  by_cases e : b = a ∧ j = k
  · rw [if_pos e, e.1, e.2, h]
  · rw [if_neg e]) rfl
/-- the class's text, the reference's text -/
def CX (c : Nat → Nat) (len : Nat) (M : Mm) : Prop := len < 401 ∧ M.1 11 2 = nI len ∧ ∀ i, i < len → c i < 256 ∧ M.1 12 i = sbI (c i)
def RX (c : Nat → Nat) (len : Nat) (M : Mm) : Prop := len < 401 ∧ M.1 49 10 = nI len ∧ ∀ i, i < len → c i < 256 ∧ M.1 52 i = nI (c i)
theorem CX.ag {c : Nat → Nat} {len : Nat} {M M' : Mm} (h : CX c len M) (h1 : M'.1 11 2 = M.1 11 2) (h2 : ∀ i, M'.1 12 i = M.1 12 i) : CX c len M' := ⟨h.1, h1.trans h.2.1, fun i hi => ⟨(h.2.2 i hi).1, (h2 i).trans (h.2.2 i hi).2⟩⟩
theorem RX.ag {c : Nat → Nat} {len : Nat} {M M' : Mm} (h : RX c len M) (h1 : M'.1 49 10 = M.1 49 10) (h2 : ∀ i, M'.1 52 i = M.1 52 i) : RX c len M' := ⟨h.1, h1.trans h.2.1, fun i hi => ⟨(h.2.2 i hi).1, (h2 i).trans (h.2.2 i hi).2⟩⟩
section LX
variable {c : Nat → Nat} {len : Nat}
theorem csk (N : Nat) : ∀ (d i nu : Nat) (M : Mm), i + d = len → d < nu → CX c len M → M.1 11 3 = nI i → L_Te_skipBlanks_0 N nu M = some (si M 11 3 (nI (scF (blB c) d i)))
  | 0, i, nu + 1, M, hi, hnu, hX, h3 => by
    have hl := hX.1
    rw [L_Te_skipBlanks_0, hX.2.1, h3, if_pos (nI_le (by omega) (by omega)), si_id (by rw [h3]; rfl)]
  | d + 1, i, nu + 1, M, hi, hnu, hX, h3 => by
    have hl := hX.1
    obtain ⟨c1, c2⟩ := hX.2.2 i (by omega)
    rw [L_Te_skipBlanks_0, hX.2.1, h3, if_neg (nI_ge (by omega) (by omega)), if_pos (inb_nI (show i < 400 by omega) (by decide)), ix_nI (by omega), c2, scF]
    dsimp only [lt]
    by_cases z : c i = 32
    · have ih := csk N d (i + 1) nu (si M 11 3 (nI (i + 1))) (by omega) (by omega) (hX.ag (si_k _ _ (by decide)) (fun _ => si_a _ _ (by decide))) (si_s _ _ _ _)
      rw [if_pos (show sbI (c i) = 32 from (sb_eq (k := 32) c1 (by decide)).mpr z), nI_1, if_pos (by simp [blB, z]), ih, si_si]
    · rw [if_neg (show ¬ sbI (c i) = 32 from fun v => z ((sb_eq (k := 32) c1 (by decide)).mp v)), if_neg (by simp [blB, z]), si_id h3]
theorem csk_I {N i : Nat} {M : Mm} (hN : 401 < N) (hi : i ≤ len) (hX : CX c len M) (h3 : M.1 11 3 = nI i) : f_Te_skipBlanks N M = some (si M 11 3 (nI (skp c len i))) := csk N (len - i) i N M (by omega) (by have := hX.1; omega) hX h3
theorem rsk (N : Nat) (ju : Mm → Option (Int32 × Mm)) : ∀ (d i nu : Nat) (M : Mm), i + d = len → d < nu → RX c len M → M.1 49 12 = nI i → L_Mo_here_0 N ju nu M = ju (si M 49 12 (nI (scF (blB c) d i)))
  | 0, i, nu + 1, M, hi, hnu, hX, h3 => by
    have hl := hX.1
    rw [L_Mo_here_0, hX.2.1, h3, if_pos (nI_le (by omega) (by omega)), si_id (by rw [h3]; rfl)]
  | d + 1, i, nu + 1, M, hi, hnu, hX, h3 => by
    have hl := hX.1
    obtain ⟨c1, c2⟩ := hX.2.2 i (by omega)
    rw [L_Mo_here_0, hX.2.1, h3, if_neg (nI_ge (by omega) (by omega)), if_pos (inb_nI (show i < 400 by omega) (by decide)), ix_nI (by omega), c2, scF]
    dsimp only [lt]
    by_cases z : c i = 32
    · have ih := rsk N ju d (i + 1) nu (si M 49 12 (nI (i + 1))) (by omega) (by omega) (hX.ag (si_k _ _ (by decide)) (fun _ => si_a _ _ (by decide))) (si_s _ _ _ _)
      rw [if_pos (show nI (c i) = 32 by rw [z]; rfl), nI_1, if_pos (by simp [blB, z]), ih, si_si]
    · rw [if_neg (show ¬ nI (c i) = 32 from fun v => z ((nI_eq (b := 32) (by omega) (by decide)).mp v)), if_neg (by simp [blB, z]), si_id h3]
def hrV (c : Nat → Nat) (len i : Nat) : Int32 := if skp c len i < len then nI (c (skp c len i)) else -1
theorem skp_le {i : Nat} (hi : i ≤ len) : i ≤ skp c len i ∧ skp c len i ≤ len := by
  have := sc_le (P := blB c) (d := len - i) (i := i)
  unfold skp
  omega
theorem rhere {N i : Nat} {M : Mm} (hN : 401 < N) (hi : i ≤ len) (hX : RX c len M) (h3 : M.1 49 12 = nI i) : f_Mo_here N M = some (hrV c len i, si M 49 12 (nI (skp c len i))) := by
  unfold f_Mo_here
  dsimp only [lt]
  have hl := hX.1
  have hs := skp_le (c := c) hi
  refine (rsk N _ (len - i) i N M (by omega) (by omega) hX h3).trans ?_
  rw [show scF (blB c) (len - i) i = skp c len i from rfl, si_s, si_k _ _ (by decide), hX.2.1]
  unfold hrV
  by_cases z : skp c len i < len
  · rw [if_neg (nI_ge z (by omega)), if_pos (inb_nI (show skp c len i < 400 by omega) (by decide)), ix_nI (by omega), si_a _ _ (by decide), (hX.2.2 _ z).2, if_pos z]
  · rw [if_pos (nI_le (by omega) (by omega)), if_neg z]
/-! numbers -/
def cvN (c : Nat → Nat) (s : Nat) : Nat → Nat
  | 0 => 0
  | k + 1 => if k < 3 then cvN c s k * 10 + (c (s + k) - 48) else cvN c s k
def rvN (c : Nat → Nat) (s : Nat) : Nat → Nat
  | 0 => 0
  | k + 1 => if rvN c s k ≤ 10000 then 10 * rvN c s k + (c (s + k) - 48) else rvN c s k
theorem cv_le {s : Nat} : ∀ {k}, (∀ j, j < k → c (s + j) ≤ 57) → cvN c s k ≤ 10 ^ k ∧ cvN c s k < 1000
  | 0, _ => ⟨by simp [cvN], by simp [cvN]⟩
  | k + 1, h => by
    have ih := cv_le (s := s) (k := k) (fun j hj => h j (by omega))
    have hk := h k (by omega)
    rw [cvN]
    by_cases q : k < 3
    · rw [if_pos q]
      have e : cvN c s k < 100 := by
        rcases (show k = 0 ∨ k = 1 ∨ k = 2 by omega) with rfl | rfl | rfl
        · simp [cvN]
        · have e2 : cvN c s 1 = cvN c s 0 * 10 + (c (s + 0) - 48) := if_pos (by decide)
          have e3 := h 0 (by omega)
          have e4 : cvN c s 0 = 0 := rfl
          omega
        · have e2 : cvN c s 1 = cvN c s 0 * 10 + (c (s + 0) - 48) := if_pos (by decide)
          have e5 : cvN c s 2 = cvN c s 1 * 10 + (c (s + 1) - 48) := if_pos (by decide)
          have e3 := h 0 (by omega)
          have e6 := h 1 (by omega)
          have e4 : cvN c s 0 = 0 := rfl
          omega
      refine ⟨?_, by omega⟩
      rw [Nat.pow_succ]
      rcases (show k = 0 ∨ k = 1 ∨ k = 2 by omega) with rfl | rfl | rfl
      · have e4 : cvN c s 0 = 0 := rfl
        omega
      · have e2 : cvN c s 1 = cvN c s 0 * 10 + (c (s + 0) - 48) := if_pos (by decide)
        have e3 := h 0 (by omega)
        have e4 : cvN c s 0 = 0 := rfl
        omega
      · omega
    · rw [if_neg q]
      refine ⟨Nat.le_trans ih.1 (Nat.pow_le_pow_right (by decide) (by omega)), ih.2⟩
theorem rv_cv {s : Nat} : ∀ {k}, k ≤ 3 → (∀ j, j < k → c (s + j) ≤ 57) → rvN c s k = cvN c s k
  | 0, _, _ => rfl
  | k + 1, hk, h => by
    have ih := rv_cv (s := s) (k := k) (by omega) (fun j hj => h j (by omega))
    have hb := (cv_le (c := c) (s := s) (k := k) (fun j hj => h j (by omega))).2
    rw [rvN, cvN, ih, if_pos (by omega), if_pos (by omega), Nat.mul_comm]
theorem rv_lt {s : Nat} : ∀ {k}, (∀ j, j < k → c (s + j) ≤ 57) → rvN c s k ≤ 100009
  | 0, _ => by simp [rvN]
  | k + 1, h => by
    have ih := rv_lt (s := s) (k := k) (fun j hj => h j (by omega))
    have hk := h k (by omega)
    rw [rvN]
    split <;> omega
theorem cnm (N : Nat) {s : Nat} (ju : Int32 → Mm → Option (Int32 × Mm)) : ∀ (d k nu : Nat) (M : Mm), s + k + d = len → d < nu → (∀ j, j < k → c (s + j) ≤ 57) → CX c len M → M.1 11 3 = nI (s + k) → L_Te_readNumber_12 N (nI s) ju nu (nI (cvN c s k)) M = ju (nI (cvN c s (scF (dgB c) d (s + k) - s))) (si M 11 3 (nI (scF (dgB c) d (s + k))))
  | 0, k, nu + 1, M, hi, hnu, hd, hX, h3 => by
    have hl := hX.1
    rw [L_Te_readNumber_12, hX.2.1, h3, if_pos (nI_le (by omega) (by omega)), scF, si_id h3, show s + k - s = k by omega]
  | d + 1, k, nu + 1, M, hi, hnu, hd, hX, h3 => by
    have hl := hX.1
    obtain ⟨c1, c2⟩ := hX.2.2 (s + k) (by omega)
    have i4 : inb (nI (s + k)) 400 = true := inb_nI (show s + k < 400 by omega) (by decide)
    rw [L_Te_readNumber_12, hX.2.1, h3, if_neg (nI_ge (by omega) (by omega)), if_pos i4, ix_nI (by omega), c2, scF]
    dsimp only [lt]
    by_cases z : 48 ≤ c (s + k) ∧ c (s + k) ≤ 57
    · have hdd : ∀ j, j < k + 1 → c (s + j) ≤ 57 := fun j hj => by
        by_cases e : j = k
        · subst e; exact z.2
        · exact hd j (by omega)
      have ih := cnm N (s := s) ju d (k + 1) nu (si M 11 3 (nI (s + (k + 1)))) (by omega) (by omega) hdd (hX.ag (si_k _ _ (by decide)) (fun _ => si_a _ _ (by decide))) (si_s _ _ _ _)
      rw [si_si] at ih
      have hcv := (cv_le (c := c) (s := s) (k := k) hd).2
      rw [if_neg (show ¬ sbI (c (s + k)) < 48 from fun v => by have := (sb_lt (k := 48) c1 (by decide)).mp v; omega), if_pos i4, if_neg (show ¬ (57 : Int32) < sbI (c (s + k)) from fun v => by have := (sb_gt (k := 57) c1 (by decide)).mp v; omega), if_pos i4, pk_sub (by omega), show s + k - s = k by omega, nI_1, if_pos (show dgB c (s + k) = true by simp [dgB, z]), show s + k + 1 = s + (k + 1) by omega]
      by_cases q : 3 ≤ k
      · rw [if_pos (show (3 : Int32) ≤ nI k from nI_le (a := 3) q (by omega))]
        rw [cvN, if_neg (by omega)] at ih
        exact ih
      · rw [if_neg (show ¬ (3 : Int32) ≤ nI k from nI_ge (a := k) (b := 3) (by omega) (by decide)), sb_lo _ (by omega), show (10 : Int32) = nI 10 from rfl, pk_mul, nI_add, show (48 : Int32) = nI 48 from rfl, pk_sub (by omega), show cvN c s k * 10 + c (s + k) - 48 = cvN c s k * 10 + (c (s + k) - 48) by omega]
        rw [cvN, if_pos (by omega)] at ih
        exact ih
    · rw [if_neg (show ¬ dgB c (s + k) = true by simp [dgB]; omega), si_id h3, show s + k - s = k by omega]
      by_cases q : sbI (c (s + k)) < 48
      · rw [if_pos q]
      · rw [if_neg q, if_pos i4, if_pos (show (57 : Int32) < sbI (c (s + k)) from (sb_gt (k := 57) c1 (by decide)).mpr (by
          have : ¬ (c (s + k) < 48 ∨ 128 ≤ c (s + k)) := fun v => q ((sb_lt (k := 48) c1 (by decide)).mpr v)
          omega))]
theorem rnm (N : Nat) {s : Nat} (ju : Mm → Option (Int32 × Mm)) : ∀ (d k nu : Nat) (M : Mm), s + k + d = len → d < nu → (∀ j, j < k → c (s + j) ≤ 57) → RX c len M → M.1 49 12 = nI (s + k) → M.1 49 15 = nI (rvN c s k) → L_Mo_takeNumber_42 N ju nu M = ju (si (si M 49 15 (nI (rvN c s (scF (dgB c) d (s + k) - s)))) 49 12 (nI (scF (dgB c) d (s + k))))
  | 0, k, nu + 1, M, hi, hnu, hd, hX, h3, h15 => by
    have hl := hX.1
    rw [L_Mo_takeNumber_42, hX.2.1, h3, if_pos (nI_le (by omega) (by omega)), scF, show s + k - s = k by omega, si_id (M := M) h15, si_id h3]
  | d + 1, k, nu + 1, M, hi, hnu, hd, hX, h3, h15 => by
    have hl := hX.1
    obtain ⟨c1, c2⟩ := hX.2.2 (s + k) (by omega)
    have i4 : inb (nI (s + k)) 400 = true := inb_nI (show s + k < 400 by omega) (by decide)
    rw [L_Mo_takeNumber_42, hX.2.1, h3, if_neg (nI_ge (by omega) (by omega)), if_pos i4, ix_nI (by omega), c2, scF, show (48 : Int64) = (48 : Int32).toInt64 from rfl, show (57 : Int64) = (57 : Int32).toInt64 from rfl, in_if]
    dsimp only [lt]
    by_cases z : 48 ≤ c (s + k) ∧ c (s + k) ≤ 57
    · have hdd : ∀ j, j < k + 1 → c (s + j) ≤ 57 := fun j hj => by
        by_cases e : j = k
        · subst e; exact z.2
        · exact hd j (by omega)
      have ih := rnm N (s := s) ju d (k + 1) nu (si (si M 49 15 (nI (rvN c s (k + 1)))) 49 12 (nI (s + (k + 1)))) (by omega) (by omega) hdd (hX.ag (by rw [si_k _ _ (by decide), si_k _ _ (by decide)]) (fun _ => by rw [si_a _ _ (by decide), si_a _ _ (by decide)])) (si_s _ _ _ _) (by rw [si_k _ _ (by decide), si_s])
      have hrv := rv_lt (c := c) (s := s) (k := k) hd
      have hfix : ∀ (x y u v : Int32), si (si (si (si M 49 15 x) 49 12 y) 49 15 u) 49 12 v = si (si M 49 15 u) 49 12 v := fun x y u v => mm_ext (fun b j => by
        simp only [si1]
        by_cases e1 : b = 49 ∧ j = 12
        · simp only [e1, and_self, if_true]
        · by_cases e2 : b = 49 ∧ j = 15
          · simp only [e2, and_self, if_true]
          · simp only [e1, e2, if_false]) rfl
      rw [hfix] at ih
      rw [if_neg (show ¬ nI (c (s + k)) < 48 from nI_nlt (b := 48) z.1 (by omega)), if_neg (show ¬ (57 : Int32) < nI (c (s + k)) from nI_nlt (a := 57) (by omega) (by decide)), if_pos i4, if_pos (show dgB c (s + k) = true by simp [dgB, z]), h15]
      have e12 : ∀ x : Int32, (si M 49 15 x).1 49 12 = nI (s + k) := fun x => by rw [si_k _ _ (by decide)]; exact h3
      rw [e12, e12, nI_1, show s + k + 1 = s + (k + 1) by omega]
      by_cases q : rvN c s k ≤ 10000
      · rw [if_pos (show nI (rvN c s k) ≤ 10000 from nI_le (b := 10000) q (by decide)), show (10 : Int32) = nI 10 from rfl, pk_mul, nI_add, show (48 : Int32) = nI 48 from rfl, pk_sub (by omega), show 10 * rvN c s k + c (s + k) - 48 = 10 * rvN c s k + (c (s + k) - 48) by omega]
        rw [rvN, if_pos q] at ih
        exact ih
      · rw [if_neg (show ¬ nI (rvN c s k) ≤ 10000 from nI_ge (a := 10000) (by omega) (by omega))]
        rw [rvN, if_neg q] at ih
        exact ih
    · rw [if_neg (show ¬ dgB c (s + k) = true by simp [dgB]; omega), show s + k - s = k by omega, si_id (M := M) h15, si_id h3]
      by_cases q : c (s + k) < 48
      · rw [if_pos (show nI (c (s + k)) < 48 from nI_lt (b := 48) q (by decide))]
      · rw [if_neg (show ¬ nI (c (s + k)) < 48 from nI_nlt (b := 48) (by omega) (by omega)), if_pos (show (57 : Int32) < nI (c (s + k)) from nI_lt (a := 57) (by omega) (by omega))]
end LX
