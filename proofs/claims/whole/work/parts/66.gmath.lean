/-! PURE 47: places -/
def spl (n k : Nat) : Nat := if k % 2 = 0 then k / 2 else n - 1 - k / 2
def ixp (n v : Nat) : Nat := if 2 * v < n then 2 * v else 2 * (n - 1 - v) + 1
theorem spl_lt : ∀ n, n < 9 → ∀ k, k < n → spl n k < n := by decide
theorem ixp_lt : ∀ n, n < 9 → ∀ v, v < n → ixp n v < n := by decide
theorem spl_ix : ∀ n, n < 9 → ∀ v, v < n → spl n (ixp n v) = v := by decide
theorem ix_spl : ∀ n, n < 9 → ∀ k, k < n → ixp n (spl n k) = k := by decide
theorem spl_made : ∀ n, n < 9 → ∀ k, k < n → ∀ l, l < n → (k < l → decide (n ≤ spl n k + spl n l) = decide (k % 2 = 1)) := by decide +kernel
def mdB (w n i j : Nat) : Bool := if w = 0 then decide (n ≤ i + j) else decide (i + j < n)
def frB (w k : Nat) : Bool := decide ((k + w) % 2 = 1)
theorem md_comm {w n i j : Nat} : mdB w n i j = mdB w n j i := by unfold mdB; rw [Nat.add_comm i j]
theorem md_spl {w n k l : Nat} (hn : n < 9) (hl : l < n) (hkl : k < l) (hw : w < 2) : mdB w n (spl n k) (spl n l) = frB w k := by
  have h := spl_made n hn k (by omega) l hl hkl
  unfold mdB frB
  rcases (show w = 0 ∨ w = 1 by omega) with rfl | rfl
  · rw [if_pos rfl, h, Nat.add_zero]
  · rw [if_neg (by decide)]
    by_cases q : n ≤ spl n k + spl n l
    · have h1 : k % 2 = 1 := by
        rw [decide_eq_true q] at h
        exact of_decide_eq_true h.symm
      have h2 : ¬ spl n k + spl n l < n := by omega
      have h3 : ¬ (k + 1) % 2 = 1 := by omega
      simp [h2, h3]
    · have h1 : ¬ k % 2 = 1 := by
        rw [decide_eq_false q] at h
        exact of_decide_eq_false h.symm
      have h2 : spl n k + spl n l < n := by omega
      have h3 : (k + 1) % 2 = 1 := by omega
      simp [h2, h3]
/-- places by their order: what comes first settles the pair -/
theorem md_ix {w n u v : Nat} (hn : n < 9) (hu : u < n) (hv : v < n) (h : ixp n u < ixp n v) (hw : w < 2) : mdB w n u v = frB w (ixp n u) := by
  have := md_spl (w := w) hn (ixp_lt n hn v hv) h hw
  rw [spl_ix n hn u hu, spl_ix n hn v hv] at this
  exact this
theorem ixp_inj {n u v : Nat} (hn : n < 9) (hu : u < n) (hv : v < n) (h : ixp n u = ixp n v) : u = v := by
  rw [← spl_ix n hn u hu, ← spl_ix n hn v hv, h]
/-! prices of pairs -/
def Ppr (n t mk dr w : Nat) (f : Nat → Nat) (p q : Nat) : Nat := if p = q then 0 else if mdB w n (f p) (f q) = t.testBit (pn n p q) then 0 else if mdB w n (f p) (f q) = true then mk else dr
def Bad (n b m w : Nat) (f : Nat → Nat) (p q : Nat) : Prop := p ≠ q ∧ (if mdB w n (f p) (f q) = true then b.testBit (pn n p q) else m.testBit (pn n p q)) = true
theorem Ppr_comm {n t mk dr w p q : Nat} {f : Nat → Nat} : Ppr n t mk dr w f p q = Ppr n t mk dr w f q p := by
  unfold Ppr
  by_cases e : p = q
  · rw [if_pos e, if_pos e.symm]
  · rw [if_neg e, if_neg (show ¬ q = p from fun z => e z.symm), md_comm, pn_comm e]
theorem Bad_comm {n b m w p q : Nat} {f : Nat → Nat} (h : Bad n b m w f p q) : Bad n b m w f q p := by
  obtain ⟨h1, h2⟩ := h
  refine ⟨fun z => h1 z.symm, ?_⟩
  rw [md_comm, pn_comm (fun z => h1 z.symm)]
  exact h2
/-- the price within a set, of pairs below N -/
def T1 (P : Nat → Nat → Nat) (s : Nat → Bool) (L : Nat) : Nat := smN (fun p => if s p = true then smN (fun q => if s q = true then P p q else 0) p else 0) L
def Tq (P : Nat → Nat → Nat) (s : Nat → Bool) (r L : Nat) : Nat := smN (fun q => if s q = true then P r q else 0) L
def adS (s : Nat → Bool) (r : Nat) : Nat → Bool := fun i => decide (i = r) || s i
theorem sm_ad {s : Nat → Bool} {r : Nat} {g : Nat → Nat} (hs : s r = false) : ∀ L, smN (fun q => if adS s r q = true then g q else 0) L = smN (fun q => if s q = true then g q else 0) L + (if r < L then g r else 0)
  | 0 => by simp [smN]
  | L + 1 => by
    have ih := sm_ad (s := s) (r := r) (g := g) hs L
    rw [smN, smN, ih]
    by_cases e : L = r
    · subst e
      have h1 : adS s L L = true := by simp [adS]
      rw [h1, hs, if_neg (show ¬ L < L by omega), if_pos (show true = true from rfl), if_neg (show ¬ false = true by decide), if_pos (show L < L + 1 by omega)]
    · have h1 : adS s r L = s L := by simp [adS, e]
      rw [h1]
      by_cases q : r < L
      · rw [if_pos q, if_pos (show r < L + 1 by omega)]; omega
      · rw [if_neg q, if_neg (show ¬ r < L + 1 by omega)]; omega
theorem T1_ad {P : Nat → Nat → Nat} {s : Nat → Bool} {r : Nat} (hs : s r = false) (hc : ∀ p q, P p q = P q p) : ∀ L, T1 P (adS s r) L = T1 P s L + (if r < L then Tq P s r L else 0)
  | 0 => by simp [T1, smN]
  | L + 1 => by
    have ih := T1_ad (P := P) (s := s) (r := r) hs hc L
    have hin := sm_ad (s := s) (r := r) (g := P L) hs L
    have e1 : T1 P (adS s r) (L + 1) = T1 P (adS s r) L + (if adS s r L = true then smN (fun q => if adS s r q = true then P L q else 0) L else 0) := rfl
    have e2 : T1 P s (L + 1) = T1 P s L + (if s L = true then smN (fun q => if s q = true then P L q else 0) L else 0) := rfl
    have e3 : Tq P s r (L + 1) = Tq P s r L + (if s L = true then P r L else 0) := rfl
    rw [e1, e2, e3, ih, hin]
    by_cases e : L = r
    · subst e
      have h1 : adS s L L = true := by simp [adS]
      rw [h1, hs, if_neg (show ¬ L < L by omega), if_neg (show ¬ L < L by omega), if_pos (show true = true from rfl), if_neg (show ¬ false = true by decide), if_neg (show ¬ false = true by decide), if_pos (show L < L + 1 by omega)]
      unfold Tq
      omega
    · have h1 : adS s r L = s L := by simp [adS, e]
      rw [h1]
      by_cases q : r < L
      · rw [if_pos q, if_pos q, if_pos (show r < L + 1 by omega), hc r L]
        cases s L
        · simp
        · simp; omega
      · rw [if_neg q, if_neg q, if_neg (show ¬ r < L + 1 by omega)]
        simp only [Nat.add_zero]
theorem T1_cong {P P' : Nat → Nat → Nat} {s s' : Nat → Bool} {L : Nat} (h : ∀ p, p < L → s p = s' p) (hP : ∀ p q, p < L → q < L → s p = true → s q = true → P p q = P' p q) : T1 P s L = T1 P' s' L := smN_cong (fun p hp => by
  rw [← h p hp]
  by_cases q : s p = true
  · rw [if_pos q, if_pos q]
    exact smN_cong (fun x hx => by
      rw [← h x (by omega)]
      by_cases y : s x = true
      · rw [if_pos y, if_pos y, hP p x hp (by omega) q y]
      · rw [if_neg y, if_neg y])
  · rw [if_neg q, if_neg q])
def cdS (f : Nat → Nat) (s : Nat → Bool) (L : Nat) : Nat := smN (fun p => if s p = true then f p * 8 ^ (7 - p) else 0) L
theorem cd_ad {f : Nat → Nat} {s : Nat → Bool} {r L : Nat} (hs : s r = false) (hr : r < L) : cdS f (adS s r) L = cdS f s L + f r * 8 ^ (7 - r) := by
  unfold cdS
  rw [sm_ad (g := fun p => f p * 8 ^ (7 - p)) hs, if_pos hr]
theorem cd_cong {f f' : Nat → Nat} {s s' : Nat → Bool} {L : Nat} (h : ∀ p, p < L → s p = s' p) (hf : ∀ p, p < L → s p = true → f p = f' p) : cdS f s L = cdS f' s' L := smN_cong (fun p hp => by
  rw [← h p hp]
  by_cases q : s p = true
  · rw [if_pos q, if_pos q, hf p hp q]
  · rw [if_neg q, if_neg q])
/-! an injective row of n below n takes each value -/
theorem surj {n : Nat} {f : Nat → Nat} (h1 : ∀ p, p < n → f p < n) (h2 : ∀ p q, p < n → q < n → f p = f q → p = q) {k : Nat} (hk : k < n) : ∃ p, p < n ∧ f p = k := by
  refine Classical.byContradiction (fun hne => ?_)
  have hno : ∀ p, p < n → f p ≠ k := fun p hp e => hne ⟨p, hp, e⟩
  have := pig (n - 1) n (fun p => if k < f p then f p - 1 else f p) (fun p hp => by
    show (if k < f p then f p - 1 else f p) < n - 1
    have a := h1 p hp
    have b := hno p hp
    split <;> omega) (fun p q hpq hq => by
    show (if k < f p then f p - 1 else f p) ≠ (if k < f q then f q - 1 else f q)
    have a := hno p (by omega)
    have b := hno q hq
    have c : f p ≠ f q := fun e => by have := h2 p q (by omega) hq e; omega
    split <;> split <;> omega)
  omega
/-! least of a fold from any start -/
theorem mE_e {c : Nat → Nat} {V : Nat → Bool} {e : Nat} : ∀ K, fo (fun a b => min a b) e c V K ≤ e
  | 0 => Nat.le_refl _
  | K + 1 => by
    have := mE_e (c := c) (V := V) (e := e) K
    rw [fo]
    split
    · exact Nat.le_trans (Nat.min_le_left _ _) this
    · exact this
theorem mE_le {c : Nat → Nat} {V : Nat → Bool} {e t : Nat} : ∀ {K}, t < K → V t = true → fo (fun a b => min a b) e c V K ≤ c t
  | 0, h, _ => absurd h (by omega)
  | K + 1, h, hV => by
    rw [fo]
    by_cases q : t = K
    · subst q
      rw [if_pos hV]
      exact Nat.min_le_right _ _
    · have := mE_le (c := c) (V := V) (e := e) (t := t) (K := K) (by omega) hV
      split
      · exact Nat.le_trans (Nat.min_le_left _ _) this
      · exact this
theorem mE_at {c : Nat → Nat} {V : Nat → Bool} {e : Nat} : ∀ K, fo (fun a b => min a b) e c V K = e ∨ ∃ t, t < K ∧ V t = true ∧ fo (fun a b => min a b) e c V K = c t
  | 0 => Or.inl rfl
  | K + 1 => by
    have ih := mE_at (c := c) (V := V) (e := e) K
    rw [fo]
    by_cases q : V K = true
    · rw [if_pos q]
      rcases Nat.le_total (fo (fun a b => min a b) e c V K) (c K) with h | h
      · rw [show min (fo (fun a b => min a b) e c V K) (c K) = fo (fun a b => min a b) e c V K from Nat.min_eq_left h]
        rcases ih with ih | ⟨t, h1, h2, h3⟩
        · exact Or.inl ih
        · exact Or.inr ⟨t, by omega, h2, h3⟩
      · rw [show min (fo (fun a b => min a b) e c V K) (c K) = c K from Nat.min_eq_right h]
        exact Or.inr ⟨K, by omega, q, rfl⟩
    · rw [if_neg q]
      rcases ih with ih | ⟨t, h1, h2, h3⟩
      · exact Or.inl ih
      · exact Or.inr ⟨t, by omega, h2, h3⟩
