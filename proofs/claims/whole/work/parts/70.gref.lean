/-! PURE 51: the reference's places -/
theorem md_I {n w i j : Nat} (hw : w < 2) (hn : n < 9) (hi : i < 9) (hj : j < 9) : f_Mo_isMade (nI n) (nI w) (nI i) (nI j) = bI (mdB w n i j) := by
  unfold f_Mo_isMade mdB
  rw [nI_add]
  rcases (show w = 0 ∨ w = 1 by omega) with rfl | rfl
  · rw [if_pos (show nI 0 = 0 from rfl), if_pos rfl]
    by_cases h : n ≤ i + j
    · rw [if_neg (nI_nlt h (by omega)), decide_eq_true h]; rfl
    · rw [if_pos (nI_lt (by omega) (by omega)), decide_eq_false h]; rfl
  · rw [if_neg (show ¬ nI 1 = 0 from h10), if_neg (show ¬ (1 : Nat) = 0 by decide)]
    by_cases h : i + j < n
    · rw [if_neg (nI_ge h (by omega)), decide_eq_true h]; rfl
    · rw [if_pos (nI_le (by omega) (by omega)), decide_eq_false h]; rfl
def bdB (n b m w : Nat) (f : Nat → Nat) (p q : Nat) : Bool := if mdB w n (f p) (f q) = true then b.testBit (pn n p q) else m.testBit (pn n p q)
def Pb (n t b m mk dr w : Nat) (f : Nat → Nat) (p q : Nat) : Nat := if bdB n b m w f p q = true then 1000000 else Ppr n t mk dr w f p q
def cl (n t b m mk dr w : Nat) (f : Nat → Nat) (p : Nat) : Nat := smN (fun q => Pb n t b m mk dr w f p q) p
def PS (n t b m mk dr w : Nat) (f : Nat → Nat) (p : Nat) : Nat := smN (fun p' => cl n t b m mk dr w f p') p
section RF
variable {n t b m mk dr w : Nat}
theorem Pb_le {f : Nat → Nat} {p q : Nat} (h1 : mk ≤ 9) (h2 : dr ≤ 9) : Pb n t b m mk dr w f p q ≤ 1000000 := by
  unfold Pb
  have := Ppr_le (n := n) (t := t) (w := w) (p := p) (q := q) (f := f) h1 h2
  split <;> omega
theorem cl_le {f : Nat → Nat} {p : Nat} (h1 : mk ≤ 9) (h2 : dr ≤ 9) (hp : p < 8) : cl n t b m mk dr w f p ≤ 8000000 := by
  have h : cl n t b m mk dr w f p ≤ p * 1000000 := smN_le (fun q _ => Pb_le h1 h2)
  omega
theorem PS_le {f : Nat → Nat} {p : Nat} (h1 : mk ≤ 9) (h2 : dr ≤ 9) (hp : p ≤ 8) : PS n t b m mk dr w f p ≤ 64000000 := by
  have h : PS n t b m mk dr w f p ≤ p * 8000000 := smN_le (fun q hq => cl_le h1 h2 (by omega))
  omega
theorem Pb_cong {f g : Nat → Nat} {p q : Nat} (h1 : f p = g p) (h2 : f q = g q) : Pb n t b m mk dr w f p q = Pb n t b m mk dr w g p q := by
  unfold Pb bdB Ppr
  rw [h1, h2]
theorem PS_cong {f g : Nat → Nat} {p : Nat} (h : ∀ q, q < p → f q = g q) : PS n t b m mk dr w f p = PS n t b m mk dr w g p := smN_cong (fun p' hp' => smN_cong (fun q hq => Pb_cong (h p' hp') (h q (by omega))))
theorem PS_mono {f : Nat → Nat} {p q : Nat} (h : p ≤ q) : PS n t b m mk dr w f p ≤ PS n t b m mk dr w f q := by
  obtain ⟨d, rfl⟩ : ∃ d, q = p + d := ⟨q - p, by omega⟩
  exact smN_mono d
theorem has_b {x k : Nat} (hx : x < 2 ^ 31) (hk : k < 32) : f_Mo_has (nI x) (nI k) = bI (x.testBit k) := has_I hx hk
theorem bI_eq {u v : Bool} : (bI u = bI v) ↔ u = v := by cases u <;> cases v <;> decide
theorem pa6 (N : Nat) {f : Nat → Nat} {M : Mm} {p : Nat} (hN : 9 < N) (hn : n < 9) (hw : w < 2) (ht : t < 2 ^ 31) (hb : b < 2 ^ 31) (hm : m < 2 ^ 31) (hp : p < n) (h4 : M.1 49 4 = nI mk) (h5 : M.1 49 5 = nI dr) (hf : ∀ q, q ≤ p → f q < n) (h53 : ∀ q, q ≤ p → M.1 53 q = nI (f q)) : ∀ (d k nu : Nat), k + d = p → d < nu → L_Mo_priceAt_6 N (nI n) (nI t) (nI b) (nI m) (nI w) (nI p) M nu (nI (smN (fun q => Pb n t b m mk dr w f p q) k)) (nI k) = some (nI (cl n t b m mk dr w f p))
  | 0, k, nu + 1, hk, hnu => by
    have hk : k = p := by omega
    subst hk
    rw [L_Mo_priceAt_6, if_pos (nI_le (Nat.le_refl k) (by omega))]
    rfl
  | d + 1, k, nu + 1, hk, hnu => by
    have ih := pa6 N hN hn hw ht hb hm hp h4 h5 hf h53 d (k + 1) nu (by omega) (by omega)
    have hl := np_le n hn
    have hpl := pn_lt n hn k (by omega) p hp (by omega)
    have hsum : smN (fun q => Pb n t b m mk dr w f p q) (k + 1) = smN (fun q => Pb n t b m mk dr w f p q) k + Pb n t b m mk dr w f p k := rfl
    rw [hsum] at ih
    rw [L_Mo_priceAt_6, if_neg (nI_ge (by omega) (by omega)), po_I (by omega) hn (by omega) hp (by omega), bnd_s, if_pos (inb_nI (show p < 8 by omega) (by decide)), if_pos (inb_nI (show k < 8 by omega) (by decide))]
    dsimp only [lt]
    have f1 := hf p (Nat.le_refl p)
    have f2 := hf k (by omega)
    rw [ix_nI (by omega), ix_nI (by omega), h53 p (Nat.le_refl p), h53 k (by omega), md_I hw hn (by omega) (by omega), has_b hb (by omega), has_b hm (by omega), has_b ht (by omega), h4, h5, nI_1]
    unfold Pb bdB Ppr at ih
    rw [if_neg (show ¬ p = k by omega), pn_comm (show p ≠ k by omega)] at ih
    cases hmd : mdB w n (f p) (f k) with
    | true =>
      rw [hmd, if_pos rfl] at ih
      rw [if_neg (show ¬ bI true = 0 by decide), if_neg (show ¬ bI true = 0 by decide)]
      cases hbb : b.testBit (pn n k p) with
      | true =>
        rw [hbb, if_pos rfl] at ih
        rw [if_neg (show ¬ bI true = 0 by decide), show (1000000 : Int32) = nI 1000000 from rfl, nI_add]
        exact ih
      | false =>
        rw [hbb, if_neg (by decide)] at ih
        rw [if_pos (show bI false = 0 from rfl)]
        cases htt : t.testBit (pn n k p) with
        | true =>
          rw [htt, if_pos rfl] at ih
          rw [if_pos rfl, show (0 : Int32) = nI 0 from rfl, nI_add]
          exact ih
        | false =>
          rw [htt, if_neg (by decide), if_pos rfl] at ih
          rw [if_neg (show ¬ bI true = bI false by decide), nI_add]
          exact ih
    | false =>
      rw [hmd, if_neg (show ¬ false = true by decide)] at ih
      rw [if_pos (show bI false = 0 from rfl), if_pos (show bI false = 0 from rfl)]
      cases hbb : m.testBit (pn n k p) with
      | true =>
        rw [hbb, if_pos rfl] at ih
        rw [if_neg (show ¬ bI true = 0 by decide), show (1000000 : Int32) = nI 1000000 from rfl, nI_add]
        exact ih
      | false =>
        rw [hbb, if_neg (by decide)] at ih
        rw [if_pos (show bI false = 0 from rfl)]
        cases htt : t.testBit (pn n k p) with
        | true =>
          rw [htt, if_neg (by decide), if_neg (by decide)] at ih
          rw [if_neg (show ¬ bI false = bI true by decide), nI_add]
          exact ih
        | false =>
          rw [htt, if_pos rfl] at ih
          rw [if_pos rfl, show (0 : Int32) = nI 0 from rfl, nI_add]
          exact ih
theorem pa_I {N : Nat} {f : Nat → Nat} {M : Mm} {p : Nat} (hN : 9 < N) (hn : n < 9) (hw : w < 2) (ht : t < 2 ^ 31) (hb : b < 2 ^ 31) (hm : m < 2 ^ 31) (hp : p < n) (h4 : M.1 49 4 = nI mk) (h5 : M.1 49 5 = nI dr) (hf : ∀ q, q ≤ p → f q < n) (h53 : ∀ q, q ≤ p → M.1 53 q = nI (f q)) : f_Mo_priceAt N (nI n) (nI t) (nI b) (nI m) (nI w) (nI p) M = some (nI (cl n t b m mk dr w f p)) := pa6 N hN hn hw ht hb hm hp h4 h5 hf h53 p 0 N (by omega) (by omega)
def tkB (f : Nat → Nat) (p k : Nat) : Bool := decide (0 < ctb (fun q => decide (f q = f p)) k)
theorem tk_f {f : Nat → Nat} {p k : Nat} : tkB f p k = false ↔ ∀ q, q < k → f q ≠ f p := by
  unfold tkB
  rw [decide_eq_false_iff_not]
  constructor
  · intro h q hq
    have := ctb_0.mp (show ctb (fun q => decide (f q = f p)) k = 0 by omega) q hq
    simpa using this
  · intro h
    have : ctb (fun q => decide (f q = f p)) k = 0 := ctb_0.mpr (fun q hq => by simpa using h q hq)
    omega
theorem tk4 (N : Nat) {f : Nat → Nat} {M : Mm} {p : Nat} (hp : p < 8) (hf : ∀ q, q ≤ p → f q < 9) (h53 : ∀ q, q ≤ p → M.1 53 q = nI (f q)) : ∀ (d k nu : Nat), k + d = p → d < nu → L_Mo_isTaken_4 N (nI p) M nu (bI (tkB f p k)) (nI k) = some (bI (tkB f p p))
  | 0, k, nu + 1, hk, hnu => by
    have hk : k = p := by omega
    subst hk
    rw [L_Mo_isTaken_4, if_pos (nI_le (Nat.le_refl k) (by omega)), if_pos (by cases tkB f k k; exact Or.inl rfl; exact Or.inr rfl)]
  | d + 1, k, nu + 1, hk, hnu => by
    have ih := tk4 N hp hf h53 d (k + 1) nu (by omega) (by omega)
    have hs : ctb (fun q => decide (f q = f p)) (k + 1) = ctb (fun q => decide (f q = f p)) k + (if decide (f k = f p) = true then 1 else 0) := rfl
    have f1 := hf p (Nat.le_refl p)
    have f2 := hf k (by omega)
    rw [L_Mo_isTaken_4, if_neg (nI_ge (by omega) (by omega))]
    dsimp only [lt]
    rw [if_pos (inb_nI (show k < 8 by omega) (by decide)), if_pos (inb_nI hp (by decide)), ix_nI (by omega), ix_nI (by omega), h53 p (Nat.le_refl p), h53 k (by omega), nI_1]
    by_cases z : 0 < ctb (fun q => decide (f q = f p)) k
    · have e1 : tkB f p k = true := decide_eq_true z
      have e2 : tkB f p (k + 1) = true := decide_eq_true (by rw [hs]; omega)
      rw [e2] at ih
      rw [e1, if_neg (show ¬ bI true = 0 by decide)]
      exact ih
    · have e1 : tkB f p k = false := decide_eq_false z
      rw [e1, if_pos (show bI false = 0 from rfl)]
      by_cases q : f k = f p
      · have e2 : tkB f p (k + 1) = true := decide_eq_true (by rw [hs]; simp [q])
        rw [e2] at ih
        rw [if_pos (by rw [q])]
        exact ih
      · have e2 : tkB f p (k + 1) = false := decide_eq_false (by rw [hs]; simp [q]; omega)
        rw [e2] at ih
        rw [if_neg (fun v => q ((nI_eq (by omega) (by omega)).mp v))]
        exact ih
theorem tk_I {N : Nat} {f : Nat → Nat} {M : Mm} {p : Nat} (hN : 9 < N) (hp : p < 8) (hf : ∀ q, q ≤ p → f q < 9) (h53 : ∀ q, q ≤ p → M.1 53 q = nI (f q)) : f_Mo_isTaken N (nI p) M = some (bI (tkB f p p)) := tk4 N hp hf h53 p 0 N (by omega) (by omega)
def bpM (k : Nat) (M : Mm) : Mm := (fun a j => if a = 55 ∧ j < k then M.1 53 j else M.1 a j, M.2)
theorem bp_off {k a j : Nat} {M : Mm} (h : a ≠ 55) : (bpM k M).1 a j = M.1 a j := if_neg (fun z => h z.1)
theorem bp_step {k : Nat} {M : Mm} : si (bpM k M) 55 k (M.1 53 k) = bpM (k + 1) M := by
  refine mm_ext (fun a j => ?_) rfl
  rw [si1]
  show (if _ then _ else (if a = 55 ∧ j < k then _ else _)) = (if a = 55 ∧ j < k + 1 then _ else _)
  by_cases h1 : a = 55 ∧ j = k
  · rw [if_pos h1, if_pos ⟨h1.1, by omega⟩, h1.2]
  · rw [if_neg h1]
    by_cases h2 : a = 55 ∧ j < k
    · rw [if_pos h2, if_pos ⟨h2.1, by omega⟩]
    · rw [if_neg h2, if_neg (by omega)]
theorem bp114 (N : Nat) {M : Mm} (ju : Mm → Option Mm) (hn : n < 9) : ∀ (d k nu : Nat), k + d = n → d < nu → L_Mo_findPlaces_114 N (nI n) ju nu (nI k) (bpM k M) = ju (bpM n M)
  | 0, k, nu + 1, hk, hnu => by
    have hk : k = n := by omega
    subst hk
    rw [L_Mo_findPlaces_114, if_pos (nI_le (Nat.le_refl k) (by omega))]
  | d + 1, k, nu + 1, hk, hnu => by
    have ih := bp114 N (M := M) ju hn d (k + 1) nu (by omega) (by omega)
    rw [L_Mo_findPlaces_114, if_neg (nI_ge (by omega) (by omega)), if_pos (inb_nI (show k < 8 by omega) (by decide)), if_pos (inb_nI (show k < 8 by omega) (by decide))]
    dsimp only [lt]
    rw [ix_nI (by omega), bp_off (by decide), bp_step, nI_1]
    exact ih
end RF
