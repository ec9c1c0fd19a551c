/-! PURE 42: the class lists friendships -/
theorem bs_orB {f g : Nat → Bool} {k : Nat} : bs f k ||| bs g k = bs (fun i => f i || g i) k := by
  apply Nat.eq_of_testBit_eq
  intro i
  rw [Nat.testBit_or, bs_bit, bs_bit, bs_bit]
  cases decide (i < k) <;> rfl
theorem bs_anB {f g : Nat → Bool} : bs f 8 &&& (bs g 8 ^^^ 4294967295) = bs (fun i => f i && !(g i)) 8 := by
  apply Nat.eq_of_testBit_eq
  intro i
  rw [Nat.testBit_and, Nat.testBit_xor, show (4294967295 : Nat) = 2 ^ 32 - 1 from rfl, Nat.testBit_two_pow_sub_one, bs_bit, bs_bit, bs_bit]
  by_cases h : i < 8
  · have h32 : i < 32 := by omega
    simp [h, h32]
  · simp [h]
theorem two_B {a b : Nat} (ha : a < 8) (hb : b < 8) : 2 ^ a ||| 2 ^ b = bs (fun j => decide (j = a) || decide (j = b)) 8 := by
  apply Nat.eq_of_testBit_eq
  intro i
  rw [Nat.testBit_or, Nat.testBit_two_pow, Nat.testBit_two_pow, bs_bit]
  by_cases h1 : a = i
  · subst h1; simp [ha]
  · by_cases h2 : b = i
    · subst h2; simp [hb]
    · have h3 : ¬ i = a := fun z => h1 z.symm
      have h4 : ¬ i = b := fun z => h2 z.symm
      simp [h1, h2, h3, h4]
def hasL (n t k j : Nat) : Bool := decide (0 < ctb (fun i => decide (k ≤ i) && inE n t i j) (rk t (np n)))
theorem hl_iff {n t k j : Nat} : hasL n t k j = true ↔ ∃ i, k ≤ i ∧ i < rk t (np n) ∧ inE n t i j = true := by
  unfold hasL
  rw [decide_eq_true_iff]
  constructor
  · intro h
    refine Classical.byContradiction (fun hne => ?_)
    have : ctb (fun i => decide (k ≤ i) && inE n t i j) (rk t (np n)) = 0 := ctb_0.mpr (fun i hi => by
      cases hq : (decide (k ≤ i) && inE n t i j)
      · rfl
      · rw [Bool.and_eq_true] at hq
        exact absurd ⟨i, of_decide_eq_true hq.1, hi, hq.2⟩ hne)
    omega
  · rintro ⟨i, h1, h2, h3⟩
    refine Nat.pos_of_ne_zero (fun hz => ?_)
    have := ctb_0.mp hz i h2
    simp [h1, h3] at this
theorem hl_f {n t k j : Nat} : hasL n t k j = false ↔ ∀ i, k ≤ i → i < rk t (np n) → inE n t i j = false := by
  constructor
  · intro h i h1 h2
    cases hq : inE n t i j
    · rfl
    · have := hl_iff.mpr ⟨i, h1, h2, hq⟩
      rw [h] at this; cases this
  · intro h
    cases hq : hasL n t k j
    · rfl
    · obtain ⟨i, h1, h2, h3⟩ := hl_iff.mp hq
      rw [h i h1 h2] at h3; cases h3
theorem hl_s {n t k j : Nat} (hk : k < rk t (np n)) : hasL n t k j = (inE n t k j || hasL n t (k + 1) j) := by
  cases h1 : inE n t k j
  · rw [Bool.false_or]
    cases h2 : hasL n t (k + 1) j
    · rw [hl_f] at h2 ⊢
      intro i hi hi2
      by_cases e : i = k
      · subst e; exact h1
      · exact h2 i (by omega) hi2
    · rw [hl_iff] at h2 ⊢
      obtain ⟨i, a, b, c⟩ := h2
      exact ⟨i, by omega, b, c⟩
  · rw [Bool.true_or, hl_iff]
    exact ⟨k, Nat.le_refl k, hk, h1⟩
theorem hl_E {n t k j : Nat} (hk : rk t (np n) ≤ k) : hasL n t k j = false := hl_f.mpr (fun i h1 h2 => by omega)
def enB (n t k j : Nat) : Bool := inE n t k j && !(hasL n t (k + 1) j)
def stB (n t k j : Nat) : Bool := hasL n t 0 j && !(hasL n t k j)
theorem st_s {n t k j : Nat} (hk : k < rk t (np n)) : (stB n t k j || enB n t k j) = stB n t (k + 1) j := by
  unfold stB enB
  have h := hl_s (j := j) hk
  rw [h]
  cases h1 : inE n t k j
  · cases hasL n t 0 j <;> cases hasL n t (k + 1) j <;> rfl
  · have h0 : hasL n t 0 j = true := hl_iff.mpr ⟨k, by omega, hk, h1⟩
    rw [h0]
    cases hasL n t (k + 1) j <;> rfl
/-! the lists -/
def lfM (n t i : Nat) (M : Mm) : Mm := (fun a j => if a = 24 ∧ j = 5 then nI i else if a = 25 ∧ j < i then nI (ea n t j) else if a = 26 ∧ j < i then nI (eb n t j) else if a = 27 ∧ j < i then 0 else M.1 a j, M.2)
theorem lf_eq {n t i a j : Nat} {M : Mm} : (lfM n t i M).1 a j = if a = 24 ∧ j = 5 then nI i else if a = 25 ∧ j < i then nI (ea n t j) else if a = 26 ∧ j < i then nI (eb n t j) else if a = 27 ∧ j < i then 0 else M.1 a j := rfl
theorem lf_5 {n t i : Nat} {M : Mm} : (lfM n t i M).1 24 5 = nI i := by rw [lf_eq, if_pos ⟨rfl, rfl⟩]
theorem lf_off {n t i a j : Nat} {M : Mm} (h1 : ¬ (a = 24 ∧ j = 5)) (h2 : a ≠ 25) (h3 : a ≠ 26) (h4 : a ≠ 27) : (lfM n t i M).1 a j = M.1 a j := by
  rw [lf_eq, if_neg h1, if_neg (fun z => h2 z.1), if_neg (fun z => h3 z.1), if_neg (fun z => h4 z.1)]
theorem lf_step {n t p q : Nat} {M : Mm} (hn : n < 9) (hpq : p < q) (hq : q < n) (h : t.testBit (pn n p q) = true) : si (si (si (si (lfM n t (rk t (pn n p q)) M) 25 (rk t (pn n p q)) (nI p)) 26 (rk t (pn n p q)) (nI q)) 27 (rk t (pn n p q)) 0) 24 5 (nI (rk t (pn n p q) + 1)) = lfM n t (rk t (pn n p q) + 1) M := by
  obtain ⟨e1, e2, e3⟩ := ed_at hn hpq hq h
  generalize rk t (pn n p q) = I at *
  refine mm_ext (fun a j => ?_) rfl
  rw [si1, si1, si1, si1, lf_eq, lf_eq]
  by_cases h0 : a = 24 ∧ j = 5
  · rw [if_pos h0, if_pos h0]
  · rw [if_neg h0, if_neg h0, if_neg h0]
    by_cases h1 : a = 27 ∧ j = I
    · rw [if_pos h1, if_neg (by omega), if_neg (by omega), if_pos (by omega)]
    · rw [if_neg h1]
      by_cases h2 : a = 26 ∧ j = I
      · rw [if_pos h2, if_neg (by omega), if_pos (by omega), h2.2, e3]
      · rw [if_neg h2]
        by_cases h3 : a = 25 ∧ j = I
        · rw [if_pos h3, if_pos (by omega), h3.2, e2]
        · rw [if_neg h3]
          by_cases h4 : a = 25 ∧ j < I
          · rw [if_pos h4, if_pos (by omega)]
          · rw [if_neg h4, if_neg (show ¬ (a = 25 ∧ j < I + 1) by omega)]
            by_cases h5 : a = 26 ∧ j < I
            · rw [if_pos h5, if_pos (by omega)]
            · rw [if_neg h5, if_neg (show ¬ (a = 26 ∧ j < I + 1) by omega)]
              by_cases h6 : a = 27 ∧ j < I
              · rw [if_pos h6, if_pos (by omega)]
              · rw [if_neg h6, if_neg (by omega)]
theorem lf_CT {M : Mm} {n t b m mk dr i : Nat} {sd : Nat → Nat} (h : CT M 1 n t b m mk dr sd) : CT (lfM n t i M) 1 n t b m mk dr sd := h.ag (fun a j u => by
  simp only [uCT, Bool.and_eq_true, decide_eq_true_eq] at u
  exact lf_off (by omega) (by omega) (by omega) (by omega))
theorem lf19 (N : Nat) {n t b m mk dr p : Nat} {sd : Nat → Nat} {M : Mm} (ju : Mm → Option Mm) (hn : n < 9) (hE : rk t (np n) ≤ 8) (hp : p < n) (hC : CT M 1 n t b m mk dr sd) : ∀ (d q nu : Nat), q + d = n → p < q → d < nu → L_We_listFriendships_19 N 1 (nI p) ju nu (nI q) (lfM n t (rk t (pr0 n p + (q - p - 1))) M) = ju (lfM n t (rk t (pr0 n (p + 1))) M)
  | 0, q, nu + 1, hq, hpq, hnu => by
    have hq : q = n := by omega
    subst hq
    rw [L_We_listFriendships_19, (lf_CT hC).1, if_pos (nI_le (Nat.le_refl q) (by omega)), pr_next q hn p hp]
  | d + 1, q, nu + 1, hq, hpq, hnu => by
    have ih := lf19 N (M := M) ju hn hE hp hC d (q + 1) nu (by omega) (by omega) (by omega)
    have hK := pn_up (n := n) hpq
    have hkl := pn_lt n hn p hp q (by omega) (by omega)
    have hnx := pr_next n hn p hp
    have hnl := pr_np n hn (p + 1) (by omega)
    rw [show pr0 n p + (q + 1 - p - 1) = pr0 n p + (q - p - 1) + 1 by omega, ← hK] at ih
    rw [← hK]
    have hr2 : rk t (pn n p q) ≤ rk t (np n) := rk_mono (by omega)
    rw [L_We_listFriendships_19, (lf_CT hC).1, if_neg (nI_ge (by omega) (by omega)), lf_5]
    by_cases h8 : 8 ≤ rk t (pn n p q)
    · have hr3 : rk t (pn n p q) ≤ rk t (pr0 n (p + 1)) := rk_mono (by omega)
      have hr4 : rk t (pr0 n (p + 1)) ≤ rk t (np n) := rk_mono hnl
      rw [if_pos (show (8 : Int32) ≤ nI (rk t (pn n p q)) from nI_le (a := 8) h8 (by omega)), show rk t (pr0 n (p + 1)) = rk t (pn n p q) by omega]
    · rw [if_neg (show ¬ (8 : Int32) ≤ nI (rk t (pn n p q)) from nI_ge (a := rk t (pn n p q)) (b := 8) (by omega) (by decide)), fri_I hn (lf_CT hC) hp (by omega) (by omega), bnd_s]
      dsimp only [lt]
      rw [nI_1]
      by_cases z : t.testBit (pn n p q) = true
      · have hr : rk t (pn n p q + 1) = rk t (pn n p q) + 1 := by rw [rk_s, if_pos z]
        have hs := lf_step (M := M) hn hpq (show q < n by omega) z
        rw [hr] at ih
        generalize hI : rk t (pn n p q) = I at *
        have hI8 : I < 8 := by omega
        have f1 : ∀ (M0 : Mm) (x : Int32), M0.1 24 5 = nI I → (si M0 25 I x).1 24 5 = nI I := fun M0 x e => by rw [si_a _ _ (by decide)]; exact e
        have f2 : ∀ (M0 : Mm) (x : Int32), M0.1 24 5 = nI I → (si M0 26 I x).1 24 5 = nI I := fun M0 x e => by rw [si_a _ _ (by decide)]; exact e
        have f3 : ∀ (M0 : Mm) (x : Int32), M0.1 24 5 = nI I → (si M0 27 I x).1 24 5 = nI I := fun M0 x e => by rw [si_a _ _ (by decide)]; exact e
        rw [if_pos z, if_neg h10, if_pos (inb_nI hI8 (by decide)), ix_nI (show I < 2 ^ 31 by omega), f1 _ _ lf_5, if_pos (inb_nI hI8 (by decide)), ix_nI (show I < 2 ^ 31 by omega), f2 _ _ (f1 _ _ lf_5), if_pos (inb_nI hI8 (by decide)), ix_nI (show I < 2 ^ 31 by omega), f3 _ _ (f2 _ _ (f1 _ _ lf_5)), nI_1, hs]
        exact ih
      · have hr : rk t (pn n p q + 1) = rk t (pn n p q) := by rw [rk_s, if_neg z, Nat.add_zero]
        rw [hr] at ih
        rw [if_neg z, if_pos rfl]
        exact ih
theorem lf7 (N : Nat) {n t b m mk dr : Nat} {sd : Nat → Nat} {M : Mm} (ju : Mm → Option Mm) (hN : 9 < N) (hn : n < 9) (hE : rk t (np n) ≤ 8) (hC : CT M 1 n t b m mk dr sd) : ∀ (d p nu : Nat), p + d = n → d < nu → L_We_listFriendships_7 N 1 ju nu (nI p) (lfM n t (rk t (pr0 n p)) M) = ju (lfM n t (rk t (np n)) M)
  | 0, p, nu + 1, hp, hnu => by
    have hp : p = n := by omega
    subst hp
    rw [L_We_listFriendships_7, (lf_CT hC).1, if_pos (nI_le (Nat.le_refl p) (by omega)), pr_end p hn]
  | d + 1, p, nu + 1, hp, hnu => by
    have ih := lf7 N (M := M) ju hN hn hE hC d (p + 1) nu (by omega) (by omega)
    rw [L_We_listFriendships_7, (lf_CT hC).1, if_neg (nI_ge (by omega) (by omega))]
    dsimp only [lt]
    rw [nI_1]
    have h := lf19 N (M := M) (fun Mu16 => L_We_listFriendships_7 N 1 ju nu (nI (p + 1)) Mu16) hn hE (show p < n by omega) hC (n - (p + 1)) (p + 1) N (by omega) (by omega) (by omega)
    simp only [show p + 1 - p - 1 = 0 by omega, Nat.add_zero] at h
    rw [h]
    exact ih
def leM (n t r : Nat) (M : Mm) : Mm := (fun a j => if a = 28 ∧ r ≤ j ∧ j < rk t (np n) then nI (bs (enB n t j) 8) else M.1 a j, M.2)
theorem le_off {n t r a j : Nat} {M : Mm} (h : a ≠ 28) : (leM n t r M).1 a j = M.1 a j := if_neg (fun z => h z.1)
theorem le_step {n t r : Nat} {M : Mm} (hr : r < rk t (np n)) : si (leM n t (r + 1) M) 28 r (nI (bs (enB n t r) 8)) = leM n t r M := by
  refine mm_ext (fun a j => ?_) rfl
  rw [si1]
  show (if a = 28 ∧ j = r then _ else (if a = 28 ∧ r + 1 ≤ j ∧ j < rk t (np n) then _ else _)) = (if a = 28 ∧ r ≤ j ∧ j < rk t (np n) then _ else _)
  by_cases h1 : a = 28 ∧ j = r
  · rw [if_pos h1, if_pos (by omega), h1.2]
  · rw [if_neg h1]
    by_cases h2 : a = 28 ∧ r + 1 ≤ j ∧ j < rk t (np n)
    · rw [if_pos h2, if_pos (by omega)]
    · rw [if_neg h2, if_neg (by omega)]
theorem le106 (N : Nat) {n t : Nat} {M : Mm} (hn : n < 9) (hE : rk t (np n) ≤ 8) (h25 : ∀ i, i < rk t (np n) → M.1 25 i = nI (ea n t i) ∧ M.1 26 i = nI (eb n t i)) : ∀ (r nu : Nat), r ≤ rk t (np n) → r < nu → L_We_listFriendships_106 N nu (nI (bs (hasL n t r) 8)) (nI r - 1) (leM n t r M) = some (leM n t 0 M)
  | 0, nu + 1, hr, hnu => by
    rw [L_We_listFriendships_106, if_pos (by decide)]
  | r + 1, nu + 1, hr, hnu => by
    have ih := le106 N (M := M) hn hE h25 r nu (by omega) (by omega)
    obtain ⟨-, -, -, d1, d2, -⟩ := ed_ok hn (show r < rk t (np n) by omega)
    have htw : 2 ^ ea n t r ||| 2 ^ eb n t r = bs (inE n t r) 8 := two_B (by omega) (by omega)
    have hls : bs (hasL n t (r + 1)) 8 ||| bs (inE n t r) 8 = bs (hasL n t r) 8 := by
      rw [bs_orB]
      exact bs_cong (fun i _ => by rw [Bool.or_comm]; exact (hl_s (k := r) (by omega)).symm)
    have hen : bs (inE n t r) 8 &&& (bs (hasL n t (r + 1)) 8 ^^^ 4294967295) = bs (enB n t r) 8 := bs_anB
    rw [L_We_listFriendships_106, nI_pred, if_neg (nI_pos (by omega)), if_pos (inb_nI (show r < 8 by omega) (by decide)), if_pos (inb_nI (show r < 8 by omega) (by decide))]
    dsimp only [lt]
    rw [if_pos (inb_nI (show r < 8 by omega) (by decide)), ix_nI (by omega), le_off (by decide), le_off (by decide), (h25 r (by omega)).1, (h25 r (by omega)).2, one_sl (by omega), one_sl (by omega), or_I, htw, or_I, hls, m1_sub, m1_I, xo_I, an_I, hen, le_step (by omega)]
    exact ih
/-- what the search for weights reads -/
def WS (n t : Nat) (M : Mm) : Prop := M.1 24 5 = nI (rk t (np n)) ∧ ∀ i, i < rk t (np n) → M.1 25 i = nI (ea n t i) ∧ M.1 26 i = nI (eb n t i) ∧ M.1 28 i = nI (bs (enB n t i) 8)
theorem lst_I {n t b m mk dr : Nat} {sd : Nat → Nat} {M : Mm} (hn : n < 9) (hE : rk t (np n) ≤ 8) (hC : CT M 1 n t b m mk dr sd) : ∃ M1, (∀ N, 9 < N → f_We_listFriendships N 1 M = some M1) ∧ WS n t M1 ∧ (∀ i, i < rk t (np n) → M1.1 27 i = 0) ∧ ∀ a j, ¬ (24 ≤ a ∧ a ≤ 28) → M1.1 a j = M.1 a j := by
  have e0 : si M 24 5 0 = lfM n t 0 M := mm_ext (fun a j => by
    rw [si1, lf_eq]
    by_cases h : a = 24 ∧ j = 5
    · rw [if_pos h, if_pos h]; rfl
    · rw [if_neg h, if_neg h, if_neg (by omega), if_neg (by omega), if_neg (by omega)]) rfl
  generalize hB : lfM n t (rk t (np n)) M = B
  have B5 : B.1 24 5 = nI (rk t (np n)) := by rw [← hB, lf_5]
  have B25 : ∀ i, i < rk t (np n) → B.1 25 i = nI (ea n t i) ∧ B.1 26 i = nI (eb n t i) ∧ B.1 27 i = 0 := fun i hi => by
    rw [← hB, lf_eq, lf_eq, lf_eq]
    refine ⟨?_, ?_, ?_⟩
    · rw [if_neg (by omega), if_pos ⟨rfl, hi⟩]
    · rw [if_neg (by omega), if_neg (by omega), if_pos ⟨rfl, hi⟩]
    · rw [if_neg (by omega), if_neg (by omega), if_neg (by omega), if_pos ⟨rfl, hi⟩]
  refine ⟨leM n t 0 B, fun N hN => ?_, ⟨?_, fun i hi => ⟨?_, ?_, ?_⟩⟩, fun i hi => ?_, fun a j q => ?_⟩
  · unfold f_We_listFriendships
    dsimp only [lt]
    rw [e0]
    have h7 := lf7 N (M := M) (fun Mu3 => L_We_listFriendships_106 N N 0 ((Mu3.1 24 5) - 1) Mu3) hN hn hE hC n 0 N (by omega) (by omega)
    rw [show pr0 n 0 = 0 by unfold pr0; simp, show rk t 0 = 0 from rfl, hB] at h7
    refine h7.trans ?_
    rw [B5]
    have h106 := le106 N (M := B) hn hE (fun i hi => ⟨(B25 i hi).1, (B25 i hi).2.1⟩) (rk t (np n)) N (Nat.le_refl _) (by omega)
    rw [show bs (hasL n t (rk t (np n))) 8 = 0 from bs_0.mpr (fun i _ => hl_E (Nat.le_refl _)), show leM n t (rk t (np n)) B = B from mm_ext (fun a j => if_neg (by omega)) rfl] at h106
    exact h106
  · rw [le_off (by decide)]; exact B5
  · rw [le_off (by decide)]; exact (B25 i hi).1
  · rw [le_off (by decide)]; exact (B25 i hi).2.1
  · exact if_pos ⟨rfl, by omega, hi⟩
  · rw [le_off (by decide)]; exact (B25 i hi).2.2
  · rw [le_off (by omega), ← hB, lf_off (by omega) (by omega) (by omega) (by omega)]
