/-! PURE 34: the reference's towns with counts told; canBe, sure, liar -/
def tt : Nat → Bool := fun _ => true
theorem prs_I {n : Nat} (hn : n < 9) : f_Mo_pairs (nI n) = nI (np n) := by
  unfold f_Mo_pairs
  by_cases h : n = 0
  · subst h; decide
  · exact np_I (by omega) hn
theorem ct41 (N : Nat) {n t : Nat} {sd : Nat → Nat} {M : Mm} (ju : Int32 → Option (Int32 × Mm)) (hn : n < 9) (hs : ∀ p, sd p ≤ 7) (h0 : M.1 49 0 = nI n) (h1 : ∀ j, j < n → M.1 51 j = nI (dgr n t j)) (h2 : ∀ j, j < 8 → M.1 50 j = nI (sd j)) : ∀ (d k nu : Nat), k + d = n → d < nu → L_Mo_countTowns_41 N M ju nu (bI (decide (cof n sd t k = 0))) (nI k) = ju (bI (g0 n sd t))
  | 0, k, nu + 1, hk, hnu => by
    have hk : k = n := by omega
    subst hk
    rw [L_Mo_countTowns_41, h0, if_pos (nI_le (Nat.le_refl k) (by omega))]
    rfl
  | d + 1, k, nu + 1, hk, hnu => by
    have ih := ct41 N (sd := sd) (t := t) ju hn hs h0 h1 h2 d (k + 1) nu (by omega) (by omega)
    have hd : dgr n t k ≤ n := dgr_le
    rw [L_Mo_countTowns_41, h0, if_neg (nI_ge (by omega) (by omega))]
    dsimp only [lt]
    rw [if_pos (inb_nI (show k < 8 by omega) (by decide)), if_pos (inb_nI (show k < 8 by omega) (by decide)), ix_nI (by omega), h1 k (by omega), h2 k (by omega), nI_1]
    have hc : cof n sd t (k + 1) = cof n sd t k + (if decide (dgr n t k ≠ sd k) = true then 1 else 0) := rfl
    by_cases z : cof n sd t k = 0
    · rw [if_neg (by rw [decide_eq_true z]; decide)]
      by_cases q : dgr n t k = sd k
      · rw [if_pos (by rw [q])]
        rw [show cof n sd t (k + 1) = 0 by rw [hc, z]; simp [q]] at ih
        exact ih
      · rw [if_neg (fun v => q ((nI_eq (by omega) (sdb hs)).mp v))]
        rw [show decide (cof n sd t (k + 1) = 0) = false by rw [hc]; simp [q]] at ih
        exact ih
    · rw [if_pos (by rw [decide_eq_false z]; rfl)]
      rw [show decide (cof n sd t (k + 1) = 0) = false by rw [hc]; exact decide_eq_false (by omega)] at ih
      exact ih
theorem fo_s {β : Type} {op : β → β → β} {e : β} {c : Nat → β} {g : Nat → Bool} {k : Nat} : fo op e c (fun t => tt t && g t) (k + 1) = if g k = true then op (fo op e c (fun t => tt t && g t) k) (c k) else fo op e c (fun t => tt t && g t) k := by
  rw [fo]; rfl
theorem ct14 {n : Nat} {sd : Nat → Nat} (hn : n < 7) (hs : ∀ p, sd p ≤ 7) : ∀ (d k : Nat) (M : Mm), k + d = 2 ^ np n → M.1 49 0 = nI n → (∀ j, j < 8 → M.1 50 j = nI (sd j)) → M.1 49 28 = fR n sd tt k → M.1 49 29 = fA n sd tt k → ∃ M', (∀ N nu, 9 < N → d < nu → L_Mo_countTowns_14 N nu (fC n sd tt k) (nI k) M = some (fC n sd tt (2 ^ np n), M')) ∧ M'.1 49 28 = fR n sd tt (2 ^ np n) ∧ M'.1 49 29 = fA n sd tt (2 ^ np n) ∧ ∀ a j, a ≠ 51 → ¬ (a = 49 ∧ (j = 28 ∨ j = 29)) → M'.1 a j = M.1 a j := by
  have h15 : 2 ^ np n ≤ 2 ^ 15 := Nat.pow_le_pow_right (by decide) (np6 n hn)
  have hpw : (1 : Int32) <<< (f_Mo_pairs (nI n) &&& 31) = nI (2 ^ np n) := by rw [prs_I (by omega), one_sl (by have := np6 n hn; omega)]
  intro d
  induction d with
  | zero =>
    intro k M hk h0 h2 h3 h4
    have hk : k = 2 ^ np n := by omega
    subst hk
    refine ⟨M, fun N nu hN hnu => ?_, h3, h4, fun _ _ _ _ => rfl⟩
    obtain ⟨nu, rfl⟩ : ∃ v, nu = v + 1 := ⟨nu - 1, by omega⟩
    rw [L_Mo_countTowns_14, h0, hpw, if_pos (nI_le (Nat.le_refl _) (by omega))]
  | succ d ih =>
    intro k M hk h0 h2 h3 h4
    have hk31 : k < 2 ^ 31 := by omega
    generalize hC : cnM n k (np n) M = C
    have oC : ∀ a j, a ≠ 51 → C.1 a j = M.1 a j := fun a j q => by rw [← hC, cn_off q]
    have C51 : ∀ j, j < n → C.1 51 j = nI (dgr n k j) := fun j hj => by rw [← hC, cn_at hj, pd_full (by omega) hj]
    have s1 : fC n sd tt (k + 1) = if g0 n sd k = true then fC n sd tt k + 1 else fC n sd tt k := fo_s
    have s2 : fR n sd tt (k + 1) = if g0 n sd k = true then fR n sd tt k ||| nI k else fR n sd tt k := fo_s
    have s3 : fA n sd tt (k + 1) = if g0 n sd k = true then fA n sd tt k &&& nI k else fA n sd tt k := fo_s
    obtain ⟨M', a1, a2, a3, a4⟩ := ih (k + 1) (si (si C 49 28 (fR n sd tt (k + 1))) 49 29 (fA n sd tt (k + 1))) (by omega) (by rw [si_k _ _ (by decide), si_k _ _ (by decide), oC _ _ (by decide)]; exact h0) (fun j hj => by rw [si_a _ _ (by decide), si_a _ _ (by decide), oC _ _ (by decide)]; exact h2 j hj) (by rw [si_k _ _ (by decide), si_s]) (si_s _ _ _ _)
    refine ⟨M', fun N nu hN hnu => ?_, a2, a3, fun a j q1 q2 => ?_⟩
    · obtain ⟨nu, rfl⟩ : ∃ v, nu = v + 1 := ⟨nu - 1, by omega⟩
      have h := a1 N nu hN (by omega)
      rw [L_Mo_countTowns_14, h0, hpw, if_neg (nI_ge (by omega) (by omega)), fc_I hN (by omega) hk31, bnd_s, hC]
      dsimp only [lt]
      refine (ct41 N (n := n) (t := k) (sd := sd) (M := C) _ (by omega) hs (by rw [oC _ _ (by decide)]; exact h0) C51 (fun j hj => by rw [oC _ _ (by decide)]; exact h2 j hj) n 0 N (by omega) (by omega)).trans ?_
      rw [nI_1, oC 49 28 (by decide), h3]
      cases hg : g0 n sd k with
      | true =>
        rw [hg, if_pos rfl] at s1 s2 s3
        rw [if_neg (show ¬ bI true = 0 by decide), if_neg (show ¬ bI true = 0 by decide), if_neg (show ¬ bI true = 0 by decide), si_k _ _ (show (29 : Nat) ≠ 28 by decide), oC 49 29 (by decide), h4, ← s1, ← s2, ← s3]
        exact h
      | false =>
        rw [hg, if_neg (by decide)] at s1 s2 s3
        rw [if_pos (show bI false = 0 from rfl), if_pos (show bI false = 0 from rfl), if_pos (show bI false = 0 from rfl), si_k _ _ (show (29 : Nat) ≠ 28 by decide), oC 49 29 (by decide), h4, Int32.add_zero, Int32.or_zero, Int32.and_neg_one, ← s1, ← s2, ← s3]
        exact h
    · rw [a4 a j q1 q2, si1, if_neg (by omega), si1, if_neg (by omega), oC a j q1]
theorem ct_I {n : Nat} {sd : Nat → Nat} {M : Mm} (hn : n < 7) (hs : ∀ p, sd p ≤ 7) (h0 : M.1 49 0 = nI n) (h2 : ∀ j, j < 8 → M.1 50 j = nI (sd j)) : ∃ M', (∀ N, 40000 < N → f_Mo_countTowns N M = some (fC n sd tt (2 ^ np n), M')) ∧ M'.1 49 28 = fR n sd tt (2 ^ np n) ∧ M'.1 49 29 = fA n sd tt (2 ^ np n) ∧ ∀ a j, a ≠ 51 → ¬ (a = 49 ∧ (j = 28 ∨ j = 29)) → M'.1 a j = M.1 a j := by
  have h15 : 2 ^ np n ≤ 2 ^ 15 := Nat.pow_le_pow_right (by decide) (np6 n hn)
  obtain ⟨M', a1, a2, a3, a4⟩ := ct14 hn hs (2 ^ np n) 0 (si (si M 49 28 0) 49 29 (-1)) (by omega) (by rw [si_k _ _ (by decide), si_k _ _ (by decide)]; exact h0) (fun j hj => by rw [si_a _ _ (by decide), si_a _ _ (by decide)]; exact h2 j hj) (by rw [si_k _ _ (by decide), si_s]; rfl) (by rw [si_s]; rfl)
  refine ⟨M', fun N hN => a1 N N (by omega) (by omega), a2, a3, fun a j q1 q2 => ?_⟩
  rw [a4 a j q1 q2, si1, if_neg (by omega), si1, if_neg (by omega)]
/-! one of them is false -/
theorem li13 (N : Nat) {n t : Nat} {sd : Nat → Nat} {M : Mm} (ju : Int32 → Option (Int32 × Mm)) (hn : n < 9) (hs : ∀ p, sd p ≤ 7) (h0 : M.1 49 0 = nI n) (h1 : ∀ j, j < n → M.1 51 j = nI (dgr n t j)) (h2 : ∀ j, j < 8 → M.1 50 j = nI (sd j)) : ∀ (d k nu : Nat), k + d = n → d < nu → L_Mo_liarIn_13 N M ju nu (nI (ofN n sd t k)) (nI k) = ju (nI (ofN n sd t n))
  | 0, k, nu + 1, hk, hnu => by
    have hk : k = n := by omega
    subst hk
    rw [L_Mo_liarIn_13, h0, if_pos (nI_le (Nat.le_refl k) (by omega))]
  | d + 1, k, nu + 1, hk, hnu => by
    have ih := li13 N (sd := sd) (t := t) ju hn hs h0 h1 h2 d (k + 1) nu (by omega) (by omega)
    have hd : dgr n t k ≤ n := dgr_le
    rw [L_Mo_liarIn_13, h0, if_neg (nI_ge (by omega) (by omega)), if_pos (inb_nI (show k < 8 by omega) (by decide)), if_pos (inb_nI (show k < 8 by omega) (by decide))]
    dsimp only [lt]
    rw [ix_nI (by omega), h1 k (by omega), h2 k (by omega), nI_1]
    by_cases q : dgr n t k = sd k
    · rw [if_pos (by rw [q]), show (0 : Int32) = nI 0 from rfl, or_I, Nat.or_zero]
      have e : ofN n sd t k = ofN n sd t (k + 1) := bs_no (by simp [q])
      rw [e]
      exact ih
    · rw [if_neg (fun v => q ((nI_eq (by omega) (sdb hs)).mp v)), one_sl (by omega), or_I]
      have e : ofN n sd t k ||| 2 ^ k = ofN n sd t (k + 1) := bs_or (by simp [q])
      rw [e]
      exact ih
theorem lin_I {N n t : Nat} {sd : Nat → Nat} {M : Mm} (hN : 28 < N) (hn : n < 9) (ht : t < 2 ^ 31) (hs : ∀ p, sd p ≤ 7) (h0 : M.1 49 0 = nI n) (h2 : ∀ j, j < 8 → M.1 50 j = nI (sd j)) : f_Mo_liarIn N (nI t) M = some (if g1 1 n sd t = true then nI (ofN n sd t n) else 0, cnM n t (np n) M) := by
  unfold f_Mo_liarIn
  rw [h0, fc_I (by omega) hn ht, bnd_s]
  dsimp only [lt]
  refine (li13 N (n := n) (t := t) (sd := sd) (M := cnM n t (np n) M) _ hn hs (by rw [cn_off (by decide)]; exact h0) (fun j hj => by rw [cn_at hj, pd_full hn hj]) (fun j hj => by rw [cn_off (by decide)]; exact h2 j hj) n 0 N (by omega) (by omega)).trans ?_
  have hb : f_Mo_bits N (nI (ofN n sd t n)) = some (nI (cof n sd t n)) := bits_bs hN (by omega)
  have hcl : cof n sd t n ≤ n := ctb_le _ _
  rw [hb, bnd_s]
  by_cases q : cof n sd t n = 1
  · rw [if_pos (by rw [q]; rfl), if_pos (by simp [g1, q])]
  · rw [if_neg (show ¬ nI (cof n sd t n) = 1 from fun v => q ((nI_eq (b := 1) (by omega) (by decide)).mp v)), if_neg (by simp [g1, q])]
theorem li25 {n : Nat} {sd : Nat → Nat} (hn : n < 7) (hs : ∀ p, sd p ≤ 7) : ∀ (d k : Nat) (M : Mm), k + d = 2 ^ np n → M.1 49 0 = nI n → (∀ j, j < 8 → M.1 50 j = nI (sd j)) → ∃ M', (∀ N nu, 28 < N → d < nu → L_Mo_liar_25 N nu (fL 1 n sd tt k) (nI k) M = some (fL 1 n sd tt (2 ^ np n), M')) ∧ ∀ a j, a ≠ 51 → M'.1 a j = M.1 a j := by
  have h15 : 2 ^ np n ≤ 2 ^ 15 := Nat.pow_le_pow_right (by decide) (np6 n hn)
  have hpw : (1 : Int32) <<< (f_Mo_pairs (nI n) &&& 31) = nI (2 ^ np n) := by rw [prs_I (by omega), one_sl (by have := np6 n hn; omega)]
  intro d
  induction d with
  | zero =>
    intro k M hk h0 h2
    have hk : k = 2 ^ np n := by omega
    subst hk
    refine ⟨M, fun N nu hN hnu => ?_, fun _ _ _ => rfl⟩
    obtain ⟨nu, rfl⟩ : ∃ v, nu = v + 1 := ⟨nu - 1, by omega⟩
    rw [L_Mo_liar_25, h0, hpw, if_pos (nI_le (Nat.le_refl _) (by omega))]
  | succ d ih =>
    intro k M hk h0 h2
    have hk31 : k < 2 ^ 31 := by omega
    have s1 : fL 1 n sd tt (k + 1) = if g1 1 n sd k = true then fL 1 n sd tt k ||| nI (ofN n sd k n) else fL 1 n sd tt k := fo_s
    obtain ⟨M', a1, a4⟩ := ih (k + 1) (cnM n k (np n) M) (by omega) (by rw [cn_off (by decide)]; exact h0) (fun j hj => by rw [cn_off (by decide)]; exact h2 j hj)
    refine ⟨M', fun N nu hN hnu => ?_, fun a j q1 => by rw [a4 a j q1, cn_off q1]⟩
    obtain ⟨nu, rfl⟩ : ∃ v, nu = v + 1 := ⟨nu - 1, by omega⟩
    have h := a1 N nu hN (by omega)
    rw [L_Mo_liar_25, h0, hpw, if_neg (nI_ge (by omega) (by omega)), lin_I hN (by omega) hk31 hs h0 h2, bnd_s]
    dsimp only [lt]
    rw [nI_1]
    have e : (fL 1 n sd tt k ||| if g1 1 n sd k = true then nI (ofN n sd k n) else 0) = fL 1 n sd tt (k + 1) := by
      rw [s1]
      by_cases q : g1 1 n sd k = true
      · rw [if_pos q, if_pos q]
      · rw [if_neg q, if_neg q, Int32.or_zero]
    rw [e]
    exact h
/-! the class -/
theorem ft_I {w n t b m mk dr : Nat} {sd : Nat → Nat} {M : Mm} (hn : n < 7) (hw : w ≤ 1) (hT : TOK n t b m mk dr sd) (h : CT M 1 n t b m mk dr sd) : ∃ M1, (∀ N, 100 < N → f_Se_findTold N 1 (nI w) M = some M1) ∧ M1.1 20 13 = fC n sd tt (2 ^ np n) ∧ M1.1 20 14 = fA n sd tt (2 ^ np n) ∧ M1.1 20 15 = fR n sd tt (2 ^ np n) ∧ M1.1 20 16 = fL w n sd tt (2 ^ np n) ∧ ∀ a j, ¬ (20 ≤ a ∧ a ≤ 23) → M1.1 a j = M.1 a j := by
  have hs : ∀ p, sd p ≤ 7 := fun p => (hT.2.2.2.2.2.2.2.2.2.2 p).1
  obtain ⟨Mb, b1', b2, ⟨-, -, -, b3, b4, b5, b6⟩, b7⟩ := beg_I hn hT h
  have hS : SS n t b m mk dr sd (si Mb 20 9 (nI w)) := by
    obtain ⟨h1, h2, h3, h4, h5, h6, h7, h8, h9⟩ := b2
    exact ⟨(si_k _ _ (by decide)).trans h1, (si_k _ _ (by decide)).trans h2, (si_k _ _ (by decide)).trans h3, (si_k _ _ (by decide)).trans h4, (si_k _ _ (by decide)).trans h5, (si_k _ _ (by decide)).trans h6, fun p hp => (si_a _ _ (by decide)).trans (h7 p hp), fun p hp => (si_a _ _ (by decide)).trans (h8 p hp), fun p hp => (si_a _ _ (by decide)).trans (h9 p hp)⟩
  generalize hA : si Mb 20 9 (nI w) = A at hS
  have hA9 : A.1 20 9 = nI w := by rw [← hA, si_s]
  have e0 : toM w n sd (fun _ => false) A = A := mm_ext (fun a j => by
    by_cases h1 : a = 20 ∧ j = 13
    · rw [h1.1, h1.2, to_13, ← hA, si_k _ _ (by decide), b3]; exact fo_none (fun _ _ => rfl)
    · by_cases h2 : a = 20 ∧ j = 14
      · rw [h2.1, h2.2, to_14, ← hA, si_k _ _ (by decide), b4]; exact fo_none (fun _ _ => rfl)
      · by_cases h3 : a = 20 ∧ j = 15
        · rw [h3.1, h3.2, to_15, ← hA, si_k _ _ (by decide), b5]; exact fo_none (fun _ _ => rfl)
        · by_cases h4 : a = 20 ∧ j = 16
          · rw [h4.1, h4.2, to_16, ← hA, si_k _ _ (by decide), b6]; exact fo_none (fun _ _ => rfl)
          · rw [to_off (by omega)]) rfl
  have p00 : pr0 n 0 = 0 := by unfold pr0; simp
  have key := told_node (w := w) (sd := sd) (Mb := A) hn hw hs hS hA9 n 0 0 (fun _ => false) (by omega) (Nat.two_pow_pos _) (Nat.zero_le _) (fun _ _ _ => rfl)
  have eV : toM w n sd (fun t => false || ext n 0 0 t) A = toM w n sd tt A := to_cong (fun t _ => by
    unfold ext tt
    rw [p00]
    simp [Nat.mod_one])
  refine ⟨toM w n sd tt A, fun N hN => ?_, to_13, to_14, to_15, to_16, fun a j q => ?_⟩
  · unfold f_Se_findTold
    rw [b1' N (by omega), bnd_s]
    dsimp only [lt]
    have k := key N 20 hN (by omega)
    rw [e0, eV] at k
    rw [hA]
    have k2 : f_Se_toldFrom N 20 0 0 0 A = some (toM w n sd tt A) := k
    rw [k2, bnd_s]
  · rw [to_off (by omega), ← hA, si_a _ _ (by omega), b7 a j q]
theorem Same.se {M M1 : Mm} (h : ∀ a j, ¬ (20 ≤ a ∧ a ≤ 23) → M1.1 a j = M.1 a j) : Same M M1 := fun a j r => h a j (fun z => by
  rcases (show a = 20 ∨ a = 21 ∨ a = 22 ∨ a = 23 by omega) with rfl | rfl | rfl | rfl <;> exact absurd r (by simp [relv]))
theorem Same.mo {M M1 : Mm} (h : ∀ a j, a ≠ 51 → ¬ (a = 49 ∧ (j = 28 ∨ j = 29)) → M1.1 a j = M.1 a j) : Same M M1 := fun a j r => h a j (fun z => by rw [z] at r; cases r) (fun z => by
  obtain ⟨rfl, rfl | rfl⟩ := z <;> exact absurd r (by decide))
theorem q_canBe {M : Mm} (h : Rel M) : ∃ (r : Int32) (M1 M2 : Mm), (∀ N, 40000 < N → f_Uc_canBe N M = some (r, M1) ∧ f_Mo_canBe N M1 = some (r, M2)) ∧ Rel M2 := by
  have hh := h
  obtain ⟨n, t, b, m, mk, dr, sd, hP⟩ := h
  obtain ⟨h1, h2, h3, -⟩ := id hP
  have hs : ∀ p, sd p ≤ 7 := fun p => (h1.2.2.2.2.2.2.2.2.2.2 p).1
  have hn := h1.1
  by_cases z : n < 7
  · obtain ⟨M1, a1, a2, a3, a4, a5, a6⟩ := ft_I (w := 0) z (by omega) h1 h2
    have hS := Same.se a6
    have g3 := h3.same hS
    obtain ⟨M2, c1, c2, c3, c4⟩ := ct_I z hs g3.1 g3.2.2.2.2.2.2
    refine ⟨fC n sd tt (2 ^ np n), M1, M2, fun N hN => ⟨?_, ?_⟩, hh.same (hS.tr (Same.mo c4))⟩
    · unfold f_Uc_canBe
      rw [h2.1, if_pos (show nI n ≤ 6 from nI_le (b := 6) (by omega) (by decide)), show (0 : Int32) = nI 0 from rfl, a1 N (by omega), bnd_s, a2]
    · unfold f_Mo_canBe
      rw [g3.1, if_pos (show nI n ≤ 6 from nI_le (b := 6) (by omega) (by decide)), c1 N hN]
      rfl
  · refine ⟨-1000000003, M, M, fun N hN => ⟨?_, ?_⟩, hh⟩
    · unfold f_Uc_canBe
      rw [h2.1, if_neg (show ¬ nI n ≤ 6 from nI_ge (a := 6) (by omega) (by omega))]
    · unfold f_Mo_canBe
      rw [h3.1, if_neg (show ¬ nI n ≤ 6 from nI_ge (a := 6) (by omega) (by omega))]
theorem q_liar {M : Mm} (h : Rel M) : ∃ (r : Int32) (M1 M2 : Mm), (∀ N, 40000 < N → f_Uc_liar N M = some (r, M1) ∧ f_Mo_liar N M1 = some (r, M2)) ∧ Rel M2 := by
  have hh := h
  obtain ⟨n, t, b, m, mk, dr, sd, hP⟩ := h
  obtain ⟨h1, h2, h3, -⟩ := id hP
  have hs : ∀ p, sd p ≤ 7 := fun p => (h1.2.2.2.2.2.2.2.2.2.2 p).1
  have hn := h1.1
  by_cases z : n < 7
  · have h15 : 2 ^ np n ≤ 2 ^ 15 := Nat.pow_le_pow_right (by decide) (np6 n z)
    obtain ⟨M1, a1, a2, a3, a4, a5, a6⟩ := ft_I (w := 1) z (by omega) h1 h2
    have hS := Same.se a6
    have g3 := h3.same hS
    obtain ⟨M2, c1, c2, c3, c4⟩ := ct_I z hs g3.1 g3.2.2.2.2.2.2
    have eU : ∀ N, 40000 < N → f_Uc_liar N M = if fC n sd tt (2 ^ np n) ≤ 0 then some (fL 1 n sd tt (2 ^ np n), M1) else some (0, M1) := fun N hN => by
      unfold f_Uc_liar
      rw [h2.1, if_pos (show nI n ≤ 6 from nI_le (b := 6) (by omega) (by decide)), show (1 : Int32) = nI 1 from rfl, a1 N (by omega), bnd_s, a2, a5]
    have eM : ∀ N, 40000 < N → f_Mo_liar N M1 = if fC n sd tt (2 ^ np n) ≤ 0 then L_Mo_liar_25 N N 0 0 M2 else some (0, M2) := fun N hN => by
      unfold f_Mo_liar
      rw [g3.1, if_pos (show nI n ≤ 6 from nI_le (b := 6) (by omega) (by decide)), c1 N hN]
      rfl
    by_cases q : fC n sd tt (2 ^ np n) ≤ 0
    · obtain ⟨M3, d1, d2⟩ := li25 z hs (2 ^ np n) 0 M2 (by omega) ((c4 _ _ (by decide) (by omega)).trans g3.1) (fun j hj => (c4 _ _ (by decide) (by omega)).trans (g3.2.2.2.2.2.2 j hj))
      refine ⟨fL 1 n sd tt (2 ^ np n), M1, M3, fun N hN => ⟨?_, ?_⟩, hh.same ((hS.tr (Same.mo c4)).tr (fun a j r => d2 a j (fun z => by rw [z] at r; cases r)))⟩
      · rw [eU N hN, if_pos q]
      · rw [eM N hN, if_pos q]
        exact d1 N N (by omega) (by omega)
    · refine ⟨0, M1, M2, fun N hN => ⟨?_, ?_⟩, hh.same (hS.tr (Same.mo c4))⟩
      · rw [eU N hN, if_neg q]
      · rw [eM N hN, if_neg q]
  · refine ⟨-1000000003, M, M, fun N hN => ⟨?_, ?_⟩, hh⟩
    · unfold f_Uc_liar
      rw [h2.1, if_neg (show ¬ nI n ≤ 6 from nI_ge (a := 6) (by omega) (by omega))]
    · unfold f_Mo_liar
      rw [h3.1, if_neg (show ¬ nI n ≤ 6 from nI_ge (a := 6) (by omega) (by omega))]
theorem tfi_loop (N : Nat) {M : Mm} {n x p : Nat} (hn : n < 9) (h0 : M.1 1 0 = nI n) (hx : x < 2 ^ 31) (hp : p < n) : ∀ (d k nu : Nat), k + d = n → d < nu → L_To_friendsIn_5 N 1 (nI x) (nI p) M nu (nI (bs (rwf n x p) k)) (nI k) = some (nI (bs (rwf n x p) n))
  | 0, k, nu + 1, hk, hnu => by
    have hk : k = n := by omega
    subst hk
    rw [L_To_friendsIn_5, h0, if_pos (nI_le (Nat.le_refl k) (by omega))]
  | d + 1, k, nu + 1, hk, hnu => by
    have ih := tfi_loop N hn h0 hx hp d (k + 1) nu (by omega) (by omega)
    rw [L_To_friendsIn_5, h0, if_neg (nI_ge (by omega) (by omega))]
    dsimp only [lt]
    rw [nI_1]
    by_cases e : k = p
    · subst e
      rw [if_pos rfl, bs_no rwf_self]
      exact ih
    · have hb : pn n p k < 32 := Nat.lt_of_lt_of_le (pn_lt n hn p hp k (by omega) (fun z => e z.symm)) (Nat.le_trans (np_le n hn) (by decide))
      have hbit := bit_1 (a := x) (b := pn n p k) hx hb
      have hr := rwf_at (t := x) hp e
      rw [if_neg (fun z => e ((nI_eq (by omega) (by omega)).mp z)), pnu_I hn h0 hp (by omega) (fun z => e z.symm)]
      by_cases z : x.testBit (pn n p k) = true
      · rw [if_pos (hbit.mpr z), one_sl (by omega), or_I, bs_or (by rw [hr]; exact z)]
        exact ih
      · rw [if_neg (fun v => z (hbit.mp v)), bs_no (by rw [hr]; exact z)]
        exact ih
theorem tfi_I {N : Nat} {M : Mm} {n x p : Nat} (hN : 9 < N) (hn : n < 9) (h0 : M.1 1 0 = nI n) (hx : x < 2 ^ 31) (hp : p < n) : f_To_friendsIn N 1 (nI x) (nI p) M = some (nI (rwo n x p)) := tfi_loop N hn h0 hx hp n 0 N (by omega) (by omega)
theorem fR_I {V : Nat → Bool} : ∀ K, K ≤ 2 ^ 15 → ∃ a, a < 2 ^ 15 ∧ fo (fun a b => a ||| b) (0 : Int32) (fun t => nI t) V K = nI a
  | 0, _ => ⟨0, by decide, rfl⟩
  | K + 1, h => by
    obtain ⟨a, ha, e⟩ := fR_I (V := V) K (by omega)
    rw [fo]
    by_cases q : V K = true
    · rw [if_pos q, e]
      exact ⟨a ||| K, Nat.or_lt_two_pow ha (by omega), or_I a K⟩
    · rw [if_neg q]; exact ⟨a, ha, e⟩
theorem fA_I {V : Nat → Bool} : ∀ K, K ≤ 2 ^ 15 → (∀ t, t < K → V t = false) ∨ ∃ a, a < 2 ^ 15 ∧ fo (fun a b => a &&& b) (-1 : Int32) (fun t => nI t) V K = nI a
  | 0, _ => Or.inl (fun t ht => by omega)
  | K + 1, h => by
    rw [fo]
    by_cases q : V K = true
    · rw [if_pos q]
      right
      rcases fA_I (V := V) K (by omega) with h1 | ⟨a, ha, e⟩
      · refine ⟨K, by omega, ?_⟩
        rw [fo_none h1]
        show (-1 : Int32) &&& nI K = nI K
        rw [Int32.and_comm, Int32.and_neg_one]
      · rw [e]
        exact ⟨a &&& K, Nat.lt_of_le_of_lt Nat.and_le_left ha, an_I a K⟩
    · rw [if_neg q]
      rcases fA_I (V := V) K (by omega) with h1 | h1
      · left
        intro t ht
        by_cases e : t = K
        · subst e; simpa using q
        · exact h1 t (by omega)
      · exact Or.inr h1
theorem q_sure {M : Mm} (h : Rel M) (x y : Int32) : ∃ (r : Int32) (M1 M2 : Mm), (∀ N, 40000 < N → f_Uc_sure N x y M = some (r, M1) ∧ f_Mo_sure N x y M1 = some (r, M2)) ∧ Rel M2 := by
  have hh := h
  obtain ⟨n, t, b, m, mk, dr, sd, hP⟩ := h
  obtain ⟨h1, h2, h3, -⟩ := id hP
  have hs : ∀ p, sd p ≤ 7 := fun p => (h1.2.2.2.2.2.2.2.2.2.2 p).1
  have hn := h1.1
  rcases pers x hn with ⟨p, hp, rfl⟩ | hx
  · rcases two01 y with ⟨i, hi, rfl, q0, q1, q2⟩ | hy
    · by_cases z : n < 7
      · have h15 : 2 ^ np n ≤ 2 ^ 15 := Nat.pow_le_pow_right (by decide) (np6 n z)
        obtain ⟨M1, a1, a2, a3, a4, a5, a6⟩ := ft_I (w := 0) z (by omega) h1 h2
        have hS := Same.se a6
        have g3 := h3.same hS
        have g2 : M1.1 1 0 = nI n := (a6 _ _ (by omega)).trans h2.1
        obtain ⟨M2, c1, c2, c3, c4⟩ := ct_I z hs g3.1 g3.2.2.2.2.2.2
        have g4 : M2.1 49 0 = nI n := (c4 _ _ (by decide) (by omega)).trans g3.1
        have eU : ∀ N, 40000 < N → f_Uc_sure N (nI p) (nI i) M = if fC n sd tt (2 ^ np n) = 0 then some (0, M1) else if nI i = 0 then (f_To_friendsIn N 1 (fA n sd tt (2 ^ np n)) (nI p) M1).bind fun vu9 => some (vu9, M1) else (f_To_friendsIn N 1 (fR n sd tt (2 ^ np n)) (nI p) M1).bind fun vu9 => some (vu9, M1) := fun N hN => by
          unfold f_Uc_sure
          rw [has_yes hn h2.1 hp, if_neg h10, if_neg q0, if_pos q1, h2.1, if_pos (show nI n ≤ 6 from nI_le (b := 6) (by omega) (by decide)), show f_Se_findTold N 1 0 M = some M1 from a1 N (by omega), bnd_s, a2, a3, a4]
          rfl
        have eM : ∀ N, 40000 < N → f_Mo_sure N (nI p) (nI i) M1 = if fC n sd tt (2 ^ np n) = 0 then some (0, M2) else if nI i = 0 then (f_Mo_friendsIn N (nI n) (fA n sd tt (2 ^ np n)) (nI p)).bind fun vu9 => some (vu9, M2) else (f_Mo_friendsIn N (nI n) (fR n sd tt (2 ^ np n)) (nI p)).bind fun vu9 => some (vu9, M2) := fun N hN => by
          unfold f_Mo_sure
          rw [per_yes hn g3.1 hp, if_neg h10, show (0 : Int64) = (0 : Int32).toInt64 from rfl, show (1 : Int64) = (1 : Int32).toInt64 from rfl, in_if, if_neg q0, if_neg q2, g3.1, if_pos (show nI n ≤ 6 from nI_le (b := 6) (by omega) (by decide)), c1 N hN, bnd_s]
          dsimp only [lt]
          rw [c2, c3, g4]
        by_cases q : fC n sd tt (2 ^ np n) = 0
        · refine ⟨0, M1, M2, fun N hN => ⟨?_, ?_⟩, hh.same (hS.tr (Same.mo c4))⟩
          · rw [eU N hN, if_pos q]
          · rw [eM N hN, if_pos q]
        · have hA : ∃ a, a < 2 ^ 15 ∧ fA n sd tt (2 ^ np n) = nI a := by
            rcases fA_I (V := fun t => tt t && g0 n sd t) (2 ^ np n) h15 with e | e
            · exact absurd (fo_none e) q
            · exact e
          obtain ⟨a, ha, ea⟩ := hA
          obtain ⟨c, hc, ec⟩ := fR_I (V := fun t => tt t && g0 n sd t) (2 ^ np n) h15
          have ec : fR n sd tt (2 ^ np n) = nI c := ec
          by_cases v : nI i = 0
          · refine ⟨nI (rwo n a p), M1, M2, fun N hN => ⟨?_, ?_⟩, hh.same (hS.tr (Same.mo c4))⟩
            · rw [eU N hN, if_neg q, if_pos v, ea, tfi_I (by omega) hn g2 (Nat.lt_trans ha (by decide)) hp, bnd_s]
            · rw [eM N hN, if_neg q, if_pos v, ea, fi_I (by omega) hn (Nat.lt_trans ha (by decide)) hp, bnd_s]
          · refine ⟨nI (rwo n c p), M1, M2, fun N hN => ⟨?_, ?_⟩, hh.same (hS.tr (Same.mo c4))⟩
            · rw [eU N hN, if_neg q, if_neg v, ec, tfi_I (by omega) hn g2 (Nat.lt_trans hc (by decide)) hp, bnd_s]
            · rw [eM N hN, if_neg q, if_neg v, ec, fi_I (by omega) hn (Nat.lt_trans hc (by decide)) hp, bnd_s]
      · refine ⟨-1000000003, M, M, fun N hN => ⟨?_, ?_⟩, hh⟩
        · unfold f_Uc_sure
          rw [has_yes hn h2.1 hp, if_neg h10, if_neg q0, if_pos q1, h2.1, if_neg (show ¬ nI n ≤ 6 from nI_ge (a := 6) (by omega) (by omega))]
        · unfold f_Mo_sure
          rw [per_yes hn h3.1 hp, if_neg h10, show (0 : Int64) = (0 : Int32).toInt64 from rfl, show (1 : Int64) = (1 : Int32).toInt64 from rfl, in_if, if_neg q0, if_neg q2, h3.1, if_neg (show ¬ nI n ≤ 6 from nI_ge (a := 6) (by omega) (by omega))]
    · refine ⟨-1000000002, M, M, fun N hN => ⟨?_, ?_⟩, hh⟩
      · unfold f_Uc_sure
        rw [has_yes hn h2.1 hp, if_neg h10]
        rcases hy with hy | ⟨hy, hy1, hy2⟩
        · rw [if_pos hy]
        · rw [if_neg hy, if_neg hy1]
      · unfold f_Mo_sure
        rw [per_yes hn h3.1 hp, if_neg h10, show (0 : Int64) = (0 : Int32).toInt64 from rfl, show (1 : Int64) = (1 : Int32).toInt64 from rfl, in_if]
        rcases hy with hy | ⟨hy, hy1, hy2⟩
        · rw [if_pos hy]
        · rw [if_neg hy, if_pos hy2]
  · refine ⟨-1000000001, M, M, fun N hN => ⟨?_, ?_⟩, hh⟩
    · unfold f_Uc_sure
      rw [has_no hn h2.1 hx, if_pos rfl]
    · unfold f_Mo_sure
      rw [per_no hn h3.1 hx, if_pos rfl]
