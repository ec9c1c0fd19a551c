/-! PURE 16: keep, goBack -/
theorem RelP.new {n t b m mk dr n' t' b' m' : Nat} {sd sd' : Nat → Nat} {M M2 : Mm} (h : RelP n t b m mk dr sd M) (hT : TOK n' t' b' m' mk dr sd') (hC : CT M2 1 n' t' b' m' mk dr sd') (hM : MT M2 n' t' b' m' mk dr sd') (hS : ∃ s, s < 2 ^ 31 ∧ M2.1 0 10 = nI s ∧ M2.1 49 7 = nI s) (hoff : ∀ a j, ¬ (a = 0 ∧ j = 10) → ¬ (1 ≤ a ∧ a ≤ 5) → a ≠ 50 → ¬ (a = 49 ∧ (j ≤ 5 ∨ j = 7)) → relv a j = true → M2.1 a j = M.1 a j) : RelP n' t' b' m' mk dr sd' M2 := by
  obtain ⟨h1, h2, h3, h4, h5, h6, h7, ⟨h8, h9⟩, h10'⟩ := h
  refine ⟨hT, hC, hM, hS, h5.ag ?_, ?_, h7.ag ?_, ⟨h8.ag ?_, h9.ag ?_⟩, h10'.ag ?_⟩
  · intro a j u
    simp only [uTx, Bool.or_eq_true, Bool.and_eq_true, beq_iff_eq] at u
    exact hoff a j (by omega) (by omega) (by omega) (by omega) (by simp only [relv, Bool.or_eq_true, Bool.and_eq_true, beq_iff_eq, decide_eq_true_eq]; omega)
  · rw [hoff 11 6 (by decide) (by decide) (by decide) (by decide) rfl, hoff 49 11 (by decide) (by decide) (by decide) (by decide) rfl]; exact h6
  · intro a j u
    simp only [uBk, Bool.or_eq_true, Bool.and_eq_true, beq_iff_eq, decide_eq_true_eq] at u
    exact hoff a j (by omega) (by omega) (by omega) (by omega) (by simp only [relv, Bool.or_eq_true, Bool.and_eq_true, beq_iff_eq, decide_eq_true_eq]; omega)
  · intro a j u
    simp only [uIm, Bool.or_eq_true, Bool.and_eq_true, beq_iff_eq, decide_eq_true_eq] at u
    exact hoff a j (by omega) (by omega) (by omega) (by omega) (by simp only [relv, Bool.or_eq_true, Bool.and_eq_true, beq_iff_eq, decide_eq_true_eq]; omega)
  · intro a j u
    simp only [uIm, Bool.or_eq_true, Bool.and_eq_true, beq_iff_eq, decide_eq_true_eq] at u
    exact hoff a j (by omega) (by omega) (by omega) (by omega) (by simp only [relv, Bool.or_eq_true, Bool.and_eq_true, beq_iff_eq, decide_eq_true_eq]; omega)
  · intro a j u
    simp only [uWy, Bool.or_eq_true, beq_iff_eq] at u
    exact hoff a j (by omega) (by omega) (by omega) (by omega) (by simp only [relv, Bool.or_eq_true, Bool.and_eq_true, beq_iff_eq, decide_eq_true_eq]; omega)
theorem RImg.ag2 {M M' : Mm} {i a mk dr : Nat} (h : RImg M i a mk dr) (g1 : ∀ x j, a ≤ x → x ≤ a + 5 → M'.1 x j = M.1 x j) (g2 : ∀ j, 20 * i ≤ j → j < 20 * i + 13 → M'.1 62 j = M.1 62 j) (g3 : M'.1 63 i = M.1 63 i) : RImg M' i a mk dr := by
  rcases h with ⟨k1, k2⟩ | ⟨k1, k2, n, t, b, m, sd, s, p1, p2, p3, p4, p5, p6, p7, p8, p9, p10⟩
  · exact Or.inl ⟨(g1 _ _ (by omega) (by omega)).trans k1, g3.trans k2⟩
  · refine Or.inr ⟨(g1 _ _ (by omega) (by omega)).trans k1, g3.trans k2, n, t, b, m, sd, s, p1, p2.ag ?_, p3, (g1 _ _ (by omega) (by omega)).trans p4, (g2 _ (by omega) (by omega)).trans p5, (g2 _ (by omega) (by omega)).trans p6, (g2 _ (by omega) (by omega)).trans p7, (g2 _ (by omega) (by omega)).trans p8, (g2 _ (by omega) (by omega)).trans p9, fun p hp => (g2 _ (by omega) (by omega)).trans (p10 p hp)⟩
    intro x j u
    simp only [uCT, Bool.and_eq_true, decide_eq_true_eq] at u
    exact g1 x j (by omega) (by omega)
theorem keep_rel {n t b m mk dr : Nat} {sd : Nat → Nat} {M M2 : Mm} {i a : Nat} (hP : RelP n t b m mk dr sd M) (hi : (i = 0 ∧ a = 37) ∨ (i = 1 ∧ a = 43)) (hoff : ∀ x j, ¬ (a ≤ x ∧ x ≤ a + 5) → ¬ (x = 62 ∧ 20 * i ≤ j ∧ j < 20 * i + 13) → ¬ (x = 63 ∧ j = i) → M2.1 x j = M.1 x j) (hk : M2.1 a 2 = 1) (hk' : M2.1 63 i = 1) (hC : CT M2 (a + 1) n t b m mk dr sd) (hs : M2.1 a 1 = M.1 0 10) (e0 : M2.1 62 (20 * i) = M.1 49 0) (e1 : M2.1 62 (20 * i + 1) = M.1 49 1) (e2 : M2.1 62 (20 * i + 2) = M.1 49 2) (e3 : M2.1 62 (20 * i + 3) = M.1 49 3) (e4 : M2.1 62 (20 * i + 4) = M.1 49 7) (e5 : ∀ p, p < 8 → M2.1 62 (20 * i + 5 + p) = M.1 50 p) : Rel M2 := by
  obtain ⟨h1, h2, h3, ⟨s, s1, s2, s3⟩, h5, h6, h7, ⟨h8, h9⟩, h10'⟩ := hP
  have hnew : RImg M2 i a mk dr := Or.inr ⟨hk, hk', n, t, b, m, sd, s, h1, hC, s1, hs.trans s2, e0.trans h3.1, e1.trans h3.2.1, e2.trans h3.2.2.1, e3.trans h3.2.2.2.1, e4.trans s3, fun p hp => (e5 p hp).trans (h3.2.2.2.2.2.2 p hp)⟩
  refine ⟨n, t, b, m, mk, dr, sd, h1, h2.ag ?_, h3.ag ?_, ⟨s, s1, ?_, ?_⟩, h5.ag ?_, ?_, h7.ag ?_, ?_, h10'.ag ?_⟩
  · intro x j u
    simp only [uCT, Bool.and_eq_true, decide_eq_true_eq] at u
    exact hoff x j (by omega) (by omega) (by omega)
  · intro x j u
    simp only [uMT, Bool.or_eq_true, Bool.and_eq_true, beq_iff_eq, decide_eq_true_eq] at u
    exact hoff x j (by omega) (by omega) (by omega)
  · rw [hoff 0 10 (by omega) (by omega) (by omega)]; exact s2
  · rw [hoff 49 7 (by omega) (by omega) (by omega)]; exact s3
  · intro x j u
    simp only [uTx, Bool.or_eq_true, Bool.and_eq_true, beq_iff_eq] at u
    exact hoff x j (by omega) (by omega) (by omega)
  · rw [hoff 11 6 (by omega) (by omega) (by omega), hoff 49 11 (by omega) (by omega) (by omega)]; exact h6
  · intro x j u
    simp only [uBk, Bool.or_eq_true, Bool.and_eq_true, beq_iff_eq, decide_eq_true_eq] at u
    exact hoff x j (by omega) (by omega) (by omega)
  · rcases hi with ⟨rfl, rfl⟩ | ⟨rfl, rfl⟩
    · exact ⟨hnew, h9.ag2 (fun x j _ _ => hoff x j (by omega) (by omega) (by omega)) (fun j _ _ => hoff 62 j (by omega) (by omega) (by omega)) (hoff 63 1 (by omega) (by omega) (by omega))⟩
    · exact ⟨h8.ag2 (fun x j _ _ => hoff x j (by omega) (by omega) (by omega)) (fun j _ _ => hoff 62 j (by omega) (by omega) (by omega)) (hoff 63 0 (by omega) (by omega) (by omega)), hnew⟩
  · intro x j u
    simp only [uWy, Bool.or_eq_true, beq_iff_eq] at u
    exact hoff x j (by omega) (by omega) (by omega)
/-- the first k told counts laid into an image -/
def kpK (A k : Nat) (M : Mm) : Mm := (fun x j => if x = 62 ∧ A + 5 ≤ j ∧ j < A + 5 + k then M.1 50 (j - (A + 5)) else M.1 x j, M.2)
theorem kp_step {A k : Nat} {M : Mm} : si (kpK A k M) 62 (A + 5 + k) ((kpK A k M).1 50 k) = kpK A (k + 1) M := by
  refine mm_ext (fun x j => ?_) rfl
  have e : (kpK A k M).1 50 k = M.1 50 k := by
    show (if 50 = 62 ∧ A + 5 ≤ k ∧ k < A + 5 + k then M.1 50 (k - (A + 5)) else M.1 50 k) = M.1 50 k
    rw [if_neg (by omega)]
  rw [e, si1]
  show (if _ then _ else (if x = 62 ∧ A + 5 ≤ j ∧ j < A + 5 + k then _ else _)) = (if x = 62 ∧ A + 5 ≤ j ∧ j < A + 5 + (k + 1) then _ else _)
  by_cases h : x = 62 ∧ j = A + 5 + k
  · obtain ⟨rfl, rfl⟩ := h
    rw [if_pos ⟨rfl, rfl⟩, if_pos (by omega), show A + 5 + k - (A + 5) = k by omega]
  · rw [if_neg h]
    by_cases h2 : x = 62 ∧ A + 5 ≤ j ∧ j < A + 5 + k
    · rw [if_pos h2, if_pos (by omega)]
    · rw [if_neg h2, if_neg (by omega)]
theorem kp_loop (N : Nat) {M : Mm} {A : Nat} (hA : A ≤ 20) (ju : Mm → Option (Int32 × Mm)) : ∀ (d k nu : Nat), k + d = 8 → d < nu → L_Mo_keep_78 N (nI A) ju nu (nI k) (kpK A k M) = ju (kpK A 8 M)
  | 0, k, nu + 1, hk, hnu => by
    have hk : k = 8 := by omega
    subst hk
    rw [L_Mo_keep_78, if_pos (by decide)]
  | d + 1, k, nu + 1, hk, hnu => by
    have ih := kp_loop N (M := M) hA ju d (k + 1) nu (by omega) (by omega)
    rw [L_Mo_keep_78, if_neg (show ¬ (8 : Int32) ≤ nI k from nI_ge (a := k) (b := 8) (by omega) (by decide)), if_pos (inb_nI (by omega) (by decide)), show (5 : Int32) = nI 5 from rfl, nI_add, nI_add, if_pos (inb_nI (by omega) (by decide)), ix_nI (by omega), ix_nI (by omega)]
    simp only [lt]
    rw [kp_step, nI_1]
    exact ih
def gbK (A k : Nat) (M : Mm) : Mm := (fun x j => if x = 50 ∧ j < k then M.1 62 (A + 5 + j) else M.1 x j, M.2)
theorem gb_step {A k : Nat} {M : Mm} : si (gbK A k M) 50 k ((gbK A k M).1 62 (A + 5 + k)) = gbK A (k + 1) M := by
  refine mm_ext (fun x j => ?_) rfl
  have e : (gbK A k M).1 62 (A + 5 + k) = M.1 62 (A + 5 + k) := by
    show (if 62 = 50 ∧ A + 5 + k < k then M.1 62 (A + 5 + (A + 5 + k)) else M.1 62 (A + 5 + k)) = M.1 62 (A + 5 + k)
    rw [if_neg (by omega)]
  rw [e, si1]
  show (if _ then _ else (if x = 50 ∧ j < k then _ else _)) = (if x = 50 ∧ j < k + 1 then _ else _)
  by_cases h : x = 50 ∧ j = k
  · obtain ⟨rfl, rfl⟩ := h
    rw [if_pos ⟨rfl, rfl⟩, if_pos (by omega)]
  · rw [if_neg h]
    by_cases h2 : x = 50 ∧ j < k
    · rw [if_pos h2, if_pos (by omega)]
    · rw [if_neg h2, if_neg (by omega)]
theorem gb_loop (N : Nat) {M : Mm} {A : Nat} (hA : A ≤ 20) : ∀ (d k nu : Nat), k + d = 8 → d < nu → L_Mo_goBack_90 N (nI A) nu (nI k) (gbK A k M) = some (1, gbK A 8 M)
  | 0, k, nu + 1, hk, hnu => by
    have hk : k = 8 := by omega
    subst hk
    rw [L_Mo_goBack_90, if_pos (by decide)]
  | d + 1, k, nu + 1, hk, hnu => by
    have ih := gb_loop N (M := M) hA d (k + 1) nu (by omega) (by omega)
    rw [L_Mo_goBack_90, if_neg (show ¬ (8 : Int32) ≤ nI k from nI_ge (a := k) (b := 8) (by omega) (by decide)), show (5 : Int32) = nI 5 from rfl, nI_add, nI_add, if_pos (inb_nI (by omega) (by decide)), if_pos (inb_nI (by omega) (by decide)), ix_nI (by omega), ix_nI (by omega)]
    simp only [lt]
    rw [gb_step, nI_1]
    exact ih
/-- an int is 0, 1, or outside -/
theorem two01 (x : Int32) : (∃ i, i < 2 ∧ x = nI i ∧ ¬ x < 0 ∧ x ≤ 1 ∧ ¬ 1 < x) ∨ (x < 0 ∨ (¬ x < 0 ∧ ¬ x ≤ 1 ∧ 1 < x)) := by
  by_cases h0 : x < 0
  · exact Or.inr (Or.inl h0)
  · by_cases h1 : x ≤ 1
    · obtain ⟨i, hi, rfl⟩ := nI_of2 (x := x) (M := 1) (n := 1) rfl h0 h1
      exact Or.inl ⟨i, by omega, rfl, h0, h1, nlt_I.mpr h1⟩
    · exact Or.inr (Or.inr ⟨h0, h1, nle_I.mp h1⟩)
theorem kp0 {A : Nat} {M : Mm} : kpK A 0 M = M := mm_ext (fun x j => if_neg (by omega)) rfl
theorem gb0 {A : Nat} {M : Mm} : gbK A 0 M = M := mm_ext (fun x j => if_neg (by omega)) rfl
theorem mokeep_I {i : Nat} (hi : i < 2) (M : Mm) : ∃ M2, (∀ N, 8 < N → f_Mo_keep N (nI i) M = some (1, M2)) ∧ (∀ x j, ¬ (x = 62 ∧ 20 * i ≤ j ∧ j < 20 * i + 13) → ¬ (x = 63 ∧ j = i) → M2.1 x j = M.1 x j) ∧ M2.1 63 i = 1 ∧ M2.1 62 (20 * i) = M.1 49 0 ∧ M2.1 62 (20 * i + 1) = M.1 49 1 ∧ M2.1 62 (20 * i + 2) = M.1 49 2 ∧ M2.1 62 (20 * i + 3) = M.1 49 3 ∧ M2.1 62 (20 * i + 4) = M.1 49 7 ∧ (∀ p, p < 8 → M2.1 62 (20 * i + 5 + p) = M.1 50 p) := by
  have o : ∀ (M0 : Mm) (k : Nat) (u : Int32) (y z : Nat), y ≠ 62 → (si M0 62 k u).1 y z = M0.1 y z := fun M0 k u y z hy => si_a _ _ hy
  refine ⟨si (kpK (20 * i) 8 (si (si (si (si (si M 62 (20 * i) (M.1 49 0)) 62 (20 * i + 1) (M.1 49 1)) 62 (20 * i + 2) (M.1 49 2)) 62 (20 * i + 3) (M.1 49 3)) 62 (20 * i + 4) (M.1 49 7))) 63 i (vp_nar .boolean 1), fun N hN => ?_, ?_, ?_, ?_, ?_, ?_, ?_, ?_, ?_⟩
  · unfold f_Mo_keep
    rw [show (0 : Int64) = (0 : Int32).toInt64 from rfl, show (1 : Int64) = (1 : Int32).toInt64 from rfl, in_if, if_neg (nI_pos (by omega)), if_neg (show ¬ (1 : Int32) < nI i from nlt_I.mpr (nI_le (a := i) (b := 1) (by omega) (by decide)))]
    simp only [lt]
    have hl := kp_loop N (A := 20 * i) (by omega) (M := si (si (si (si (si M 62 (20 * i) (M.1 49 0)) 62 (20 * i + 1) (M.1 49 1)) 62 (20 * i + 2) (M.1 49 2)) 62 (20 * i + 3) (M.1 49 3)) 62 (20 * i + 4) (M.1 49 7)) (fun Mu14 => if inb (nI i) 2 = true then some (1, si Mu14 63 (Int32.toNatClampNeg (nI i)) (vp_nar .boolean 1)) else none) 8 0 N (by omega) (by omega)
    rw [kp0] at hl
    have f1 : nI (20 * i) + 1 = nI (20 * i + 1) := nI_1 _
    have f2 : nI (20 * i) + 2 = nI (20 * i + 2) := nI_add _ _
    have f3 : nI (20 * i) + 3 = nI (20 * i + 3) := nI_add _ _
    have f4 : nI (20 * i) + 4 = nI (20 * i + 4) := nI_add _ _
    rw [show (20 : Int32) * nI i = nI (20 * i) from pk_mul _ _, f1, f2, f3, f4, if_pos (inb_nI (by omega) (by decide)), if_pos (inb_nI (by omega) (by decide)), if_pos (inb_nI (by omega) (by decide)), if_pos (inb_nI (by omega) (by decide)), if_pos (inb_nI (by omega) (by decide)), ix_nI (show 20 * i < 2 ^ 31 by omega), ix_nI (show 20 * i + 1 < 2 ^ 31 by omega), ix_nI (show 20 * i + 2 < 2 ^ 31 by omega), ix_nI (show 20 * i + 3 < 2 ^ 31 by omega), ix_nI (show 20 * i + 4 < 2 ^ 31 by omega)]
    simp only [o _ _ _ 49 _ (by decide)]
    exact hl.trans (by rw [if_pos (inb_nI hi (by decide)), ix_nI (by omega)])
  · intro x j q1 q2
    rw [si1, if_neg q2]
    show (if _ then _ else _) = _
    rw [if_neg (by omega)]
    rw [si1, if_neg (by omega), si1, if_neg (by omega), si1, if_neg (by omega), si1, if_neg (by omega), si1, if_neg (by omega)]
  · rw [si_s]; rfl
  · rw [si1, if_neg (by omega)]
    show (if _ then _ else _) = _
    rw [if_neg (by omega)]
    rw [si1, if_neg (by omega), si1, if_neg (by omega), si1, if_neg (by omega), si1, if_neg (by omega), si_s]
  · rw [si1, if_neg (by omega)]
    show (if _ then _ else _) = _
    rw [if_neg (by omega)]
    rw [si1, if_neg (by omega), si1, if_neg (by omega), si1, if_neg (by omega), si_s]
  · rw [si1, if_neg (by omega)]
    show (if _ then _ else _) = _
    rw [if_neg (by omega)]
    rw [si1, if_neg (by omega), si1, if_neg (by omega), si_s]
  · rw [si1, if_neg (by omega)]
    show (if _ then _ else _) = _
    rw [if_neg (by omega)]
    rw [si1, if_neg (by omega), si_s]
  · rw [si1, if_neg (by omega)]
    show (if _ then _ else _) = _
    rw [if_neg (by omega)]
    rw [si_s]
  · intro p hp
    rw [si1, if_neg (by omega)]
    show (if _ then _ else _) = _
    rw [if_pos (by omega), show 20 * i + 5 + p - (20 * i + 5) = p by omega, o _ _ _ 50 p (by decide), o _ _ _ 50 p (by decide), o _ _ _ 50 p (by decide), o _ _ _ 50 p (by decide), o _ _ _ 50 p (by decide)]
theorem q_keep {M : Mm} (h : Rel M) (x : Int32) : ∃ (r : Int32) (M1 M2 : Mm), (∀ N, 8 < N → f_Uc_keep N x M = some (r, M1) ∧ f_Mo_keep N x M1 = some (r, M2)) ∧ Rel M2 := by
  have hh := h
  obtain ⟨n, t, b, m, mk, dr, sd, hP⟩ := h
  obtain ⟨h1, h2, h3, -⟩ := id hP
  rcases two01 x with ⟨i, hi, rfl, g0, g1, g2⟩ | hx
  · obtain ⟨a, ha⟩ : ∃ a, (i = 0 ∧ a = 37) ∨ (i = 1 ∧ a = 43) := by
      rcases (show i = 0 ∨ i = 1 by omega) with rfl | rfl
      · exact ⟨37, Or.inl ⟨rfl, rfl⟩⟩
      · exact ⟨43, Or.inr ⟨rfl, rfl⟩⟩
    have e1 : ∀ N, 8 < N → f_Uc_keep N (nI i) M = some (1, si (si (cpK (a + 1) 1 8 M) a 1 (M.1 0 10)) a 2 1) := by
      intro N hN
      have e : (cpK (a + 1) 1 8 M).1 0 10 = M.1 0 10 := cp_off (by omega)
      unfold f_Uc_keep
      rw [if_neg g0, if_pos g1]
      simp only [lt]
      rcases ha with ⟨rfl, rfl⟩ | ⟨rfl, rfl⟩
      · rw [if_pos (by decide), copy_I hN (by omega), ← e]; rfl
      · rw [if_neg (by decide), copy_I hN (by omega), ← e]; rfl
    obtain ⟨M2, q1, q2, q3, q4, q5, q6, q7, q8, q9⟩ := mokeep_I hi (si (si (cpK (a + 1) 1 8 M) a 1 (M.1 0 10)) a 2 1)
    have w : ∀ x j, (x < a ∨ a + 5 < x) → (si (si (cpK (a + 1) 1 8 M) a 1 (M.1 0 10)) a 2 1).1 x j = M.1 x j := fun x j hx => by
      rw [si_a _ _ (by omega), si_a _ _ (by omega)]; exact cp_off (by omega)
    refine ⟨1, _, M2, fun N hN => ⟨e1 N hN, q1 N hN⟩, ?_⟩
    have w2 : ∀ x j, a ≤ x → x ≤ a + 5 → M2.1 x j = (si (si (cpK (a + 1) 1 8 M) a 1 (M.1 0 10)) a 2 1).1 x j := fun x j g1 g2 => q2 x j (by omega) (by omega)
    refine keep_rel hP ha ?_ ?_ q3 ?_ ?_ (q4.trans (w _ _ (by omega))) (q5.trans (w _ _ (by omega))) (q6.trans (w _ _ (by omega))) (q7.trans (w _ _ (by omega))) (q8.trans (w _ _ (by omega))) (fun p hp => (q9 p hp).trans (w _ _ (by omega)))
    · intro x j u1 u2 u3
      rw [q2 x j u2 u3]
      exact w x j (by omega)
    · rw [w2 _ _ (by omega) (by omega), si_s]
    · refine (cp_CT (a := a + 1) h2).ag ?_
      intro x j u
      simp only [uCT, Bool.and_eq_true, decide_eq_true_eq] at u
      rw [w2 _ _ (by omega) (by omega), si_a _ _ (by omega), si_a _ _ (by omega)]
    · rw [w2 _ _ (by omega) (by omega), si_k _ _ (by decide), si_s]
  · refine ⟨-1000000001, M, M, fun N hN => ?_, hh⟩
    unfold f_Uc_keep f_Mo_keep
    rw [show (0 : Int64) = (0 : Int32).toInt64 from rfl, show (1 : Int64) = (1 : Int32).toInt64 from rfl, in_if]
    rcases hx with hx | ⟨hx, hx1, hx2⟩
    · rw [if_pos hx, if_pos hx]; exact ⟨rfl, rfl⟩
    · rw [if_neg hx, if_neg hx1, if_neg hx, if_pos hx2]; exact ⟨rfl, rfl⟩
