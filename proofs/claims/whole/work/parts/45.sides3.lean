/-! PURE 26: sides, the call -/
theorem RelP.wy {n t b m mk dr : Nat} {sd : Nat → Nat} {M M2 : Mm} (h : RelP n t b m mk dr sd M) (hW : RWays M2) (hoff : ∀ a j, a ≠ 31 → a ≠ 32 → relv a j = true → M2.1 a j = M.1 a j) : RelP n t b m mk dr sd M2 := by
  obtain ⟨h1, h2, h3, ⟨s, s1, s2, s3⟩, h5, h6, h7, ⟨h8, h9⟩, h10'⟩ := h
  refine ⟨h1, h2.ag ?_, h3.ag ?_, ⟨s, s1, ?_, ?_⟩, h5.ag ?_, ?_, h7.ag ?_, ⟨h8.ag ?_, h9.ag ?_⟩, hW⟩
  · intro a j u
    simp only [uCT, Bool.and_eq_true, decide_eq_true_eq] at u
    exact hoff a j (by omega) (by omega) (by simp only [relv, Bool.or_eq_true, Bool.and_eq_true, beq_iff_eq, decide_eq_true_eq]; omega)
  · intro a j u
    simp only [uMT, Bool.or_eq_true, Bool.and_eq_true, beq_iff_eq, decide_eq_true_eq] at u
    exact hoff a j (by omega) (by omega) (by simp only [relv, Bool.or_eq_true, Bool.and_eq_true, beq_iff_eq, decide_eq_true_eq]; omega)
  · rw [hoff _ _ (by decide) (by decide) rfl]; exact s2
  · rw [hoff _ _ (by decide) (by decide) rfl]; exact s3
  · intro a j u
    simp only [uTx, Bool.or_eq_true, Bool.and_eq_true, beq_iff_eq] at u
    exact hoff a j (by omega) (by omega) (by simp only [relv, Bool.or_eq_true, Bool.and_eq_true, beq_iff_eq, decide_eq_true_eq]; omega)
  · rw [hoff _ _ (by decide) (by decide) rfl, hoff _ _ (by decide) (by decide) rfl]; exact h6
  · intro a j u
    simp only [uBk, Bool.or_eq_true, Bool.and_eq_true, beq_iff_eq, decide_eq_true_eq] at u
    exact hoff a j (by omega) (by omega) (by simp only [relv, Bool.or_eq_true, Bool.and_eq_true, beq_iff_eq, decide_eq_true_eq]; omega)
  · intro a j u
    simp only [uIm, Bool.or_eq_true, Bool.and_eq_true, beq_iff_eq, decide_eq_true_eq] at u
    exact hoff a j (by omega) (by omega) (by simp only [relv, Bool.or_eq_true, Bool.and_eq_true, beq_iff_eq, decide_eq_true_eq]; omega)
  · intro a j u
    simp only [uIm, Bool.or_eq_true, Bool.and_eq_true, beq_iff_eq, decide_eq_true_eq] at u
    exact hoff a j (by omega) (by omega) (by simp only [relv, Bool.or_eq_true, Bool.and_eq_true, beq_iff_eq, decide_eq_true_eq]; omega)
theorem nI_nm1 {k : Nat} (h : k < 2 ^ 31) : ¬ nI k = -1 := fun w => m1n (by rw [← w]; exact nI_pos' h)
theorem sid_lt : ∀ a, a < 5 → ∀ b, b < 5 → sidT a b < 2 ^ 31 := by decide
theorem sor_lt : ∀ n, n < 6 → sorT n < 2 ^ 31 := by decide
theorem q_sides {M : Mm} (h : Rel M) (x y : Int32) : ∃ (r : Int32) (M1 : Mm), (∀ N, 70000 < N → f_Uc_sides N x y M = some (r, M1) ∧ f_Mo_sides N x y = some r) ∧ Rel M1 := by
  have hh := h
  obtain ⟨n, t, b, m, mk, dr, sd, hP⟩ := h
  have hW : RWays M := hP.2.2.2.2.2.2.2.2
  by_cases bad : x < 1 ∨ ¬ x ≤ 4 ∨ y < 1 ∨ ¬ y ≤ 4
  · refine ⟨-1000000002, M, fun N hN => ?_, hh⟩
    unfold f_Uc_sides f_Mo_sides
    rw [show (1 : Int64) = (1 : Int32).toInt64 from rfl, show (4 : Int64) = (4 : Int32).toInt64 from rfl, in_if, in_if]
    by_cases z1 : x < 1
    · rw [if_pos z1, if_pos z1]; exact ⟨rfl, rfl⟩
    rw [if_neg z1, if_neg z1]
    by_cases z2 : 4 < x
    · rw [if_pos z2, if_pos z2]; exact ⟨rfl, rfl⟩
    rw [if_neg z2, if_neg z2]
    by_cases z3 : y < 1
    · rw [if_pos z3, if_pos z3]; exact ⟨rfl, rfl⟩
    rw [if_neg z3, if_neg z3]
    by_cases z4 : y ≤ 4
    · exact absurd bad (by
        rintro (q | q | q | q)
        · exact z1 q
        · exact z2 (nle_I.mp q)
        · exact z3 q
        · exact q z4)
    · rw [if_neg z4, if_pos (nle_I.mp z4)]; exact ⟨rfl, rfl⟩
  · have z1 : ¬ x < 1 := fun q => bad (Or.inl q)
    have z2 : x ≤ 4 := Classical.byContradiction (fun q => bad (Or.inr (Or.inl q)))
    have z3 : ¬ y < 1 := fun q => bad (Or.inr (Or.inr (Or.inl q)))
    have z4 : y ≤ 4 := Classical.byContradiction (fun q => bad (Or.inr (Or.inr (Or.inr q))))
    obtain ⟨a, ha, rfl⟩ := nI_of2 (x := x) (M := 4) (n := 4) rfl (fun q => z1 (Int32.lt_trans q (by decide))) z2
    obtain ⟨c, hc, rfl⟩ := nI_of2 (x := y) (M := 4) (n := 4) rfl (fun q => z3 (Int32.lt_trans q (by decide))) z4
    have ha1 : 1 ≤ a := by
      rcases Nat.lt_or_ge a 1 with q | q
      · exact absurd (nI_lt q (by decide)) z1
      · exact q
    have hc1 : 1 ≤ c := by
      rcases Nat.lt_or_ge c 1 with q | q
      · exact absurd (nI_lt q (by decide)) z3
      · exact q
    have hsl := sid_lt a (by omega) c (by omega)
    have hix : inb (nI (a * 5 + c)) 25 = true := inb_nI (by omega) (by decide)
    have hxk : Int32.toNatClampNeg (nI (a * 5 + c)) = 5 * a + c := by rw [ix_nI (by omega)]; omega
    have eM : ∀ N, 70000 < N → f_Mo_sides N (nI a) (nI c) = some (nI (sidT a c)) := fun N hN => by rw [mosd_I hN ha1 (by omega) hc1 (by omega), sv_all ha1 (by omega) hc1 (by omega)]
    have eU : ∀ N, 70000 < N → f_Uc_sides N (nI a) (nI c) M = (f_Wa_acrossSides N (nI a) (nI c) M).bind fun vu5 => some (vu5.1, vu5.2) := fun N hN => by
      unfold f_Uc_sides
      rw [if_neg z1, if_neg (nlt_I.mpr z2), if_neg z3, if_pos z4]
      rfl
    rcases hW.1 a c ha1 (by omega) hc1 (by omega) with e | e
    · refine ⟨nI (sidT a c), si M 31 (5 * a + c) (nI (sidT a c)), fun N hN => ⟨?_, eM N hN⟩, Rel.of (RelP.wy (n := n) (t := t) (b := b) (m := m) (mk := mk) (dr := dr) (sd := sd) (M := M) hP ⟨fun a' b' g1 g2 g3 g4 => ?_, fun k g1 g2 => ?_⟩ (fun a' j q1 _ _ => si_a _ _ q1))⟩
      · rw [eU N hN]
        unfold f_Wa_acrossSides
        dsimp only [lt]
        rw [show (5 : Int32) = nI 5 from rfl, pk_mul, nI_add, if_pos hix, hxk, if_pos e, af_all (by omega) ha1 (by omega) hc1 (by omega), bnd_s, if_pos hix, if_pos hix, si_s, bnd_s]
      · by_cases q : 5 * a' + b' = 5 * a + c
        · have q1 : a' = a := by omega
          have q2 : b' = c := by omega
          subst q1 q2
          exact Or.inr (si_s _ _ _ _)
        · rw [si_k _ _ q]; exact hW.1 a' b' g1 g2 g3 g4
      · rw [si_a _ _ (by decide)]; exact hW.2 k g1 g2
    · refine ⟨nI (sidT a c), M, fun N hN => ⟨?_, eM N hN⟩, hh⟩
      rw [eU N hN]
      unfold f_Wa_acrossSides
      dsimp only [lt]
      rw [show (5 : Int32) = nI 5 from rfl, pk_mul, nI_add, if_pos hix, hxk, e, if_neg (nI_nm1 hsl), if_pos hix, bnd_s]
