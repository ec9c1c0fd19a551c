/-! PURE 17: goBack -/
theorem moback_I {i : Nat} (hi : i < 2) (M : Mm) (hk : M.1 63 i = 1) : ∃ M2, (∀ N, 8 < N → f_Mo_goBack N (nI i) M = some (1, M2)) ∧ (∀ x j, ¬ (x = 49 ∧ (j ≤ 3 ∨ j = 7)) → x ≠ 50 → M2.1 x j = M.1 x j) ∧ M2.1 49 0 = M.1 62 (20 * i) ∧ M2.1 49 1 = M.1 62 (20 * i + 1) ∧ M2.1 49 2 = M.1 62 (20 * i + 2) ∧ M2.1 49 3 = M.1 62 (20 * i + 3) ∧ M2.1 49 7 = M.1 62 (20 * i + 4) ∧ (∀ p, p < 8 → M2.1 50 p = M.1 62 (20 * i + 5 + p)) := by
  have o : ∀ (M0 : Mm) (k : Nat) (u : Int32) (z : Nat), (si M0 49 k u).1 62 z = M0.1 62 z := fun M0 k u z => si_a _ _ (by decide)
  have o2 : ∀ (M0 : Mm) (j : Nat), (gbK (20 * i) 8 M0).1 49 j = M0.1 49 j := fun M0 j => by
    show (if 49 = 50 ∧ j < 8 then M0.1 62 (20 * i + 5 + j) else M0.1 49 j) = _
    rw [if_neg (by omega)]
  refine ⟨gbK (20 * i) 8 (si (si (si (si (si M 49 0 (M.1 62 (20 * i))) 49 1 (M.1 62 (20 * i + 1))) 49 2 (M.1 62 (20 * i + 2))) 49 3 (M.1 62 (20 * i + 3))) 49 7 (M.1 62 (20 * i + 4))), fun N hN => ?_, ?_, ?_, ?_, ?_, ?_, ?_, ?_⟩
  · unfold f_Mo_goBack
    rw [show (0 : Int64) = (0 : Int32).toInt64 from rfl, show (1 : Int64) = (1 : Int32).toInt64 from rfl, in_if, if_neg (nI_pos (by omega)), if_neg (show ¬ (1 : Int32) < nI i from nlt_I.mpr (nI_le (a := i) (b := 1) (by omega) (by decide))), if_pos (inb_nI hi (by decide)), ix_nI (show i < 2 ^ 31 by omega), hk, if_neg h10]
    simp only [lt]
    have hl := gb_loop N (A := 20 * i) (by omega) (M := si (si (si (si (si M 49 0 (M.1 62 (20 * i))) 49 1 (M.1 62 (20 * i + 1))) 49 2 (M.1 62 (20 * i + 2))) 49 3 (M.1 62 (20 * i + 3))) 49 7 (M.1 62 (20 * i + 4))) 8 0 N (by omega) (by omega)
    rw [gb0] at hl
    have f1 : nI (20 * i) + 1 = nI (20 * i + 1) := nI_1 _
    have f2 : nI (20 * i) + 2 = nI (20 * i + 2) := nI_add _ _
    have f3 : nI (20 * i) + 3 = nI (20 * i + 3) := nI_add _ _
    have f4 : nI (20 * i) + 4 = nI (20 * i + 4) := nI_add _ _
    rw [show (20 : Int32) * nI i = nI (20 * i) from pk_mul _ _, f1, f2, f3, f4, if_pos (inb_nI (by omega) (by decide)), if_pos (inb_nI (by omega) (by decide)), if_pos (inb_nI (by omega) (by decide)), if_pos (inb_nI (by omega) (by decide)), if_pos (inb_nI (by omega) (by decide)), ix_nI (show 20 * i < 2 ^ 31 by omega), ix_nI (show 20 * i + 1 < 2 ^ 31 by omega), ix_nI (show 20 * i + 2 < 2 ^ 31 by omega), ix_nI (show 20 * i + 3 < 2 ^ 31 by omega), ix_nI (show 20 * i + 4 < 2 ^ 31 by omega)]
    simp only [o]
    exact hl
  · intro x j q1 q2
    show (if x = 50 ∧ j < 8 then _ else _) = _
    rw [if_neg (fun z => q2 z.1), si1, if_neg (by omega), si1, if_neg (by omega), si1, if_neg (by omega), si1, if_neg (by omega), si1, if_neg (by omega)]
  · rw [o2, si_k _ _ (by decide), si_k _ _ (by decide), si_k _ _ (by decide), si_k _ _ (by decide), si_s]
  · rw [o2, si_k _ _ (by decide), si_k _ _ (by decide), si_k _ _ (by decide), si_s]
  · rw [o2, si_k _ _ (by decide), si_k _ _ (by decide), si_s]
  · rw [o2, si_k _ _ (by decide), si_s]
  · rw [o2, si_s]
  · intro p hp
    show (if 50 = 50 ∧ p < 8 then _ else _) = _
    rw [if_pos ⟨rfl, hp⟩, o, o, o, o, o]
theorem q_back {M : Mm} (h : Rel M) (x : Int32) : ∃ (r : Int32) (M1 M2 : Mm), (∀ N, 8 < N → f_Uc_goBack N x M = some (r, M1) ∧ f_Mo_goBack N x M1 = some (r, M2)) ∧ Rel M2 := by
  have hh := h
  obtain ⟨n, t, b, m, mk, dr, sd, hP⟩ := h
  obtain ⟨h1, h2, h3, -, -, -, -, ⟨h8, h9⟩, -⟩ := id hP
  rcases two01 x with ⟨i, hi, rfl, g0, g1, g2⟩ | hx
  · obtain ⟨a, ha, him⟩ : ∃ a, ((i = 0 ∧ a = 37) ∨ (i = 1 ∧ a = 43)) ∧ RImg M i a mk dr := by
      rcases (show i = 0 ∨ i = 1 by omega) with rfl | rfl
      · exact ⟨37, Or.inl ⟨rfl, rfl⟩, h8⟩
      · exact ⟨43, Or.inr ⟨rfl, rfl⟩, h9⟩
    have e0 : ∀ N, f_Uc_goBack N (nI i) M = if (M.1 a 2) = 0 then some ((-1000000003), M) else (f_To_copyFrom N 1 (a + 1) M).bind fun vu6 => some (1, si vu6 0 10 (vu6.1 a 1)) := by
      intro N
      unfold f_Uc_goBack
      rw [if_neg g0, if_pos g1]
      simp only [lt]
      rcases ha with ⟨rfl, rfl⟩ | ⟨rfl, rfl⟩
      · rw [if_pos (by decide)]
      · rw [if_neg (by decide)]
    rcases him with ⟨k1, k2⟩ | ⟨k1, k2, n', t', b', m', sd', s', p1, p2, p3, p4, p5, p6, p7, p8, p9, p10⟩
    · refine ⟨-1000000003, M, M, fun N hN => ⟨?_, ?_⟩, hh⟩
      · rw [e0, k1, if_pos rfl]
      · unfold f_Mo_goBack
        rw [show (0 : Int64) = (0 : Int32).toInt64 from rfl, show (1 : Int64) = (1 : Int32).toInt64 from rfl, in_if, if_neg g0, if_neg g2, if_pos (inb_nI hi (by decide)), ix_nI (show i < 2 ^ 31 by omega), k2, if_pos rfl]
    · have ec : (cpK 1 (a + 1) 8 M).1 a 1 = M.1 a 1 := cp_off (by omega)
      have w : ∀ y j, ¬ (1 ≤ y ∧ y ≤ 5) → y ≠ 0 → (si (cpK 1 (a + 1) 8 M) 0 10 (M.1 a 1)).1 y j = M.1 y j := fun y j hy hy0 => by
        rw [si_a _ _ hy0]; exact cp_off (by omega)
      obtain ⟨M2, q1, q2, q3, q4, q5, q6, q7, q8⟩ := moback_I hi (si (cpK 1 (a + 1) 8 M) 0 10 (M.1 a 1)) ((w _ _ (by omega) (by omega)).trans k2)
      refine ⟨1, _, M2, fun N hN => ⟨?_, q1 N hN⟩, ?_⟩
      · rw [e0, k1, if_neg h10, copy_I hN (by omega), ← ec]; rfl
      · refine Rel.of (RelP.new (n' := n') (t' := t') (b' := b') (m' := m') (sd' := sd') hP p1 ?_ ?_ ?_ ?_)
        · refine (cp_CT (a := 1) p2).ag ?_
          intro y j u
          simp only [uCT, Bool.and_eq_true, decide_eq_true_eq] at u
          rw [q2 y j (by omega) (by omega), si_a _ _ (by omega)]
        · refine ⟨?_, ?_, ?_, ?_, ?_, ?_, fun p hp => ?_⟩
          · rw [q3, w _ _ (by omega) (by omega)]; exact p5
          · rw [q4, w _ _ (by omega) (by omega)]; exact p6
          · rw [q5, w _ _ (by omega) (by omega)]; exact p7
          · rw [q6, w _ _ (by omega) (by omega)]; exact p8
          · rw [q2 _ _ (by omega) (by omega), w _ _ (by omega) (by omega)]; exact h3.2.2.2.2.1
          · rw [q2 _ _ (by omega) (by omega), w _ _ (by omega) (by omega)]; exact h3.2.2.2.2.2.1
          · rw [q8 p hp, w _ _ (by omega) (by omega)]; exact p10 p hp
        · refine ⟨s', p3, ?_, ?_⟩
          · rw [q2 _ _ (by omega) (by omega), si_s]; exact p4
          · rw [q7, w _ _ (by omega) (by omega)]; exact p9
        · intro y j u1 u2 u3 u4 _
          rw [q2 y j (by omega) u3, si1, if_neg u1]
          exact cp_off (by omega)
  · refine ⟨-1000000001, M, M, fun N hN => ?_, hh⟩
    unfold f_Uc_goBack f_Mo_goBack
    rw [show (0 : Int64) = (0 : Int32).toInt64 from rfl, show (1 : Int64) = (1 : Int32).toInt64 from rfl, in_if]
    rcases hx with hx | ⟨hx, hx1, hx2⟩
    · rw [if_pos hx, if_pos hx]; exact ⟨rfl, rfl⟩
    · rw [if_neg hx, if_neg hx1, if_neg hx, if_pos hx2]; exact ⟨rfl, rfl⟩
