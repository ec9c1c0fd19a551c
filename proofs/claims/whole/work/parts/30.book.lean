/-! PURE 11: tell, write -/
theorem q_tell {M : Mm} (h : Rel M) (x v : Int32) : ∃ (r : Int32) (M1 M2 : Mm), f_Uc_tell x v M = some (r, M1) ∧ f_Mo_tell x v M1 = some (r, M2) ∧ Rel M2 := by
  have hh := h
  obtain ⟨n, t, b, m, mk, dr, sd, h1, h2, h3, ⟨s, s1, s2, s3⟩, h5, h6, h7, ⟨h8, h9⟩, h10'⟩ := h
  have hn := h1.1
  unfold f_Uc_tell f_Mo_tell
  rcases pers x hn with ⟨j, hj, rfl⟩ | hx
  · rw [has_yes hn h2.1 hj, if_neg h10]
    simp only [lt, show (0 : Int64) = (0 : Int32).toInt64 from rfl, show (7 : Int64) = (7 : Int32).toInt64 from rfl, in_if]
    by_cases z : v < 0
    · simp only [if_pos z]
      refine ⟨_, M, M, rfl, ?_, hh⟩
      rw [per_yes hn h3.1 hj, if_neg h10]
    · simp only [if_neg z]
      by_cases w : v ≤ 7
      · have w2 : ¬ 7 < v := nlt_I.mpr w
        have ib : inb (nI j) 8 = true := inb_nI (by omega) (by decide)
        simp only [if_pos w, if_neg w2, if_pos ib, ix_nI (show j < 2 ^ 31 by omega)]
        obtain ⟨y, hy, rfl⟩ := nI_of2 (x := v) (M := 7) (n := 7) rfl z w
        refine ⟨nI (sd j), si M 5 j (nI y), si (si M 5 j (nI y)) 50 j (nI y), ?_, ?_, ?_⟩
        · rw [(h2.2.2.2 j (by omega)).2.2.2]
        · rw [per_yes hn (by rw [si_a _ _ (by decide)]; exact h3.1) hj, if_neg h10, si_a _ _ (by decide), h3.2.2.2.2.2.2 j (by omega)]
        · have ag : ∀ u : Nat → Nat → Bool, u 5 j = false → u 50 j = false → Ag u M (si (si M 5 j (nI y)) 50 j (nI y)) := fun u u1 u2 => ((Ag.rf M).si _ u1).si _ u2
          refine ⟨n, t, b, m, mk, dr, fun p => if p = j then y else sd p, ⟨h1.1, h1.2.1, h1.2.2.1, h1.2.2.2.1, h1.2.2.2.2.1, h1.2.2.2.2.2.1, h1.2.2.2.2.2.2.1, h1.2.2.2.2.2.2.2.1, h1.2.2.2.2.2.2.2.2.1, h1.2.2.2.2.2.2.2.2.2.1, fun p => ?_⟩, ⟨?_, ?_, ?_, fun p hp => ⟨?_, ?_, ?_, ?_⟩⟩, ⟨?_, ?_, ?_, ?_, ?_, ?_, fun p hp => ?_⟩, ⟨s, s1, ?_, ?_⟩, h5.ag (ag _ rfl rfl), ?_, h7.ag (ag _ rfl rfl), ⟨h8.ag (ag _ rfl rfl), h9.ag (ag _ rfl rfl)⟩, h10'.ag (ag _ rfl rfl)⟩
          · show (if p = j then y else sd p) ≤ 7 ∧ (n ≤ p → (if p = j then y else sd p) = 0)
            by_cases e : p = j
            · rw [if_pos e]; exact ⟨hy, fun z => by omega⟩
            · rw [if_neg e]; exact h1.2.2.2.2.2.2.2.2.2.2 p
          · rw [si_a _ _ (by decide), si_a _ _ (by decide)]; exact h2.1
          · rw [si_a _ _ (by decide), si_a _ _ (by decide)]; exact h2.2.1
          · rw [si_a _ _ (by decide), si_a _ _ (by decide)]; exact h2.2.2.1
          · rw [si_a _ _ (by decide), si_a _ _ (by decide)]; exact (h2.2.2.2 p hp).1
          · rw [si_a _ _ (by decide), si_a _ _ (by decide)]; exact (h2.2.2.2 p hp).2.1
          · rw [si_a _ _ (by decide), si_a _ _ (by decide)]; exact (h2.2.2.2 p hp).2.2.1
          · rw [si_a _ _ (by decide)]
            show (si M 5 j (nI y)).1 5 p = nI (if p = j then y else sd p)
            by_cases e : p = j
            · subst e; rw [si_s, if_pos rfl]
            · rw [si_k _ _ e, if_neg e]; exact (h2.2.2.2 p hp).2.2.2
          · rw [si_a _ _ (by decide), si_a _ _ (by decide)]; exact h3.1
          · rw [si_a _ _ (by decide), si_a _ _ (by decide)]; exact h3.2.1
          · rw [si_a _ _ (by decide), si_a _ _ (by decide)]; exact h3.2.2.1
          · rw [si_a _ _ (by decide), si_a _ _ (by decide)]; exact h3.2.2.2.1
          · rw [si_a _ _ (by decide), si_a _ _ (by decide)]; exact h3.2.2.2.2.1
          · rw [si_a _ _ (by decide), si_a _ _ (by decide)]; exact h3.2.2.2.2.2.1
          · show _ = nI (if p = j then y else sd p)
            by_cases e : p = j
            · subst e; rw [si_s, if_pos rfl]
            · rw [si_k _ _ e, si_a _ _ (by decide), if_neg e]; exact h3.2.2.2.2.2.2 p hp
          · rw [si_a _ _ (by decide), si_a _ _ (by decide)]; exact s2
          · rw [si_a _ _ (by decide), si_a _ _ (by decide)]; exact s3
          · rw [si_a _ _ (by decide), si_a _ _ (by decide), si_a _ _ (by decide), si_a _ _ (by decide)]; exact h6
      · have w2 : 7 < v := nle_I.mp w
        simp only [if_neg w, if_pos w2]
        refine ⟨_, M, M, rfl, ?_, hh⟩
        rw [per_yes hn h3.1 hj, if_neg h10]
  · rw [has_no hn h2.1 hx, if_pos rfl]
    refine ⟨_, M, M, rfl, ?_, hh⟩
    rw [per_no hn h3.1 hx, if_pos rfl]
theorem nar_b {c : Nat} (hc : c < 2) : vp_nar .boolean (nI c) = nI c := by
  rcases (show c = 0 ∨ c = 1 by omega) with rfl | rfl <;> decide
theorem q_write {M : Mm} (h : Rel M) (x y : Int32) {c : Nat} (hc : c < 2) : ∃ (r : Int32) (M1 M2 : Mm), f_Uc_write x y (nI c) M = some (r, M1) ∧ f_Mo_write x y (nI c) M1 = some (r, M2) ∧ Rel M2 := by
  have hh := h
  obtain ⟨n, t, b, m, mk, dr, sd, h1, h2, h3, ⟨s, s1, s2, s3⟩, h5, h6, ⟨k, k0, k1, k2, k3⟩, ⟨h8, h9⟩, h10'⟩ := h
  have hn := h1.1
  unfold f_Uc_write f_Mo_write f_Bk_add
  rcases two_dec x y hn h2.1 h3.1 with ⟨i, j, hi, hj, hij, rfl, rfl⟩ | ⟨e1, e2⟩
  · rw [two_yes hn h2.1 hi hj hij, if_neg h10, k1]
    by_cases z : k < 30
    · have z1 : nI k < 30 := nI_lt z (by decide)
      have z2 : ¬ (30 : Int32) ≤ nI k := nI_ge (b := 30) z (by decide)
      have z3 : ¬ nI k = 30 := fun w => by have := (nI_eq (a := k) (b := 30) (by omega) (by decide)).mp w; omega
      have ib : inb (nI k) 30 = true := inb_nI z (by decide)
      rw [if_pos z1, if_neg z2]
      simp only [lt, si_a _ _ (show (33 : Nat) ≠ 34 by decide), si_a _ _ (show (33 : Nat) ≠ 35 by decide), si_a _ _ (show (33 : Nat) ≠ 36 by decide), k1, if_pos ib, ix_nI (show k < 2 ^ 31 by omega), nar_b hc, nI_1]
      refine ⟨nI (k + 1), si (si (si (si M 34 k (nI i)) 35 k (nI j)) 36 k (nI c)) 33 3 (nI (k + 1)), si (si (si (si (si (si (si (si M 34 k (nI i)) 35 k (nI j)) 36 k (nI c)) 33 3 (nI (k + 1))) 59 k (nI i)) 60 k (nI j)) 61 k (nI c)) 49 33 (nI (k + 1)), ?_, ?_, ?_⟩
      · show some (_, _) = some (_, _)
        rw [si_s]
      · rw [are_yes hn (by rw [si_a _ _ (by decide), si_a _ _ (by decide), si_a _ _ (by decide), si_a _ _ (by decide)]; exact h3.1) hi hj hij, if_neg h10]
        have g0 : ∀ M0 : Mm, M0.1 49 33 = nI k → (si (si (si (si M0 34 k (nI i)) 35 k (nI j)) 36 k (nI c)) 33 3 (nI (k + 1))).1 49 33 = nI k := fun M0 h0 => by rw [si_a _ _ (by decide), si_a _ _ (by decide), si_a _ _ (by decide), si_a _ _ (by decide)]; exact h0
        simp only [si_a _ _ (show (49 : Nat) ≠ 59 by decide), si_a _ _ (show (49 : Nat) ≠ 60 by decide), si_a _ _ (show (49 : Nat) ≠ 61 by decide), g0 M k2, if_neg z3, if_pos ib, ix_nI (show k < 2 ^ 31 by omega), nI_1, si_s]
      · generalize hM2 : si (si (si (si (si (si (si (si M 34 k (nI i)) 35 k (nI j)) 36 k (nI c)) 33 3 (nI (k + 1))) 59 k (nI i)) 60 k (nI j)) 61 k (nI c)) 49 33 (nI (k + 1)) = M2
        have ag : ∀ u : Nat → Nat → Bool, u 34 k = false → u 35 k = false → u 36 k = false → u 33 3 = false → u 59 k = false → u 60 k = false → u 61 k = false → u 49 33 = false → Ag u M M2 := fun u u1 u2 u3 u4 u5 u6 u7 u8 => by
          rw [← hM2]
          exact ((((((((Ag.rf M).si _ u1).si _ u2).si _ u3).si _ u4).si _ u5).si _ u6).si _ u7).si _ u8
        have at2 : ∀ a p, a ≠ 34 → a ≠ 35 → a ≠ 36 → a ≠ 59 → a ≠ 60 → a ≠ 61 → ¬ (a = 33 ∧ p = 3) → ¬ (a = 49 ∧ p = 33) → M2.1 a p = M.1 a p := fun a p q1 q2 q3 q4 q5 q6 q7 q8 => by
          rw [← hM2, si1, if_neg q8, si_a _ _ q6, si_a _ _ q5, si_a _ _ q4, si1, if_neg q7, si_a _ _ q3, si_a _ _ q2, si_a _ _ q1]
        refine ⟨n, t, b, m, mk, dr, sd, h1, h2.ag (ag _ rfl rfl rfl rfl rfl rfl rfl rfl), h3.ag (ag _ rfl rfl rfl rfl rfl rfl rfl rfl), ⟨s, s1, ?_, ?_⟩, h5.ag (ag _ rfl rfl rfl rfl rfl rfl rfl rfl), ?_, ⟨k + 1, by omega, ?_, ?_, fun p hp => ?_⟩, ⟨h8.ag (ag _ rfl rfl rfl rfl rfl rfl rfl rfl), h9.ag (ag _ rfl rfl rfl rfl rfl rfl rfl rfl)⟩, h10'.ag (ag _ rfl rfl rfl rfl rfl rfl rfl rfl)⟩
        · rw [at2 0 10 (by decide) (by decide) (by decide) (by decide) (by decide) (by decide) (by decide) (by decide)]; exact s2
        · rw [at2 49 7 (by decide) (by decide) (by decide) (by decide) (by decide) (by decide) (by decide) (by decide)]; exact s3
        · rw [at2 11 6 (by decide) (by decide) (by decide) (by decide) (by decide) (by decide) (by decide) (by decide), at2 49 11 (by decide) (by decide) (by decide) (by decide) (by decide) (by decide) (by decide) (by decide)]; exact h6
        · rw [← hM2, si_a _ _ (by decide), si_a _ _ (by decide), si_a _ _ (by decide), si_a _ _ (by decide), si_s]
        · rw [← hM2, si_s]
        · by_cases e : p = k
          · subst e
            refine ⟨i, j, c, by omega, by omega, hij, hc, ⟨?_, ?_, ?_⟩, ?_, ?_, ?_⟩
            · rw [← hM2, si_a _ _ (by decide), si_a _ _ (by decide), si_a _ _ (by decide), si_a _ _ (by decide), si_a _ _ (by decide), si_a _ _ (by decide), si_a _ _ (by decide), si_s]
            · rw [← hM2, si_a _ _ (by decide), si_a _ _ (by decide), si_a _ _ (by decide), si_a _ _ (by decide), si_a _ _ (by decide), si_a _ _ (by decide), si_s]
            · rw [← hM2, si_a _ _ (by decide), si_a _ _ (by decide), si_a _ _ (by decide), si_a _ _ (by decide), si_a _ _ (by decide), si_s]
            · rw [← hM2, si_a _ _ (by decide), si_a _ _ (by decide), si_a _ _ (by decide), si_s]
            · rw [← hM2, si_a _ _ (by decide), si_a _ _ (by decide), si_s]
            · rw [← hM2, si_a _ _ (by decide), si_s]
          · obtain ⟨i', j', c', g1, g2, g3, g4, ⟨g5, g6, g7⟩, g8, g9, g10⟩ := k3 p (by omega)
            have off : ∀ a, a ≠ 33 → a ≠ 49 → M2.1 a p = M.1 a p := fun a q1 q2 => by
              rw [← hM2, si_a _ _ q2, si_k _ _ e, si_k _ _ e, si_k _ _ e, si_a _ _ q1, si_k _ _ e, si_k _ _ e, si_k _ _ e]
            exact ⟨i', j', c', g1, g2, g3, g4, ⟨(off _ (by decide) (by decide)).trans g5, (off _ (by decide) (by decide)).trans g6, (off _ (by decide) (by decide)).trans g7⟩, (off _ (by decide) (by decide)).trans g8, (off _ (by decide) (by decide)).trans g9, (off _ (by decide) (by decide)).trans g10⟩
    · have hk : k = 30 := by omega
      subst hk
      rw [if_neg (by decide)]
      refine ⟨_, M, M, rfl, ?_, hh⟩
      rw [are_yes hn h3.1 hi hj hij, if_neg h10, k2]
      exact if_pos rfl
  · rw [e1, if_pos rfl]
    refine ⟨_, M, M, rfl, ?_, hh⟩
    rw [e2, if_pos rfl]
