/-! PURE 30: sorts, the call -/
theorem sf_all {N n : Nat} (hN : 20 < N) (h1 : 1 ≤ n) (hn : n < 6) : f_Wa_sortedFrom N 20 (nI n) 0 1 0 = some (nI (sorT n)) := by
  refine mo_so (Nu := 10) (by omega) 20 _ _ _ _ _ ?_
  rcases (show n = 1 ∨ n = 2 ∨ n = 3 ∨ n = 4 ∨ n = 5 by omega) with rfl | rfl | rfl | rfl | rfl
  · exact sf_1
  · exact sf_2
  · exact sf_3
  · exact sf_4
  · exact sf_5
theorem q_sorts {M : Mm} (h : Rel M) (x : Int32) : ∃ (r : Int32) (M1 M2 : Mm), (∀ N, 70000 < N → f_Uc_sorts N x M = some (r, M1) ∧ f_Mo_sorts N x M1 = some (r, M2)) ∧ Rel M2 := by
  have hh := h
  obtain ⟨n, t, b, m, mk, dr, sd, hP⟩ := h
  have hW : RWays M := hP.2.2.2.2.2.2.2.2
  by_cases bad : x < 1 ∨ ¬ x ≤ 5
  · refine ⟨-1000000002, M, M, fun N hN => ?_, hh⟩
    unfold f_Uc_sorts f_Mo_sorts
    rw [show (1 : Int64) = (1 : Int32).toInt64 from rfl, show (5 : Int64) = (5 : Int32).toInt64 from rfl, in_if]
    by_cases z1 : x < 1
    · rw [if_pos z1, if_pos z1]; exact ⟨rfl, rfl⟩
    have z2 : ¬ x ≤ 5 := bad.resolve_left z1
    rw [if_neg z1, if_neg z1, if_neg z2, if_pos (nle_I.mp z2)]
    exact ⟨rfl, rfl⟩
  · have z1 : ¬ x < 1 := fun q => bad (Or.inl q)
    have z2 : x ≤ 5 := Classical.byContradiction (fun q => bad (Or.inr q))
    obtain ⟨k, hk, rfl⟩ := nI_of2 (x := x) (M := 5) (n := 5) rfl (fun q => z1 (Int32.lt_trans q (by decide))) z2
    have hk1 : 1 ≤ k := by
      rcases Nat.lt_or_ge k 1 with q | q
      · exact absurd (nI_lt q (by decide)) z1
      · exact q
    have hsl := sor_lt k (by omega)
    have hix : inb (nI k) 6 = true := inb_nI (by omega) (by decide)
    have hxk : Int32.toNatClampNeg (nI k) = k := ix_nI (by omega)
    have eU : ∀ N, f_Uc_sorts N (nI k) M = (f_Wa_ofTwoSorts N (nI k) M).bind fun vu5 => some (vu5.1, vu5.2) := fun N => by
      unfold f_Uc_sorts
      rw [if_neg z1, if_pos z2]
      rfl
    have hS : ∀ (M1 : Mm) (s' : Nat → Nat), Same M1 (soM k s' M1) := fun M1 s' a j r => so_off (fun e => by rw [e] at r; cases r)
    rcases hW.2 k hk1 (by omega) with e | e
    · obtain ⟨s', hs'⟩ := moso_I (n := k) (M := si M 32 k (nI (sorT k))) hk1 (by omega)
      refine ⟨nI (sorT k), si M 32 k (nI (sorT k)), soM k s' (si M 32 k (nI (sorT k))), fun N hN => ⟨?_, ?_⟩, ?_⟩
      · rw [eU N]
        unfold f_Wa_ofTwoSorts
        dsimp only [lt]
        rw [if_pos hix, hxk, if_pos e, sf_all (by omega) hk1 (by omega), bnd_s, if_pos hix, if_pos hix, si_s, bnd_s]
      · rw [hs' N hN, st_all hk1 (by omega)]
      · refine Rel.same (Rel.of (RelP.wy (n := n) (t := t) (b := b) (m := m) (mk := mk) (dr := dr) (sd := sd) (M := M) hP ⟨fun a' b' g1 g2 g3 g4 => ?_, fun l g1 g2 => ?_⟩ (fun a' j _ q2 _ => si_a _ _ q2))) (hS _ _)
        · rw [si_a _ _ (by decide)]; exact hW.1 a' b' g1 g2 g3 g4
        · by_cases q : l = k
          · subst q
            exact Or.inr (si_s _ _ _ _)
          · rw [si_k _ _ q]; exact hW.2 l g1 g2
    · obtain ⟨s', hs'⟩ := moso_I (n := k) (M := M) hk1 (by omega)
      refine ⟨nI (sorT k), M, soM k s' M, fun N hN => ⟨?_, ?_⟩, hh.same (hS _ _)⟩
      · rw [eU N]
        unfold f_Wa_ofTwoSorts
        dsimp only [lt]
        rw [if_pos hix, hxk, e, if_neg (nI_nm1 hsl), if_pos hix, bnd_s]
      · rw [hs' N hN, st_all hk1 (by omega)]
