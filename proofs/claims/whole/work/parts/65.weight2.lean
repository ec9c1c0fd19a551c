/-! PURE 46: weight, the call -/
theorem two_no {M M2 : Mm} {a n : Nat} {x y : Int32} (h : f_To_hasTwo a x y M = 0) (hn : n < 9) (h1 : M.1 a 0 = nI n) (h2 : M2.1 49 0 = nI n) : f_Mo_areTwo x y M2 = 0 := by
  rcases two_dec (M2 := M2) x y hn h1 h2 with ⟨i, j, hi, hj, hij, rfl, rfl⟩ | ⟨-, e⟩
  · rw [two_yes hn h1 hi hj hij] at h; exact absurd h h10
  · exact e
theorem Same.we {M M1 : Mm} (h : ∀ a j, ¬ (24 ≤ a ∧ a ≤ 29) → M1.1 a j = M.1 a j) : Same M M1 := fun a j r => h a j (fun z => by
  rcases (show a = 24 ∨ a = 25 ∨ a = 26 ∨ a = 27 ∨ a = 28 ∨ a = 29 by omega) with rfl | rfl | rfl | rfl | rfl | rfl <;> exact absurd r (by simp [relv]))
theorem Same.mw {M M1 : Mm} (h : ∀ a j, a ≠ 56 → a ≠ 57 → a ≠ 58 → M1.1 a j = M.1 a j) : Same M M1 := fun a j r => h a j (fun z => by rw [z] at r; exact absurd r (by simp [relv])) (fun z => by rw [z] at r; exact absurd r (by simp [relv])) (fun z => by rw [z] at r; exact absurd r (by simp [relv]))
theorem q_weight {M : Mm} (h : Rel M) (x y : Int32) : ∃ (r : Int32) (M1 M2 : Mm), (∀ N, 70000 < N → f_Uc_weight N x y M = some (r, M1) ∧ f_Mo_weight N x y M1 = some (r, M2)) ∧ Rel M2 := by
  have hh := h
  obtain ⟨n, t, b, m, mk, dr, sd, hP⟩ := h
  obtain ⟨h1, h2, h3, -⟩ := id hP
  have hn := h1.1
  have hl := np_le n hn
  have hrl : rk t (np n) ≤ np n := ctb_le _ _
  have hfs : ∀ N, 70000 < N → f_To_friendships N 1 M = some (nI (rk t (np n))) := fun N hN => fs_I (by omega) hn h2
  by_cases bad : x ≠ -1 ∧ f_To_hasTwo 1 x y M = 0
  · refine ⟨-1000000001, M, M, fun N hN => ⟨?_, ?_⟩, hh⟩
    · unfold f_Uc_weight
      dsimp only [lt]
      rw [if_neg bad.1, if_pos bad.2]
    · unfold f_Mo_weight
      dsimp only [lt]
      rw [if_neg bad.1, if_pos (two_no bad.2 hn h2.1 h3.1)]
  · have hx : x = -1 ∨ ∃ i j, i < n ∧ j < n ∧ i ≠ j ∧ x = nI i ∧ y = nI j := by
      by_cases e : x = -1
      · exact Or.inl e
      · rcases two_dec (M2 := M) x y hn h2.1 h3.1 with q | q
        · exact Or.inr q
        · exact absurd ⟨e, q.1⟩ bad
    have enU : ∀ N, f_Uc_weight N x y M = (f_To_friendships N 1 M).bind fun vu2 => if vu2 ≤ 8 then (f_We_solve N 1 M).bind fun vu4 => (if x = (-1) then some (vu4.1 24 6, vu4) else if (vu4.1 24 6) = (-1) then some (vu4.1 24 6, vu4) else (f_We_weightOf N x y vu4).bind fun vu8 => some (vu8, vu4)) else some ((-1000000003), M) := fun N => by
      unfold f_Uc_weight
      dsimp only [lt]
      rcases hx with e | ⟨i, j, hi, hj, hij, e1, e2⟩
      · rw [if_pos e]
      · by_cases e : x = -1
        · rw [if_pos e]
        · rw [if_neg e, e1, e2, two_yes hn h2.1 hi hj hij, if_neg h10]
    have enM : ∀ N (M1 : Mm), M1.1 49 0 = nI n → f_Mo_weight N x y M1 = (f_Mo_bits N (M1.1 49 1)).bind fun vu2 => if vu2 ≤ 8 then (f_Mo_findWeights N M1).bind fun vu4 => (if x = (-1) then some (vu4.1, vu4.2) else if 0 ≤ vu4.1 then L_Mo_weight_54 N x y vu4.2 N 0 0 else some (vu4.1, vu4.2)) else some ((-1000000003), M1) := fun N M1 hM1 => by
      unfold f_Mo_weight
      dsimp only [lt]
      rcases hx with e | ⟨i, j, hi, hj, hij, e1, e2⟩
      · rw [if_pos e]
      · by_cases e : x = -1
        · rw [if_pos e]
        · rw [if_neg e, e1, e2, are_yes hn hM1 hi hj hij, if_neg h10]
    by_cases h8 : rk t (np n) ≤ 8
    · have s8 : nI (rk t (np n)) ≤ 8 := nI_le (b := 8) h8 (by decide)
      obtain ⟨M1, a1, a2, a3, a4⟩ := sol_I hn h8 h2
      have hS := Same.we a4
      have g3 := h3.same hS
      have hbt : ∀ N, 70000 < N → f_Mo_bits N (nI t) = some (nI (rk t (np n))) := fun N hN => bits_T (by omega) hn h1.2.1
      have eU : ∀ N, 70000 < N → f_Uc_weight N x y M = (if x = (-1) then some (M1.1 24 6, M1) else if (M1.1 24 6) = (-1) then some (M1.1 24 6, M1) else (f_We_weightOf N x y M1).bind fun vu8 => some (vu8, M1)) := fun N hN => by
        rw [enU, hfs N hN, bnd_s, if_pos s8, a1 N (by omega), bnd_s]
      rcases a2 with ⟨G, C, hLW, e6, e27⟩ | ⟨hNW, e6⟩
      · have hG := hLW.1
        have hG5 := hLW.2.1
        rcases fw_I (M := M1) hn h1.2.1 h8 g3.1 g3.2.1 with ⟨G', C', M2, f1, f2, f3, f4⟩ | ⟨M2, f1, f2, f4⟩
        · obtain ⟨eG, eC⟩ := LW_u f1 hLW
          subst eG eC
          have hRel : Rel M2 := hh.same (hS.tr (Same.mw f4))
          have eM : ∀ N, 70000 < N → f_Mo_weight N x y M1 = (if x = (-1) then some (nI G', M2) else L_Mo_weight_54 N x y M2 N 0 0) := fun N hN => by
            rw [enM N M1 g3.1, g3.2.1, hbt N hN, bnd_s, if_pos s8, f2 N hN, bnd_s, if_pos (nI_pos' (show G' < 2 ^ 31 by omega))]
          rcases hx with e | ⟨i, j, hi, hj, hij, rfl, rfl⟩
          · refine ⟨nI G', M1, M2, fun N hN => ⟨?_, ?_⟩, hRel⟩
            · rw [eU N hN, if_pos e, e6]
            · rw [eM N hN, if_pos e]
          · have nm : ¬ nI i = -1 := nI_nm1 (by omega)
            refine ⟨nI (vlN n t (pn n i j) (rk t (np n)) (wc G' (rk t (np n)) C')), M1, M2, fun N hN => ⟨?_, ?_⟩, hRel⟩
            · rw [eU N hN, if_neg nm, e6, if_neg (nI_nm1 (by omega))]
              unfold f_We_weightOf
              dsimp only [lt]
              rw [min_II (by omega) (by omega), max_II (by omega) (by omega)]
              have hmm : pn n (min i j) (max i j) = pn n i j := by
                rcases Nat.lt_or_gt_of_ne hij with q | q
                · rw [Nat.min_eq_left (by omega), Nat.max_eq_right (by omega)]
                · rw [Nat.min_eq_right (by omega), Nat.max_eq_left (by omega), pn_comm (fun z => hij z.symm)]
              have hw := wo16 N (M := M1) (fun xu4 => if inb xu4 8 = true then some (M1.1 27 (Int32.toNatClampNeg xu4)) else none) hn h8 a3 (show min i j < max i j by omega) (show max i j < n by omega)
              rw [hmm] at hw
              have hpl := pn_lt n hn i hi j hj hij
              by_cases z : t.testBit (pn n i j) = true
              · have hr : rk t (pn n i j + 1) ≤ rk t (np n) := rk_mono (by omega)
                rw [rk_s, if_pos z] at hr
                have h54 := hw.1 z (rk t (pn n i j)) 0 N (by omega) (by omega)
                have h54' : L_We_weightOf_16 N M1 (nI (min i j)) (nI (max i j)) (fun xu4 => if inb xu4 8 = true then some (M1.1 27 (Int32.toNatClampNeg xu4)) else none) N 0 = some (nI (wc G' (rk t (np n)) C' (rk t (pn n i j)))) := by
                  refine h54.trans ?_
                  rw [if_pos (inb_nI (by omega) (by decide)), ix_nI (by omega), e27 _ (by omega)]
                rw [h54', bnd_s]
                unfold vlN
                rw [if_pos ⟨z, by omega⟩]
              · have h54 : L_We_weightOf_16 N M1 (nI (min i j)) (nI (max i j)) (fun xu4 => if inb xu4 8 = true then some (M1.1 27 (Int32.toNatClampNeg xu4)) else none) N 0 = some 0 := hw.2 z (rk t (np n)) 0 N (by omega) (by omega)
                rw [h54, bnd_s]
                unfold vlN
                rw [if_neg (fun v => z v.1)]
                rfl
            · rw [eM N hN, if_neg nm]
              have h54 := wt54 N (w := wc G' (rk t (np n)) C') (M := M2) (by omega) hn h1.2.1 h8 hi hj hij ((f4 _ _ (by decide) (by decide) (by decide)).trans g3.1) ((f4 _ _ (by decide) (by decide) (by decide)).trans g3.2.1) f3 (rk t (np n)) 0 N (by omega) (by omega)
              have e0 : vlN n t (pn n i j) 0 (wc G' (rk t (np n)) C') = 0 := if_neg (by omega)
              rw [e0] at h54
              exact h54
        · exact (LW_n hLW f1).elim
      · rcases fw_I (M := M1) hn h1.2.1 h8 g3.1 g3.2.1 with ⟨G', C', M2, f1, f2, f3, f4⟩ | ⟨M2, f1, f2, f4⟩
        · exact (LW_n f1 hNW).elim
        · refine ⟨-1, M1, M2, fun N hN => ⟨?_, ?_⟩, hh.same (hS.tr (Same.mw f4))⟩
          · rw [eU N hN, e6]
            by_cases e : x = -1
            · rw [if_pos e]
            · rw [if_neg e, if_pos rfl]
          · rw [enM N M1 g3.1, g3.2.1, hbt N hN, bnd_s, if_pos s8, f2 N hN, bnd_s]
            by_cases e : x = -1
            · rw [if_pos e]
            · rw [if_neg e, if_neg m1n]
    · have s8 : ¬ nI (rk t (np n)) ≤ 8 := nI_ge (a := 8) (by omega) (by omega)
      refine ⟨-1000000003, M, M, fun N hN => ⟨?_, ?_⟩, hh⟩
      · rw [enU, hfs N hN, bnd_s, if_neg s8]
      · have hbt : f_Mo_bits N (nI t) = some (nI (rk t (np n))) := bits_T (by omega) hn h1.2.1
        rw [enM N M h3.1, h3.2.1, hbt, bnd_s, if_neg s8]
