/-! PURE 70: one call of the law's loop -/
theorem Rel.fault_eq {M : Mm} (h : Rel M) : f_Uc_fault M = f_Mo_fault M := by
  obtain ⟨n, t, b, m, mk, dr, sd, _, _, _, _, _, hF, _⟩ := h
  exact hF
set_option maxRecDepth 100000 in
set_option maxHeartbeats 4000000 in
theorem law_step {G : GT} {z : Nat} {M : Mm} (hn : g_n G ≤ 2560) (h : Rel M) (hz : z + 5 ≤ g_n G) : ∃ (M2 : Mm) (K : Nat), Rel M2 ∧ ∀ N nu, K < N → L_Lw_law_18 N G (nu + 1) (nI z) M = L_Lw_law_18 N G nu (nI (z + 5)) M2 := by
  have hlt : ¬ ((Int32.ofNat (g_n G)) - 5 < nI z) := by
    rw [show Int32.ofNat (g_n G) - 5 = nI (g_n G - 5) from pk_sub (b := 5) (by omega)]
    exact nI_nlt (by omega) (by omega)
  have i0 : inb (nI z) (g_n G) = true := inb_nI (by omega) (by omega)
  have i1 : inb (nI z + 1) (g_n G) = true := show inb (nI z + nI 1) (g_n G) = true by rw [nI_add]; exact inb_nI (by omega) (by omega)
  have i2 : inb (nI z + 2) (g_n G) = true := show inb (nI z + nI 2) (g_n G) = true by rw [nI_add]; exact inb_nI (by omega) (by omega)
  have i3 : inb (nI z + 3) (g_n G) = true := show inb (nI z + nI 3) (g_n G) = true by rw [nI_add]; exact inb_nI (by omega) (by omega)
  have i4 : inb (nI z + 4) (g_n G) = true := show inb (nI z + nI 4) (g_n G) = true by rw [nI_add]; exact inb_nI (by omega) (by omega)
  have n5 : nI z + 5 = nI (z + 5) := nI_add z 5
  generalize hw : (g_xs G (Int32.toNatClampNeg (nI z)) &&& 31) = w
  by_cases e0 : w = 0
  · obtain ⟨r, M1, M2, g1, g2⟩ := q_feed h (g_xs G (Int32.toNatClampNeg (nI z + 1))) ((((g_xs G (Int32.toNatClampNeg (nI z + 2))).toInt64) <<< (((32 : Int32)).toInt64 &&& 63)) ||| (((g_xs G (Int32.toNatClampNeg (nI z + 3))).toInt64) &&& 4294967295))
    refine ⟨M2, 9, g2, fun N nu hN => ?_⟩
    obtain ⟨g3, g4⟩ := g1 N hN
    rw [L_Lw_law_18, if_neg hlt, if_pos i0]
    dsimp only [lt]
    rw [hw, if_pos e0]
    simp only [i1, i2, i3, i4, if_true, Option.bind_some, n5, g3, g4]
  by_cases e1 : w = 1
  · obtain ⟨r, M1, M2, g1, g2⟩ := q_town h 
    refine ⟨M2, 401, g2, fun N nu hN => ?_⟩
    obtain ⟨g3, g4⟩ := g1 N hN
    rw [L_Lw_law_18, if_neg hlt, if_pos i0]
    dsimp only [lt]
    rw [hw, if_neg e0, if_pos e1]
    simp only [i1, i2, i3, i4, if_true, Option.bind_some, n5, g3, g4]
  by_cases e2 : w = 2
  · have g3 : f_Uc_fault M = f_Mo_fault M := h.fault_eq
    refine ⟨M, 0, h, fun N nu hN => ?_⟩
    rw [L_Lw_law_18, if_neg hlt, if_pos i0]
    dsimp only [lt]
    rw [hw, if_neg e0, if_neg e1, if_pos e2]
    simp only [i1, i2, i3, i4, if_true, Option.bind_some, n5, g3]
  by_cases e3 : w = 3
  · obtain ⟨r, M2, g1, g2⟩ := q_told h (g_xs G (Int32.toNatClampNeg (nI z + 1)))
    refine ⟨M2, 28, h.same g2, fun N nu hN => ?_⟩
    obtain ⟨g3, g4⟩ := g1 N hN
    rw [L_Lw_law_18, if_neg hlt, if_pos i0]
    dsimp only [lt]
    rw [hw, if_neg e0, if_neg e1, if_neg e2, if_pos e3]
    simp only [i1, i2, i3, i4, if_true, Option.bind_some, n5, g3, g4]
  by_cases e4 : w = 4
  · refine ⟨M, 30, h, fun N nu hN => ?_⟩
    obtain ⟨r, g3, g4⟩ := q_count (N := N) h (g_xs G (Int32.toNatClampNeg (nI z + 1))) hN (fun n t p h1 h2 h3 => ci_I (by omega) h1 h2 h3)
    rw [L_Lw_law_18, if_neg hlt, if_pos i0]
    dsimp only [lt]
    rw [hw, if_neg e0, if_neg e1, if_neg e2, if_neg e3, if_pos e4]
    simp only [i1, i2, i3, i4, if_true, Option.bind_some, n5, g3, g4]
  by_cases e5 : w = 5
  · refine ⟨M, 30, h, fun N nu hN => ?_⟩
    obtain ⟨r, g3, g4⟩ := q_friends (N := N) h (g_xs G (Int32.toNatClampNeg (nI z + 1))) (by omega)
    rw [L_Lw_law_18, if_neg hlt, if_pos i0]
    dsimp only [lt]
    rw [hw, if_neg e0, if_neg e1, if_neg e2, if_neg e3, if_neg e4, if_pos e5]
    simp only [i1, i2, i3, i4, if_true, Option.bind_some, n5, g3, g4]
  by_cases e6 : w = 6
  · obtain ⟨r, M2, g1, g2⟩ := q_alike h (g_xs G (Int32.toNatClampNeg (nI z + 1)))
    refine ⟨M2, 28, h.same g2, fun N nu hN => ?_⟩
    obtain ⟨g3, g4⟩ := g1 N hN
    rw [L_Lw_law_18, if_neg hlt, if_pos i0]
    dsimp only [lt]
    rw [hw, if_neg e0, if_neg e1, if_neg e2, if_neg e3, if_neg e4, if_neg e5, if_pos e6]
    simp only [i1, i2, i3, i4, if_true, Option.bind_some, n5, g3, g4]
  by_cases e7 : w = 7
  · refine ⟨M, 30, h, fun N nu hN => ?_⟩
    have g3 := q_pair (N := N) h (g_xs G (Int32.toNatClampNeg (nI z + 1))) (g_xs G (Int32.toNatClampNeg (nI z + 2))) (by omega)
    rw [L_Lw_law_18, if_neg hlt, if_pos i0]
    dsimp only [lt]
    rw [hw, if_neg e0, if_neg e1, if_neg e2, if_neg e3, if_neg e4, if_neg e5, if_neg e6, if_pos e7]
    simp only [i1, i2, i3, i4, if_true, Option.bind_some, n5, g3]
  by_cases e8 : w = 8
  · by_cases b0 : (g_xs G (Int32.toNatClampNeg (nI z + 3))) = 0
    · obtain ⟨r, M1, M2, g3, g1, g2⟩ := q_tie h (g_xs G (Int32.toNatClampNeg (nI z + 1))) (g_xs G (Int32.toNatClampNeg (nI z + 2))) false
      refine ⟨M2, 8, g2, fun N nu hN => ?_⟩
      have g4 := g1 N hN
      rw [if_neg (by decide)] at g3 g4
      rw [L_Lw_law_18, if_neg hlt, if_pos i0]
      dsimp only [lt]
      rw [hw, if_neg e0, if_neg e1, if_neg e2, if_neg e3, if_neg e4, if_neg e5, if_neg e6, if_neg e7, if_pos e8]
      simp only [i1, i2, i3, i4, if_true, Option.bind_some, n5, b0, if_false, g3, g4]
    · obtain ⟨r, M1, M2, g3, g1, g2⟩ := q_tie h (g_xs G (Int32.toNatClampNeg (nI z + 1))) (g_xs G (Int32.toNatClampNeg (nI z + 2))) true
      refine ⟨M2, 8, g2, fun N nu hN => ?_⟩
      have g4 := g1 N hN
      rw [if_pos rfl] at g3 g4
      rw [L_Lw_law_18, if_neg hlt, if_pos i0]
      dsimp only [lt]
      rw [hw, if_neg e0, if_neg e1, if_neg e2, if_neg e3, if_neg e4, if_neg e5, if_neg e6, if_neg e7, if_pos e8]
      simp only [i1, i2, i3, i4, if_true, Option.bind_some, n5, b0, if_false, g3, g4]
  by_cases e9 : w = 9
  · obtain ⟨r, M1, M2, g3, g1, g2⟩ := q_bar h (g_xs G (Int32.toNatClampNeg (nI z + 1))) (g_xs G (Int32.toNatClampNeg (nI z + 2))) (g_xs G (Int32.toNatClampNeg (nI z + 3)))
    refine ⟨M2, 8, g2, fun N nu hN => ?_⟩
    have g4 := g1 N hN
    rw [L_Lw_law_18, if_neg hlt, if_pos i0]
    dsimp only [lt]
    rw [hw, if_neg e0, if_neg e1, if_neg e2, if_neg e3, if_neg e4, if_neg e5, if_neg e6, if_neg e7, if_neg e8, if_pos e9]
    simp only [i1, i2, i3, i4, if_true, Option.bind_some, n5, g3, g4]
  by_cases e10 : w = 10
  · obtain ⟨r, M1, M2, g1, g2⟩ := q_birth h 
    refine ⟨M2, 9, g2, fun N nu hN => ?_⟩
    obtain ⟨g3, g4⟩ := g1 N hN
    rw [L_Lw_law_18, if_neg hlt, if_pos i0]
    dsimp only [lt]
    rw [hw, if_neg e0, if_neg e1, if_neg e2, if_neg e3, if_neg e4, if_neg e5, if_neg e6, if_neg e7, if_neg e8, if_neg e9, if_pos e10]
    simp only [i1, i2, i3, i4, if_true, Option.bind_some, n5, g3, g4]
  by_cases e11 : w = 11
  · obtain ⟨r, M1, M2, g1, g2⟩ := q_death h (g_xs G (Int32.toNatClampNeg (nI z + 1)))
    refine ⟨M2, 9, g2, fun N nu hN => ?_⟩
    obtain ⟨g3, g4⟩ := g1 N hN
    rw [L_Lw_law_18, if_neg hlt, if_pos i0]
    dsimp only [lt]
    rw [hw, if_neg e0, if_neg e1, if_neg e2, if_neg e3, if_neg e4, if_neg e5, if_neg e6, if_neg e7, if_neg e8, if_neg e9, if_neg e10, if_pos e11]
    simp only [i1, i2, i3, i4, if_true, Option.bind_some, n5, g3, g4]
  by_cases e12 : w = 12
  · refine ⟨M, 0, h, fun N nu hN => ?_⟩
    have g3 := q_made (g_xs G (Int32.toNatClampNeg (nI z + 1))) (g_xs G (Int32.toNatClampNeg (nI z + 2))) (g_xs G (Int32.toNatClampNeg (nI z + 3))) (g_xs G (Int32.toNatClampNeg (nI z + 4)))
    rw [L_Lw_law_18, if_neg hlt, if_pos i0]
    dsimp only [lt]
    rw [hw, if_neg e0, if_neg e1, if_neg e2, if_neg e3, if_neg e4, if_neg e5, if_neg e6, if_neg e7, if_neg e8, if_neg e9, if_neg e10, if_neg e11, if_pos e12]
    simp only [i1, i2, i3, i4, if_true, Option.bind_some, n5, g3]
  by_cases e13 : w = 13
  · obtain ⟨r, M1, M2, K, g1, g2⟩ := q_good h (g_xs G (Int32.toNatClampNeg (nI z + 1)))
    refine ⟨M2, K, g2, fun N nu hN => ?_⟩
    obtain ⟨g3, g4⟩ := g1 N hN
    rw [L_Lw_law_18, if_neg hlt, if_pos i0]
    dsimp only [lt]
    rw [hw, if_neg e0, if_neg e1, if_neg e2, if_neg e3, if_neg e4, if_neg e5, if_neg e6, if_neg e7, if_neg e8, if_neg e9, if_neg e10, if_neg e11, if_neg e12, if_pos e13]
    simp only [i1, i2, i3, i4, if_true, Option.bind_some, n5, g3, g4]
  by_cases e14 : w = 14
  · obtain ⟨r, M1, M2, K, g1, g2⟩ := q_born h 
    refine ⟨M2, K, g2, fun N nu hN => ?_⟩
    obtain ⟨g3, g4⟩ := g1 N hN
    rw [L_Lw_law_18, if_neg hlt, if_pos i0]
    dsimp only [lt]
    rw [hw, if_neg e0, if_neg e1, if_neg e2, if_neg e3, if_neg e4, if_neg e5, if_neg e6, if_neg e7, if_neg e8, if_neg e9, if_neg e10, if_neg e11, if_neg e12, if_neg e13, if_pos e14]
    simp only [i1, i2, i3, i4, if_true, Option.bind_some, n5, g3, g4]
  by_cases e15 : w = 15
  · obtain ⟨r, M1, M2, K, g1, g2⟩ := q_dies h (g_xs G (Int32.toNatClampNeg (nI z + 1)))
    refine ⟨M2, K, g2, fun N nu hN => ?_⟩
    obtain ⟨g3, g4⟩ := g1 N hN
    rw [L_Lw_law_18, if_neg hlt, if_pos i0]
    dsimp only [lt]
    rw [hw, if_neg e0, if_neg e1, if_neg e2, if_neg e3, if_neg e4, if_neg e5, if_neg e6, if_neg e7, if_neg e8, if_neg e9, if_neg e10, if_neg e11, if_neg e12, if_neg e13, if_neg e14, if_pos e15]
    simp only [i1, i2, i3, i4, if_true, Option.bind_some, n5, g3, g4]
  by_cases e16 : w = 16
  · obtain ⟨r, M1, M2, g1, g2⟩ := q_nearest h (g_xs G (Int32.toNatClampNeg (nI z + 1)))
    refine ⟨M2, 40000, g2, fun N nu hN => ?_⟩
    obtain ⟨g3, g4⟩ := g1 N hN
    rw [L_Lw_law_18, if_neg hlt, if_pos i0]
    dsimp only [lt]
    rw [hw, if_neg e0, if_neg e1, if_neg e2, if_neg e3, if_neg e4, if_neg e5, if_neg e6, if_neg e7, if_neg e8, if_neg e9, if_neg e10, if_neg e11, if_neg e12, if_neg e13, if_neg e14, if_neg e15, if_pos e16]
    simp only [i1, i2, i3, i4, if_true, Option.bind_some, n5, g3, g4]
  by_cases e17 : w = 17
  · obtain ⟨r, M1, M2, g1, g2⟩ := q_even h (g_xs G (Int32.toNatClampNeg (nI z + 1))) (g_xs G (Int32.toNatClampNeg (nI z + 2)))
    refine ⟨M2, 40000, g2, fun N nu hN => ?_⟩
    obtain ⟨g3, g4⟩ := g1 N hN
    rw [L_Lw_law_18, if_neg hlt, if_pos i0]
    dsimp only [lt]
    rw [hw, if_neg e0, if_neg e1, if_neg e2, if_neg e3, if_neg e4, if_neg e5, if_neg e6, if_neg e7, if_neg e8, if_neg e9, if_neg e10, if_neg e11, if_neg e12, if_neg e13, if_neg e14, if_neg e15, if_neg e16, if_pos e17]
    simp only [i1, i2, i3, i4, if_true, Option.bind_some, n5, g3, g4]
  by_cases e18 : w = 18
  · obtain ⟨r, M1, M2, g3, g4, g2⟩ := q_tell h (g_xs G (Int32.toNatClampNeg (nI z + 1))) (g_xs G (Int32.toNatClampNeg (nI z + 2)))
    refine ⟨M2, 0, g2, fun N nu hN => ?_⟩
    rw [L_Lw_law_18, if_neg hlt, if_pos i0]
    dsimp only [lt]
    rw [hw, if_neg e0, if_neg e1, if_neg e2, if_neg e3, if_neg e4, if_neg e5, if_neg e6, if_neg e7, if_neg e8, if_neg e9, if_neg e10, if_neg e11, if_neg e12, if_neg e13, if_neg e14, if_neg e15, if_neg e16, if_neg e17, if_pos e18]
    simp only [i1, i2, i3, i4, if_true, Option.bind_some, n5, g3, g4]
  by_cases e19 : w = 19
  · obtain ⟨r, M1, M2, g1, g2⟩ := q_canBe h 
    refine ⟨M2, 40000, g2, fun N nu hN => ?_⟩
    obtain ⟨g3, g4⟩ := g1 N hN
    rw [L_Lw_law_18, if_neg hlt, if_pos i0]
    dsimp only [lt]
    rw [hw, if_neg e0, if_neg e1, if_neg e2, if_neg e3, if_neg e4, if_neg e5, if_neg e6, if_neg e7, if_neg e8, if_neg e9, if_neg e10, if_neg e11, if_neg e12, if_neg e13, if_neg e14, if_neg e15, if_neg e16, if_neg e17, if_neg e18, if_pos e19]
    simp only [i1, i2, i3, i4, if_true, Option.bind_some, n5, g3, g4]
  by_cases e20 : w = 20
  · obtain ⟨r, M1, M2, g1, g2⟩ := q_sure h (g_xs G (Int32.toNatClampNeg (nI z + 1))) (g_xs G (Int32.toNatClampNeg (nI z + 2)))
    refine ⟨M2, 40000, g2, fun N nu hN => ?_⟩
    obtain ⟨g3, g4⟩ := g1 N hN
    rw [L_Lw_law_18, if_neg hlt, if_pos i0]
    dsimp only [lt]
    rw [hw, if_neg e0, if_neg e1, if_neg e2, if_neg e3, if_neg e4, if_neg e5, if_neg e6, if_neg e7, if_neg e8, if_neg e9, if_neg e10, if_neg e11, if_neg e12, if_neg e13, if_neg e14, if_neg e15, if_neg e16, if_neg e17, if_neg e18, if_neg e19, if_pos e20]
    simp only [i1, i2, i3, i4, if_true, Option.bind_some, n5, g3, g4]
  by_cases e21 : w = 21
  · obtain ⟨r, M1, M2, g1, g2⟩ := q_liar h 
    refine ⟨M2, 40000, g2, fun N nu hN => ?_⟩
    obtain ⟨g3, g4⟩ := g1 N hN
    rw [L_Lw_law_18, if_neg hlt, if_pos i0]
    dsimp only [lt]
    rw [hw, if_neg e0, if_neg e1, if_neg e2, if_neg e3, if_neg e4, if_neg e5, if_neg e6, if_neg e7, if_neg e8, if_neg e9, if_neg e10, if_neg e11, if_neg e12, if_neg e13, if_neg e14, if_neg e15, if_neg e16, if_neg e17, if_neg e18, if_neg e19, if_neg e20, if_pos e21]
    simp only [i1, i2, i3, i4, if_true, Option.bind_some, n5, g3, g4]
  by_cases e22 : w = 22
  · obtain ⟨r, M1, M2, g1, g2⟩ := q_weight h (g_xs G (Int32.toNatClampNeg (nI z + 1))) (g_xs G (Int32.toNatClampNeg (nI z + 2)))
    refine ⟨M2, 70000, g2, fun N nu hN => ?_⟩
    obtain ⟨g3, g4⟩ := g1 N hN
    rw [L_Lw_law_18, if_neg hlt, if_pos i0]
    dsimp only [lt]
    rw [hw, if_neg e0, if_neg e1, if_neg e2, if_neg e3, if_neg e4, if_neg e5, if_neg e6, if_neg e7, if_neg e8, if_neg e9, if_neg e10, if_neg e11, if_neg e12, if_neg e13, if_neg e14, if_neg e15, if_neg e16, if_neg e17, if_neg e18, if_neg e19, if_neg e20, if_neg e21, if_pos e22]
    simp only [i1, i2, i3, i4, if_true, Option.bind_some, n5, g3, g4]
  by_cases e23 : w = 23
  · obtain ⟨r, M1, g1, g2⟩ := q_sides h (g_xs G (Int32.toNatClampNeg (nI z + 1))) (g_xs G (Int32.toNatClampNeg (nI z + 2)))
    refine ⟨M1, 70000, g2, fun N nu hN => ?_⟩
    obtain ⟨g3, g4⟩ := g1 N hN
    rw [L_Lw_law_18, if_neg hlt, if_pos i0]
    dsimp only [lt]
    rw [hw, if_neg e0, if_neg e1, if_neg e2, if_neg e3, if_neg e4, if_neg e5, if_neg e6, if_neg e7, if_neg e8, if_neg e9, if_neg e10, if_neg e11, if_neg e12, if_neg e13, if_neg e14, if_neg e15, if_neg e16, if_neg e17, if_neg e18, if_neg e19, if_neg e20, if_neg e21, if_neg e22, if_pos e23]
    simp only [i1, i2, i3, i4, if_true, Option.bind_some, n5, g3, g4]
  by_cases e24 : w = 24
  · obtain ⟨r, M1, M2, g1, g2⟩ := q_sorts h (g_xs G (Int32.toNatClampNeg (nI z + 1)))
    refine ⟨M2, 70000, g2, fun N nu hN => ?_⟩
    obtain ⟨g3, g4⟩ := g1 N hN
    rw [L_Lw_law_18, if_neg hlt, if_pos i0]
    dsimp only [lt]
    rw [hw, if_neg e0, if_neg e1, if_neg e2, if_neg e3, if_neg e4, if_neg e5, if_neg e6, if_neg e7, if_neg e8, if_neg e9, if_neg e10, if_neg e11, if_neg e12, if_neg e13, if_neg e14, if_neg e15, if_neg e16, if_neg e17, if_neg e18, if_neg e19, if_neg e20, if_neg e21, if_neg e22, if_neg e23, if_pos e24]
    simp only [i1, i2, i3, i4, if_true, Option.bind_some, n5, g3, g4]
  by_cases e25 : w = 25
  · by_cases b0 : (g_xs G (Int32.toNatClampNeg (nI z + 3))) = 0
    · obtain ⟨r, M1, M2, g3, g4, g2⟩ := q_write h (g_xs G (Int32.toNatClampNeg (nI z + 1))) (g_xs G (Int32.toNatClampNeg (nI z + 2))) (c := 0) (by decide)
      refine ⟨M2, 8, g2, fun N nu hN => ?_⟩
      rw [show nI 0 = 0 from rfl] at g3 g4
      rw [L_Lw_law_18, if_neg hlt, if_pos i0]
      dsimp only [lt]
      rw [hw, if_neg e0, if_neg e1, if_neg e2, if_neg e3, if_neg e4, if_neg e5, if_neg e6, if_neg e7, if_neg e8, if_neg e9, if_neg e10, if_neg e11, if_neg e12, if_neg e13, if_neg e14, if_neg e15, if_neg e16, if_neg e17, if_neg e18, if_neg e19, if_neg e20, if_neg e21, if_neg e22, if_neg e23, if_neg e24, if_pos e25]
      simp only [i1, i2, i3, i4, if_true, Option.bind_some, n5, b0, if_false, g3, g4]
    · obtain ⟨r, M1, M2, g3, g4, g2⟩ := q_write h (g_xs G (Int32.toNatClampNeg (nI z + 1))) (g_xs G (Int32.toNatClampNeg (nI z + 2))) (c := 1) (by decide)
      refine ⟨M2, 8, g2, fun N nu hN => ?_⟩
      rw [show nI 1 = 1 from rfl] at g3 g4
      rw [L_Lw_law_18, if_neg hlt, if_pos i0]
      dsimp only [lt]
      rw [hw, if_neg e0, if_neg e1, if_neg e2, if_neg e3, if_neg e4, if_neg e5, if_neg e6, if_neg e7, if_neg e8, if_neg e9, if_neg e10, if_neg e11, if_neg e12, if_neg e13, if_neg e14, if_neg e15, if_neg e16, if_neg e17, if_neg e18, if_neg e19, if_neg e20, if_neg e21, if_neg e22, if_neg e23, if_neg e24, if_pos e25]
      simp only [i1, i2, i3, i4, if_true, Option.bind_some, n5, b0, if_false, g3, g4]
  by_cases e26 : w = 26
  · obtain ⟨r, M1, M2, g3, g4, g2⟩ := q_tear h
    refine ⟨M2, 0, g2, fun N nu hN => ?_⟩
    rw [L_Lw_law_18, if_neg hlt, if_pos i0]
    dsimp only [lt]
    rw [hw, if_neg e0, if_neg e1, if_neg e2, if_neg e3, if_neg e4, if_neg e5, if_neg e6, if_neg e7, if_neg e8, if_neg e9, if_neg e10, if_neg e11, if_neg e12, if_neg e13, if_neg e14, if_neg e15, if_neg e16, if_neg e17, if_neg e18, if_neg e19, if_neg e20, if_neg e21, if_neg e22, if_neg e23, if_neg e24, if_neg e25, if_pos e26]
    simp only [i1, i2, i3, i4, if_true, Option.bind_some, n5, g3, g4]
  by_cases e27 : w = 27
  · obtain ⟨r, M1, M2, g1, g2⟩ := q_judge h (g_xs G (Int32.toNatClampNeg (nI z + 1)))
    refine ⟨M2, 40, g2, fun N nu hN => ?_⟩
    obtain ⟨g3, g4⟩ := g1 N hN
    rw [L_Lw_law_18, if_neg hlt, if_pos i0]
    dsimp only [lt]
    rw [hw, if_neg e0, if_neg e1, if_neg e2, if_neg e3, if_neg e4, if_neg e5, if_neg e6, if_neg e7, if_neg e8, if_neg e9, if_neg e10, if_neg e11, if_neg e12, if_neg e13, if_neg e14, if_neg e15, if_neg e16, if_neg e17, if_neg e18, if_neg e19, if_neg e20, if_neg e21, if_neg e22, if_neg e23, if_neg e24, if_neg e25, if_neg e26, if_pos e27]
    simp only [i1, i2, i3, i4, if_true, Option.bind_some, n5, g3, g4]
  by_cases e28 : w = 28
  · obtain ⟨r, M1, M2, g1, g2⟩ := q_drift h (g_xs G (Int32.toNatClampNeg (nI z + 1)))
    refine ⟨M2, 100, g2, fun N nu hN => ?_⟩
    obtain ⟨g3, g4⟩ := g1 N hN
    rw [L_Lw_law_18, if_neg hlt, if_pos i0]
    dsimp only [lt]
    rw [hw, if_neg e0, if_neg e1, if_neg e2, if_neg e3, if_neg e4, if_neg e5, if_neg e6, if_neg e7, if_neg e8, if_neg e9, if_neg e10, if_neg e11, if_neg e12, if_neg e13, if_neg e14, if_neg e15, if_neg e16, if_neg e17, if_neg e18, if_neg e19, if_neg e20, if_neg e21, if_neg e22, if_neg e23, if_neg e24, if_neg e25, if_neg e26, if_neg e27, if_pos e28]
    simp only [i1, i2, i3, i4, if_true, Option.bind_some, n5, g3, g4]
  by_cases e29 : w = 29
  · obtain ⟨r, M1, M2, g3, g4, g2⟩ := q_seed h (g_xs G (Int32.toNatClampNeg (nI z + 1)))
    refine ⟨M2, 0, g2, fun N nu hN => ?_⟩
    rw [L_Lw_law_18, if_neg hlt, if_pos i0]
    dsimp only [lt]
    rw [hw, if_neg e0, if_neg e1, if_neg e2, if_neg e3, if_neg e4, if_neg e5, if_neg e6, if_neg e7, if_neg e8, if_neg e9, if_neg e10, if_neg e11, if_neg e12, if_neg e13, if_neg e14, if_neg e15, if_neg e16, if_neg e17, if_neg e18, if_neg e19, if_neg e20, if_neg e21, if_neg e22, if_neg e23, if_neg e24, if_neg e25, if_neg e26, if_neg e27, if_neg e28, if_pos e29]
    simp only [i1, i2, i3, i4, if_true, Option.bind_some, n5, g3, g4]
  by_cases e30 : w = 30
  · obtain ⟨r, M1, M2, g1, g2⟩ := q_keep h (g_xs G (Int32.toNatClampNeg (nI z + 1)))
    refine ⟨M2, 8, g2, fun N nu hN => ?_⟩
    obtain ⟨g3, g4⟩ := g1 N hN
    rw [L_Lw_law_18, if_neg hlt, if_pos i0]
    dsimp only [lt]
    rw [hw, if_neg e0, if_neg e1, if_neg e2, if_neg e3, if_neg e4, if_neg e5, if_neg e6, if_neg e7, if_neg e8, if_neg e9, if_neg e10, if_neg e11, if_neg e12, if_neg e13, if_neg e14, if_neg e15, if_neg e16, if_neg e17, if_neg e18, if_neg e19, if_neg e20, if_neg e21, if_neg e22, if_neg e23, if_neg e24, if_neg e25, if_neg e26, if_neg e27, if_neg e28, if_neg e29, if_pos e30]
    simp only [i1, i2, i3, i4, if_true, Option.bind_some, n5, g3, g4]
  by_cases e31 : w = 31
  · obtain ⟨r, M1, M2, g1, g2⟩ := q_back h (g_xs G (Int32.toNatClampNeg (nI z + 1)))
    refine ⟨M2, 8, g2, fun N nu hN => ?_⟩
    obtain ⟨g3, g4⟩ := g1 N hN
    rw [L_Lw_law_18, if_neg hlt, if_pos i0]
    dsimp only [lt]
    rw [hw, if_neg e0, if_neg e1, if_neg e2, if_neg e3, if_neg e4, if_neg e5, if_neg e6, if_neg e7, if_neg e8, if_neg e9, if_neg e10, if_neg e11, if_neg e12, if_neg e13, if_neg e14, if_neg e15, if_neg e16, if_neg e17, if_neg e18, if_neg e19, if_neg e20, if_neg e21, if_neg e22, if_neg e23, if_neg e24, if_neg e25, if_neg e26, if_neg e27, if_neg e28, if_neg e29, if_neg e30, if_pos e31]
    simp only [i1, i2, i3, i4, if_true, Option.bind_some, n5, g3, g4]
  refine ⟨M, 0, h, fun N nu hN => ?_⟩
  rw [L_Lw_law_18, if_neg hlt, if_pos i0]
  dsimp only [lt]
  rw [hw, if_neg e0, if_neg e1, if_neg e2, if_neg e3, if_neg e4, if_neg e5, if_neg e6, if_neg e7, if_neg e8, if_neg e9, if_neg e10, if_neg e11, if_neg e12, if_neg e13, if_neg e14, if_neg e15, if_neg e16, if_neg e17, if_neg e18, if_neg e19, if_neg e20, if_neg e21, if_neg e22, if_neg e23, if_neg e24, if_neg e25, if_neg e26, if_neg e27, if_neg e28, if_neg e29, if_neg e30, if_neg e31]
  simp only [i1, i2, i3, i4, if_true, Option.bind_some, n5]
