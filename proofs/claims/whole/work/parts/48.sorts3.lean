/-! PURE 29: sorts, the class's numbers -/
theorem mo_so {Nu Mu : Nat} (hN : Nu ≤ Mu) : ∀ (dd : Nat) (p0 p1 p2 p3 rr : Int32), f_Wa_sortedFrom Nu dd p0 p1 p2 p3 = some rr → f_Wa_sortedFrom Mu dd p0 p1 p2 p3 = some rr
  | 0, _, _, _, _, _, h => by cases h
  | dd + 1, p0, p1, p2, p3, rr, h => by
    rw [f_Wa_sortedFrom] at h ⊢
    by_cases c1 : p1 < (p0 - 1)
    · rw [if_pos c1] at h ⊢
      by_cases c2 : p2 < p0
      · rw [if_pos c2] at h ⊢
        dsimp only [lt] at h ⊢
        refine mo_bind h (fun a ha => mo_so hN dd _ _ _ _ _ ha) (fun a _ hf => ?_)
        refine mo_bind hf (fun a ha => mo_so hN dd _ _ _ _ _ ha) (fun a _ hf => ?_)
        exact mo_bind hf (fun a ha => mo_so hN dd _ _ _ _ _ ha) (fun a _ hf => hf)
      · rw [if_neg c2] at h ⊢
        refine mo_bind h (fun a ha => mo_ub0 hN ha) (fun a _ hf => ?_)
        by_cases c3 : a = 0
        · rw [if_pos c3] at hf ⊢; exact hf
        · rw [if_neg c3] at hf ⊢
          exact mo_bind hf (fun a ha => mo_so hN dd _ _ _ _ _ ha) (fun a _ hf => hf)
    · rw [if_neg c1] at h ⊢
      exact mo_bind h (fun a ha => mo_ub0 hN ha) (fun a _ hf => hf)
theorem sf_1 : f_Wa_sortedFrom 10 20 (nI 1) 0 1 0 = some (nI (sorT 1)) := by decide +kernel
theorem sf_2 : f_Wa_sortedFrom 10 20 (nI 2) 0 1 0 = some (nI (sorT 2)) := by decide +kernel
theorem sf_3 : f_Wa_sortedFrom 10 20 (nI 3) 0 1 0 = some (nI (sorT 3)) := by decide +kernel
theorem sf_4 : f_Wa_sortedFrom 10 20 (nI 4) 0 1 0 = some (nI (sorT 4)) := by decide +kernel
theorem sf3_0_0 : f_Wa_sortedFrom 10 18 (nI 5) 0 3 (nI 0) = some (nI 1728) := by decide +kernel
theorem sf3_0_1 : f_Wa_sortedFrom 10 18 (nI 5) 0 3 (nI 4097) = some (nI 1596) := by decide +kernel
theorem sf3_0_10 : f_Wa_sortedFrom 10 18 (nI 5) 0 3 (nI 32776) = some (nI 1596) := by decide +kernel
theorem sf3_1_0 : f_Wa_sortedFrom 10 18 (nI 5) 0 3 (nI 65) = some (nI 1596) := by decide +kernel
theorem sf3_1_1 : f_Wa_sortedFrom 10 18 (nI 5) 0 3 (nI 4162) = some (nI 1728) := by decide +kernel
theorem sf3_1_10 : f_Wa_sortedFrom 10 18 (nI 5) 0 3 (nI 32841) = some (nI 1596) := by decide +kernel
theorem sf3_10_0 : f_Wa_sortedFrom 10 18 (nI 5) 0 3 (nI 520) = some (nI 1596) := by decide +kernel
theorem sf3_10_1 : f_Wa_sortedFrom 10 18 (nI 5) 0 3 (nI 4617) = some (nI 1596) := by decide +kernel
theorem sf3_10_10 : f_Wa_sortedFrom 10 18 (nI 5) 0 3 (nI 33296) = some (nI 1728) := by decide +kernel
