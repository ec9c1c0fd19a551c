/-! PURE 25b: sides, all -/
theorem sid34 : sidT 3 4 = 144 := by decide
theorem sid43 : sidT 4 3 = 144 := by decide
theorem sid44 : sidT 4 4 = 1152 := by decide
theorem sv_all {a b : Nat} (ha1 : 1 ≤ a) (ha : a < 5) (hb1 : 1 ≤ b) (hb : b < 5) : ctb (sdG a b) (2 ^ (a * b)) = sidT a b := by
  by_cases h : a * b < 10
  · exact sv_sm a ha b hb ha1 hb1 h
  · by_cases h34 : a = 3 ∧ b = 4
    · rw [h34.1, h34.2, sv_34, sid34]
    · by_cases h43 : a = 4 ∧ b = 3
      · rw [h43.1, h43.2, sv_43, sid43]
      · by_cases h44 : a = 4 ∧ b = 4
        · rw [h44.1, h44.2, sv_44, sid44]
        · exfalso
          rcases (show a = 1 ∨ a = 2 ∨ a = 3 ∨ a = 4 by omega) with rfl | rfl | rfl | rfl <;> omega
