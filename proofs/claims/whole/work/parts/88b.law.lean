/-! PURE 71: the law's loop -/
theorem low5 : ∀ g, g < 5 → nI g - 5 < (0 : Int32) := by decide +kernel
theorem law_end {G : GT} {z : Nat} {M : Mm} (hn : g_n G ≤ 2560) (hz : z ≤ 2560) (h : g_n G < z + 5) (N nu : Nat) : L_Lw_law_18 N G (nu + 1) (nI z) M = some (1, M) := by
  rw [L_Lw_law_18, if_pos]
  by_cases q : g_n G < 5
  · exact Int32.lt_of_lt_of_le (low5 _ q) (nI_pos' (by omega))
  · rw [show Int32.ofNat (g_n G) - 5 = nI (g_n G - 5) from pk_sub (b := 5) (by omega)]
    exact nI_lt (by omega) (by omega)
theorem law_loop {G : GT} (hn : g_n G ≤ 2560) : ∀ (d z : Nat) (M : Mm), z ≤ 2560 → g_n G ≤ z + 5 * d + 4 → Rel M → ∃ (K : Nat) (M' : Mm), ∀ N nu, K < N → d < nu → L_Lw_law_18 N G nu (nI z) M = some (1, M')
  | 0, z, M, hz, hd, h => ⟨0, M, fun N nu' hN hnu => by
      obtain ⟨nu, rfl⟩ : ∃ nu, nu' = nu + 1 := ⟨nu' - 1, by omega⟩
      exact law_end hn hz (by omega) N nu⟩
  | d + 1, z, M, hz, hd, h => by
    by_cases q : z + 5 ≤ g_n G
    · obtain ⟨M2, K, h2, hs⟩ := law_step hn h q
      obtain ⟨K2, M', h3⟩ := law_loop hn d (z + 5) M2 (by omega) (by omega) h2
      refine ⟨K + K2, M', fun N nu' hN hnu => ?_⟩
      obtain ⟨nu, rfl⟩ : ∃ nu, nu' = nu + 1 := ⟨nu' - 1, by omega⟩
      rw [hs N nu (by omega)]
      exact h3 N nu (by omega) (by omega)
    · refine ⟨0, M, fun N nu' hN hnu => ?_⟩
      obtain ⟨nu, rfl⟩ : ∃ nu, nu' = nu + 1 := ⟨nu' - 1, by omega⟩
      exact law_end hn hz (by omega) N nu
