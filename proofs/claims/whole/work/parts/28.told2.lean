/-! PURE 9: asNumber, told -/
theorem an_in (N : Nat) {M : Mm} {a c n t p : Nat} (ju : Int32 → Int32 → Option Int32) (hn : n < 9) (h0 : M.1 a 0 = nI n) (hr : ∀ p, p < n → M.1 c p = nI (rwo n t p)) (hp : p < n) : ∀ (d q nu : Nat), q + d = n → p < q → d < nu → L_To_asNumber_22 N a c M (nI p) ju nu (nI (bs (fun i => t.testBit i) (pr0 n p + (q - p - 1)))) (nI (2 ^ (pr0 n p + (q - p - 1)))) (nI q) = ju (nI (bs (fun i => t.testBit i) (pr0 n (p + 1)))) (nI (2 ^ pr0 n (p + 1)))
  | 0, q, nu + 1, hq, hpq, hnu => by
    have hq : q = n := by omega
    subst hq
    rw [L_To_asNumber_22, h0, if_pos (nI_le (Nat.le_refl q) (by omega)), pr_next q hn p hp]
  | d + 1, q, nu + 1, hq, hpq, hnu => by
    have ih := an_in N ju hn h0 hr hp d (q + 1) nu (by omega) (by omega) (by omega)
    have hK := pn_up (n := n) hpq
    have hb : pr0 n p + (q - p - 1) < 28 := by
      have := pn_lt n hn p hp q (by omega) (by omega)
      have := np_le n hn
      omega
    rw [show pr0 n p + (q + 1 - p - 1) = pr0 n p + (q - p - 1) + 1 by omega] at ih
    generalize hKe : pr0 n p + (q - p - 1) = K at *
    have hpw : 2 ^ K * 2 ^ 1 < 2 ^ 32 := by
      rw [← Nat.pow_add]
      exact Nat.pow_lt_pow_right (by decide) (by omega)
    have hs : nI (2 ^ K) <<< ((1 : Int32) &&& 31) = nI (2 ^ (K + 1)) := by
      have := sl_I (a := 2 ^ K) (b := 1) (by decide) hpw
      rw [Nat.pow_succ]
      exact this
    have hbit := bit_1 (a := rwo n t p) (b := q) (Nat.lt_trans (rwo_lt hn) (by decide)) (by omega)
    have e : (rwo n t p).testBit q = t.testBit K := by
      rw [rwo_bit, rwf_at hp (by omega), hK]
      simp [show q < n by omega]
    rw [e] at hbit
    rw [L_To_asNumber_22, h0, if_neg (nI_ge (by omega) (by omega)), if_pos (inb_nI (by omega) (by decide))]
    simp only [lt]
    rw [ix_nI (by omega), hr p hp, hs, nI_1]
    by_cases z : t.testBit K = true
    · rw [if_pos (hbit.mpr z), or_I, bs_or z]
      exact ih
    · rw [if_neg (fun w => z (hbit.mp w)), bs_no (g := fun i => t.testBit i) z]
      exact ih
theorem an_out (N : Nat) {M : Mm} {a c n t : Nat} (hN : 9 < N) (hn : n < 9) (h0 : M.1 a 0 = nI n) (hr : ∀ p, p < n → M.1 c p = nI (rwo n t p)) (ht : t < 2 ^ np n) : ∀ (d p nu : Nat), p + d = n → d < nu → L_To_asNumber_7 N a c M nu (nI (bs (fun i => t.testBit i) (pr0 n p))) (nI (2 ^ pr0 n p)) (nI p) = some (nI t)
  | 0, p, nu + 1, hp, hnu => by
    have hp : p = n := by omega
    subst hp
    rw [L_To_asNumber_7, h0, if_pos (nI_le (Nat.le_refl p) (by omega)), pr_end p hn, bs_self ht]
  | d + 1, p, nu + 1, hp, hnu => by
    have ih := an_out N hN hn h0 hr ht d (p + 1) nu (by omega) (by omega)
    rw [L_To_asNumber_7, h0, if_neg (nI_ge (by omega) (by omega))]
    simp only [lt]
    rw [nI_1]
    have h := an_in N (fun xu4 xu5 => L_To_asNumber_7 N a c M nu xu4 xu5 (nI (p + 1))) hn h0 hr (show p < n by omega) (n - (p + 1)) (p + 1) N (by omega) (by omega) (by omega)
    simp only [show p + 1 - p - 1 = 0 by omega, Nat.add_zero] at h
    rw [h]
    exact ih
theorem as_I {N : Nat} {M : Mm} {a c n t : Nat} (hN : 9 < N) (hn : n < 9) (h0 : M.1 a 0 = nI n) (hr : ∀ p, p < n → M.1 c p = nI (rwo n t p)) (ht : t < 2 ^ np n) : f_To_asNumber N a c M = some (nI t) := by
  have h := an_out N hN hn h0 hr ht n 0 N (by omega) (by omega)
  rw [show pr0 n 0 = 0 by unfold pr0; simp] at h
  exact h
theorem bits_T {N n t : Nat} (hN : 28 < N) (hn : n < 9) (ht : t < 2 ^ np n) : f_Mo_bits N (nI t) = some (nI (ctb (fun i => t.testBit i) (np n))) := by
  rw [bits_I hN (np_lt31 hn ht)]
  have hle := np_le n hn
  obtain ⟨d, hd⟩ : ∃ d, 28 = np n + d := ⟨28 - np n, by omega⟩
  rw [hd, ctb_ext (k := np n) (fun i hi => Nat.testBit_lt_two_pow (Nat.lt_of_lt_of_le ht (Nat.pow_le_pow_right (by decide) hi)))]
theorem Same.cn {M : Mm} {n t K : Nat} : Same M (cnM n t K M) := fun a j r => by
  refine cn_off (fun e => ?_)
  subst e
  cases r
theorem q_told {M : Mm} (h : Rel M) (x : Int32) : ∃ (r : Int32) (M2 : Mm), (∀ N, 28 < N → f_Uc_told N x M = some r ∧ f_Mo_told N x M = some (r, M2)) ∧ Same M M2 := by
  have hh := h
  obtain ⟨n, t, b, m, mk, dr, sd, h1, h2, h3, -, hT, -, hB, -⟩ := h
  obtain ⟨len, -, t1, t2, -⟩ := hT
  obtain ⟨k, -, b1', b2', -⟩ := hB
  have hn := h1.1
  have ht31 := np_lt31 h1.1 h1.2.1
  unfold f_Uc_told f_Mo_told
  by_cases e0 : x = 0
  · simp only [if_pos e0]
    exact ⟨nI n, M, fun N _ => ⟨congrArg some h2.1, by rw [h3.1]⟩, Same.rf M⟩
  simp only [if_neg e0]
  by_cases e1 : x = 1
  · simp only [if_pos e1]
    exact ⟨nI (ctb (fun i => t.testBit i) (np n)), M, fun N hN => ⟨by rw [fs_I (by omega) hn h2]; rfl, by rw [h3.2.1, bits_T hN hn h1.2.1]; rfl⟩, Same.rf M⟩
  simp only [if_neg e1]
  by_cases e2 : x = 2
  · simp only [if_pos e2]
    exact ⟨nI t, M, fun N hN => ⟨by rw [as_I (by omega) hn h2.1 (fun p hp => (h2.2.2.2 p (by omega)).1) h1.2.1]; rfl, by rw [h3.2.1]⟩, Same.rf M⟩
  simp only [if_neg e2]
  by_cases e3 : x = 3
  · simp only [if_pos e3]
    exact ⟨nI b, M, fun N hN => ⟨by rw [as_I (by omega) hn h2.1 (fun p hp => (h2.2.2.2 p (by omega)).2.1) h1.2.2.1]; rfl, by rw [h3.2.2.1]⟩, Same.rf M⟩
  simp only [if_neg e3]
  by_cases e4 : x = 4
  · simp only [if_pos e4]
    exact ⟨nI m, M, fun N hN => ⟨by rw [as_I (by omega) hn h2.1 (fun p hp => (h2.2.2.2 p (by omega)).2.2.1) h1.2.2.2.1]; rfl, by rw [h3.2.2.2.1]⟩, Same.rf M⟩
  simp only [if_neg e4]
  by_cases e5 : x = 5
  · simp only [if_pos e5]
    exact ⟨nI mk, M, fun N hN => ⟨congrArg some h2.2.1, by rw [h3.2.2.2.2.1]⟩, Same.rf M⟩
  simp only [if_neg e5]
  by_cases e6 : x = 6
  · simp only [if_pos e6]
    exact ⟨nI dr, M, fun N hN => ⟨congrArg some h2.2.2.1, by rw [h3.2.2.2.2.2.1]⟩, Same.rf M⟩
  simp only [if_neg e6]
  by_cases e7 : x = 7
  · simp only [if_pos e7]
    exact ⟨nI (alN n t), cnM n t (np n) M, fun N hN => ⟨by rw [ap_I (by omega) hn h2]; rfl, by rw [h3.1, h3.2.1, ai_I (by omega) hn ht31]; rfl⟩, Same.cn⟩
  simp only [if_neg e7]
  by_cases e8 : x = 8
  · simp only [if_pos e8]
    by_cases z : n ≤ 1
    · have z2 : nI n ≤ 1 := nI_le z (by decide)
      exact ⟨0, M, fun N hN => ⟨by rw [h2.1, if_pos z2], by rw [h3.1, if_pos z2]⟩, Same.rf M⟩
    · have z2 : ¬ nI n ≤ 1 := nI_ge (a := 1) (by omega) (by omega)
      by_cases w : nI (alN n t) = 1
      · refine ⟨1, cnM n t (np n) M, fun N hN => ⟨?_, ?_⟩, Same.cn⟩
        · rw [h2.1, if_neg z2, ap_I (by omega) hn h2]; exact if_pos w
        · rw [h3.1, if_neg z2, h3.2.1, ai_I (by omega) hn ht31]; exact if_pos w
      · refine ⟨0, cnM n t (np n) M, fun N hN => ⟨?_, ?_⟩, Same.cn⟩
        · rw [h2.1, if_neg z2, ap_I (by omega) hn h2]; exact if_neg w
        · rw [h3.1, if_neg z2, h3.2.1, ai_I (by omega) hn ht31]; exact if_neg w
  simp only [if_neg e8]
  by_cases e9 : x = 9
  · simp only [if_pos e9]
    exact ⟨nI len, M, fun N hN => ⟨congrArg some t1, by rw [t2]⟩, Same.rf M⟩
  simp only [if_neg e9]
  by_cases e10 : x = 10
  · simp only [if_pos e10]
    exact ⟨nI k, M, fun N hN => ⟨congrArg some b1', by rw [b2']⟩, Same.rf M⟩
  simp only [if_neg e10]
  exact ⟨_, M, fun N hN => ⟨rfl, rfl⟩, Same.rf M⟩
