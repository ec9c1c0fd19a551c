/-! PURE 68: the draft cleared; the class's reading -/
theorem clr_l : ∀ (d k : Nat) (M : Mm), k + d = 8 → (∀ x p, 14 ≤ x → x ≤ 17 → p < k → M.1 x p = 0) → ∃ M', (∀ N nu, d < nu → L_To_clear_17 N 13 nu (nI k) M = some M') ∧ (∀ x p, 14 ≤ x → x ≤ 17 → p < 8 → M'.1 x p = 0) ∧ (∀ x j, ¬ (14 ≤ x ∧ x ≤ 17) → M'.1 x j = M.1 x j)
  | 0, k, M, hk, h => ⟨M, fun N nu' hnu => by
      obtain ⟨nu, rfl⟩ : ∃ nu, nu' = nu + 1 := ⟨nu' - 1, by omega⟩
      rw [L_To_clear_17, if_pos (show (8 : Int32) ≤ nI k from nI_le (a := 8) (by omega) (by omega))], fun x p h1 h2 h3 => h x p h1 h2 (by omega), fun _ _ _ => rfl⟩
  | d + 1, k, M, hk, h => by
    have e : ∀ x j, (si (si (si (si M 14 k 0) 15 k 0) 16 k 0) 17 k 0).1 x j = if (14 ≤ x ∧ x ≤ 17) ∧ j = k then 0 else M.1 x j := fun x j => by
      rw [si1, si1, si1, si1]
      by_cases q : (14 ≤ x ∧ x ≤ 17) ∧ j = k
      · rw [if_pos q]
        rcases (show x = 14 ∨ x = 15 ∨ x = 16 ∨ x = 17 by omega) with r | r | r | r <;> subst r <;> simp [q.2]
      · rw [if_neg q, if_neg (by omega), if_neg (by omega), if_neg (by omega), if_neg (by omega)]
    obtain ⟨M', g1, g2, g3⟩ := clr_l d (k + 1) (si (si (si (si M 14 k 0) 15 k 0) 16 k 0) 17 k 0) (by omega) (fun x p h1 h2 h3 => by
      rw [e]
      by_cases q : p = k
      · rw [if_pos ⟨⟨h1, h2⟩, q⟩]
      · rw [if_neg (fun v => q v.2)]; exact h x p h1 h2 (by omega))
    refine ⟨M', fun N nu' hnu => ?_, g2, fun x j q => by rw [g3 x j q, e, if_neg (fun v => q v.1)]⟩
    obtain ⟨nu, rfl⟩ : ∃ nu, nu' = nu + 1 := ⟨nu' - 1, by omega⟩
    have i8 : inb (nI k) 8 = true := inb_nI (show k < 8 by omega) (by decide)
    rw [L_To_clear_17, if_neg (show ¬ (8 : Int32) ≤ nI k from nI_ge (a := k) (b := 8) (by omega) (by decide))]
    unfold f_To_forget
    dsimp only [lt]
    rw [if_pos i8, if_pos i8, if_pos i8, if_pos i8, Option.bind_some, ix_nI (by omega), nI_1]
    exact g1 N nu (by omega)
theorem clr_I (M : Mm) : ∃ M', (∀ N, 401 < N → f_To_clear N 13 M = some M') ∧ CT M' 13 0 0 0 0 1 1 (fun _ => 0) ∧ (∀ x j, ¬ (13 ≤ x ∧ x ≤ 17) → M'.1 x j = M.1 x j) := by
  obtain ⟨M', g1, g2, g3⟩ := clr_l 8 0 (si (si (si M 13 0 0) 13 1 1) 13 2 1) (by omega) (fun x p h1 h2 h3 => absurd h3 (by omega))
  refine ⟨M', fun N hN => g1 N N (by omega), ⟨?_, ?_, ?_, fun p hp => ⟨?_, ?_, ?_, ?_⟩⟩, fun x j q => ?_⟩
  · rw [g3 _ _ (by omega), si_k _ _ (by decide), si_k _ _ (by decide), si_s]; rfl
  · rw [g3 _ _ (by omega), si_k _ _ (by decide), si_s]; rfl
  · rw [g3 _ _ (by omega), si_s]; rfl
  · rw [g2 _ p (by omega) (by omega) hp, rwo_0]; rfl
  · rw [g2 _ p (by omega) (by omega) hp, rwo_0]; rfl
  · rw [g2 _ p (by omega) (by omega) hp, rwo_0]; rfl
  · rw [g2 _ p (by omega) (by omega) hp]; rfl
  · rw [g3 _ _ (by omega), si_a _ _ (by omega), si_a _ _ (by omega), si_a _ _ (by omega)]
theorem DOK0 : DOK 0 0 0 0 1 1 false := ⟨⟨by decide, by decide, by decide, by decide, fun k v => by simp at v, fun k v => by simp at v, by decide, by decide, by decide, by decide, fun p => ⟨Nat.zero_le _, fun _ => rfl⟩⟩, fun _ => ⟨rfl, rfl⟩⟩
section RE
variable {c : Nat → Nat} {len : Nat}
theorem cread {M : Mm} (hX : CX c len M) : ∃ M0, CS c len (skp c len 0) 0 0 0 0 1 1 false M0 ∧ cfr M M0 ∧ ∀ N M', 401 < N → (∀ (ju : Mm → Option Mm), L_Te_read_33 N ju N (nI 0) M0 = ju M') → f_Te_read N M = some (si M' 11 2 0) := by
  obtain ⟨M', g1, g2, g3⟩ := clr_I (si (si (si (si M 11 3 0) 11 4 0) 11 5 0) 11 6 (-1))
  have h0 : CS c len 0 0 0 0 0 1 1 false M' := by
    refine ⟨hX.ag ?_ (fun i => ?_), ?_, ?_, ?_, ?_, g2⟩
    · rw [g3 _ _ (by omega), si_k _ _ (by decide), si_k _ _ (by decide), si_k _ _ (by decide), si_k _ _ (by decide)]
    · rw [g3 _ _ (by omega), si_a _ _ (by decide), si_a _ _ (by decide), si_a _ _ (by decide), si_a _ _ (by decide)]
    · rw [g3 _ _ (by omega), si_k _ _ (by decide), si_k _ _ (by decide), si_k _ _ (by decide), si_s]; rfl
    · rw [g3 _ _ (by omega), si_k _ _ (by decide), si_k _ _ (by decide), si_s]; rfl
    · rw [g3 _ _ (by omega), si_k _ _ (by decide), si_s]
    · rw [g3 _ _ (by omega), si_s]
  obtain ⟨w1, w2⟩ := h0.mv (skp c len 0)
  refine ⟨_, w1, cfr.tr (M1 := M') (fun x j q1 q2 => ?_) w2, fun N M2 hN hL => ?_⟩
  · rw [g3 x j q2, si1, if_neg (fun v => q1 (by omega)), si1, if_neg (fun v => q1 (by omega)), si1, if_neg (fun v => q1 (by omega)), si1, if_neg (fun v => q1 (by omega))]
  · unfold f_Te_read
    dsimp only [lt]
    rw [g1 N hN, Option.bind_some, csk_I hN (Nat.zero_le _) h0.1 h0.2.1, Option.bind_some]
    exact hL _
end RE
