/-! PURE 15: copyFrom -/
def cpK (a c k : Nat) (M : Mm) : Mm := (fun x j => if x = a ∧ j < 3 then M.1 c j else if (a + 1 ≤ x ∧ x ≤ a + 4) ∧ j < k then M.1 (c + (x - a)) j else M.1 x j, M.2)
theorem cp_off {a c k x j : Nat} {M : Mm} (h : x < a ∨ a + 4 < x) : (cpK a c k M).1 x j = M.1 x j := by
  show (if x = a ∧ j < 3 then _ else if (a + 1 ≤ x ∧ x ≤ a + 4) ∧ j < k then _ else _) = _
  rw [if_neg (by omega), if_neg (by omega)]
theorem cp_step {a c k : Nat} {M : Mm} (hd : c + 5 ≤ a ∨ a + 5 ≤ c) : si (si (si (si (cpK a c k M) (a + 1) k (M.1 (c + 1) k)) (a + 2) k (M.1 (c + 2) k)) (a + 3) k (M.1 (c + 3) k)) (a + 4) k (M.1 (c + 4) k) = cpK a c (k + 1) M := by
  refine mm_ext (fun x j => ?_) rfl
  rw [si1, si1, si1, si1]
  show (if _ then _ else if _ then _ else if _ then _ else if _ then _ else (if x = a ∧ j < 3 then _ else if (a + 1 ≤ x ∧ x ≤ a + 4) ∧ j < k then _ else _)) = (if x = a ∧ j < 3 then _ else if (a + 1 ≤ x ∧ x ≤ a + 4) ∧ j < k + 1 then M.1 (c + (x - a)) j else M.1 x j)
  by_cases h0 : x = a ∧ j < 3
  · rw [if_neg (by omega), if_neg (by omega), if_neg (by omega), if_neg (by omega), if_pos h0, if_pos h0]
  · rw [if_neg h0]
    by_cases hj : j = k
    · subst hj
      by_cases h4 : x = a + 4
      · subst h4; rw [if_pos ⟨rfl, rfl⟩, if_neg (by omega), if_pos (by omega), show c + (a + 4 - a) = c + 4 by omega]
      · rw [if_neg (fun z => h4 z.1)]
        by_cases h3 : x = a + 3
        · subst h3; rw [if_pos ⟨rfl, rfl⟩, if_neg (by omega), if_pos (by omega), show c + (a + 3 - a) = c + 3 by omega]
        · rw [if_neg (fun z => h3 z.1)]
          by_cases h2 : x = a + 2
          · subst h2; rw [if_pos ⟨rfl, rfl⟩, if_neg (by omega), if_pos (by omega), show c + (a + 2 - a) = c + 2 by omega]
          · rw [if_neg (fun z => h2 z.1)]
            by_cases h1 : x = a + 1
            · subst h1; rw [if_pos ⟨rfl, rfl⟩, if_neg (by omega), if_pos (by omega), show c + (a + 1 - a) = c + 1 by omega]
            · rw [if_neg (fun z => h1 z.1), if_neg h0, if_neg (by omega), if_neg (by omega)]
    · rw [if_neg (fun z => hj z.2), if_neg (fun z => hj z.2), if_neg (fun z => hj z.2), if_neg (fun z => hj z.2), if_neg h0]
      by_cases h1 : (a + 1 ≤ x ∧ x ≤ a + 4) ∧ j < k
      · rw [if_pos h1, if_pos ⟨h1.1, by omega⟩]
      · rw [if_neg h1, if_neg (fun z => h1 ⟨z.1, by omega⟩)]
theorem cp_loop (N : Nat) {M : Mm} {a c : Nat} (hd : c + 5 ≤ a ∨ a + 5 ≤ c) : ∀ (d k nu : Nat), k + d = 8 → d < nu → L_To_copyFrom_26 N a c nu (nI k) (cpK a c k M) = some (cpK a c 8 M)
  | 0, k, nu + 1, hk, hnu => by
    have hk : k = 8 := by omega
    subst hk
    rw [L_To_copyFrom_26, if_pos (by decide)]
  | d + 1, k, nu + 1, hk, hnu => by
    have ih := cp_loop N (M := M) hd d (k + 1) nu (by omega) (by omega)
    have ib : inb (nI k) 8 = true := inb_nI (by omega) (by decide)
    rw [L_To_copyFrom_26, if_neg (show ¬ (8 : Int32) ≤ nI k from nI_ge (a := k) (b := 8) (by omega) (by decide))]
    simp only [lt, if_pos ib, ix_nI (show k < 2 ^ 31 by omega)]
    have o1 : (cpK a c k M).1 (c + 1) k = M.1 (c + 1) k := cp_off (by omega)
    have o2 : ∀ u, (si (cpK a c k M) (a + 1) k u).1 (c + 2) k = M.1 (c + 2) k := fun u => by rw [si_a _ _ (by omega)]; exact cp_off (by omega)
    have o3 : ∀ u v, (si (si (cpK a c k M) (a + 1) k u) (a + 2) k v).1 (c + 3) k = M.1 (c + 3) k := fun u v => by rw [si_a _ _ (by omega), si_a _ _ (by omega)]; exact cp_off (by omega)
    have o4 : ∀ u v w, (si (si (si (cpK a c k M) (a + 1) k u) (a + 2) k v) (a + 3) k w).1 (c + 4) k = M.1 (c + 4) k := fun u v w => by rw [si_a _ _ (by omega), si_a _ _ (by omega), si_a _ _ (by omega)]; exact cp_off (by omega)
    rw [o1, o2, o3, o4, cp_step hd, nI_1]
    exact ih
theorem copy_I {N : Nat} {M : Mm} {a c : Nat} (hN : 8 < N) (hd : c + 5 ≤ a ∨ a + 5 ≤ c) : f_To_copyFrom N a c M = some (cpK a c 8 M) := by
  unfold f_To_copyFrom
  simp only [lt]
  have o1 : (si M a 0 (M.1 c 0)).1 c 1 = M.1 c 1 := si_a _ _ (by omega)
  have o2 : ∀ u v, (si (si M a 0 u) a 1 v).1 c 2 = M.1 c 2 := fun u v => by rw [si_a _ _ (by omega), si_a _ _ (by omega)]
  have e : si (si (si M a 0 (M.1 c 0)) a 1 (M.1 c 1)) a 2 (M.1 c 2) = cpK a c 0 M := by
    refine mm_ext (fun x j => ?_) rfl
    rw [si1, si1, si1]
    show _ = (if x = a ∧ j < 3 then M.1 c j else if (a + 1 ≤ x ∧ x ≤ a + 4) ∧ j < 0 then _ else M.1 x j)
    rw [if_neg (show ¬ ((a + 1 ≤ x ∧ x ≤ a + 4) ∧ j < 0) by omega)]
    by_cases hx : x = a
    · subst hx
      by_cases h2 : j = 2
      · subst h2; rw [if_pos ⟨rfl, rfl⟩, if_pos ⟨rfl, by decide⟩]
      · rw [if_neg (fun z => h2 z.2)]
        by_cases h1 : j = 1
        · subst h1; rw [if_pos ⟨rfl, rfl⟩, if_pos ⟨rfl, by decide⟩]
        · rw [if_neg (fun z => h1 z.2)]
          by_cases h0 : j = 0
          · subst h0; rw [if_pos ⟨rfl, rfl⟩, if_pos ⟨rfl, by decide⟩]
          · rw [if_neg (fun z => h0 z.2), if_neg (by omega)]
    · rw [if_neg (fun z => hx z.1), if_neg (fun z => hx z.1), if_neg (fun z => hx z.1), if_neg (fun z => hx z.1)]
  rw [o1, o2, e]
  exact cp_loop N hd 8 0 N (by omega) (by omega)
/-- what was copied is the same town -/
theorem cp_CT {M : Mm} {a c n t b m mk dr : Nat} {sd : Nat → Nat} (h : CT M c n t b m mk dr sd) : CT (cpK a c 8 M) a n t b m mk dr sd := by
  obtain ⟨h1, h2, h3, h4⟩ := h
  have f : ∀ j, j < 3 → (cpK a c 8 M).1 a j = M.1 c j := fun j hj => if_pos ⟨rfl, hj⟩
  have g : ∀ k j, 1 ≤ k → k ≤ 4 → j < 8 → (cpK a c 8 M).1 (a + k) j = M.1 (c + k) j := fun k j k1 k2 hj => by
    show (if a + k = a ∧ j < 3 then _ else if (a + 1 ≤ a + k ∧ a + k ≤ a + 4) ∧ j < 8 then M.1 (c + (a + k - a)) j else _) = _
    rw [if_neg (by omega), if_pos (by omega), show a + k - a = k by omega]
  exact ⟨(f 0 (by omega)).trans h1, (f 1 (by omega)).trans h2, (f 2 (by omega)).trans h3, fun p hp => ⟨(g 1 p (by omega) (by omega) hp).trans (h4 p hp).1, (g 2 p (by omega) (by omega) hp).trans (h4 p hp).2.1, (g 3 p (by omega) (by omega) hp).trans (h4 p hp).2.2.1, (g 4 p (by omega) (by omega) hp).trans (h4 p hp).2.2.2⟩⟩
