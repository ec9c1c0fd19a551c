/-! PURE 3: towns: the class's rows and the reference's numbers -/
def rwf (n t p q : Nat) : Bool := decide (p < n) && (decide (q ≠ p) && t.testBit (pn n p q))
def rwo (n t p : Nat) : Nat := bs (rwf n t p) n
def dgr (n t p : Nat) : Nat := ctb (rwf n t p) n
theorem rwo_bit (n t p q : Nat) : (rwo n t p).testBit q = (decide (q < n) && rwf n t p q) := bs_bit _ _ _
theorem rwo_lt {n t p : Nat} (hn : n < 9) : rwo n t p < 2 ^ 8 := Nat.lt_of_lt_of_le (bs_lt _ _) (Nat.pow_le_pow_right (by decide) (by omega))
theorem rwo_bc {n t p : Nat} (hn : n < 9) : f_In_bitCount (nI (rwo n t p)) = nI (dgr n t p) := bc_bs (by omega)
theorem dgr_lt {n t p : Nat} (hp : p < n) : dgr n t p < n := by
  have h : ∀ (g : Nat → Bool) (k : Nat), g p = false → p < k → ctb g k < k := by
    intro g k hg
    induction k with
    | zero => intro h; omega
    | succ k ih =>
      intro h
      rw [ctb]
      by_cases e : p = k
      · subst e; rw [hg]; have := ctb_le g p; simp; omega
      · have := ih (by omega); split <;> omega
  exact h _ n (by simp [rwf]) hp
theorem rwf_sym {n t p q : Nat} (hp : p < n) (hq : q < n) : rwf n t p q = rwf n t q p := by
  unfold rwf
  by_cases e : q = p
  · subst e; simp
  · rw [pn_comm (n := n) (fun z => e z.symm)]
    have e2 : ¬ p = q := fun z => e z.symm
    simp [hp, hq, e, e2]
/-- the class's town at the cell a -/
def CT (M : Mm) (a n t b m mk dr : Nat) (sd : Nat → Nat) : Prop :=
  M.1 a 0 = nI n ∧ M.1 a 1 = nI mk ∧ M.1 a 2 = nI dr ∧ ∀ p, p < 8 → M.1 (a + 1) p = nI (rwo n t p) ∧ M.1 (a + 2) p = nI (rwo n b p) ∧ M.1 (a + 3) p = nI (rwo n m p) ∧ M.1 (a + 4) p = nI (sd p)
/-- the reference's town -/
def MT (M : Mm) (n t b m mk dr : Nat) (sd : Nat → Nat) : Prop :=
  M.1 49 0 = nI n ∧ M.1 49 1 = nI t ∧ M.1 49 2 = nI b ∧ M.1 49 3 = nI m ∧ M.1 49 4 = nI mk ∧ M.1 49 5 = nI dr ∧ ∀ p, p < 8 → M.1 50 p = nI (sd p)
/-- what holds of every town -/
def TOK (n t b m mk dr : Nat) (sd : Nat → Nat) : Prop :=
  n < 9 ∧ t < 2 ^ np n ∧ b < 2 ^ np n ∧ m < 2 ^ np n ∧ (∀ k, ¬ (t.testBit k = true ∧ b.testBit k = true)) ∧ (∀ k, m.testBit k = true → t.testBit k = true) ∧ 1 ≤ mk ∧ mk ≤ 9 ∧ 1 ≤ dr ∧ dr ≤ 9 ∧ ∀ p, sd p ≤ 7 ∧ (n ≤ p → sd p = 0)
theorem np_lt31 {n t : Nat} (hn : n < 9) (h : t < 2 ^ np n) : t < 2 ^ 31 := Nat.lt_of_lt_of_le h (Nat.pow_le_pow_right (by decide) (Nat.le_trans (np_le n hn) (by decide)))
/-! who is a person -/
theorem cm_lt (x y : Int64) : lg_cmp x y < 0 ↔ x < y := by
  unfold lg_cmp
  by_cases h : x > y
  · rw [if_pos h]
    exact ⟨fun z => absurd z (by decide), fun z => absurd z (fun w => Int64.lt_irrefl (Int64.lt_trans w h))⟩
  · rw [if_neg h]
    by_cases e : x = y
    · subst e; rw [if_pos rfl]; exact ⟨fun z => absurd z (by decide), fun z => absurd z Int64.lt_irrefl⟩
    · rw [if_neg e]
      refine ⟨fun _ => ?_, fun _ => by decide⟩
      exact Int64.lt_of_le_of_ne (Int64.not_lt.mp h) e
theorem cm_gt (x y : Int64) : 0 < lg_cmp x y ↔ y < x := by
  unfold lg_cmp
  by_cases h : x > y
  · rw [if_pos h]; exact ⟨fun _ => h, fun _ => by decide⟩
  · rw [if_neg h]
    by_cases e : x = y
    · subst e; rw [if_pos rfl]; exact ⟨fun z => absurd z (by decide), fun z => absurd z Int64.lt_irrefl⟩
    · rw [if_neg e]
      exact ⟨fun z => absurd z (by decide), fun z => absurd z h⟩
theorem wd_lt (a b : Int32) : a.toInt64 < b.toInt64 ↔ a < b := by
  rw [Int64.lt_iff_toInt_lt, Int32.lt_iff_toInt_lt, Int32.toInt_toInt64, Int32.toInt_toInt64]
theorem in_I (x lo hi : Int32) : f_Mo_in x.toInt64 lo.toInt64 hi.toInt64 = if x < lo then 0 else if hi < x then 0 else 1 := by
  unfold f_Mo_in
  by_cases h : x < lo
  · rw [if_pos h, if_pos ((cm_lt _ _).mpr ((wd_lt _ _).mpr h))]
  · rw [if_neg h, if_neg (fun z => h ((wd_lt _ _).mp ((cm_lt _ _).mp z)))]
    by_cases h2 : hi < x
    · rw [if_pos h2, if_pos ((cm_gt _ _).mpr ((wd_lt _ _).mpr h2))]
    · rw [if_neg h2, if_neg (fun z => h2 ((wd_lt _ _).mp ((cm_gt _ _).mp z)))]
/-- an int is a person of n, or it isn't -/
theorem pers (x : Int32) {n : Nat} (hn : n < 9) : (∃ j, j < n ∧ x = nI j) ∨ (∀ j, j < n → x ≠ nI j) := by
  by_cases h : ∃ j, j < n ∧ x = nI j
  · exact Or.inl h
  · exact Or.inr (fun j hj e => h ⟨j, hj, e⟩)
theorem has_yes {M : Mm} {a n j : Nat} (hn : n < 9) (h : M.1 a 0 = nI n) (hj : j < n) : f_To_has a (nI j) M = 1 := by
  unfold f_To_has
  rw [if_neg (nI_pos (by omega)), h, if_neg (nI_ge hj (by omega))]
theorem has_no {M : Mm} {a n : Nat} {x : Int32} (hn : n < 9) (h : M.1 a 0 = nI n) (hx : ∀ j, j < n → x ≠ nI j) : f_To_has a x M = 0 := by
  unfold f_To_has
  by_cases h0 : x < 0
  · rw [if_pos h0]
  · rw [if_neg h0, h, if_pos]
    rcases pk_ix x (n := n) (by omega) with q | q | ⟨j, hj, q⟩
    · exact absurd q h0
    · exact q
    · exact absurd q (hx j hj)
theorem per_yes {M : Mm} {n j : Nat} (hn : n < 9) (h : M.1 49 0 = nI n) (hj : j < n) : f_Mo_isPerson (nI j) M = 1 := by
  unfold f_Mo_isPerson
  rw [h, show (0 : Int64) = (0 : Int32).toInt64 from rfl, in_I, if_neg (nI_pos (by omega))]
  obtain ⟨k, rfl⟩ : ∃ k, n = k + 1 := ⟨n - 1, by omega⟩
  rw [nI_pred, if_neg (nI_nlt (by omega) (by omega))]
theorem per_no {M : Mm} {n : Nat} {x : Int32} (hn : n < 9) (h : M.1 49 0 = nI n) (hx : ∀ j, j < n → x ≠ nI j) : f_Mo_isPerson x M = 0 := by
  unfold f_Mo_isPerson
  rw [h, show (0 : Int64) = (0 : Int32).toInt64 from rfl, in_I]
  by_cases h0 : x < 0
  · rw [if_pos h0]
  · rw [if_neg h0, if_pos]
    rcases pk_ix x (n := n) (by omega) with q | q | ⟨j, hj, q⟩
    · exact absurd q h0
    · rcases Nat.eq_zero_or_pos n with e | e
      · subst e
        exact Int32.lt_of_lt_of_le (by decide) q
      · obtain ⟨k, rfl⟩ : ∃ k, n = k + 1 := ⟨n - 1, by omega⟩
        rw [nI_pred]
        exact Int32.lt_of_lt_of_le (nI_lt (by omega) (by omega)) q
    · exact absurd q (hx j hj)
theorem two_yes {M : Mm} {a n i j : Nat} (hn : n < 9) (h : M.1 a 0 = nI n) (hi : i < n) (hj : j < n) (hij : i ≠ j) : f_To_hasTwo a (nI i) (nI j) M = 1 := by
  unfold f_To_hasTwo
  rw [has_yes hn h hi, has_yes hn h hj, if_neg (by decide), if_neg (by decide), if_neg (fun z => hij ((nI_eq (by omega) (by omega)).mp z))]
theorem are_yes {M : Mm} {n i j : Nat} (hn : n < 9) (h : M.1 49 0 = nI n) (hi : i < n) (hj : j < n) (hij : i ≠ j) : f_Mo_areTwo (nI i) (nI j) M = 1 := by
  unfold f_Mo_areTwo
  rw [per_yes hn h hi, per_yes hn h hj, if_neg (by decide), if_neg (by decide), if_neg (fun z => hij ((nI_eq (by omega) (by omega)).mp z))]
theorem h10 : ¬ (1 : Int32) = 0 := by decide
/-- two ints are two persons, or both sides say that they are not -/
theorem two_dec {M M2 : Mm} {a n : Nat} (x y : Int32) (hn : n < 9) (h : M.1 a 0 = nI n) (h2 : M2.1 49 0 = nI n) : (∃ i j, i < n ∧ j < n ∧ i ≠ j ∧ x = nI i ∧ y = nI j) ∨ (f_To_hasTwo a x y M = 0 ∧ f_Mo_areTwo x y M2 = 0) := by
  unfold f_To_hasTwo f_Mo_areTwo
  rcases pers x hn with ⟨i, hi, rfl⟩ | hx
  · rw [has_yes hn h hi, per_yes hn h2 hi, if_neg h10, if_neg h10]
    rcases pers y hn with ⟨j, hj, rfl⟩ | hy
    · rw [has_yes hn h hj, per_yes hn h2 hj, if_neg h10]
      by_cases e : i = j
      · subst e; rw [if_pos rfl]; exact Or.inr ⟨rfl, rfl⟩
      · exact Or.inl ⟨i, j, hi, hj, e, rfl, rfl⟩
    · rw [has_no hn h hy, per_no hn h2 hy, if_pos rfl]; exact Or.inr ⟨rfl, rfl⟩
  · rw [has_no hn h hx, per_no hn h2 hx, if_pos rfl, if_pos rfl]; exact Or.inr ⟨rfl, rfl⟩
