/-! PURE 5: the relation between the class's cells and the reference's -/
def relv (a j : Nat) : Bool :=
  (a == 0 && j == 10) || (decide (1 ≤ a) && decide (a ≤ 5)) || (a == 11 && (j == 2 || j == 6)) || a == 12 || a == 31 || a == 32 || (a == 33 && j == 3) || (decide (34 ≤ a) && decide (a ≤ 48)) || (a == 49 && (decide (j ≤ 5) || j == 7 || j == 10 || j == 11 || j == 33)) || a == 50 || a == 52 || (decide (59 ≤ a) && decide (a ≤ 63))
def Same (M M' : Mm) : Prop := ∀ a j, relv a j = true → M'.1 a j = M.1 a j
theorem Same.rf (M : Mm) : Same M M := fun _ _ _ => rfl
theorem Same.tr {M M1 M2 : Mm} (h : Same M M1) (h2 : Same M1 M2) : Same M M2 := fun a j r => (h2 a j r).trans (h a j r)
theorem Same.si {M M1 : Mm} (h : Same M M1) {a k : Nat} (x : Int32) (hr : relv a k = false) : Same M (si M1 a k x) := by
  intro b j r
  rw [si1, if_neg (fun q => by rw [q.1, q.2, hr] at r; cases r)]
  exact h b j r
theorem Same.sl {M M1 : Mm} (h : Same M M1) {a k : Nat} (x : Int64) : Same M (sl M1 a k x) := fun b j r => h b j r
def RText (M : Mm) : Prop := ∃ len, len < 401 ∧ M.1 11 2 = nI len ∧ M.1 49 10 = nI len ∧ ∀ i, i < len → ∃ c, c < 256 ∧ M.1 52 i = nI c ∧ M.1 12 i = (nI c).toInt8.toInt32
def RBook (M : Mm) : Prop := ∃ k, k < 31 ∧ M.1 33 3 = nI k ∧ M.1 49 33 = nI k ∧ ∀ i, i < k → ∃ p q c, p < 8 ∧ q < 8 ∧ p ≠ q ∧ c < 2 ∧ (M.1 34 i = nI p ∧ M.1 35 i = nI q ∧ M.1 36 i = nI c) ∧ M.1 59 i = nI p ∧ M.1 60 i = nI q ∧ M.1 61 i = nI c
def RImg (M : Mm) (i a mk dr : Nat) : Prop := (M.1 a 2 = 0 ∧ M.1 63 i = 0) ∨ (M.1 a 2 = 1 ∧ M.1 63 i = 1 ∧ ∃ (n t b m : Nat) (sd : Nat → Nat) (s : Nat), TOK n t b m mk dr sd ∧ CT M (a + 1) n t b m mk dr sd ∧ s < 2 ^ 31 ∧ M.1 a 1 = nI s ∧ M.1 62 (20 * i) = nI n ∧ M.1 62 (20 * i + 1) = nI t ∧ M.1 62 (20 * i + 2) = nI b ∧ M.1 62 (20 * i + 3) = nI m ∧ M.1 62 (20 * i + 4) = nI s ∧ ∀ p, p < 8 → M.1 62 (20 * i + 5 + p) = nI (sd p))
def sidT (a b : Nat) : Nat := ([[0, 0, 0, 0, 0], [0, 2, 2, 0, 0], [0, 2, 8, 12, 0], [0, 0, 12, 72, 144], [0, 0, 0, 144, 1152]].getD a []).getD b 0
def sorT (n : Nat) : Nat := [0, 1, 0, 6, 264, 14760].getD n 0
def RWays (M : Mm) : Prop := (∀ a b, 1 ≤ a → a ≤ 4 → 1 ≤ b → b ≤ 4 → M.1 31 (5 * a + b) = -1 ∨ M.1 31 (5 * a + b) = nI (sidT a b)) ∧ ∀ n, 1 ≤ n → n ≤ 5 → M.1 32 n = -1 ∨ M.1 32 n = nI (sorT n)
def Rel (M : Mm) : Prop := ∃ (n t b m mk dr : Nat) (sd : Nat → Nat), TOK n t b m mk dr sd ∧ CT M 1 n t b m mk dr sd ∧ MT M n t b m mk dr sd ∧ (∃ s, s < 2 ^ 31 ∧ M.1 0 10 = nI s ∧ M.1 49 7 = nI s) ∧ RText M ∧ M.1 11 6 = M.1 49 11 ∧ RBook M ∧ (RImg M 0 37 mk dr ∧ RImg M 1 43 mk dr) ∧ RWays M
theorem CT.same {M M' : Mm} {a n t b m mk dr : Nat} {sd : Nat → Nat} (h : CT M a n t b m mk dr sd) (hS : Same M M') (ha : a = 1 ∨ a = 38 ∨ a = 44) : CT M' a n t b m mk dr sd := by
  obtain ⟨h1, h2, h3, h4⟩ := h
  rcases ha with rfl | rfl | rfl
  · exact ⟨(hS _ _ rfl).trans h1, (hS _ _ rfl).trans h2, (hS _ _ rfl).trans h3, fun p hp => ⟨(hS _ _ rfl).trans (h4 p hp).1, (hS _ _ rfl).trans (h4 p hp).2.1, (hS _ _ rfl).trans (h4 p hp).2.2.1, (hS _ _ rfl).trans (h4 p hp).2.2.2⟩⟩
  · exact ⟨(hS _ _ rfl).trans h1, (hS _ _ rfl).trans h2, (hS _ _ rfl).trans h3, fun p hp => ⟨(hS _ _ rfl).trans (h4 p hp).1, (hS _ _ rfl).trans (h4 p hp).2.1, (hS _ _ rfl).trans (h4 p hp).2.2.1, (hS _ _ rfl).trans (h4 p hp).2.2.2⟩⟩
  · exact ⟨(hS _ _ rfl).trans h1, (hS _ _ rfl).trans h2, (hS _ _ rfl).trans h3, fun p hp => ⟨(hS _ _ rfl).trans (h4 p hp).1, (hS _ _ rfl).trans (h4 p hp).2.1, (hS _ _ rfl).trans (h4 p hp).2.2.1, (hS _ _ rfl).trans (h4 p hp).2.2.2⟩⟩
theorem MT.same {M M' : Mm} {n t b m mk dr : Nat} {sd : Nat → Nat} (h : MT M n t b m mk dr sd) (hS : Same M M') : MT M' n t b m mk dr sd := by
  obtain ⟨h1, h2, h3, h4, h5, h6, h7⟩ := h
  exact ⟨(hS _ _ rfl).trans h1, (hS _ _ rfl).trans h2, (hS _ _ rfl).trans h3, (hS _ _ rfl).trans h4, (hS _ _ rfl).trans h5, (hS _ _ rfl).trans h6, fun p hp => (hS _ _ rfl).trans (h7 p hp)⟩
theorem RText.same {M M' : Mm} (h : RText M) (hS : Same M M') : RText M' := by
  obtain ⟨len, h0, h1, h2, h3⟩ := h
  refine ⟨len, h0, (hS _ _ rfl).trans h1, (hS _ _ rfl).trans h2, fun i hi => ?_⟩
  obtain ⟨c, c1, c2, c3⟩ := h3 i hi
  exact ⟨c, c1, (hS _ _ rfl).trans c2, (hS _ _ rfl).trans c3⟩
theorem RBook.same {M M' : Mm} (h : RBook M) (hS : Same M M') : RBook M' := by
  obtain ⟨k, h0, h1, h2, h3⟩ := h
  refine ⟨k, h0, (hS _ _ rfl).trans h1, (hS _ _ rfl).trans h2, fun i hi => ?_⟩
  obtain ⟨p, q, c, c1, c2, c3, c4, ⟨d1, d2, d3⟩, d4, d5, d6⟩ := h3 i hi
  exact ⟨p, q, c, c1, c2, c3, c4, ⟨(hS _ _ rfl).trans d1, (hS _ _ rfl).trans d2, (hS _ _ rfl).trans d3⟩, (hS _ _ rfl).trans d4, (hS _ _ rfl).trans d5, (hS _ _ rfl).trans d6⟩
theorem RImg.same {M M' : Mm} {i a mk dr : Nat} (h : RImg M i a mk dr) (hS : Same M M') (ha : a = 37 ∨ a = 43) : RImg M' i a mk dr := by
  have e2 : M'.1 a 2 = M.1 a 2 := by rcases ha with rfl | rfl <;> exact hS _ _ rfl
  have e1 : M'.1 a 1 = M.1 a 1 := by rcases ha with rfl | rfl <;> exact hS _ _ rfl
  rcases h with ⟨h1, h2⟩ | ⟨h1, h2, n, t, b, m, sd, s, g1, g2, g3, g4, g5, g6, g7, g8, g9, g10⟩
  · exact Or.inl ⟨e2.trans h1, (hS _ _ rfl).trans h2⟩
  · exact Or.inr ⟨e2.trans h1, (hS _ _ rfl).trans h2, n, t, b, m, sd, s, g1, g2.same hS (by omega), g3, e1.trans g4, (hS _ _ rfl).trans g5, (hS _ _ rfl).trans g6, (hS _ _ rfl).trans g7, (hS _ _ rfl).trans g8, (hS _ _ rfl).trans g9, fun p hp => (hS _ _ rfl).trans (g10 p hp)⟩
theorem RWays.same {M M' : Mm} (h : RWays M) (hS : Same M M') : RWays M' :=
  ⟨fun a b h1 h2 h3 h4 => by rw [hS 31 _ rfl]; exact h.1 a b h1 h2 h3 h4, fun n h1 h2 => by rw [hS 32 _ rfl]; exact h.2 n h1 h2⟩
theorem Rel.same {M M' : Mm} (h : Rel M) (hS : Same M M') : Rel M' := by
  obtain ⟨n, t, b, m, mk, dr, sd, h1, h2, h3, ⟨s, s1, s2, s3⟩, h5, h6, h7, ⟨h8, h9⟩, h10⟩ := h
  exact ⟨n, t, b, m, mk, dr, sd, h1, h2.same hS (Or.inl rfl), h3.same hS, ⟨s, s1, (hS _ _ rfl).trans s2, (hS _ _ rfl).trans s3⟩, h5.same hS, ((hS 11 6 rfl).trans h6).trans (hS 49 11 rfl).symm, h7.same hS, ⟨h8.same hS (Or.inl rfl), h9.same hS (Or.inr rfl)⟩, h10.same hS⟩
/-! the first calls -/
theorem q_count {N : Nat} {M : Mm} (h : Rel M) (x : Int32) (hN : 30 < N) (hci : ∀ n t p, n < 9 → t < 2 ^ 31 → p < n → f_Mo_countIn N (nI n) (nI t) (nI p) = some (nI (dgr n t p))) : ∃ r, f_Uc_count x M = some r ∧ f_Mo_count N x M = some r := by
  obtain ⟨n, t, b, m, mk, dr, sd, h1, h2, h3, -⟩ := h
  unfold f_Uc_count f_Mo_count
  rcases pers x h1.1 with ⟨j, hj, rfl⟩ | hx
  · have hn := h1.1
    refine ⟨nI (dgr n t j), ?_, ?_⟩
    · rw [has_yes h1.1 h2.1 hj, if_neg h10, cnt_I h1.1 h2 (by omega)]; rfl
    · rw [per_yes h1.1 h3.1 hj, if_neg h10, h3.1, h3.2.1, hci n t j h1.1 (np_lt31 h1.1 h1.2.1) hj]; rfl
  · rw [has_no h1.1 h2.1 hx, if_pos rfl, per_no h1.1 h3.1 hx, if_pos rfl]
    exact ⟨_, rfl, rfl⟩
theorem q_pair {N : Nat} {M : Mm} (h : Rel M) (x y : Int32) (hN : 8 < N) : f_Mo_pair N x y M = some (f_Uc_pair x y M) := by
  obtain ⟨n, t, b, m, mk, dr, sd, h1, h2, h3, -⟩ := h
  unfold f_Uc_pair f_Mo_pair
  rcases two_dec x y h1.1 h2.1 h3.1 with ⟨i, j, hi, hj, hij, rfl, rfl⟩ | ⟨e1, e2⟩
  · rw [two_yes h1.1 h2.1 hi hj hij, are_yes h1.1 h3.1 hi hj hij, if_neg h10, if_neg h10, h3.1, po_I hN h1.1 hi hj hij, pnu_I h1.1 h2.1 hi hj hij]; rfl
  · rw [e1, e2, if_pos rfl, if_pos rfl]
