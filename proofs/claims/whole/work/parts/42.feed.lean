/-! PURE 23: feed -/
theorem byt_I (w : Int64) : ∃ c, c < 256 ∧ (w &&& 255).toInt32 = nI c ∧ w.toInt32.toInt8.toInt32 = (nI c).toInt8.toInt32 := by
  obtain ⟨c, hc, e⟩ := pk_andE w.toInt32 (m := 255) 8 (by decide)
  have e2 : (w &&& 255).toInt32 = nI c := by rw [Int64.toInt32_and]; exact e
  refine ⟨c, hc, e2, ?_⟩
  rw [← e, Int32.toInt8_and, show (255 : Int32).toInt8 = -1 from by decide, Int8.and_neg_one]
def bwd (w : Int64) (k : Nat) : Int64 := w >>> (((8 : Int32) * nI k).toInt64 &&& 63)
theorem m1_sub (k : Nat) : nI k + (-1) = nI k - 1 := (Int32.sub_eq_add_neg _ _).symm
theorem apl_I (w : Int64) : ∀ (r len : Nat) (M : Mm), M.1 11 2 = nI len → len + r ≤ 400 → ∃ M1, (∀ N nu, r < nu → L_Te_append_5 N w nu (nI r - 1) M = some M1) ∧ M1.1 11 2 = nI (len + r) ∧ (∀ i, i < r → M1.1 12 (len + i) = (bwd w (r - 1 - i)).toInt32.toInt8.toInt32) ∧ (∀ x j, ¬ (x = 11 ∧ j = 2) → ¬ (x = 12 ∧ len ≤ j) → M1.1 x j = M.1 x j) := by
  intro r
  induction r with
  | zero =>
    intro len M h0 hl
    refine ⟨M, fun N nu hnu => ?_, h0, fun i hi => by omega, fun _ _ _ _ => rfl⟩
    obtain ⟨nu, rfl⟩ : ∃ v, nu = v + 1 := ⟨nu - 1, by omega⟩
    rw [L_Te_append_5, if_pos (by decide)]
  | succ r ih =>
    intro len M h0 hl
    obtain ⟨M1, a1, a2, a3, a4⟩ := ih (len + 1) (si (si M 12 len ((bwd w r).toInt32.toInt8.toInt32)) 11 2 (nI (len + 1))) (si_s _ _ _ _) (by omega)
    refine ⟨M1, fun N nu hnu => ?_, by rw [a2]; congr 1; omega, fun i hi => ?_, fun x j q1 q2 => ?_⟩
    · obtain ⟨nu, rfl⟩ : ∃ v, nu = v + 1 := ⟨nu - 1, by omega⟩
      rw [L_Te_append_5, nI_pred, if_neg (nI_pos (by omega)), h0, if_neg (show ¬ (400 : Int32) ≤ nI len from nI_ge (a := len) (b := 400) (by omega) (by decide)), if_pos (inb_nI (by omega) (by decide))]
      dsimp only [lt]
      rw [ix_nI (by omega), pk_vb, si_a _ _ (show (11 : Nat) ≠ 12 by decide), h0, nI_1, m1_sub]
      exact a1 N nu (by omega)
    · by_cases e : i = 0
      · subst e
        rw [a4 _ _ (by omega) (by omega), si_a _ _ (by decide)]
        exact si_s _ _ _ _
      · have := a3 (i - 1) (by omega)
        rw [show len + 1 + (i - 1) = len + i by omega, show r - 1 - (i - 1) = r + 1 - 1 - i by omega] at this
        exact this
    · rw [a4 x j q1 (by omega), si1, if_neg q1, si1, if_neg (by omega)]
theorem mfl_I (w : Int64) : ∀ (r len : Nat) (M : Mm), M.1 49 10 = nI len → len + r ≤ 400 → ∃ M1, (∀ N nu, r < nu → L_Mo_feed_35 N w nu (nI r - 1) M = some (nI (len + r), M1)) ∧ M1.1 49 10 = nI (len + r) ∧ (∀ i, i < r → M1.1 52 (len + i) = (bwd w (r - 1 - i) &&& 255).toInt32) ∧ (∀ x j, ¬ (x = 49 ∧ j = 10) → ¬ (x = 52 ∧ len ≤ j) → M1.1 x j = M.1 x j) := by
  intro r
  induction r with
  | zero =>
    intro len M h0 hl
    refine ⟨M, fun N nu hnu => ?_, h0, fun i hi => by omega, fun _ _ _ _ => rfl⟩
    obtain ⟨nu, rfl⟩ : ∃ v, nu = v + 1 := ⟨nu - 1, by omega⟩
    rw [L_Mo_feed_35, if_pos (by decide), h0]
    rfl
  | succ r ih =>
    intro len M h0 hl
    obtain ⟨M1, a1, a2, a3, a4⟩ := ih (len + 1) (si (si M 52 len ((bwd w r &&& 255).toInt32)) 49 10 (nI (len + 1))) (si_s _ _ _ _) (by omega)
    refine ⟨M1, fun N nu hnu => ?_, by rw [a2]; congr 1; omega, fun i hi => ?_, fun x j q1 q2 => ?_⟩
    · obtain ⟨nu, rfl⟩ : ∃ v, nu = v + 1 := ⟨nu - 1, by omega⟩
      rw [L_Mo_feed_35, nI_pred, if_neg (nI_pos (by omega)), h0, if_pos (inb_nI (by omega) (by decide))]
      dsimp only [lt]
      rw [ix_nI (by omega), si_a _ _ (show (49 : Nat) ≠ 52 by decide), h0, nI_1, m1_sub]
      have := a1 N nu (by omega)
      rw [show len + 1 + r = len + (r + 1) by omega] at this
      exact this
    · by_cases e : i = 0
      · subst e
        rw [a4 _ _ (by omega) (by omega), si_a _ _ (by decide)]
        exact si_s _ _ _ _
      · have := a3 (i - 1) (by omega)
        rw [show len + 1 + (i - 1) = len + i by omega, show r - 1 - (i - 1) = r + 1 - 1 - i by omega] at this
        exact this
    · rw [a4 x j q1 (by omega), si1, if_neg q1, si1, if_neg (by omega)]
/-- the text changes, the rest stays -/
theorem RelP.txt {n t b m mk dr : Nat} {sd : Nat → Nat} {M M2 : Mm} (h : RelP n t b m mk dr sd M) (hX : RText M2) (hoff : ∀ a j, ¬ (a = 11 ∧ j = 2) → ¬ (a = 49 ∧ j = 10) → a ≠ 12 → a ≠ 52 → M2.1 a j = M.1 a j) : RelP n t b m mk dr sd M2 := by
  obtain ⟨h1, h2, h3, ⟨s, s1, s2, s3⟩, h5, h6, h7, ⟨h8, h9⟩, h10'⟩ := h
  refine ⟨h1, h2.ag ?_, h3.ag ?_, ⟨s, s1, ?_, ?_⟩, hX, ?_, h7.ag ?_, ⟨h8.ag ?_, h9.ag ?_⟩, h10'.ag ?_⟩
  · intro a j u
    simp only [uCT, Bool.and_eq_true, decide_eq_true_eq] at u
    exact hoff a j (by omega) (by omega) (by omega) (by omega)
  · intro a j u
    simp only [uMT, Bool.or_eq_true, Bool.and_eq_true, beq_iff_eq, decide_eq_true_eq] at u
    exact hoff a j (by omega) (by omega) (by omega) (by omega)
  · rw [hoff _ _ (by omega) (by omega) (by omega) (by omega)]; exact s2
  · rw [hoff _ _ (by omega) (by omega) (by omega) (by omega)]; exact s3
  · rw [hoff _ _ (by omega) (by omega) (by omega) (by omega), hoff _ _ (by omega) (by omega) (by omega) (by omega)]; exact h6
  · intro a j u
    simp only [uBk, Bool.or_eq_true, Bool.and_eq_true, beq_iff_eq, decide_eq_true_eq] at u
    exact hoff a j (by omega) (by omega) (by omega) (by omega)
  · intro a j u
    simp only [uIm, Bool.or_eq_true, Bool.and_eq_true, beq_iff_eq, decide_eq_true_eq] at u
    exact hoff a j (by omega) (by omega) (by omega) (by omega)
  · intro a j u
    simp only [uIm, Bool.or_eq_true, Bool.and_eq_true, beq_iff_eq, decide_eq_true_eq] at u
    exact hoff a j (by omega) (by omega) (by omega) (by omega)
  · intro a j u
    simp only [uWy, Bool.or_eq_true, beq_iff_eq] at u
    exact hoff a j (by omega) (by omega) (by omega) (by omega)
theorem q_feed {M : Mm} (h : Rel M) (x : Int32) (w : Int64) : ∃ (r : Int32) (M1 M2 : Mm), (∀ N, 9 < N → f_Uc_feed N x w M = some (r, M1) ∧ f_Mo_feed N x w M1 = some (r, M2)) ∧ Rel M2 := by
  have hh := h
  obtain ⟨n, t, b, m, mk, dr, sd, hP⟩ := h
  obtain ⟨-, -, -, -, ⟨len, l1, l2, l3, l4⟩, -⟩ := id hP
  have bad : (x < 1 ∨ ¬ x ≤ 8) → ∃ (r : Int32) (M1 M2 : Mm), (∀ N, 9 < N → f_Uc_feed N x w M = some (r, M1) ∧ f_Mo_feed N x w M1 = some (r, M2)) ∧ Rel M2 := by
    intro hx
    refine ⟨-1000000002, M, M, fun N hN => ?_, hh⟩
    unfold f_Uc_feed f_Mo_feed
    rw [show (1 : Int64) = (1 : Int32).toInt64 from rfl, show (8 : Int64) = (8 : Int32).toInt64 from rfl, in_if]
    by_cases z : x < 1
    · rw [if_pos z, if_pos z]; exact ⟨rfl, rfl⟩
    · have w : ¬ x ≤ 8 := hx.resolve_left z
      rw [if_neg z, if_neg w, if_neg z, if_pos (nle_I.mp w)]; exact ⟨rfl, rfl⟩
  by_cases z : x < 1
  · exact bad (Or.inl z)
  by_cases v : x ≤ 8
  · obtain ⟨r, hr, rfl⟩ := nI_of2 (x := x) (M := 8) (n := 8) rfl (fun q => z (Int32.lt_trans q (by decide))) v
    have v2 : ¬ (8 : Int32) < nI r := nlt_I.mpr v
    by_cases u : len + r ≤ 400
    · have u1 : nI len + nI r ≤ 400 := by rw [nI_add]; exact nI_le (b := 400) u (by decide)
      obtain ⟨M1, a1, a2, a3, a4⟩ := apl_I w r len M l2 u
      obtain ⟨M2, c1, c2, c3, c4⟩ := mfl_I w r len M1 ((a4 _ _ (by omega) (by omega)).trans l3) u
      refine ⟨nI (len + r), M1, M2, fun N hN => ⟨?_, ?_⟩, Rel.of (RelP.txt (n := n) (t := t) (b := b) (m := m) (mk := mk) (dr := dr) (sd := sd) (M := M) hP ⟨len + r, by omega, ?_, c2, fun i hi => ?_⟩ (fun a j q1 q2 q3 q4 => ?_))⟩
      · unfold f_Uc_feed f_Te_append f_Te_length
        rw [if_neg z, if_pos v, l2, if_pos u1]
        dsimp only [lt]
        rw [a1 N N (by omega), bnd_s, a2]
      · unfold f_Mo_feed
        rw [show (1 : Int64) = (1 : Int32).toInt64 from rfl, show (8 : Int64) = (8 : Int32).toInt64 from rfl, in_if, if_neg z, if_neg v2, (a4 49 10 (by omega) (by omega)).trans l3, if_pos u1]
        dsimp only [lt]
        exact c1 N N (by omega)
      · rw [c4 _ _ (by omega) (by omega)]; exact a2
      · by_cases e : i < len
        · obtain ⟨c, d1, d2, d3⟩ := l4 i e
          refine ⟨c, d1, ?_, ?_⟩
          · rw [c4 _ _ (by omega) (by omega), a4 _ _ (by omega) (by omega)]; exact d2
          · rw [c4 _ _ (by omega) (by omega), a4 _ _ (by omega) (by omega)]; exact d3
        · obtain ⟨c, d1, d2, d3⟩ := byt_I (bwd w (r - 1 - (i - len)))
          have e1 := c3 (i - len) (by omega)
          have e2 := a3 (i - len) (by omega)
          rw [show len + (i - len) = i by omega] at e1 e2
          exact ⟨c, d1, e1.trans d2, (c4 _ _ (by omega) (by omega)).trans (e2.trans d3)⟩
      · rw [c4 a j q2 (by omega), a4 a j q1 (by omega)]
    · have u1 : ¬ nI len + nI r ≤ 400 := by rw [nI_add]; exact nI_ge (a := 400) (by omega) (by omega)
      refine ⟨-1000000004, M, M, fun N hN => ⟨?_, ?_⟩, hh⟩
      · unfold f_Uc_feed f_Te_length
        rw [if_neg z, if_pos v, l2, if_neg u1]
      · unfold f_Mo_feed
        rw [show (1 : Int64) = (1 : Int32).toInt64 from rfl, show (8 : Int64) = (8 : Int32).toInt64 from rfl, in_if, if_neg z, if_neg v2, l3, if_neg u1]
  · exact bad (Or.inr v)
