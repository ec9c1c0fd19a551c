/-! PURE 13: tie -/
def RelP (n t b m mk dr : Nat) (sd : Nat → Nat) (M : Mm) : Prop := TOK n t b m mk dr sd ∧ CT M 1 n t b m mk dr sd ∧ MT M n t b m mk dr sd ∧ (∃ s, s < 2 ^ 31 ∧ M.1 0 10 = nI s ∧ M.1 49 7 = nI s) ∧ RText M ∧ M.1 11 6 = M.1 49 11 ∧ RBook M ∧ (RImg M 0 37 mk dr ∧ RImg M 1 43 mk dr) ∧ RWays M
theorem Rel.of {n t b m mk dr : Nat} {sd : Nat → Nat} {M : Mm} (h : RelP n t b m mk dr sd M) : Rel M := ⟨n, t, b, m, mk, dr, sd, h⟩
/-- the town changes, the rest stays -/
theorem RelP.chg {n t b m mk dr n' t' b' m' : Nat} {sd sd' : Nat → Nat} {M M2 : Mm} (h : RelP n t b m mk dr sd M) (hT : TOK n' t' b' m' mk dr sd') (hoff : ∀ a j, ¬ (a = 1 ∧ j = 0) → a ≠ 2 → a ≠ 3 → a ≠ 4 → a ≠ 5 → a ≠ 50 → ¬ (a = 49 ∧ j ≤ 3) → relv a j = true → M2.1 a j = M.1 a j) (h0 : M2.1 1 0 = nI n' ∧ M2.1 49 0 = nI n') (hrow : ∀ j, j < 8 → M2.1 2 j = nI (rwo n' t' j) ∧ M2.1 3 j = nI (rwo n' b' j) ∧ M2.1 4 j = nI (rwo n' m' j) ∧ M2.1 5 j = nI (sd' j) ∧ M2.1 50 j = nI (sd' j)) (hnum : M2.1 49 1 = nI t' ∧ M2.1 49 2 = nI b' ∧ M2.1 49 3 = nI m') : RelP n' t' b' m' mk dr sd' M2 := by
  obtain ⟨h1, h2, h3, ⟨s, s1, s2, s3⟩, h5, h6, h7, ⟨h8, h9⟩, h10'⟩ := h
  refine ⟨hT, ⟨h0.1, ?_, ?_, fun p hp => ⟨(hrow p hp).1, (hrow p hp).2.1, (hrow p hp).2.2.1, (hrow p hp).2.2.2.1⟩⟩, ⟨h0.2, hnum.1, hnum.2.1, hnum.2.2, ?_, ?_, fun p hp => (hrow p hp).2.2.2.2⟩, ⟨s, s1, ?_, ?_⟩, h5.ag ?_, ?_, h7.ag ?_, ⟨h8.ag ?_, h9.ag ?_⟩, h10'.ag ?_⟩
  · rw [hoff 1 1 (by decide) (by decide) (by decide) (by decide) (by decide) (by decide) (by decide) rfl]; exact h2.2.1
  · rw [hoff 1 2 (by decide) (by decide) (by decide) (by decide) (by decide) (by decide) (by decide) rfl]; exact h2.2.2.1
  · rw [hoff 49 4 (by decide) (by decide) (by decide) (by decide) (by decide) (by decide) (by decide) rfl]; exact h3.2.2.2.2.1
  · rw [hoff 49 5 (by decide) (by decide) (by decide) (by decide) (by decide) (by decide) (by decide) rfl]; exact h3.2.2.2.2.2.1
  · rw [hoff 0 10 (by decide) (by decide) (by decide) (by decide) (by decide) (by decide) (by decide) rfl]; exact s2
  · rw [hoff 49 7 (by decide) (by decide) (by decide) (by decide) (by decide) (by decide) (by decide) rfl]; exact s3
  · intro a j u
    have u' := u
    simp only [uTx, Bool.or_eq_true, Bool.and_eq_true, beq_iff_eq] at u
    exact hoff a j (by omega) (by omega) (by omega) (by omega) (by omega) (by omega) (by omega) (by simp only [relv, Bool.or_eq_true, Bool.and_eq_true, beq_iff_eq, decide_eq_true_eq]; omega)
  · rw [hoff 11 6 (by decide) (by decide) (by decide) (by decide) (by decide) (by decide) (by decide) rfl, hoff 49 11 (by decide) (by decide) (by decide) (by decide) (by decide) (by decide) (by decide) rfl]; exact h6
  · intro a j u
    simp only [uBk, Bool.or_eq_true, Bool.and_eq_true, beq_iff_eq, decide_eq_true_eq] at u
    exact hoff a j (by omega) (by omega) (by omega) (by omega) (by omega) (by omega) (by omega) (by simp only [relv, Bool.or_eq_true, Bool.and_eq_true, beq_iff_eq, decide_eq_true_eq]; omega)
  · intro a j u
    simp only [uIm, Bool.or_eq_true, Bool.and_eq_true, beq_iff_eq, decide_eq_true_eq] at u
    exact hoff a j (by omega) (by omega) (by omega) (by omega) (by omega) (by omega) (by omega) (by simp only [relv, Bool.or_eq_true, Bool.and_eq_true, beq_iff_eq, decide_eq_true_eq]; omega)
  · intro a j u
    simp only [uIm, Bool.or_eq_true, Bool.and_eq_true, beq_iff_eq, decide_eq_true_eq] at u
    exact hoff a j (by omega) (by omega) (by omega) (by omega) (by omega) (by omega) (by omega) (by simp only [relv, Bool.or_eq_true, Bool.and_eq_true, beq_iff_eq, decide_eq_true_eq]; omega)
  · intro a j u
    simp only [uWy, Bool.or_eq_true, beq_iff_eq] at u
    exact hoff a j (by omega) (by omega) (by omega) (by omega) (by omega) (by omega) (by omega) (by simp only [relv, Bool.or_eq_true, Bool.and_eq_true, beq_iff_eq, decide_eq_true_eq]; omega)
theorem alw_I {M : Mm} {a n t b m mk dr p q : Nat} {sd : Nat → Nat} (v : Bool) (hn : n < 9) (h : CT M a n t b m mk dr sd) (hbm : ∀ k, ¬ (b.testBit k = true ∧ m.testBit k = true)) (hp : p < n) (hq : q < n) (hpq : p ≠ q) : f_To_allows a (nI p) (nI q) (if v = true then 1 else 0) M = some (if (if v = true then b.testBit (pn n p q) else m.testBit (pn n p q)) = true then 0 else 1) := by
  unfold f_To_allows
  rw [bar_I hn h hp hq hpq]
  show lt _ _ = _
  simp only [lt]
  have hb := hbm (pn n p q)
  unfold brs
  cases v with
  | true =>
    rw [if_neg (show ¬ (if true = true then (1 : Int32) else 0) = 0 by decide), if_pos rfl]
    by_cases z : b.testBit (pn n p q) = true
    · rw [if_pos z, if_pos z]; rfl
    · rw [if_neg z, if_neg z]
      by_cases w : m.testBit (pn n p q) = true
      · rw [if_pos w]; rfl
      · rw [if_neg w]; rfl
  | false =>
    rw [if_pos (show (if false = true then (1 : Int32) else 0) = 0 by decide), if_neg (show ¬ (false = true) by decide)]
    by_cases z : b.testBit (pn n p q) = true
    · have w : ¬ m.testBit (pn n p q) = true := fun w => hb ⟨z, w⟩
      rw [if_pos z, if_neg w]; rfl
    · rw [if_neg z]
      by_cases w : m.testBit (pn n p q) = true
      · rw [if_pos w, if_pos w]; rfl
      · rw [if_neg w, if_neg w]; rfl
theorem TOK.bm {n t b m mk dr : Nat} {sd : Nat → Nat} (h : TOK n t b m mk dr sd) (k : Nat) : ¬ (b.testBit k = true ∧ m.testBit k = true) := fun z => h.2.2.2.2.1 k ⟨h.2.2.2.2.2.1 k z.2, z.1⟩
theorem TOK.tie {n t b m mk dr k : Nat} {sd : Nat → Nat} {v : Bool} (h : TOK n t b m mk dr sd) (hk : k < np n) (hb : v = true → b.testBit k = false) (hm : v = false → m.testBit k = false) : TOK n (stb t k v (np n)) b m mk dr sd := by
  obtain ⟨h1, h2, h3, h4, h5, h6, h7⟩ := h
  refine ⟨h1, stb_lt, h3, h4, fun i z => ?_, fun i z => ?_, h7⟩
  · rw [stb_bit h2 hk] at z
    by_cases e : i = k
    · subst e; rw [if_pos rfl] at z; have := hb z.1; rw [this] at z; exact absurd z.2 (by decide)
    · rw [if_neg e] at z; exact h5 i z
  · rw [stb_bit h2 hk]
    by_cases e : i = k
    · subst e
      rw [if_pos rfl]
      cases v with
      | true => rfl
      | false => rw [hm rfl] at z; exact absurd z (by decide)
    · rw [if_neg e]; exact h6 i z
theorem q_tie {M : Mm} (h : Rel M) (x y : Int32) (v : Bool) : ∃ (r : Int32) (M1 M2 : Mm), f_Uc_tie x y (if v = true then 1 else 0) M = some (r, M1) ∧ (∀ N, 8 < N → f_Mo_tie N x y (if v = true then 1 else 0) M1 = some (r, M2)) ∧ Rel M2 := by
  have hh := h
  obtain ⟨n, t, b, m, mk, dr, sd, hP⟩ := h
  obtain ⟨h1, h2, h3, -⟩ := id hP
  have hn := h1.1
  unfold f_Uc_tie f_Mo_tie
  rcases two_dec x y hn h2.1 h3.1 with ⟨i, j, hi, hj, hij, rfl, rfl⟩ | ⟨e1, e2⟩
  · have hk := pn_lt n hn i hi j hj hij
    have hk28 := np_le n hn
    rw [two_yes hn h2.1 hi hj hij, if_neg h10, alw_I v hn h2 h1.bm hi hj hij, fri_I hn h2 hi hj hij, mark_I hn (fun p hp => (h2.2.2.2 p hp).1) hi hj hij]
    show ∃ r M1 M2, (if (if (if v = true then b.testBit (pn n i j) else m.testBit (pn n i j)) = true then (0 : Int32) else 1) = 0 then _ else (if (if t.testBit (pn n i j) = true then (1 : Int32) else 0) = (if v = true then 1 else 0) then _ else _)) = _ ∧ _
    by_cases z : (if v = true then b.testBit (pn n i j) else m.testBit (pn n i j)) = true
    · rw [if_pos z, if_pos rfl]
      refine ⟨_, M, M, rfl, fun N hN => ?_, hh⟩
      rw [are_yes hn h3.1 hi hj hij, if_neg h10, h3.1, po_I hN hn hi hj hij]
      show lt _ _ = _
      simp only [lt]
      rw [h3.2.2.1, h3.2.2.2.1, has_I (np_lt31 hn h1.2.2.1) (by omega), has_I (np_lt31 hn h1.2.2.2.1) (by omega)]
      cases v with
      | true =>
        have z2 : b.testBit (pn n i j) = true := z
        rw [if_neg (show ¬ (if true = true then (1 : Int32) else 0) = 0 by decide), if_pos z2, if_neg h10]
      | false =>
        have z2 : m.testBit (pn n i j) = true := z
        rw [if_pos (show (if false = true then (1 : Int32) else 0) = 0 by decide), if_pos z2, if_neg h10]
    · rw [if_neg z, if_neg h10]
      have hT : TOK n (stb t (pn n i j) v (np n)) b m mk dr sd := h1.tie hk (fun e => by subst e; simpa using z) (fun e => by subst e; simpa using z)
      have hrel : Rel (si (mkM 2 i j n t v M) 49 1 (nI (stb t (pn n i j) v (np n)))) := by
        refine Rel.of (RelP.chg (n := n) (t := t) (b := b) (m := m) (mk := mk) (dr := dr) (sd := sd) (M := M) hP hT ?_ ?_ ?_ ?_)
        · intro a jj q1 q2 q3 q4 q5 q6 q7 _
          rw [si1, if_neg (by omega), mk_off q2]
        · exact ⟨by rw [si_a _ _ (by decide), mk_off (by decide)]; exact h2.1, by rw [si_k _ _ (by decide), mk_off (by decide)]; exact h3.1⟩
        · intro p hp
          refine ⟨?_, ?_, ?_, ?_, ?_⟩
          · rw [si_a _ _ (by decide)]; exact mk_rows hn h1.2.1 (fun p hp => (h2.2.2.2 p hp).1) hi hj hij p hp
          · rw [si_a _ _ (by decide), mk_off (by decide)]; exact (h2.2.2.2 p hp).2.1
          · rw [si_a _ _ (by decide), mk_off (by decide)]; exact (h2.2.2.2 p hp).2.2.1
          · rw [si_a _ _ (by decide), mk_off (by decide)]; exact (h2.2.2.2 p hp).2.2.2
          · rw [si_a _ _ (by decide), mk_off (by decide)]; exact h3.2.2.2.2.2.2 p hp
        · exact ⟨by rw [si_s], by rw [si_k _ _ (by decide), mk_off (by decide)]; exact h3.2.2.1, by rw [si_k _ _ (by decide), mk_off (by decide)]; exact h3.2.2.2.1⟩
      have hsame : (nI t = nI (stb t (pn n i j) v (np n))) ↔ (t.testBit (pn n i j) = v) := by
        rw [nI_eq (np_lt31 hn h1.2.1) (np_lt31 hn stb_lt)]
        constructor
        · intro e
          have := stb_bit (i := pn n i j) (v := v) h1.2.1 hk
          rw [if_pos rfl, ← e] at this
          exact this
        · intro e
          apply Nat.eq_of_testBit_eq
          intro ii
          rw [stb_bit h1.2.1 hk]
          by_cases e2 : ii = pn n i j
          · subst e2; rw [if_pos rfl]; exact e
          · rw [if_neg e2]
      have key : ∀ N, 8 < N → (if f_Mo_areTwo (nI i) (nI j) (mkM 2 i j n t v M) = 0 then some ((-1000000001 : Int32), mkM 2 i j n t v M) else (f_Mo_pairOf N ((mkM 2 i j n t v M).1 49 0) (nI i) (nI j)).bind fun vu2 => lt (fun (_ : Unit) => lt ((mkM 2 i j n t v M).1 49 1) fun xu4 => lt (fun (xu6 : Int32) => lt (si (mkM 2 i j n t v M) 49 1 xu6) fun Mu7 => if xu4 = (Mu7.1 49 1) then some ((0 : Int32), Mu7) else some ((1 : Int32), Mu7)) fun ju5 => if (if v = true then (1 : Int32) else 0) = 0 then ju5 (((mkM 2 i j n t v M).1 49 1) &&& (((1 : Int32) <<< (vu2 &&& 31)) ^^^ (-1))) else ju5 (((mkM 2 i j n t v M).1 49 1) ||| ((1 : Int32) <<< (vu2 &&& 31)))) fun ju3 => if (if v = true then (1 : Int32) else 0) = 0 then if (f_Mo_has ((mkM 2 i j n t v M).1 49 3) vu2) = 0 then ju3 () else some ((-1000000003 : Int32), mkM 2 i j n t v M) else if (f_Mo_has ((mkM 2 i j n t v M).1 49 2) vu2) = 0 then ju3 () else some ((-1000000003 : Int32), mkM 2 i j n t v M)) = some (if t.testBit (pn n i j) = v then (0 : Int32) else 1, si (mkM 2 i j n t v M) 49 1 (nI (stb t (pn n i j) v (np n)))) := by
        intro N hN
        have c0 : (mkM 2 i j n t v M).1 49 0 = nI n := by rw [mk_off (by decide)]; exact h3.1
        have c1 : (mkM 2 i j n t v M).1 49 1 = nI t := by rw [mk_off (by decide)]; exact h3.2.1
        have c2 : (mkM 2 i j n t v M).1 49 2 = nI b := by rw [mk_off (by decide)]; exact h3.2.2.1
        have c3 : (mkM 2 i j n t v M).1 49 3 = nI m := by rw [mk_off (by decide)]; exact h3.2.2.2.1
        rw [are_yes hn c0 hi hj hij, if_neg h10, c0, c1, c2, c3, po_I hN hn hi hj hij]
        show lt _ _ = _
        simp only [lt]
        rw [has_I (np_lt31 hn h1.2.2.1) (by omega), has_I (np_lt31 hn h1.2.2.2.1) (by omega)]
        cases v with
        | true =>
          have z2 : ¬ b.testBit (pn n i j) = true := z
          rw [if_neg (show ¬ (if true = true then (1 : Int32) else 0) = 0 by decide), if_neg z2, if_pos rfl, if_neg (show ¬ (if true = true then (1 : Int32) else 0) = 0 by decide), or_sI h1.2.1 hk (by omega), si_s]
          by_cases w : t.testBit (pn n i j) = true
          · rw [if_pos (hsame.mpr w), if_pos w]
          · rw [if_neg (fun q => w (hsame.mp q)), if_neg w]
        | false =>
          have z2 : ¬ m.testBit (pn n i j) = true := z
          rw [if_pos (show (if false = true then (1 : Int32) else 0) = 0 by decide), if_neg z2, if_pos rfl, if_pos (show (if false = true then (1 : Int32) else 0) = 0 by decide), an_sI h1.2.1 hk (by omega), si_s]
          by_cases w : t.testBit (pn n i j) = false
          · rw [if_pos (hsame.mpr w), if_pos w]
          · rw [if_neg (fun q => w (hsame.mp q)), if_neg w]
      refine ⟨if t.testBit (pn n i j) = v then 0 else 1, mkM 2 i j n t v M, _, ?_, key, hrel⟩
      have e3 : ((if t.testBit (pn n i j) = true then (1 : Int32) else 0) = (if v = true then 1 else 0)) ↔ (t.testBit (pn n i j) = v) := by
        cases v <;> cases t.testBit (pn n i j) <;> decide
      by_cases w : t.testBit (pn n i j) = v
      · rw [if_pos (e3.mpr w), if_pos w]
      · rw [if_neg (fun q => w (e3.mp q)), if_neg w]
  · rw [e1, if_pos rfl]
    refine ⟨_, M, M, rfl, fun N hN => ?_, hh⟩
    rw [e2, if_pos rfl]
