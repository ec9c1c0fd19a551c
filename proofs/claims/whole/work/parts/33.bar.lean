/-! PURE 14: bar -/
theorem mk_keep {M : Mm} {c c' n t n' t' p q : Nat} {v : Bool} (h : c ≠ c') (hr : ∀ p, p < 8 → M.1 c p = nI (rwo n' t' p)) : ∀ j, j < 8 → (mkM c' p q n t v M).1 c j = nI (rwo n' t' j) := fun j hj => by rw [mk_off h]; exact hr j hj
/-- what becomes of the town when bars are set: 0 none, 1 barred, 2 must -/
def brT (c t k w : Nat) : Nat := if c = 0 then t else stb t k (decide (c = 2)) w
theorem b01 (P : Prop) [Decidable P] : (if decide P = true then (1 : Int32) else 0) = if P then 1 else 0 := by
  by_cases h : P
  · simp [h]
  · simp [h]
theorem setb_I {M : Mm} {n t b m mk dr p q c : Nat} {sd : Nat → Nat} (hn : n < 9) (h : CT M 1 n t b m mk dr sd) (hp : p < n) (hq : q < n) (hpq : p ≠ q) (hc : c < 3) : ∃ M1, f_To_setBar 1 (nI p) (nI q) (nI c) M = some M1 ∧ (∀ a j, a ≠ 2 → a ≠ 3 → a ≠ 4 → M1.1 a j = M.1 a j) ∧ (t < 2 ^ np n → b < 2 ^ np n → m < 2 ^ np n → ∀ j, j < 8 → M1.1 2 j = nI (rwo n (brT c t (pn n p q) (np n)) j) ∧ M1.1 3 j = nI (rwo n (stb b (pn n p q) (decide (c = 1)) (np n)) j) ∧ M1.1 4 j = nI (rwo n (stb m (pn n p q) (decide (c = 2)) (np n)) j)) := by
  have r2 : ∀ p, p < 8 → M.1 2 p = nI (rwo n t p) := fun p hp => (h.2.2.2 p hp).1
  have r3 : ∀ p, p < 8 → M.1 3 p = nI (rwo n b p) := fun p hp => (h.2.2.2 p hp).2.1
  have r4 : ∀ p, p < 8 → M.1 4 p = nI (rwo n m p) := fun p hp => (h.2.2.2 p hp).2.2.1
  have e1 : (nI c = 1) ↔ c = 1 := nI_eq (b := 1) (by omega) (by decide)
  have e2 : (nI c = 2) ↔ c = 2 := nI_eq (b := 2) (by omega) (by decide)
  have e0 : (nI c = 0) ↔ c = 0 := nI_eq (b := 0) (by omega) (by decide)
  have s1 := mark_I (a := 1) (v := decide (c = 1)) hn r3 hp hq hpq
  have s2 := mark_I (a := 1) (v := decide (c = 2)) hn (mk_keep (n := n) (t := b) (p := p) (q := q) (v := decide (c = 1)) (show (4 : Nat) ≠ 3 by decide) r4) hp hq hpq
  have s3 := mark_I (a := 1) (v := decide (c = 2)) hn (mk_keep (n := n) (t := m) (p := p) (q := q) (v := decide (c = 2)) (show (2 : Nat) ≠ 4 by decide) (mk_keep (n := n) (t := b) (p := p) (q := q) (v := decide (c = 1)) (show (2 : Nat) ≠ 3 by decide) r2)) hp hq hpq
  rw [b01] at s1 s2 s3
  have ev : f_To_setBar 1 (nI p) (nI q) (nI c) M = if c = 0 then some (mkM 4 p q n m (decide (c = 2)) (mkM 3 p q n b (decide (c = 1)) M)) else some (mkM 2 p q n t (decide (c = 2)) (mkM 4 p q n m (decide (c = 2)) (mkM 3 p q n b (decide (c = 1)) M))) := by
    unfold f_To_setBar
    simp only [lt, e1, e2, e0, Nat.reduceAdd]
    have j1 : ∀ (k : Int32 → Option Mm), (if c = 1 then k 1 else k 0) = k (if c = 1 then 1 else 0) := fun k => by split <;> rfl
    have j2 : ∀ (k : Int32 → Option Mm), (if c = 2 then k 1 else k 0) = k (if c = 2 then 1 else 0) := fun k => by split <;> rfl
    rw [j1 (fun x => (f_To_mark 1 3 (nI p) (nI q) x M).bind fun vu3 => if c = 2 then (f_To_mark 1 4 (nI p) (nI q) 1 vu3).bind fun vu6 => if c = 0 then some vu6 else if c = 2 then (f_To_mark 1 2 (nI p) (nI q) 1 vu6).bind fun vu10 => some vu10 else (f_To_mark 1 2 (nI p) (nI q) 0 vu6).bind fun vu10 => some vu10 else (f_To_mark 1 4 (nI p) (nI q) 0 vu3).bind fun vu6 => if c = 0 then some vu6 else if c = 2 then (f_To_mark 1 2 (nI p) (nI q) 1 vu6).bind fun vu10 => some vu10 else (f_To_mark 1 2 (nI p) (nI q) 0 vu6).bind fun vu10 => some vu10)]
    try dsimp only
    rw [s1]
    show (if c = 2 then _ else _) = _
    rw [j2 (fun x => (f_To_mark 1 4 (nI p) (nI q) x (mkM 3 p q n b (decide (c = 1)) M)).bind fun vu6 => if c = 0 then some vu6 else if c = 2 then (f_To_mark 1 2 (nI p) (nI q) 1 vu6).bind fun vu10 => some vu10 else (f_To_mark 1 2 (nI p) (nI q) 0 vu6).bind fun vu10 => some vu10)]
    try dsimp only
    rw [s2]
    show (if c = 0 then _ else _) = _
    by_cases z : c = 0
    · rw [if_pos z, if_pos z]
    · rw [if_neg z, if_neg z, j2 (fun x => (f_To_mark 1 2 (nI p) (nI q) x (mkM 4 p q n m (decide (c = 2)) (mkM 3 p q n b (decide (c = 1)) M))).bind fun vu10 => some vu10)]
      try dsimp only
      rw [s3]
      rfl
  by_cases z : c = 0
  · rw [if_pos z] at ev
    refine ⟨_, ev, fun a j q2 q3 q4 => by rw [mk_off q4, mk_off q3], fun ht hb hm j hj => ⟨?_, ?_, ?_⟩⟩
    · rw [mk_off (by decide), mk_off (by decide), r2 j hj]; unfold brT; rw [if_pos z]
    · rw [mk_off (by decide)]; exact mk_rows hn hb r3 hp hq hpq j hj
    · exact mk_rows hn hm (mk_keep (by decide) r4) hp hq hpq j hj
  · rw [if_neg z] at ev
    refine ⟨_, ev, fun a j q2 q3 q4 => by rw [mk_off q2, mk_off q4, mk_off q3], fun ht hb hm j hj => ⟨?_, ?_, ?_⟩⟩
    · unfold brT; rw [if_neg z]; exact mk_rows hn ht (mk_keep (by decide) (mk_keep (by decide) r2)) hp hq hpq j hj
    · rw [mk_off (by decide), mk_off (by decide)]; exact mk_rows hn hb r3 hp hq hpq j hj
    · rw [mk_off (by decide)]; exact mk_rows hn hm (mk_keep (by decide) r4) hp hq hpq j hj
theorem brT_lt {c t k n : Nat} (ht : t < 2 ^ np n) : brT c t k (np n) < 2 ^ np n := by unfold brT; split; exact ht; exact stb_lt
theorem TOK.bar {n t b m mk dr k c : Nat} {sd : Nat → Nat} (h : TOK n t b m mk dr sd) (hk : k < np n) (hc : c < 3) : TOK n (brT c t k (np n)) (stb b k (decide (c = 1)) (np n)) (stb m k (decide (c = 2)) (np n)) mk dr sd := by
  obtain ⟨h1, h2, h3, h4, h5, h6, h7⟩ := h
  refine ⟨h1, brT_lt h2, stb_lt, stb_lt, fun i z => ?_, fun i z => ?_, h7⟩
  · rw [stb_bit h3 hk] at z
    unfold brT at z
    by_cases e : i = k
    · subst e
      rw [if_pos rfl] at z
      have hc1 : c = 1 := by simpa using z.2
      subst hc1
      rw [if_neg (by decide), stb_bit h2 hk, if_pos rfl] at z
      exact absurd z.1 (by decide)
    · rw [if_neg e] at z
      by_cases c0 : c = 0
      · rw [if_pos c0] at z; exact h5 i z
      · rw [if_neg c0, stb_bit h2 hk, if_neg e] at z; exact h5 i z
  · rw [stb_bit h4 hk] at z
    unfold brT
    by_cases e : i = k
    · subst e
      rw [if_pos rfl] at z
      have hc2 : c = 2 := by simpa using z
      subst hc2
      rw [if_neg (by decide), stb_bit h2 hk, if_pos rfl]
      rfl
    · rw [if_neg e] at z
      by_cases c0 : c = 0
      · rw [if_pos c0]; exact h6 i z
      · rw [if_neg c0, stb_bit h2 hk, if_neg e]; exact h6 i z
theorem q_bar {M : Mm} (h : Rel M) (x y v : Int32) : ∃ (r : Int32) (M1 M2 : Mm), f_Uc_bar x y v M = some (r, M1) ∧ (∀ N, 8 < N → f_Mo_bar N x y v M1 = some (r, M2)) ∧ Rel M2 := by
  have hh := h
  obtain ⟨n, t, b, m, mk, dr, sd, hP⟩ := h
  obtain ⟨h1, h2, h3, -⟩ := id hP
  have hn := h1.1
  unfold f_Uc_bar f_Mo_bar
  rcases two_dec x y hn h2.1 h3.1 with ⟨i, j, hi, hj, hij, rfl, rfl⟩ | ⟨e1, e2⟩
  · have hk := pn_lt n hn i hi j hj hij
    have hk28 := np_le n hn
    simp only [show (0 : Int64) = (0 : Int32).toInt64 from rfl, show (2 : Int64) = (2 : Int32).toInt64 from rfl, in_if]
    rw [two_yes hn h2.1 hi hj hij, if_neg h10]
    by_cases z : v < 0
    · simp only [if_pos z]
      refine ⟨_, M, M, rfl, fun N hN => ?_, hh⟩
      rw [are_yes hn h3.1 hi hj hij, if_neg h10]
    · simp only [if_neg z]
      by_cases w : v ≤ 2
      · have w2 : ¬ 2 < v := nlt_I.mpr w
        simp only [if_pos w, if_neg w2]
        obtain ⟨c, hc, rfl⟩ := nI_of2 (x := v) (M := 2) (n := 2) rfl z w
        obtain ⟨M1, hev, hoff, hrow⟩ := setb_I (c := c) hn h2 hi hj hij (by omega)
        have hrow := hrow h1.2.1 h1.2.2.1 h1.2.2.2.1
        rw [bar_I hn h2 hi hj hij, hev]
        have c0 : M1.1 49 0 = nI n := by rw [hoff _ _ (by decide) (by decide) (by decide)]; exact h3.1
        have c1 : M1.1 49 1 = nI t := by rw [hoff _ _ (by decide) (by decide) (by decide)]; exact h3.2.1
        have c2 : M1.1 49 2 = nI b := by rw [hoff _ _ (by decide) (by decide) (by decide)]; exact h3.2.2.1
        have c3 : M1.1 49 3 = nI m := by rw [hoff _ _ (by decide) (by decide) (by decide)]; exact h3.2.2.2.1
        refine ⟨nI (brs n b m i j), M1, si (si (si M1 49 2 (nI (stb b (pn n i j) (decide (c = 1)) (np n)))) 49 3 (nI (stb m (pn n i j) (decide (c = 2)) (np n)))) 49 1 (nI (brT c t (pn n i j) (np n))), rfl, fun N hN => ?_, ?_⟩
        · rw [are_yes hn c0 hi hj hij, if_neg h10, c0, po_I hN hn hi hj hij]
          show lt _ _ = _
          simp only [lt]
          have d1 : ∀ M0 : Mm, (si M0 49 2 (nI (stb b (pn n i j) (decide (c = 1)) (np n)))).1 49 3 = M0.1 49 3 := fun M0 => si_k _ _ (by decide)
          have d2 : ∀ (M0 : Mm) (u w : Int32), (si (si M0 49 2 u) 49 3 w).1 49 1 = M0.1 49 1 := fun M0 u w => by rw [si_k _ _ (by decide), si_k _ _ (by decide)]
          have d3 : ∀ (M0 : Mm) (u : Int32), (si M0 49 2 u).1 49 3 = M0.1 49 3 := fun M0 u => si_k _ _ (by decide)
          simp only [d2, d3, c1, c2, c3, or_sI h1.2.1 hk (by omega), an_sI h1.2.1 hk (by omega), or_sI h1.2.2.1 hk (by omega), an_sI h1.2.2.1 hk (by omega), or_sI h1.2.2.2.1 hk (by omega), an_sI h1.2.2.2.1 hk (by omega), has_I (np_lt31 hn h1.2.2.1) (show pn n i j < 32 by omega), has_I (np_lt31 hn h1.2.2.2.1) (show pn n i j < 32 by omega)]
          have fin : ∀ was : Int32, (if nI c = 1 then (if nI c = 2 then (if nI c = 2 then some (was, si (si (si M1 49 2 (nI (stb b (pn n i j) true (np n)))) 49 3 (nI (stb m (pn n i j) true (np n)))) 49 1 (nI (stb t (pn n i j) true (np n)))) else if nI c = 1 then some (was, si (si (si M1 49 2 (nI (stb b (pn n i j) true (np n)))) 49 3 (nI (stb m (pn n i j) true (np n)))) 49 1 (nI (stb t (pn n i j) false (np n)))) else some (was, si (si (si M1 49 2 (nI (stb b (pn n i j) true (np n)))) 49 3 (nI (stb m (pn n i j) true (np n)))) 49 1 (nI t))) else (if nI c = 2 then some (was, si (si (si M1 49 2 (nI (stb b (pn n i j) true (np n)))) 49 3 (nI (stb m (pn n i j) false (np n)))) 49 1 (nI (stb t (pn n i j) true (np n)))) else if nI c = 1 then some (was, si (si (si M1 49 2 (nI (stb b (pn n i j) true (np n)))) 49 3 (nI (stb m (pn n i j) false (np n)))) 49 1 (nI (stb t (pn n i j) false (np n)))) else some (was, si (si (si M1 49 2 (nI (stb b (pn n i j) true (np n)))) 49 3 (nI (stb m (pn n i j) false (np n)))) 49 1 (nI t)))) else (if nI c = 2 then (if nI c = 2 then some (was, si (si (si M1 49 2 (nI (stb b (pn n i j) false (np n)))) 49 3 (nI (stb m (pn n i j) true (np n)))) 49 1 (nI (stb t (pn n i j) true (np n)))) else if nI c = 1 then some (was, si (si (si M1 49 2 (nI (stb b (pn n i j) false (np n)))) 49 3 (nI (stb m (pn n i j) true (np n)))) 49 1 (nI (stb t (pn n i j) false (np n)))) else some (was, si (si (si M1 49 2 (nI (stb b (pn n i j) false (np n)))) 49 3 (nI (stb m (pn n i j) true (np n)))) 49 1 (nI t))) else (if nI c = 2 then some (was, si (si (si M1 49 2 (nI (stb b (pn n i j) false (np n)))) 49 3 (nI (stb m (pn n i j) false (np n)))) 49 1 (nI (stb t (pn n i j) true (np n)))) else if nI c = 1 then some (was, si (si (si M1 49 2 (nI (stb b (pn n i j) false (np n)))) 49 3 (nI (stb m (pn n i j) false (np n)))) 49 1 (nI (stb t (pn n i j) false (np n)))) else some (was, si (si (si M1 49 2 (nI (stb b (pn n i j) false (np n)))) 49 3 (nI (stb m (pn n i j) false (np n)))) 49 1 (nI t))))) = some (was, si (si (si M1 49 2 (nI (stb b (pn n i j) (decide (c = 1)) (np n)))) 49 3 (nI (stb m (pn n i j) (decide (c = 2)) (np n)))) 49 1 (nI (brT c t (pn n i j) (np n)))) := by
            intro was
            rcases (show c = 0 ∨ c = 1 ∨ c = 2 by omega) with rfl | rfl | rfl <;> rfl
          simp only [fin]
          unfold brs
          by_cases zb : b.testBit (pn n i j) = true
          · simp only [if_pos zb, if_neg h10]; rfl
          · simp only [if_neg zb]
            by_cases zm : m.testBit (pn n i j) = true
            · simp only [if_pos zm, if_neg h10]; rfl
            · simp only [if_neg zm]; rfl
        · refine Rel.of (RelP.chg (n := n) (t := t) (b := b) (m := m) (mk := mk) (dr := dr) (sd := sd) (M := M) hP (h1.bar hk (show c < 3 by omega)) ?_ ?_ ?_ ?_)
          · intro a jj q1 q2 q3 q4 q5 q6 q7 _
            rw [si1, if_neg (by omega), si1, if_neg (by omega), si1, if_neg (by omega)]
            exact hoff a jj q2 q3 q4
          · refine ⟨?_, ?_⟩
            · rw [si_a _ _ (by decide), si_a _ _ (by decide), si_a _ _ (by decide), hoff _ _ (by decide) (by decide) (by decide)]; exact h2.1
            · rw [si_k _ _ (by decide), si_k _ _ (by decide), si_k _ _ (by decide)]; exact c0
          · intro p hp
            refine ⟨?_, ?_, ?_, ?_, ?_⟩
            · rw [si_a _ _ (by decide), si_a _ _ (by decide), si_a _ _ (by decide)]; exact (hrow p hp).1
            · rw [si_a _ _ (by decide), si_a _ _ (by decide), si_a _ _ (by decide)]; exact (hrow p hp).2.1
            · rw [si_a _ _ (by decide), si_a _ _ (by decide), si_a _ _ (by decide)]; exact (hrow p hp).2.2
            · rw [si_a _ _ (by decide), si_a _ _ (by decide), si_a _ _ (by decide), hoff _ _ (by decide) (by decide) (by decide)]; exact (h2.2.2.2 p hp).2.2.2
            · rw [si_a _ _ (by decide), si_a _ _ (by decide), si_a _ _ (by decide), hoff _ _ (by decide) (by decide) (by decide)]; exact h3.2.2.2.2.2.2 p hp
          · exact ⟨by rw [si_s], by rw [si_k _ _ (by decide), si_k _ _ (by decide), si_s], by rw [si_k _ _ (by decide), si_s]⟩
      · have w2 : 2 < v := nle_I.mp w
        simp only [if_neg w, if_pos w2]
        refine ⟨_, M, M, rfl, fun N hN => ?_, hh⟩
        rw [are_yes hn h3.1 hi hj hij, if_neg h10]
  · rw [e1, if_pos rfl]
    refine ⟨_, M, M, rfl, fun N hN => ?_, hh⟩
    rw [e2, if_pos rfl]
