/-! PURE 20: birth -/
def wmf (n t K a b : Nat) : Bool := decide (b < n) && (t.testBit (pn n a b) && decide (pn n a b < K))
def wmN (n t : Nat) : Nat := tfm (n + 1) (fun _ b => decide (b < n)) (pn n) t
theorem wm_in (N n t p : Nat) (ju : Int32 → Option Int32) (hN : 8 < N) (hn : n < 8) (ht : t < 2 ^ 31) (hp : p < n) : ∀ (d q nu : Nat), q + d = n → p < q → d < nu → L_Mo_withMore_14 N (nI n) (nI t) (nI p) ju nu (nI (tof (n + 1) (wmf n t (pr0 n p + (q - p - 1))))) (nI q) = ju (nI (tof (n + 1) (wmf n t (pr0 n (p + 1)))))
  | 0, q, nu + 1, hq, hpq, hnu => by
    have hq : q = n := by omega
    subst hq
    rw [L_Mo_withMore_14, if_pos (nI_le (Nat.le_refl q) (by omega)), pr_next q (by omega) p hp]
  | d + 1, q, nu + 1, hq, hpq, hnu => by
    have ih := wm_in N n t p ju hN hn ht hp d (q + 1) nu (by omega) (by omega) (by omega)
    rw [show pr0 n p + (q + 1 - p - 1) = pr0 n p + (q - p - 1) + 1 by omega] at ih
    have hK := pn_up (n := n) hpq
    rw [← hK] at ih ⊢
    have hb : pn n p q < 32 := Nat.lt_of_lt_of_le (pn_lt n (by omega) p hp q (by omega) (by omega)) (Nat.le_trans (np_le n (by omega)) (by decide))
    have hb2 : pn (n + 1) p q < 32 := Nat.lt_of_lt_of_le (pn_lt (n + 1) (by omega) p (by omega) q (by omega) (by omega)) (Nat.le_trans (np_le (n + 1) (by omega)) (by decide))
    have oth : ∀ a b, a < b → b < n + 1 → ¬ (a = p ∧ b = q) → wmf n t (pn n p q + 1) a b = wmf n t (pn n p q) a b := by
      intro a b hab hbn hne
      unfold wmf
      by_cases z : b < n
      · have : pn n a b ≠ pn n p q := fun w => hne (pn_inj0 (by omega) (by omega) z hab (by omega) (by omega) hpq w)
        have e3 : (pn n a b < pn n p q + 1) ↔ (pn n a b < pn n p q) := by omega
        simp [e3]
      · simp [z]
    rw [L_Mo_withMore_14, if_neg (nI_ge (by omega) (by omega)), po_I hN (by omega) hp (by omega) (by omega), bnd_s]
    simp only [lt, nI_1]
    rw [has_I ht hb]
    by_cases z : t.testBit (pn n p q) = true
    · rw [if_pos z, if_neg h10, po_I hN (by omega) (by omega) (by omega) (by omega), bnd_s, one_sl hb2, or_I, tof_or (R' := wmf n t (pn n p q + 1)) (by omega) hpq (by omega) (by simp [wmf, z]; omega) oth]
      exact ih
    · rw [if_neg z, if_pos rfl, show (0 : Int32) = nI 0 from rfl, or_I, Nat.or_zero, tof_cong (R' := wmf n t (pn n p q + 1)) (by omega) (fun a b hab hbn => by
        by_cases e : a = p ∧ b = q
        · obtain ⟨rfl, rfl⟩ := e
          simp [wmf, z]
        · exact (oth a b hab hbn e).symm)]
      exact ih
theorem wm_out (N n t : Nat) (hN : 9 < N) (hn : n < 8) (ht : t < 2 ^ 31) : ∀ (d p nu : Nat), p + d = n → d < nu → L_Mo_withMore_4 N (nI n) (nI t) nu (nI (tof (n + 1) (wmf n t (pr0 n p)))) (nI p) = some (nI (tof (n + 1) (wmf n t (np n))))
  | 0, p, nu + 1, hp, hnu => by
    have hp : p = n := by omega
    subst hp
    rw [L_Mo_withMore_4, if_pos (nI_le (Nat.le_refl p) (by omega)), pr_end p (by omega)]
  | d + 1, p, nu + 1, hp, hnu => by
    have ih := wm_out N n t hN hn ht d (p + 1) nu (by omega) (by omega)
    rw [L_Mo_withMore_4, if_neg (nI_ge (by omega) (by omega))]
    simp only [lt, nI_1]
    have h := wm_in N n t p (fun xu4 => L_Mo_withMore_4 N (nI n) (nI t) nu xu4 (nI (p + 1))) (by omega) hn ht (by omega) (n - (p + 1)) (p + 1) N (by omega) (by omega) (by omega)
    simp only [show p + 1 - p - 1 = 0 by omega, Nat.add_zero] at h
    rw [h]
    exact ih
theorem wm_I {N n t : Nat} (hN : 9 < N) (hn : n < 8) (ht : t < 2 ^ 31) : f_Mo_withMore N (nI n) (nI t) = some (nI (wmN n t)) := by
  have h := wm_out N n t hN hn ht n 0 N (by omega) (by omega)
  rw [show pr0 n 0 = 0 by unfold pr0; simp, tof_zero (by omega) (fun a b _ _ => by simp [wmf])] at h
  have e : wmN n t = tof (n + 1) (wmf n t (np n)) := by
    unfold wmN tfm
    refine tof_cong (by omega) (fun a b hab hbn => ?_)
    unfold wmf
    by_cases z : b < n
    · have := pn_lt n (by omega) a (by omega) b z (by omega)
      simp [this]
    · simp [z]
  rw [e]
  exact h
theorem wmN_lt {n t : Nat} : wmN n t < 2 ^ np (n + 1) := by unfold wmN tfm; exact tof_lt
theorem rwo_wm {n t p : Nat} (hn : n < 8) : rwo (n + 1) (wmN n t) p = rwo n t p := by
  apply Nat.eq_of_testBit_eq
  intro i
  rw [rwo_bit, rwo_bit]
  unfold rwf wmN tfm
  by_cases hp : p < n + 1
  · by_cases hi : i < n + 1
    · by_cases e : i = p
      · subst e; simp
      · rcases Nat.lt_or_gt_of_ne e with f | f
        · rw [pn_comm (n := n + 1) (fun w => e w.symm), tof_bit (by omega) f hp, pn_comm (n := n) (fun w => e w.symm)]
          have h3 : i < n := by omega
          simp [hp, hi, e, h3]
        · rw [tof_bit (by omega) f hi]
          have h3 : p < n := by omega
          simp [hp, hi, e, h3]
    · have h3 : ¬ i < n := by omega
      simp [hi, h3]
  · have h3 : ¬ p < n := by omega
    simp [hp, h3]
theorem add_CT {M : Mm} {a n t b m mk dr : Nat} {sd : Nat → Nat} (hn : n < 8) (h : CT M a n t b m mk dr sd) (hz : ∀ p, n ≤ p → sd p = 0) : ∃ M1, (∀ N, 9 < N → f_To_addPerson N a M = some M1) ∧ CT M1 a (n + 1) (wmN n t) (wmN n b) (wmN n m) mk dr (dgS (n + 1) (wmN n t)) ∧ (∀ x j, ¬ (x = a ∧ j = 0) → x ≠ a + 4 → M1.1 x j = M.1 x j) := by
  obtain ⟨h1, h2, h3, h4⟩ := h
  have o : ∀ x j, ¬ (x = a ∧ j = 0) → (si M a 0 (nI (n + 1))).1 x j = M.1 x j := fun x j q => by rw [si1, if_neg q]
  refine ⟨scK a (n + 1) (wmN n t) (n + 1) (si M a 0 (nI (n + 1))), fun N hN => ?_, ⟨?_, ?_, ?_, fun p hp => ⟨?_, ?_, ?_, ?_⟩⟩, fun x j q1 q2 => ?_⟩
  · unfold f_To_addPerson
    rw [h1, if_neg (show ¬ (8 : Int32) ≤ nI n from nI_ge (a := n) (b := 8) hn (by decide))]
    simp only [lt, nI_1]
    rw [say_I (t := wmN n t) (by omega) (si_s _ _ _ _) (fun p hp => by rw [o _ _ (by omega), (h4 p hp).1, rwo_wm hn]) N hN]
    rfl
  · rw [sc_off (by omega), si_s]
  · rw [sc_off (by omega), o _ _ (by omega)]; exact h2
  · rw [sc_off (by omega), o _ _ (by omega)]; exact h3
  · rw [sc_off (by omega), o _ _ (by omega), rwo_wm hn]; exact (h4 p hp).1
  · rw [sc_off (by omega), o _ _ (by omega), rwo_wm hn]; exact (h4 p hp).2.1
  · rw [sc_off (by omega), o _ _ (by omega), rwo_wm hn]; exact (h4 p hp).2.2.1
  · exact sc_at (sd := sd) (by rw [o _ _ (by omega)]; exact (h4 p hp).2.2.2) (fun z => hz p (by omega))
  · rw [sc_off q2, o x j q1]
theorem mob_I {M : Mm} {n t b m mk dr : Nat} {sd : Nat → Nat} (hn : n < 8) (ht : t < 2 ^ 31) (hb : b < 2 ^ 31) (hm : m < 2 ^ 31) (h : MT M n t b m mk dr sd) : ∃ M2, (∀ N, 9 < N → f_Mo_birth N M = some (nI n, M2)) ∧ MT M2 (n + 1) (wmN n t) (wmN n b) (wmN n m) mk dr (dgS (n + 1) (wmN n t)) ∧ (∀ x j, ¬ (x = 49 ∧ j ≤ 3) → x ≠ 50 → M2.1 x j = M.1 x j) := by
  obtain ⟨h1, h2, h3, h4, h5, h6, h7⟩ := h
  have hlt : ∀ x, wmN n x < 2 ^ 31 := fun x => np_lt31 (n := n + 1) (by omega) wmN_lt
  generalize hM : si (si (si (si M 49 1 (nI (wmN n t))) 49 2 (nI (wmN n b))) 49 3 (nI (wmN n m))) 49 0 (nI (n + 1)) = M0
  have o : ∀ x j, ¬ (x = 49 ∧ j ≤ 3) → M0.1 x j = M.1 x j := fun x j q => by rw [← hM, si1, if_neg (by omega), si1, if_neg (by omega), si1, if_neg (by omega), si1, if_neg (by omega)]
  have e0 : M0.1 49 0 = nI (n + 1) := by rw [← hM, si_s]
  have e1 : M0.1 49 1 = nI (wmN n t) := by rw [← hM, si_k _ _ (by decide), si_k _ _ (by decide), si_k _ _ (by decide), si_s]
  have e2 : M0.1 49 2 = nI (wmN n b) := by rw [← hM, si_k _ _ (by decide), si_k _ _ (by decide), si_s]
  have e3 : M0.1 49 3 = nI (wmN n m) := by rw [← hM, si_k _ _ (by decide), si_s]
  refine ⟨tcK (n + 1) (wmN n t) 8 M0, fun N hN => ?_, ⟨?_, ?_, ?_, ?_, ?_, ?_, fun p hp => if_pos ⟨rfl, hp⟩⟩, fun x j q1 q2 => ?_⟩
  · have f1 : ∀ (u v : Int32), (si (si M 49 1 u) 49 2 v).1 49 0 = nI n ∧ (si M 49 1 u).1 49 0 = nI n ∧ (si M 49 1 u).1 49 2 = nI b ∧ (si (si M 49 1 u) 49 2 v).1 49 3 = nI m := fun u v => ⟨by rw [si_k _ _ (by decide), si_k _ _ (by decide)]; exact h1, by rw [si_k _ _ (by decide)]; exact h1, by rw [si_k _ _ (by decide)]; exact h3, by rw [si_k _ _ (by decide), si_k _ _ (by decide)]; exact h4⟩
    have f2 : ∀ (u v w : Int32), (si (si (si M 49 1 u) 49 2 v) 49 3 w).1 49 0 = nI n := fun u v w => by rw [si_k _ _ (by decide)]; exact (f1 u v).1
    unfold f_Mo_birth
    rw [h1, h2, if_neg (fun z => by have := (nI_eq (a := n) (b := 8) (by omega) (by decide)).mp z; omega), wm_I hN hn ht, bnd_s]
    simp only [lt]
    rw [(f1 _ 0).2.1, (f1 _ 0).2.2.1, wm_I hN hn hb, bnd_s, (f1 _ _).1, (f1 _ _).2.2.2, wm_I hN hn hm, bnd_s, f2, nI_1, hM, tc_I (by omega) (hlt t) e0 e1 N hN, bnd_s, tc_off (by decide), e0, nI_pred]
  · rw [tc_off (by decide)]; exact e0
  · rw [tc_off (by decide)]; exact e1
  · rw [tc_off (by decide)]; exact e2
  · rw [tc_off (by decide)]; exact e3
  · rw [tc_off (by decide), o _ _ (by omega)]; exact h5
  · rw [tc_off (by decide), o _ _ (by omega)]; exact h6
  · rw [tc_off q2, o x j q1]
/-- class and reference each change their own town -/
theorem RelP.two {n t b m mk dr n' t' b' m' : Nat} {sd sd' : Nat → Nat} {M M1 M2 : Mm} (h : RelP n t b m mk dr sd M) (hT : TOK n' t' b' m' mk dr sd') (hC : CT M1 1 n' t' b' m' mk dr sd') (hM : MT M2 n' t' b' m' mk dr sd') (hs : ∃ s, s < 2 ^ 31 ∧ M1.1 0 10 = nI s ∧ M2.1 49 7 = nI s) (o1 : ∀ x j, ¬ (x = 0 ∧ j = 10) → ¬ (1 ≤ x ∧ x ≤ 5) → relv x j = true → M1.1 x j = M.1 x j) (o2 : ∀ x j, ¬ (x = 49 ∧ (j ≤ 5 ∨ j = 7)) → x ≠ 50 → relv x j = true → M2.1 x j = M1.1 x j) : Rel M2 := by
  refine Rel.of (RelP.new (M := M) (n' := n') (t' := t') (b' := b') (m' := m') (sd' := sd') h hT (hC.ag ?_) hM ?_ ?_)
  · intro x j u
    simp only [uCT, Bool.and_eq_true, decide_eq_true_eq] at u
    exact o2 x j (by omega) (by omega) (by simp only [relv, Bool.or_eq_true, Bool.and_eq_true, beq_iff_eq, decide_eq_true_eq]; omega)
  · obtain ⟨s, s1, s2, s3⟩ := hs
    exact ⟨s, s1, (o2 0 10 (by omega) (by omega) rfl).trans s2, s3⟩
  · intro x j u1 u2 u3 u4 u5
    rw [o2 x j u4 u3 u5, o1 x j u1 u2 u5]
theorem q_birth {M : Mm} (h : Rel M) : ∃ (r : Int32) (M1 M2 : Mm), (∀ N, 9 < N → f_Uc_birth N M = some (r, M1) ∧ f_Mo_birth N M1 = some (r, M2)) ∧ Rel M2 := by
  have hh := h
  obtain ⟨n, t, b, m, mk, dr, sd, hP⟩ := h
  obtain ⟨h1, h2, h3, ⟨s, s1, s2, s3⟩, -⟩ := id hP
  have hn := h1.1
  by_cases z : n < 8
  · obtain ⟨M1, a1, a2, a3⟩ := add_CT z h2 (fun p hp => (h1.2.2.2.2.2.2.2.2.2.2 p).2 hp)
    have g3 : MT M1 n t b m mk dr sd := h3.ag (fun x j u => by
      simp only [uMT, Bool.or_eq_true, Bool.and_eq_true, beq_iff_eq, decide_eq_true_eq] at u
      exact a3 x j (by omega) (by omega))
    obtain ⟨M2, c1, c2, c3⟩ := mob_I z (np_lt31 hn h1.2.1) (np_lt31 hn h1.2.2.1) (np_lt31 hn h1.2.2.2.1) g3
    refine ⟨nI n, M1, M2, fun N hN => ⟨?_, c1 N hN⟩, RelP.two hP (h1.map (by omega) (dgS_ok (by omega))) a2 c2 ⟨s, s1, ?_, ?_⟩ ?_ ?_⟩
    · unfold f_Uc_birth
      rw [h2.1, if_pos (show nI n < 8 from nI_lt (b := 8) z (by decide)), a1 N hN, bnd_s, a2.1, nI_pred]
    · rw [a3 _ _ (by omega) (by omega)]; exact s2
    · rw [c3 _ _ (by omega) (by omega), a3 _ _ (by omega) (by omega)]; exact s3
    · intro x j u1 u2 _
      exact a3 x j (by omega) (by omega)
    · intro x j u1 u2 _
      exact c3 x j (by omega) u2
  · have e : n = 8 := by omega
    subst e
    refine ⟨-1000000004, M, M, fun N hN => ⟨?_, ?_⟩, hh⟩
    · unfold f_Uc_birth
      rw [h2.1, if_neg (by decide)]
    · unfold f_Mo_birth
      rw [h3.1]
      exact if_pos rfl
