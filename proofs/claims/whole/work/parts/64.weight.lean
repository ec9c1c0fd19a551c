/-! PURE 45: weight -/
theorem rw_hl {n t p : Nat} (hn : n < 9) (hp : p < n) : rwo n t p = 0 ↔ hasL n t 0 p = false := by
  constructor
  · intro h
    refine hl_f.mpr (fun i _ hi => ?_)
    cases hq : inE n t i p
    · rfl
    · obtain ⟨d0, d1, d2, d3, d4, d5⟩ := ed_ok hn hi
      unfold inE at hq
      rw [Bool.or_eq_true] at hq
      have key : ∀ q, q < n → q ≠ p → pn n p q = eK t i → False := fun q hq1 hq2 e => by
        have hb : (rwo n t p).testBit q = true := by
          rw [rwo_bit, rwf_at hp hq2, e, d1]
          simp [hq1]
        rw [h, Nat.zero_testBit] at hb
        cases hb
      rcases hq with e | e
      · have e := of_decide_eq_true e
        exact (key (eb n t i) d4 (by omega) (by rw [e]; exact d5)).elim
      · have e := of_decide_eq_true e
        exact (key (ea n t i) (by omega) (by omega) (by rw [e, pn_comm (by omega)]; exact d5)).elim
  · intro h
    apply Nat.eq_of_testBit_eq
    intro q
    rw [Nat.zero_testBit, rwo_bit]
    cases hb : (decide (q < n) && rwf n t p q)
    · rfl
    · rw [Bool.and_eq_true] at hb
      have hq := of_decide_eq_true hb.1
      have hne : q ≠ p := fun z => by
        have := hb.2
        rw [z] at this
        exact rwf_self this
      have hbit := hb.2
      rw [rwf_at hp hne] at hbit
      have fin : ∀ lo hi, lo < hi → hi < n → t.testBit (pn n lo hi) = true → (p = lo ∨ p = hi) → False := fun lo hi h1 h2 h3 h4 => by
        obtain ⟨e1, e2, e3⟩ := ed_at hn h1 h2 h3
        have hk := pn_lt n hn lo (by omega) hi h2 (by omega)
        have hr : rk t (pn n lo hi + 1) ≤ rk t (np n) := rk_mono (by omega)
        rw [rk_s, if_pos h3] at hr
        have := hl_f.mp h (rk t (pn n lo hi)) (by omega) (by omega)
        unfold inE at this
        rw [e2, e3] at this
        rcases h4 with h4 | h4 <;> simp [h4] at this
      rcases Nat.lt_or_gt_of_ne hne with f | f
      · rw [pn_comm (fun z => hne z.symm)] at hbit
        exact (fin q p f hp hbit (Or.inr rfl)).elim
      · exact (fin p q f hq hbit (Or.inl rfl)).elim
def frlN (n t k : Nat) : Nat := ctb (fun p => decide (rwo n t p = 0)) k
theorem ctb_two {f : Nat → Bool} : ∀ {n}, ctb f n < 2 → ∀ i j, i < n → j < n → f i = true → f j = true → i = j
  | 0, _, i, _, hi, _, _, _ => absurd hi (by omega)
  | n + 1, h, i, j, hi, hj, fi, fj => by
    rw [ctb] at h
    by_cases q : f n = true
    · rw [if_pos q] at h
      have hz : ctb f n = 0 := by omega
      have z := ctb_0.mp hz
      by_cases e1 : i = n
      · by_cases e2 : j = n
        · omega
        · rw [z j (by omega)] at fj; cases fj
      · rw [z i (by omega)] at fi; cases fi
    · rw [if_neg q] at h
      have e1 : i ≠ n := fun e => q (by rw [← e]; exact fi)
      have e2 : j ≠ n := fun e => q (by rw [← e]; exact fj)
      exact ctb_two (n := n) (by omega) i j (by omega) (by omega) fi fj
theorem ctb_ex2 {f : Nat → Bool} : ∀ {n}, 2 ≤ ctb f n → ∃ i j, i < n ∧ j < n ∧ i ≠ j ∧ f i = true ∧ f j = true
  | 0, h => absurd h (by simp [ctb])
  | n + 1, h => by
    rw [ctb] at h
    by_cases q : f n = true
    · rw [if_pos q] at h
      have : ∃ i, i < n ∧ f i = true := Classical.byContradiction (fun hne => by
        have : ctb f n = 0 := ctb_0.mpr (fun i hi => by
          cases hq : f i
          · rfl
          · exact absurd ⟨i, hi, hq⟩ hne)
        omega)
      obtain ⟨i, hi, fi⟩ := this
      exact ⟨i, n, by omega, by omega, by omega, fi, q⟩
    · rw [if_neg q] at h
      obtain ⟨i, j, a, b, c, d, e⟩ := ctb_ex2 (n := n) (by omega)
      exact ⟨i, j, by omega, by omega, c, d, e⟩
def zsM (k : Nat) (M : Mm) : Mm := (fun a j => if a = 29 ∧ j < k then 0 else M.1 a j, M.2)
theorem zs_off {k a j : Nat} {M : Mm} (h : a ≠ 29) : (zsM k M).1 a j = M.1 a j := if_neg (fun z => h z.1)
theorem zs_step {k : Nat} {M : Mm} : si (zsM k M) 29 k 0 = zsM (k + 1) M := by
  refine mm_ext (fun a j => ?_) rfl
  rw [si1]
  show (if _ then _ else (if a = 29 ∧ j < k then _ else _)) = (if a = 29 ∧ j < k + 1 then _ else _)
  by_cases h1 : a = 29 ∧ j = k
  · rw [if_pos h1, if_pos ⟨h1.1, by omega⟩]
  · rw [if_neg h1]
    by_cases h2 : a = 29 ∧ j < k
    · rw [if_pos h2, if_pos ⟨h2.1, by omega⟩]
    · rw [if_neg h2, if_neg (by omega)]
theorem zs9 (N : Nat) {n t : Nat} {M : Mm} (ju : Int32 → Mm → Option Mm) (hn : n < 9) (h0 : M.1 1 0 = nI n) (hr : ∀ p, p < 8 → M.1 2 p = nI (rwo n t p)) : ∀ (d k nu : Nat), k + d = n → d < nu → L_We_solve_9 N 1 ju nu (nI (frlN n t k)) (nI k) (zsM k M) = ju (nI (frlN n t n)) (zsM n M)
  | 0, k, nu + 1, hk, hnu => by
    have hk : k = n := by omega
    subst hk
    rw [L_We_solve_9, zs_off (by decide), h0, if_pos (nI_le (Nat.le_refl k) (by omega))]
  | d + 1, k, nu + 1, hk, hnu => by
    have ih := zs9 N (M := M) ju hn h0 hr d (k + 1) nu (by omega) (by omega)
    have hl : rwo n t k < 2 ^ 31 := Nat.lt_trans (rwo_lt hn) (by decide)
    rw [L_We_solve_9, zs_off (by decide), h0, if_neg (nI_ge (by omega) (by omega)), if_pos (inb_nI (show k < 8 by omega) (by decide))]
    dsimp only [lt]
    rw [if_pos (inb_nI (show k < 8 by omega) (by decide)), ix_nI (by omega), zs_step, zs_off (by decide), hr k (by omega)]
    by_cases z : rwo n t k = 0
    · have e : frlN n t k + 1 = frlN n t (k + 1) := ct_yes (by simp [z])
      rw [if_pos ((nI0_iff hl).mpr z), nI_1, nI_1, e]
      exact ih
    · have e : frlN n t k = frlN n t (k + 1) := ct_no (by simp [z])
      rw [if_neg (fun v => z ((nI0_iff hl).mp v)), nI_1, e]
      exact ih
theorem ws49 {n t : Nat} {Mb : Mm} (hn : n < 9) (hE : rk t (np n) ≤ 8) (hS : WS n t Mb) (h6 : Mb.1 24 6 = -1) (h27 : ∀ i, i < rk t (np n) → Mb.1 27 i = 0) (h29 : ∀ j, j < n → Mb.1 29 j = 0) (hfl : frlN n t n < 2) : ∀ (d g : Nat), g + d = 5 → 1 ≤ g → (∀ g', 1 ≤ g' → g' < g → ∀ c, c < g' ^ rk t (np n) → VW n t g' c = false) → (∃ G C, LW n t G C ∧ ∀ N nu, 100 < N → d + 1 < nu → L_We_solve_49 N (nI (frlN n t n)) nu (nI g) Mb = some (si (weM n t (wc G (rk t (np n)) C) Mb) 24 6 (nI G))) ∨ (NW n t ∧ ∀ N nu, 100 < N → d + 1 < nu → L_We_solve_49 N (nI (frlN n t n)) nu (nI g) Mb = some Mb) := by
  have hF : ∀ i j, i < n → j < n → i ≠ j → hasL n t 0 i = false → hasL n t 0 j = true := fun i j hi hj hij h1 => by
    cases hq : hasL n t 0 j
    · exact absurd (ctb_two hfl i j hi hj (by simp [(rw_hl hn hi).mpr h1]) (by simp [(rw_hl hn hj).mpr hq])) hij
    · rfl
  have hfl2 : ¬ (2 : Int32) ≤ nI (frlN n t n) := nI_ge (a := frlN n t n) (b := 2) hfl (by decide)
  have ew : ∀ g, weM n t (wk g 0 0) Mb = Mb := fun g => mm_ext (fun a j => by
    rw [we_eq]
    by_cases h1 : a = 27 ∧ j < rk t (np n)
    · rw [if_pos h1, h1.1, h27 j h1.2]; rfl
    · rw [if_neg h1]
      by_cases h2 : a = 29 ∧ j < n
      · rw [if_pos h2, h2.1, h29 j h2.2]
        have : psm n t (wk g 0 0) j (rk t (np n)) = 0 := by
          unfold psm
          rw [smN_cong (g := fun _ => 0) (fun i _ => by split <;> rfl)]
          exact smN_zero _
        rw [this]; rfl
      · rw [if_neg h2]) rfl
  intro d
  induction d with
  | zero =>
    intro g hg hg1 hV
    refine Or.inr ⟨fun g' a b => hV g' a (by omega), fun N nu hN hnu => ?_⟩
    obtain ⟨nu, rfl⟩ : ∃ v, nu = v + 1 := ⟨nu - 1, by omega⟩
    rw [L_We_solve_49, if_pos (show (4 : Int32) < nI g from nI_lt (a := 4) (by omega) (by omega))]
  | succ d ih =>
    intro g hg hg1 hV
    have hnode : ∀ N, 100 < N → FND n t g 0 0 (f_We_weighFrom N 20 0 (nI g) 0 Mb) Mb := fun N hN => by
      have h := wg_node (Mb := Mb) hn hE hg1 (show g < 5 by omega) hS hF (rk t (np n)) 0 0 (by omega) (by rw [Nat.pow_zero]; omega) (fun i j _ hi _ => by
        unfold stB at hi
        cases hasL n t 0 i <;> simp at hi) N 20 hN (by omega)
      rw [ew g, show bs (stB n t 0) 8 = 0 from bs_0.mpr (fun i _ => by unfold stB; cases hasL n t 0 i <;> rfl)] at h
      exact h
    have hz : ∀ C, C < g ^ rk t (np n) → C / g ^ (rk t (np n) - 0) = 0 := fun C hC => by rw [Nat.sub_zero]; exact Nat.div_eq_of_lt hC
    have hstep : ∀ N nu, L_We_solve_49 N (nI (frlN n t n)) (nu + 1) (nI g) Mb = (f_We_weighFrom N 20 0 (nI g) 0 Mb).bind fun vu9 => if vu9.1 = 0 then L_We_solve_49 N (nI (frlN n t n)) nu (nI (g + 1)) vu9.2 else L_We_solve_49 N (nI (frlN n t n)) nu (nI (g + 1)) (si vu9.2 24 6 (nI g)) := fun N nu => by
      rw [L_We_solve_49, if_neg (show ¬ (4 : Int32) < nI g from nI_nlt (a := 4) (by omega) (by decide)), if_neg hfl2, if_pos h6, nI_1]
      rfl
    by_cases hex : ∃ C, C < g ^ rk t (np n) ∧ VW n t g C = true
    · rcases hnode 101 (by omega) with ⟨C, c1, c2, c3, c4, c5⟩ | ⟨c1, c5⟩
      · have hLW : LW n t g C := ⟨hg1, by omega, c1, c3, fun c hc => c4 c hc (hz c (by omega)), hV⟩
        refine Or.inl ⟨g, C, hLW, fun N nu hN hnu => ?_⟩
        obtain ⟨nu, rfl⟩ : ∃ v, nu = v + 1 + 1 := ⟨nu - 2, by omega⟩
        rcases hnode N hN with ⟨C', e1, e2, e3, e4, e5⟩ | ⟨e1, e5⟩
        · have hLW' : LW n t g C' := ⟨hg1, by omega, e1, e3, fun c hc => e4 c hc (hz c (by omega)), hV⟩
          have eC := (LW_u hLW' hLW).2
          subst eC
          rw [hstep, e5, bnd_s, if_neg h10]
          show L_We_solve_49 N (nI (frlN n t n)) (nu + 1) (nI (g + 1)) (si (weM n t (wc g (rk t (np n)) C') Mb) 24 6 (nI g)) = _
          rw [L_We_solve_49]
          by_cases q : 4 < g + 1
          · rw [if_pos (show (4 : Int32) < nI (g + 1) from nI_lt (a := 4) q (by omega))]
          · rw [if_neg (show ¬ (4 : Int32) < nI (g + 1) from nI_nlt (a := 4) (by omega) (by decide)), if_neg hfl2, si_s, if_neg (nI_nm1 (by omega))]
        · have := e1 C c1 (hz C c1)
          rw [c3] at this; cases this
      · obtain ⟨C, h1, h2⟩ := hex
        have := c1 C h1 (hz C h1)
        rw [h2] at this; cases this
    · have hno : ∀ c, c < g ^ rk t (np n) → VW n t g c = false := fun c hc => by
        cases hq : VW n t g c
        · rfl
        · exact absurd ⟨c, hc, hq⟩ hex
      have hstep2 : ∀ N nu, 100 < N → L_We_solve_49 N (nI (frlN n t n)) (nu + 1) (nI g) Mb = L_We_solve_49 N (nI (frlN n t n)) nu (nI (g + 1)) Mb := fun N nu hN => by
        rcases hnode N hN with ⟨C, c1, c2, c3, c4, c5⟩ | ⟨c1, c5⟩
        · exact absurd ⟨C, c1, c3⟩ hex
        · rw [hstep, c5, bnd_s, if_pos rfl, ew g]
      rcases ih (g + 1) (by omega) (by omega) (fun g' a b => by
        by_cases e : g' = g
        · subst e; exact hno
        · exact hV g' a (by omega)) with ⟨G, C, d1, d2⟩ | ⟨d1, d2⟩
      · refine Or.inl ⟨G, C, d1, fun N nu hN hnu => ?_⟩
        obtain ⟨nu, rfl⟩ : ∃ v, nu = v + 1 := ⟨nu - 1, by omega⟩
        rw [hstep2 N nu hN]
        exact d2 N nu hN (by omega)
      · refine Or.inr ⟨d1, fun N nu hN hnu => ?_⟩
        obtain ⟨nu, rfl⟩ : ∃ v, nu = v + 1 := ⟨nu - 1, by omega⟩
        rw [hstep2 N nu hN]
        exact d2 N nu hN (by omega)
theorem sol_I {n t b m mk dr : Nat} {sd : Nat → Nat} {M : Mm} (hn : n < 9) (hE : rk t (np n) ≤ 8) (hC : CT M 1 n t b m mk dr sd) : ∃ M1, (∀ N, 100 < N → f_We_solve N 1 M = some M1) ∧ ((∃ G C, LW n t G C ∧ M1.1 24 6 = nI G ∧ ∀ i, i < rk t (np n) → M1.1 27 i = nI (wc G (rk t (np n)) C i)) ∨ (NW n t ∧ M1.1 24 6 = -1)) ∧ WS n t M1 ∧ ∀ a j, ¬ (24 ≤ a ∧ a ≤ 29) → M1.1 a j = M.1 a j := by
  obtain ⟨A, a1, a2, a3, a4⟩ := lst_I hn hE hC
  generalize hB : si (zsM n A) 24 6 (-1) = B
  have oB : ∀ a j, a ≠ 29 → ¬ (a = 24 ∧ j = 6) → B.1 a j = A.1 a j := fun a j q1 q2 => by rw [← hB, si1, if_neg q2, zs_off q1]
  have B6 : B.1 24 6 = -1 := by rw [← hB, si_s]
  have B29 : ∀ j, j < n → B.1 29 j = 0 := fun j hj => by rw [← hB, si_a _ _ (by decide)]; exact if_pos ⟨rfl, hj⟩
  have B27 : ∀ i, i < rk t (np n) → B.1 27 i = 0 := fun i hi => by rw [oB _ _ (by decide) (by omega)]; exact a3 i hi
  have hS : WS n t B := ⟨(oB _ _ (by decide) (by omega)).trans a2.1, fun i hi => ⟨(oB _ _ (by decide) (by omega)).trans (a2.2 i hi).1, (oB _ _ (by decide) (by omega)).trans (a2.2 i hi).2.1, (oB _ _ (by decide) (by omega)).trans (a2.2 i hi).2.2⟩⟩
  have hsol : ∀ N, 100 < N → f_We_solve N 1 M = L_We_solve_49 N (nI (frlN n t n)) N (nI 1) B := fun N hN => by
    unfold f_We_solve
    rw [a1 N (by omega), bnd_s]
    dsimp only [lt]
    have h := zs9 N (n := n) (t := t) (M := A) (fun xu3 Mu4 => L_We_solve_49 N xu3 N 1 (si Mu4 24 6 (-1))) hn (by rw [a4 _ _ (by omega)]; exact hC.1) (fun p hp => by rw [a4 _ _ (by omega)]; exact (hC.2.2.2 p hp).1) n 0 N (by omega) (by omega)
    rw [show zsM 0 A = A from mm_ext (fun a j => if_neg (by omega)) rfl, hB] at h
    exact h
  have off : ∀ a j, ¬ (24 ≤ a ∧ a ≤ 29) → B.1 a j = M.1 a j := fun a j q => by rw [oB a j (by omega) (by omega), a4 a j (by omega)]
  by_cases hfl : frlN n t n < 2
  · rcases ws49 hn hE hS B6 B27 B29 hfl 4 1 (by omega) (by omega) (fun g' a b => by omega) with ⟨G, C, d1, d2⟩ | ⟨d1, d2⟩
    · refine ⟨si (weM n t (wc G (rk t (np n)) C) B) 24 6 (nI G), fun N hN => ?_, Or.inl ⟨G, C, d1, si_s _ _ _ _, fun i hi => ?_⟩, ⟨?_, fun i hi => ⟨?_, ?_, ?_⟩⟩, fun a j q => ?_⟩
      · rw [hsol N hN]; exact d2 N N hN (by omega)
      · rw [si_a _ _ (by decide), we_27 hi]
      · rw [si_k _ _ (by decide)]; exact hS.we.1
      · rw [si_a _ _ (by decide)]; exact (hS.we.2 i hi).1
      · rw [si_a _ _ (by decide)]; exact (hS.we.2 i hi).2.1
      · rw [si_a _ _ (by decide)]; exact (hS.we.2 i hi).2.2
      · rw [si_a _ _ (by omega), we_off (by omega) (by omega), off a j q]
    · exact ⟨B, fun N hN => by rw [hsol N hN]; exact d2 N N hN (by omega), Or.inr ⟨d1, B6⟩, hS, off⟩
  · have hNW : NW n t := fun g g1 g5 c hc => by
      obtain ⟨i, j, hi, hj, hij, fi, fj⟩ := ctb_ex2 (f := fun p => decide (rwo n t p = 0)) (n := n) (by unfold frlN at hfl; omega)
      have h1 := (rw_hl hn hi).mp (of_decide_eq_true fi)
      have h2 := (rw_hl hn hj).mp (of_decide_eq_true fj)
      exact VW_f hi hj hij (by rw [psm_0 h1, psm_0 h2])
    refine ⟨B, fun N hN => ?_, Or.inr ⟨hNW, B6⟩, hS, off⟩
    have hfl8 : frlN n t n ≤ n := ctb_le _ _
    rw [hsol N hN]
    obtain ⟨N', rfl⟩ : ∃ v, N = v + 1 := ⟨N - 1, by omega⟩
    rw [L_We_solve_49, if_neg (by decide), if_pos (show (2 : Int32) ≤ nI (frlN n t n) from nI_le (a := 2) (by omega) (by omega))]
/-! the weight of two -/
theorem min_II {p q : Nat} (hp : p < 100) (hq : q < 100) : f_Ma_min_II (nI p) (nI q) = nI (min p q) := by
  unfold f_Ma_min_II
  by_cases h : q < p
  · rw [if_pos (nI_lt h (by omega)), Nat.min_eq_right (by omega)]
  · rw [if_neg (nI_nlt (by omega) (by omega)), Nat.min_eq_left (by omega)]
theorem max_II {p q : Nat} (hp : p < 100) (hq : q < 100) : f_Ma_max (nI p) (nI q) = nI (max p q) := by
  unfold f_Ma_max
  by_cases h : p < q
  · rw [if_pos (nI_lt h (by omega)), Nat.max_eq_right (by omega)]
  · rw [if_neg (nI_nlt (by omega) (by omega)), Nat.max_eq_left (by omega)]
theorem wo16 (N : Nat) {n t lo hi : Nat} {M : Mm} (ju : Int32 → Option Int32) (hn : n < 9) (hE : rk t (np n) ≤ 8) (hS : WS n t M) (h1 : lo < hi) (h2 : hi < n) : (t.testBit (pn n lo hi) = true → ∀ (d k nu : Nat), k + d = rk t (pn n lo hi) → d < nu → L_We_weightOf_16 N M (nI lo) (nI hi) ju nu (nI k) = ju (nI (rk t (pn n lo hi)))) ∧ (¬ t.testBit (pn n lo hi) = true → ∀ (d k nu : Nat), k + d = rk t (np n) → d < nu → L_We_weightOf_16 N M (nI lo) (nI hi) ju nu (nI k) = some 0) := by
  have hun : ∀ k nu, k < rk t (np n) → L_We_weightOf_16 N M (nI lo) (nI hi) ju (nu + 1) (nI k) = if ea n t k = lo ∧ eb n t k = hi then ju (nI k) else L_We_weightOf_16 N M (nI lo) (nI hi) ju nu (nI (k + 1)) := fun k nu hk => by
    obtain ⟨-, -, -, d3, d4, -⟩ := ed_ok hn hk
    rw [L_We_weightOf_16, hS.1, if_neg (nI_ge hk (by omega)), if_pos (inb_nI (show k < 8 by omega) (by decide))]
    dsimp only [lt]
    rw [if_pos (inb_nI (show k < 8 by omega) (by decide)), ix_nI (by omega), (hS.2 k hk).1, (hS.2 k hk).2.1, nI_1]
    by_cases z1 : ea n t k = lo
    · rw [if_pos (by rw [z1])]
      by_cases z2 : eb n t k = hi
      · rw [if_pos (by rw [z2]), if_pos ⟨z1, z2⟩]
      · rw [if_neg (fun v => z2 ((nI_eq (by omega) (by omega)).mp v)), if_neg (fun v => z2 v.2)]
    · rw [if_neg (fun v => z1 ((nI_eq (by omega) (by omega)).mp v)), if_neg (fun v => z1 v.1)]
  have hpl := pn_lt n hn lo (by omega) hi h2 (by omega)
  constructor
  · intro hb
    obtain ⟨e1, e2, e3⟩ := ed_at hn h1 h2 hb
    have hr : rk t (pn n lo hi + 1) ≤ rk t (np n) := rk_mono (by omega)
    rw [rk_s, if_pos hb] at hr
    intro d
    induction d with
    | zero =>
      intro k nu hk hnu
      obtain ⟨nu, rfl⟩ : ∃ v, nu = v + 1 := ⟨nu - 1, by omega⟩
      have hk : k = rk t (pn n lo hi) := by omega
      rw [hun k nu (by omega), hk, if_pos ⟨e2, e3⟩]
    | succ d ih =>
      intro k nu hk hnu
      obtain ⟨nu, rfl⟩ : ∃ v, nu = v + 1 := ⟨nu - 1, by omega⟩
      obtain ⟨-, -, d2, d3, d4, d5⟩ := ed_ok hn (show k < rk t (np n) by omega)
      rw [hun k nu (by omega), if_neg (fun z => by
        rw [z.1, z.2] at d5
        rw [← d5] at d2
        omega)]
      exact ih (k + 1) nu (by omega) (by omega)
  · intro hb d
    induction d with
    | zero =>
      intro k nu hk hnu
      obtain ⟨nu, rfl⟩ : ∃ v, nu = v + 1 := ⟨nu - 1, by omega⟩
      rw [L_We_weightOf_16, hS.1, if_pos (nI_le (by omega) (by omega))]
    | succ d ih =>
      intro k nu hk hnu
      obtain ⟨nu, rfl⟩ : ∃ v, nu = v + 1 := ⟨nu - 1, by omega⟩
      obtain ⟨-, d1, d2, d3, d4, d5⟩ := ed_ok hn (show k < rk t (np n) by omega)
      rw [hun k nu (by omega), if_neg (fun z => by
        rw [z.1, z.2] at d5
        rw [← d5] at d1
        exact hb d1)]
      exact ih (k + 1) nu (by omega) (by omega)
def vlN (n t K k : Nat) (w : Nat → Nat) : Nat := if t.testBit K = true ∧ rk t K < k then w (rk t K) else 0
theorem wt54 (N : Nat) {n t p q : Nat} {w : Nat → Nat} {M : Mm} (hN : 28 < N) (hn : n < 9) (ht : t < 2 ^ np n) (hE : rk t (np n) ≤ 8) (hp : p < n) (hq : q < n) (hpq : p ≠ q) (h0 : M.1 49 0 = nI n) (h1 : M.1 49 1 = nI t) (hw : ∀ i, i < rk t (np n) → M.1 58 i = nI (w i) ∧ M.1 57 i = nI (eK t i)) : ∀ (d k nu : Nat), k + d = rk t (np n) → d < nu → L_Mo_weight_54 N (nI p) (nI q) M nu (nI (vlN n t (pn n p q) k w)) (nI k) = some (nI (vlN n t (pn n p q) (rk t (np n)) w), M)
  | 0, k, nu + 1, hk, hnu => by
    have hk : k = rk t (np n) := by omega
    have hbt : f_Mo_bits N (nI t) = some (nI (rk t (np n))) := bits_T hN hn ht
    rw [L_Mo_weight_54, h1, hbt, bnd_s, if_pos (nI_le (by omega) (by omega)), hk]
  | d + 1, k, nu + 1, hk, hnu => by
    have ih := wt54 N (w := w) (M := M) hN hn ht hE hp hq hpq h0 h1 hw d (k + 1) nu (by omega) (by omega)
    have hkE : k < rk t (np n) := by omega
    obtain ⟨d0, d1, d2, -, -, -⟩ := ed_ok hn hkE
    have hl := np_le n hn
    have hpl := pn_lt n hn p hp q hq hpq
    have hbt : f_Mo_bits N (nI t) = some (nI (rk t (np n))) := bits_T hN hn ht
    rw [L_Mo_weight_54, h1, hbt, bnd_s, if_neg (nI_ge hkE (by omega)), if_pos (inb_nI (show k < 8 by omega) (by decide)), h0, po_I (by omega) hn hp hq hpq, bnd_s]
    dsimp only [lt]
    rw [if_pos (inb_nI (show k < 8 by omega) (by decide)), ix_nI (by omega), (hw k hkE).1, (hw k hkE).2, nI_1]
    by_cases z : eK t k = pn n p q
    · have hz : vlN n t (pn n p q) (k + 1) w = w k := by
        unfold vlN
        rw [← z, d2, if_pos ⟨d1, by omega⟩]
      rw [hz] at ih
      rw [if_pos (by rw [z])]
      exact ih
    · have hz : vlN n t (pn n p q) (k + 1) w = vlN n t (pn n p q) k w := by
        unfold vlN
        by_cases hb : t.testBit (pn n p q) = true
        · have hne : rk t (pn n p q) ≠ k := fun e => z (by rw [← e]; exact eK_rk (by omega) hb)
          by_cases q1 : rk t (pn n p q) < k
          · rw [if_pos ⟨hb, by omega⟩, if_pos ⟨hb, q1⟩]
          · rw [if_neg (by omega), if_neg (by omega)]
        · rw [if_neg (fun v => hb v.1), if_neg (fun v => hb v.1)]
      rw [hz] at ih
      rw [if_neg (fun v => z ((nI_eq (by omega) (by omega)).mp v))]
      exact ih
