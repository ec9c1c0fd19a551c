/-! PURE 18: judge -/
theorem bnd_s {α β : Type} (a : α) (f : α → Option β) : (some a).bind f = f a := rfl
theorem m1n : ¬ (0 : Int32) ≤ -1 := by decide
theorem jd_stop {N nu k : Nat} {M' : Mm} {ju : Int32 → Int32 → Option (Int32 × Mm)} {x y : Int32} (hk : k < 31) : L_Mo_judge_23 N M' ju (nu + 1) x (nI k) y = ju x (nI k) := by
  rw [L_Mo_judge_23]
  by_cases h : M'.1 49 33 ≤ y
  · rw [if_pos h]
  · rw [if_neg h, if_pos (nI_pos' (by omega))]
theorem nI_b {c : Nat} (hc : c < 2) : nI c = if decide (c = 1) = true then (1 : Int32) else 0 := by
  rcases (show c = 0 ∨ c = 1 by omega) with rfl | rfl <;> rfl
theorem pno {n p : Nat} (hp : p < 8) (h : ¬ p < n) : ∀ j, j < n → nI p ≠ nI j := fun j hj e => by
  by_cases hj2 : j < 2 ^ 31
  · have := (nI_eq (by omega) hj2).mp e
    omega
  · omega
theorem jd_wrong {n p q k K tk : Nat} {M' : Mm} (hn : n < 9) (s0 : M'.1 49 0 = nI n) (rk : M'.1 49 33 = nI K) (hK : K < 31) (hk : k < K) (b4 : M'.1 59 k = nI p) (b5 : M'.1 60 k = nI q) (hp8 : p < 8) (hq8 : q < 8) (hno : ¬ (p < n ∧ q < n)) (ju : Int32 → Int32 → Option (Int32 × Mm)) (N nu : Nat) : L_Mo_judge_23 N M' ju (nu + 1 + 1) (nI tk) (-1) (nI k) = ju (nI tk) (nI k) := by
  have ib : inb (nI k) 30 = true := inb_nI (by omega) (by decide)
  have ix : Int32.toNatClampNeg (nI k) = k := ix_nI (by omega)
  have st := jd_stop (N := N) (nu := nu) (M' := M') (ju := ju) (x := nI tk) (y := nI k + 1) (k := k) (by omega)
  rw [L_Mo_judge_23, rk, if_neg (nI_ge hk (by omega)), if_neg m1n]
  simp only [if_pos ib, ix]
  rw [b4, b5]
  dsimp only [lt]
  by_cases hp : p < n
  · have hq : ¬ q < n := fun z => hno ⟨hp, z⟩
    rw [per_yes hn s0 hp, if_neg h10, per_no hn s0 (pno hq8 hq), if_pos rfl]
    rw [if_pos rfl, if_pos rfl, if_pos rfl, if_pos rfl]
    exact st
  · rw [per_no hn s0 (pno hp8 hp), if_pos rfl]
    rw [if_pos rfl, if_pos rfl, if_pos rfl, if_pos rfl]
    exact st
theorem jd_ref {n p q c k K tk b m : Nat} {M' : Mm} (hn : n < 9) (ht : tk < 2 ^ np n) (hb : b < 2 ^ np n) (hm : m < 2 ^ np n) (s0 : M'.1 49 0 = nI n) (r2 : M'.1 49 2 = nI b) (r3 : M'.1 49 3 = nI m) (rk : M'.1 49 33 = nI K) (hK : K < 31) (hk : k < K) (b4 : M'.1 59 k = nI p) (b5 : M'.1 60 k = nI q) (b6 : M'.1 61 k = nI c) (hc : c < 2) (hp : p < n) (hq : q < n) (hpq : p ≠ q) (ju : Int32 → Int32 → Option (Int32 × Mm)) (N nu : Nat) (hN : 8 < N) : L_Mo_judge_23 N M' ju (nu + 1 + 1) (nI tk) (-1) (nI k) = if (if decide (c = 1) = true then b.testBit (pn n p q) else m.testBit (pn n p q)) = true then ju (nI tk) (nI k) else L_Mo_judge_23 N M' ju (nu + 1) (nI (stb tk (pn n p q) (decide (c = 1)) (np n))) (-1) (nI (k + 1)) := by
  have ib : inb (nI k) 30 = true := inb_nI (by omega) (by decide)
  have ix : Int32.toNatClampNeg (nI k) = k := ix_nI (by omega)
  have hkk := pn_lt n hn p hp q hq hpq
  have hk28 := np_le n hn
  have st := jd_stop (N := N) (nu := nu) (M' := M') (ju := ju) (x := nI tk) (y := nI (k + 1)) (k := k) (by omega)
  rw [L_Mo_judge_23, rk, if_neg (nI_ge hk (by omega)), if_neg m1n]
  simp only [if_pos ib, ix, nI_1]
  rw [b4, b5, b6]
  dsimp only [lt]
  rw [ per_yes hn s0 hp, if_neg h10, per_yes hn s0 hq, if_neg h10, if_neg h10, s0, po_I hN hn hp hq hpq]
  rw [bnd_s, if_neg h10, r2, r3, has_I (np_lt31 hn hb) (show pn n p q < 32 by omega), has_I (np_lt31 hn hm) (show pn n p q < 32 by omega)]
  rcases (show c = 0 ∨ c = 1 by omega) with rfl | rfl
  · rw [if_pos (show nI 0 = 0 from rfl), if_pos (show nI 0 = 0 from rfl)]
    rw [show decide (0 = 1) = false from by decide, if_neg (show ¬ false = true by decide)]
    by_cases z : m.testBit (pn n p q) = true
    · rw [if_pos z, if_neg h10, if_pos z, if_pos rfl, if_pos rfl]
      exact st
    · rw [if_neg z, if_pos rfl, if_neg h10, if_neg h10, if_neg z, an_sI ht hkk (by omega), if_pos (show nI 0 = 0 from rfl)]
  · rw [if_neg (show ¬ nI 1 = 0 from h10), if_neg (show ¬ nI 1 = 0 from h10)]
    rw [show decide (1 = 1) = true from by decide, if_pos (show true = true from rfl)]
    by_cases z : b.testBit (pn n p q) = true
    · rw [if_pos z, if_neg h10, if_pos z, if_pos rfl, if_pos rfl]
      exact st
    · rw [if_neg z, if_pos rfl, if_neg h10, if_neg h10, if_neg z, or_sI ht hkk (by omega), if_neg (show ¬ nI 1 = 0 from h10)]
theorem jd_loop {n b m mk dr K : Nat} {sd : Nat → Nat} {Mc : Mm} (hn : n < 9) (hb : b < 2 ^ np n) (hm : m < 2 ^ np n) (hbm : ∀ k, ¬ (b.testBit k = true ∧ m.testBit k = true)) (r0 : Mc.1 49 0 = nI n) (r2 : Mc.1 49 2 = nI b) (r3 : Mc.1 49 3 = nI m) (rk : Mc.1 49 33 = nI K) (rK : Mc.1 33 3 = nI K) (hK : K < 31) (hB : ∀ i, i < K → ∃ p q c, p < 8 ∧ q < 8 ∧ p ≠ q ∧ c < 2 ∧ (Mc.1 34 i = nI p ∧ Mc.1 35 i = nI q ∧ Mc.1 36 i = nI c) ∧ Mc.1 59 i = nI p ∧ Mc.1 60 i = nI q ∧ Mc.1 61 i = nI c) : ∀ (d k tk : Nat) (Mk : Mm), k + d = K → tk < 2 ^ np n → CT Mk 6 n tk b m mk dr sd → (∀ a j, a ≠ 7 → Mk.1 a j = Mc.1 a j) → ∃ (r : Int32) (tE : Nat) (ME : Mm), (∀ N nu, d < nu → L_Bk_tryOn_2 N 6 nu (nI k) Mk = some (r, ME)) ∧ (∀ M', (∀ a j, a ≠ 7 → M'.1 a j = Mc.1 a j) → ∀ ju N nu, 8 < N → d + 1 < nu → L_Mo_judge_23 N M' ju nu (nI tk) (-1) (nI k) = ju (nI tE) r) ∧ tE < 2 ^ np n ∧ CT ME 6 n tE b m mk dr sd ∧ (∀ a j, a ≠ 7 → ME.1 a j = Mc.1 a j) := by
  intro d
  induction d with
  | zero =>
    intro k tk Mk hk ht hC hM
    have hk : k = K := by omega
    subst hk
    refine ⟨-1, tk, Mk, fun N nu hnu => ?_, fun M' hM' ju N nu hN hnu => ?_, ht, hC, hM⟩
    · obtain ⟨nu, rfl⟩ : ∃ v, nu = v + 1 := ⟨nu - 1, by omega⟩
      rw [L_Bk_tryOn_2, hM 33 3 (by decide), rK, if_pos (nI_le (Nat.le_refl k) (by omega))]
    · obtain ⟨nu, rfl⟩ : ∃ v, nu = v + 1 := ⟨nu - 1, by omega⟩
      rw [L_Mo_judge_23, hM' 49 33 (by decide), rk, if_pos (nI_le (Nat.le_refl k) (by omega))]
  | succ d ih =>
    intro k tk Mk hk ht hC hM
    obtain ⟨p, q, c, hp8, hq8, hpq, hc, ⟨b1', b2, b3⟩, b4, b5, b6⟩ := hB k (by omega)
    have hk28 := np_le n hn
    have ib : inb (nI k) 30 = true := inb_nI (by omega) (by decide)
    have ix : Int32.toNatClampNeg (nI k) = k := ix_nI (by omega)
    have hclass : ∀ N nu, L_Bk_tryOn_2 N 6 (nu + 1) (nI k) Mk = if f_To_hasTwo 6 (nI p) (nI q) Mk = 0 then some (nI k, Mk) else (f_To_allows 6 (nI p) (nI q) (nI c) Mk).bind fun vu9 => if vu9 = 0 then some (nI k, Mk) else (f_To_mark 6 7 (nI p) (nI q) (nI c) Mk).bind fun vu12 => L_Bk_tryOn_2 N 6 nu (nI (k + 1)) vu12 := by
      intro N nu
      rw [L_Bk_tryOn_2, hM 33 3 (by decide), rK, if_neg (nI_ge (by omega) (by omega))]
      simp only [lt, if_pos ib, ix, nI_1]
      rw [hM 34 k (by decide), hM 35 k (by decide), hM 36 k (by decide), b1', b2, b3]
    have hwrong : ∀ M', (∀ a j, a ≠ 7 → M'.1 a j = Mc.1 a j) → ¬ (p < n ∧ q < n) → ∀ ju N nu, L_Mo_judge_23 N M' ju (nu + 1 + 1) (nI tk) (-1) (nI k) = ju (nI tk) (nI k) := by
      intro M' hM' hno ju N nu
      exact jd_wrong hn ((hM' _ _ (by decide)).trans r0) ((hM' _ _ (by decide)).trans rk) hK (by omega) ((hM' _ _ (by decide)).trans b4) ((hM' _ _ (by decide)).trans b5) hp8 hq8 hno ju N nu
    by_cases hpn : p < n ∧ q < n
    · obtain ⟨hp, hq⟩ := hpn
      have hkk := pn_lt n hn p hp q hq hpq
      have href : ∀ M', (∀ a j, a ≠ 7 → M'.1 a j = Mc.1 a j) → ∀ ju N nu, 8 < N → L_Mo_judge_23 N M' ju (nu + 1 + 1) (nI tk) (-1) (nI k) = if (if decide (c = 1) = true then b.testBit (pn n p q) else m.testBit (pn n p q)) = true then ju (nI tk) (nI k) else L_Mo_judge_23 N M' ju (nu + 1) (nI (stb tk (pn n p q) (decide (c = 1)) (np n))) (-1) (nI (k + 1)) := by
        intro M' hM' ju N nu hN
        exact jd_ref hn ht hb hm ((hM' _ _ (by decide)).trans r0) ((hM' _ _ (by decide)).trans r2) ((hM' _ _ (by decide)).trans r3) ((hM' _ _ (by decide)).trans rk) hK (by omega) ((hM' _ _ (by decide)).trans b4) ((hM' _ _ (by decide)).trans b5) ((hM' _ _ (by decide)).trans b6) hc hp hq hpq ju N nu hN
      by_cases z : (if decide (c = 1) = true then b.testBit (pn n p q) else m.testBit (pn n p q)) = true
      · refine ⟨nI k, tk, Mk, fun N nu hnu => ?_, fun M' hM' ju N nu hN hnu => ?_, ht, hC, hM⟩
        · obtain ⟨nu, rfl⟩ : ∃ v, nu = v + 1 := ⟨nu - 1, by omega⟩
          rw [hclass, two_yes hn hC.1 hp hq hpq, if_neg h10, nI_b hc, alw_I _ hn hC hbm hp hq hpq, if_pos z, bnd_s, if_pos rfl]
        · obtain ⟨nu, rfl⟩ : ∃ v, nu = v + 1 + 1 := ⟨nu - 2, by omega⟩
          rw [href M' hM' ju N nu hN, if_pos z]
      · have hC2 : CT (mkM 7 p q n tk (decide (c = 1)) Mk) 6 n (stb tk (pn n p q) (decide (c = 1)) (np n)) b m mk dr sd := by
          refine ⟨by rw [mk_off (by decide)]; exact hC.1, by rw [mk_off (by decide)]; exact hC.2.1, by rw [mk_off (by decide)]; exact hC.2.2.1, fun j hj => ⟨mk_rows hn ht (fun p hp => (hC.2.2.2 p hp).1) hp hq hpq j hj, ?_, ?_, ?_⟩⟩
          · rw [mk_off (by decide)]; exact (hC.2.2.2 j hj).2.1
          · rw [mk_off (by decide)]; exact (hC.2.2.2 j hj).2.2.1
          · rw [mk_off (by decide)]; exact (hC.2.2.2 j hj).2.2.2
        obtain ⟨r, tE, ME, i1, i2, i3, i4, i5⟩ := ih (k + 1) _ _ (by omega) stb_lt hC2 (fun a j ha => (mk_off ha).trans (hM a j ha))
        refine ⟨r, tE, ME, fun N nu hnu => ?_, fun M' hM' ju N nu hN hnu => ?_, i3, i4, i5⟩
        · obtain ⟨nu, rfl⟩ : ∃ v, nu = v + 1 := ⟨nu - 1, by omega⟩
          rw [hclass, two_yes hn hC.1 hp hq hpq, if_neg h10, nI_b hc, alw_I _ hn hC hbm hp hq hpq, if_neg z]
          rw [bnd_s, if_neg h10, mark_I hn (fun p hp => (hC.2.2.2 p hp).1) hp hq hpq]
          rw [bnd_s]
          exact i1 N nu (by omega)
        · obtain ⟨nu, rfl⟩ : ∃ v, nu = v + 1 + 1 := ⟨nu - 2, by omega⟩
          rw [href M' hM' ju N nu hN, if_neg z]
          exact i2 M' hM' ju N (nu + 1) hN (by omega)
    · refine ⟨nI k, tk, Mk, fun N nu hnu => ?_, fun M' hM' ju N nu hN hnu => ?_, ht, hC, hM⟩
      · obtain ⟨nu, rfl⟩ : ∃ v, nu = v + 1 := ⟨nu - 1, by omega⟩
        have e : f_To_hasTwo 6 (nI p) (nI q) Mk = 0 := by
          unfold f_To_hasTwo
          by_cases hp : p < n
          · have hq : ¬ q < n := fun z => hpn ⟨hp, z⟩
            rw [has_yes hn hC.1 hp, if_neg h10, has_no hn hC.1 (pno hq8 hq), if_pos rfl]
          · rw [has_no hn hC.1 (pno hp8 hp), if_pos rfl]
        rw [hclass, e, if_pos rfl]
      · obtain ⟨nu, rfl⟩ : ∃ v, nu = v + 1 + 1 := ⟨nu - 2, by omega⟩
        exact hwrong M' hM' hpn ju N nu
theorem q_judge {M : Mm} (h : Rel M) (x : Int32) : ∃ (r : Int32) (M1 M2 : Mm), (∀ N, 40 < N → f_Uc_judge N x M = some (r, M1) ∧ f_Mo_judge N x M1 = some (r, M2)) ∧ Rel M2 := by
  have hh := h
  obtain ⟨n, t, b, m, mk, dr, sd, hP⟩ := h
  obtain ⟨h1, h2, h3, -, -, -, ⟨K, hK, k1, k2, hB⟩, -⟩ := id hP
  have hn := h1.1
  rcases two01 x with ⟨i, hi, rfl, g0, g1, g2⟩ | hx
  · have w : ∀ a j, ¬ (6 ≤ a ∧ a ≤ 10) → (cpK 6 1 8 M).1 a j = M.1 a j := fun a j ha => cp_off (by omega)
    obtain ⟨r, tE, ME, i1, i2, i3, i4, i5⟩ := jd_loop (n := n) (b := b) (m := m) (mk := mk) (dr := dr) (K := K) (sd := sd) (Mc := cpK 6 1 8 M) hn h1.2.2.1 h1.2.2.2.1 h1.bm ((w _ _ (by omega)).trans h3.1) ((w _ _ (by omega)).trans h3.2.2.1) ((w _ _ (by omega)).trans h3.2.2.2.1) ((w _ _ (by omega)).trans k2) ((w _ _ (by omega)).trans k1) hK (fun i hi => by
      rw [w 34 i (by omega), w 35 i (by omega), w 36 i (by omega), w 59 i (by omega), w 60 i (by omega), w 61 i (by omega)]
      exact hB i hi) K 0 t (cpK 6 1 8 M) (by omega) h1.2.1 (cp_CT h2) (fun _ _ _ => rfl)
    have wE : ∀ a j, ¬ (6 ≤ a ∧ a ≤ 10) → ME.1 a j = M.1 a j := fun a j ha => (i5 a j (by omega)).trans (w a j ha)
    have hS : Same M ME := fun a j rv => wE a j (by
      intro z
      rcases (show a = 6 ∨ a = 7 ∨ a = 8 ∨ a = 9 ∨ a = 10 by omega) with rfl | rfl | rfl | rfl | rfl <;> exact absurd rv (by simp [relv]))
    have eu : ∀ N, 40 < N → f_Uc_judge N (nI i) M = if nI i = 0 then some (r, ME) else some (nI (alN n tE), ME) := by
      intro N hN
      unfold f_Uc_judge f_Bk_tryOn
      rw [if_neg g0, if_pos g1, copy_I (by omega) (by omega)]
      show (L_Bk_tryOn_2 N 6 N 0 (cpK 6 1 8 M)).bind _ = _
      rw [show (0 : Int32) = nI 0 from rfl, i1 N N (by omega)]
      show lt _ _ = _
      simp only [lt]
      rw [ap_I (by omega) hn i4]
      rfl
    have em : ∀ N, 40 < N → f_Mo_judge N (nI i) ME = if nI i = 0 then some (r, ME) else some (nI (alN n tE), cnM n tE (np n) ME) := by
      intro N hN
      unfold f_Mo_judge
      rw [show (0 : Int64) = (0 : Int32).toInt64 from rfl, show (1 : Int64) = (1 : Int32).toInt64 from rfl, in_if, if_neg g0, if_neg g2]
      simp only [lt]
      rw [(wE 49 1 (by omega)).trans h3.2.1]
      have := i2 ME i5 (fun (xu4 : Int32) (xu5 : Int32) => if nI i = 0 then some (xu5, ME) else (f_Mo_alikeIn N (ME.1 49 0) xu4 ME).bind fun vu7 => some (vu7.1, vu7.2)) N N (by omega) (by omega)
      refine this.trans ?_
      rw [(wE 49 0 (by omega)).trans h3.1, ai_I (by omega) hn (np_lt31 hn i3)]
      rfl
    by_cases z : nI i = 0
    · refine ⟨r, ME, ME, fun N hN => ⟨?_, ?_⟩, hh.same hS⟩
      · rw [eu N hN, if_pos z]
      · rw [em N hN, if_pos z]
    · refine ⟨nI (alN n tE), ME, cnM n tE (np n) ME, fun N hN => ⟨?_, ?_⟩, hh.same (hS.tr Same.cn)⟩
      · rw [eu N hN, if_neg z]
      · rw [em N hN, if_neg z]
  · refine ⟨-1000000002, M, M, fun N hN => ?_, hh⟩
    unfold f_Uc_judge f_Mo_judge
    rw [show (0 : Int64) = (0 : Int32).toInt64 from rfl, show (1 : Int64) = (1 : Int32).toInt64 from rfl, in_if]
    rcases hx with hx | ⟨hx, hx1, hx2⟩
    · rw [if_pos hx, if_pos hx]; exact ⟨rfl, rfl⟩
    · rw [if_neg hx, if_neg hx1, if_neg hx, if_pos hx2]; exact ⟨rfl, rfl⟩
