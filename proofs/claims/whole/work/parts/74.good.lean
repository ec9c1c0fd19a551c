/-! PURE 55: good -/
def tgN (n w : Nat) (g : Nat → Nat) : Nat := tof n (fun p q => mdB w n (g p) (g q))
theorem tg_bit {n w p q : Nat} {g : Nat → Nat} (hn : n < 9) (hpq : p < q) (hq : q < n) : (tgN n w g).testBit (pn n p q) = mdB w n (g p) (g q) := tof_bit hn hpq hq
section GD
variable {n w : Nat} {g : Nat → Nat} {M : Mm}
theorem tm19 (N : Nat) {p : Nat} (ju : Int32 → Int32 → Option Int32) (hn : n < 9) (hw : w < 2) (hg : ∀ q, q < n → g q < n) (h1 : M.1 18 1 = nI n) (h3 : M.1 18 3 = nI w) (hpl : ∀ q, q < n → f_Mk_placeOf (nI q) M = nI (g q)) (hp : p < n) : ∀ (d q nu : Nat), q + d = n → p < q → d < nu → L_Mk_townMade_19 N M (nI p) ju nu (nI (bs (fun i => (tgN n w g).testBit i) (pr0 n p + (q - p - 1)))) (nI (2 ^ (pr0 n p + (q - p - 1)))) (nI q) = ju (nI (bs (fun i => (tgN n w g).testBit i) (pr0 n (p + 1)))) (nI (2 ^ pr0 n (p + 1)))
  | 0, q, nu + 1, hq, hpq, hnu => by
    have hq : q = n := by omega
    subst hq
    rw [L_Mk_townMade_19, h1, if_pos (nI_le (Nat.le_refl q) (by omega)), pr_next q hn p hp]
  | d + 1, q, nu + 1, hq, hpq, hnu => by
    have ih := tm19 N ju hn hw hg h1 h3 hpl hp d (q + 1) nu (by omega) (by omega) (by omega)
    have hK := pn_up (n := n) hpq
    have hb : pr0 n p + (q - p - 1) < 28 := by
      have := pn_lt n hn p hp q (by omega) (by omega)
      have := np_le n hn
      omega
    have hbit := tg_bit (w := w) (g := g) hn hpq (show q < n by omega)
    rw [hK] at hbit
    rw [show pr0 n p + (q + 1 - p - 1) = pr0 n p + (q - p - 1) + 1 by omega] at ih
    generalize hKe : pr0 n p + (q - p - 1) = K at *
    have hpw : 2 ^ K * 2 ^ 1 < 2 ^ 32 := by
      rw [← Nat.pow_add]
      exact Nat.pow_lt_pow_right (by decide) (by omega)
    have hs : nI (2 ^ K) <<< ((1 : Int32) &&& 31) = nI (2 ^ (K + 1)) := by
      have := sl_I (a := 2 ^ K) (b := 1) (by decide) hpw
      rw [Nat.pow_succ]
      exact this
    have g1 := hg p hp
    have g2 := hg q (by omega)
    have w0 : ¬ nI w < 0 := nI_pos (by omega)
    have w1 : nI w ≤ 1 := nI_le (b := 1) (by omega) (by decide)
    rw [L_Mk_townMade_19, h1, if_neg (nI_ge (by omega) (by omega))]
    dsimp only [lt]
    rw [h3, hpl p hp, hpl q (by omega), tied_I _ _ _ _ w0 w1, md_I hw hn (by omega) (by omega), hs, nI_1]
    cases hz : mdB w n (g p) (g q) with
    | true =>
      rw [hz] at hbit
      rw [if_neg (show ¬ bI true = 0 by decide), or_I, bs_or hbit]
      exact ih
    | false =>
      rw [hz] at hbit
      rw [if_pos (show bI false = 0 from rfl), bs_no (g := fun i => (tgN n w g).testBit i) (by rw [hbit]; decide)]
      exact ih
theorem tm6 (N : Nat) (hN : 9 < N) (hn : n < 9) (hw : w < 2) (hg : ∀ q, q < n → g q < n) (h1 : M.1 18 1 = nI n) (h3 : M.1 18 3 = nI w) (hpl : ∀ q, q < n → f_Mk_placeOf (nI q) M = nI (g q)) : ∀ (d p nu : Nat), p + d = n → d < nu → L_Mk_townMade_6 N M nu (nI (bs (fun i => (tgN n w g).testBit i) (pr0 n p))) (nI (2 ^ pr0 n p)) (nI p) = some (nI (tgN n w g))
  | 0, p, nu + 1, hp, hnu => by
    have hp : p = n := by omega
    subst hp
    rw [L_Mk_townMade_6, h1, if_pos (nI_le (Nat.le_refl p) (by omega)), pr_end p hn, bs_self (show tgN p w g < 2 ^ np p from tof_lt)]
  | d + 1, p, nu + 1, hp, hnu => by
    have ih := tm6 N hN hn hw hg h1 h3 hpl d (p + 1) nu (by omega) (by omega)
    rw [L_Mk_townMade_6, h1, if_neg (nI_ge (by omega) (by omega))]
    dsimp only [lt]
    rw [nI_1]
    have h := tm19 N (fun xu4 xu5 => L_Mk_townMade_6 N M nu xu4 xu5 (nI (p + 1))) hn hw hg h1 h3 hpl (show p < n by omega) (n - (p + 1)) (p + 1) N (by omega) (by omega) (by omega)
    simp only [show p + 1 - p - 1 = 0 by omega, Nat.add_zero] at h
    rw [h]
    exact ih
theorem tm_I {N : Nat} (hN : 9 < N) (hn : n < 9) (hw : w < 2) (hg : ∀ q, q < n → g q < n) (h1 : M.1 18 1 = nI n) (h3 : M.1 18 3 = nI w) (hpl : ∀ q, q < n → f_Mk_placeOf (nI q) M = nI (g q)) : f_Mk_townMade N M = some (nI (tgN n w g)) := by
  have h := tm6 N hN hn hw hg h1 h3 hpl n 0 N (by omega) (by omega)
  rw [show pr0 n 0 = 0 by unfold pr0; simp] at h
  exact h
theorem bt16 (N : Nat) {p : Nat} (ju : Int32 → Option Int32) (hN : 9 < N) (hn : n < 9) (hw : w < 2) (hg : ∀ q, q < n → g q < n) (h0 : M.1 49 0 = nI n) (h26 : M.1 49 26 = nI w) (h55 : ∀ q, q < n → M.1 55 q = nI (g q)) (hp : p < n) : ∀ (d q nu : Nat), q + d = n → p < q → d < nu → L_Mo_bestTown_16 N M (nI p) ju nu (nI (bs (fun i => (tgN n w g).testBit i) (pr0 n p + (q - p - 1)))) (nI q) = ju (nI (bs (fun i => (tgN n w g).testBit i) (pr0 n (p + 1))))
  | 0, q, nu + 1, hq, hpq, hnu => by
    have hq : q = n := by omega
    subst hq
    rw [L_Mo_bestTown_16, h0, if_pos (nI_le (Nat.le_refl q) (by omega)), pr_next q hn p hp]
  | d + 1, q, nu + 1, hq, hpq, hnu => by
    have ih := bt16 N ju hN hn hw hg h0 h26 h55 hp d (q + 1) nu (by omega) (by omega) (by omega)
    have hK := pn_up (n := n) hpq
    have hb : pr0 n p + (q - p - 1) < 28 := by
      have := pn_lt n hn p hp q (by omega) (by omega)
      have := np_le n hn
      omega
    have hbit := tg_bit (w := w) (g := g) hn hpq (show q < n by omega)
    have hpo := po_I (N := N) (by omega) hn hp (show q < n by omega) (show p ≠ q by omega)
    rw [hK] at hbit hpo
    rw [show pr0 n p + (q + 1 - p - 1) = pr0 n p + (q - p - 1) + 1 by omega] at ih
    generalize hKe : pr0 n p + (q - p - 1) = K at *
    have g1 := hg p hp
    have g2 := hg q (by omega)
    rw [L_Mo_bestTown_16, h0, if_neg (nI_ge (by omega) (by omega)), if_pos (inb_nI (show p < 8 by omega) (by decide)), if_pos (inb_nI (show q < 8 by omega) (by decide))]
    dsimp only [lt]
    rw [ix_nI (by omega), ix_nI (by omega), h26, h55 p hp, h55 q (by omega), md_I hw hn (by omega) (by omega), hpo, bnd_s, nI_1]
    cases hz : mdB w n (g p) (g q) with
    | true =>
      rw [hz] at hbit
      rw [if_neg (show ¬ bI true = 0 by decide), one_sl (by omega), or_I, bs_or hbit]
      exact ih
    | false =>
      rw [hz] at hbit
      rw [if_pos (show bI false = 0 from rfl), show (0 : Int32) = nI 0 from rfl, or_I, Nat.or_zero, bs_no (g := fun i => (tgN n w g).testBit i) (by rw [hbit]; decide)]
      exact ih
theorem bt4 (N : Nat) (hN : 9 < N) (hn : n < 9) (hw : w < 2) (hg : ∀ q, q < n → g q < n) (h0 : M.1 49 0 = nI n) (h26 : M.1 49 26 = nI w) (h55 : ∀ q, q < n → M.1 55 q = nI (g q)) : ∀ (d p nu : Nat), p + d = n → d < nu → L_Mo_bestTown_4 N M nu (nI (bs (fun i => (tgN n w g).testBit i) (pr0 n p))) (nI p) = some (nI (tgN n w g))
  | 0, p, nu + 1, hp, hnu => by
    have hp : p = n := by omega
    subst hp
    rw [L_Mo_bestTown_4, h0, if_pos (nI_le (Nat.le_refl p) (by omega)), pr_end p hn, bs_self (show tgN p w g < 2 ^ np p from tof_lt)]
  | d + 1, p, nu + 1, hp, hnu => by
    have ih := bt4 N hN hn hw hg h0 h26 h55 d (p + 1) nu (by omega) (by omega)
    rw [L_Mo_bestTown_4, h0, if_neg (nI_ge (by omega) (by omega))]
    dsimp only [lt]
    rw [nI_1]
    have h := bt16 N (fun xu4 => L_Mo_bestTown_4 N M nu xu4 (nI (p + 1))) hN hn hw hg h0 h26 h55 (show p < n by omega) (n - (p + 1)) (p + 1) N (by omega) (by omega) (by omega)
    simp only [show p + 1 - p - 1 = 0 by omega, Nat.add_zero] at h
    rw [h]
    exact ih
theorem bt_I {N : Nat} (hN : 9 < N) (hn : n < 9) (hw : w < 2) (hg : ∀ q, q < n → g q < n) (h0 : M.1 49 0 = nI n) (h26 : M.1 49 26 = nI w) (h55 : ∀ q, q < n → M.1 55 q = nI (g q)) : f_Mo_bestTown N M = some (nI (tgN n w g)) := by
  have h := bt4 N hN hn hw hg h0 h26 h55 n 0 N (by omega) (by omega)
  rw [show pr0 n 0 = 0 by unfold pr0; simp] at h
  exact h
end GD
theorem neg3 (x : Int32) (h1 : x < 0) (h2 : ¬ x < -3) : x = -3 ∨ x = -2 ∨ x = -1 := by
  have a : x.toInt < 0 := Int32.lt_iff_toInt_lt.mp h1
  have b : ¬ x.toInt < -3 := fun z => h2 (Int32.lt_iff_toInt_lt.mpr z)
  rcases (show x.toInt = -3 ∨ x.toInt = -2 ∨ x.toInt = -1 by omega) with e | e | e
  · exact Or.inl (Int32.toInt_inj.mp (e.trans (by decide)))
  · exact Or.inr (Or.inl (Int32.toInt_inj.mp (e.trans (by decide))))
  · exact Or.inr (Or.inr (Int32.toInt_inj.mp (e.trans (by decide))))
theorem q_good {M : Mm} (h : Rel M) (x : Int32) : ∃ (r : Int32) (M1 M2 : Mm) (K : Nat), (∀ N, K < N → f_Uc_good N x M = some (r, M1) ∧ f_Mo_good N x M1 = some (r, M2)) ∧ Rel M2 := by
  have hh := h
  obtain ⟨n, t, b, m, mk, dr, sd, hP⟩ := h
  obtain ⟨h1, h2, h3, -⟩ := id hP
  have hn := h1.1
  have l3 : (-3 : Int64) = (-3 : Int32).toInt64 := by decide
  have l1 : (-1 : Int64) = (-1 : Int32).toInt64 := by decide
  -- who is asked for
  by_cases bad : x < -3 ∨ (¬ x < 0 ∧ ∀ j, j < n → x ≠ nI j)
  · refine ⟨-1000000001, M, M, 0, fun N hN => ⟨?_, ?_⟩, hh⟩
    · unfold f_Uc_good
      rcases bad with q | ⟨q1, q2⟩
      · rw [if_pos q]
      · rw [if_neg (fun z => q1 (Int32.lt_trans z (by decide))), h2.1]
        rcases pk_ix x (n := n) (by omega) with q | q | ⟨j, hj, q⟩
        · exact absurd q q1
        · rw [if_neg (nlt_I.mpr q)]
        · exact absurd q (q2 j hj)
    · unfold f_Mo_good
      dsimp only [lt]
      have hno : ∀ j, j < n → x ≠ nI j := by
        rcases bad with q | ⟨_, q2⟩
        · exact fun j hj e => by
            rw [e] at q
            exact nI_pos (show j < 2 ^ 31 by omega) (Int32.lt_trans q (by decide))
        · exact q2
      rw [per_no hn h3.1 hno, if_pos rfl, l3, l1, in_if]
      rcases bad with q | ⟨q1, q2⟩
      · rw [if_pos q]
      · rw [if_neg (fun z => q1 (Int32.lt_trans z (by decide))), if_pos (show (-1 : Int32) < x from Int32.lt_of_lt_of_le (by decide) (nlt_I.mp q1))]
  · have hx : (x = -3 ∨ x = -2 ∨ x = -1) ∨ ∃ p, p < n ∧ x = nI p := by
      by_cases q : x < 0
      · exact Or.inl (neg3 x q (fun z => bad (Or.inl z)))
      · rcases pers x hn with e | e
        · exact Or.inr e
        · exact absurd (Or.inr ⟨q, e⟩) bad
    have hU : ∀ N, f_Uc_good N x M = if 2 ≤ nI n then (f_Mk_solve N 1 M).bind fun vu4 => if (vu4.1 18 2) = (-1) then some ((-1), vu4) else if x = (-3) then (f_Mk_townMade N vu4).bind fun vu7 => some (vu7, vu4) else if x = (-2) then some (vu4.1 18 3, vu4) else if x = (-1) then some (vu4.1 18 2, vu4) else some (f_Mk_placeOf x vu4, vu4) else some ((-1000000003), M) := fun N => by
      unfold f_Uc_good
      have e1 : ¬ x < -3 := fun z => bad (Or.inl z)
      have e2 : x < nI n := by
        rcases hx with (e | e | e) | ⟨p, hp, e⟩
        · rw [e]; exact Int32.lt_of_lt_of_le (by decide) (nI_pos' (by omega))
        · rw [e]; exact Int32.lt_of_lt_of_le (by decide) (nI_pos' (by omega))
        · rw [e]; exact Int32.lt_of_lt_of_le (by decide) (nI_pos' (by omega))
        · rw [e]; exact nI_lt hp (by omega)
      rw [if_neg e1, h2.1, if_pos e2]
    have hM : ∀ N (R : Mm), R.1 49 0 = nI n → f_Mo_good N x R = if 2 ≤ nI n then (f_Mo_makeGood N (nI n) (R.1 49 1) (R.1 49 2) (R.1 49 3) R).bind fun vu3 => (if vu3.1 < 0 then some (vu3.1, vu3.2) else if x = (-1) then some (vu3.1, vu3.2) else if x = (-2) then some (vu3.2.1 49 26, vu3.2) else if x = (-3) then (f_Mo_bestTown N vu3.2).bind fun vu12 => some (vu12, vu3.2) else if inb x 8 = true then some (vu3.2.1 55 (Int32.toNatClampNeg x), vu3.2) else none) else some ((-1000000003), R) := fun N R hR => by
      unfold f_Mo_good
      dsimp only [lt]
      rw [hR, l3, l1, in_if]
      rcases hx with (e | e | e) | ⟨p, hp, e⟩
      · rw [if_neg (show ¬ x < -3 by rw [e]; decide), if_neg (show ¬ (-1 : Int32) < x by rw [e]; decide)]
      · rw [if_neg (show ¬ x < -3 by rw [e]; decide), if_neg (show ¬ (-1 : Int32) < x by rw [e]; decide)]
      · rw [if_neg (show ¬ x < -3 by rw [e]; decide), if_neg (show ¬ (-1 : Int32) < x by rw [e]; decide)]
      · rw [if_neg (show ¬ x < -3 from fun z => by rw [e] at z; exact nI_pos (show p < 2 ^ 31 by omega) (Int32.lt_trans z (by decide))), if_pos (show (-1 : Int32) < x by rw [e]; exact Int32.lt_of_lt_of_le (by decide) (nI_pos' (by omega))), e, per_yes hn hR hp, if_neg h10]
    by_cases z : 2 ≤ n
    · have s2 : (2 : Int32) ≤ nI n := nI_le (a := 2) z (by omega)
      obtain ⟨Mc, c1, c2, c3, c4⟩ := mg_I hn (by omega) (np_lt31 hn h1.2.1) (np_lt31 hn h1.2.2.1) (np_lt31 hn h1.2.2.2.1) h1.2.2.2.2.2.2.2.1 h1.2.2.2.2.2.2.2.2.2.1 (Or.inl rfl) h2
      have hS : Same M Mc := Same.ge (fun x j q1 _ => c2 x j q1)
      have g3 := h3.same hS
      obtain ⟨K, R, r1, r2⟩ := c4 Mc g3.2.2.2.2.1 g3.2.2.2.2.2.1
      have hRel : Rel R := hh.same (hS.tr (Same.gr r1))
      have hR0 : R.1 49 0 = nI n := (r1 _ _ (by decide) (by decide) (by decide) (by omega)).trans g3.1
      rcases r2 with ⟨d1, d2⟩ | ⟨w, g, hw, hg, htc, d1, d3, dpl, d2, d26, d55⟩
      · refine ⟨-1, Mc, R, K + 300, fun N hN => ⟨?_, ?_⟩, hRel⟩
        · rw [hU, if_pos s2, c1 N (by omega), bnd_s, if_pos d1]
        · rw [hM N Mc g3.1, if_pos s2, g3.2.1, g3.2.2.1, g3.2.2.2.1, d2 N (by omega), bnd_s]
          exact if_pos (show (-1 : Int32) < 0 by decide)
      · have eU : ∀ N, 300 < N → f_Uc_good N x M = if x = (-3) then some (nI (tgN n w g), Mc) else if x = (-2) then some (nI w, Mc) else if x = (-1) then some (nI (TC n t mk dr w g), Mc) else some (f_Mk_placeOf x Mc, Mc) := fun N hN => by
          rw [hU, if_pos s2, c1 N (by omega), bnd_s, d1, if_neg (nI_nm1 (by omega)), d3, tm_I (by omega) hn hw hg c3 d3 dpl, bnd_s]
        have eM : ∀ N, K + 300 < N → f_Mo_good N x Mc = if x = (-1) then some (nI (TC n t mk dr w g), R) else if x = (-2) then some (nI w, R) else if x = (-3) then some (nI (tgN n w g), R) else if inb x 8 = true then some (R.1 55 (Int32.toNatClampNeg x), R) else none := fun N hN => by
          rw [hM N Mc g3.1, if_pos s2, g3.2.1, g3.2.2.1, g3.2.2.2.1, d2 N (by omega), bnd_s]
          dsimp only
          rw [if_neg (nI_pos (by omega)), d26, bt_I (by omega) hn hw hg hR0 d26 d55, bnd_s]
        rcases hx with (e | e | e) | ⟨p, hp, e⟩
        · subst e
          refine ⟨nI (tgN n w g), Mc, R, K + 300, fun N hN => ⟨?_, ?_⟩, hRel⟩
          · rw [eU N (by omega), if_pos rfl]
          · rw [eM N hN, if_neg (by decide), if_neg (by decide), if_pos rfl]
        · subst e
          refine ⟨nI w, Mc, R, K + 300, fun N hN => ⟨?_, ?_⟩, hRel⟩
          · rw [eU N (by omega), if_neg (by decide), if_pos rfl]
          · rw [eM N hN, if_neg (by decide), if_pos rfl]
        · subst e
          refine ⟨nI (TC n t mk dr w g), Mc, R, K + 300, fun N hN => ⟨?_, ?_⟩, hRel⟩
          · rw [eU N (by omega), if_neg (by decide), if_neg (by decide), if_pos rfl]
          · rw [eM N hN, if_pos rfl]
        · have ne : ∀ c : Int32, c < 0 → ¬ x = c := fun c hc z => by
            rw [e] at z
            rw [← z] at hc
            exact nI_pos (show p < 2 ^ 31 by omega) hc
          refine ⟨nI (g p), Mc, R, K + 300, fun N hN => ⟨?_, ?_⟩, hRel⟩
          · rw [eU N (by omega), if_neg (ne _ (by decide)), if_neg (ne _ (by decide)), if_neg (ne _ (by decide)), e, dpl p hp]
          · rw [eM N hN, if_neg (ne _ (by decide)), if_neg (ne _ (by decide)), if_neg (ne _ (by decide)), e, if_pos (inb_nI (show p < 8 by omega) (by decide)), ix_nI (by omega), d55 p hp]
    · have s2 : ¬ (2 : Int32) ≤ nI n := nI_ge (a := n) (b := 2) (by omega) (by decide)
      refine ⟨-1000000003, M, M, 0, fun N hN => ⟨?_, ?_⟩, hh⟩
      · rw [hU, if_neg s2]
      · rw [hM N M h3.1, if_neg s2]
