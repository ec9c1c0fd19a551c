/-! PURE 39: the reference's even town -/
theorem ev84 (N : Nat) {n u e0 : Nat} {M : Mm} (ju : Int32 → Option (Int32 × Mm)) (hn : n < 9) (he : e0 < 6) (h0 : M.1 49 0 = nI n) (h1 : ∀ j, j < n → M.1 51 j = nI (dgr n u j)) : ∀ (d k nu : Nat), k + d = n → d < nu → L_Mo_even_84 N (nI e0) M ju nu (bI (decide (cof n (fun _ => e0) u k = 0))) (nI k) = ju (bI (g0 n (fun _ => e0) u))
  | 0, k, nu + 1, hk, hnu => by
    have hk : k = n := by omega
    subst hk
    rw [L_Mo_even_84, h0, if_pos (nI_le (Nat.le_refl k) (by omega))]
    rfl
  | d + 1, k, nu + 1, hk, hnu => by
    have ih := ev84 N (e0 := e0) (u := u) ju hn he h0 h1 d (k + 1) nu (by omega) (by omega)
    have hd : dgr n u k ≤ n := dgr_le
    rw [L_Mo_even_84, h0, if_neg (nI_ge (by omega) (by omega))]
    dsimp only [lt]
    rw [if_pos (inb_nI (show k < 8 by omega) (by decide)), ix_nI (by omega), h1 k (by omega), nI_1]
    have hc : cof n (fun _ => e0) u (k + 1) = cof n (fun _ => e0) u k + (if decide (dgr n u k ≠ e0) = true then 1 else 0) := rfl
    by_cases z : cof n (fun _ => e0) u k = 0
    · rw [if_neg (by rw [decide_eq_true z]; decide)]
      by_cases q : dgr n u k = e0
      · rw [if_pos (by rw [q])]
        rw [show cof n (fun _ => e0) u (k + 1) = 0 by rw [hc, z]; simp [q]] at ih
        exact ih
      · rw [if_neg (fun v => q ((nI_eq (by omega) (by omega)).mp v))]
        rw [show decide (cof n (fun _ => e0) u (k + 1) = 0) = false by rw [hc]; simp [q]] at ih
        exact ih
    · rw [if_pos (by rw [decide_eq_false z]; rfl)]
      rw [show decide (cof n (fun _ => e0) u (k + 1) = 0) = false by rw [hc]; exact decide_eq_false (by omega)] at ih
      exact ih
theorem mn45 {n t b m mk dr e0 : Nat} {sd : Nat → Nat} (hn : n < 7) (he : e0 < 6) (hT : TOK n t b m mk dr sd) : ∀ (d u : Nat) (M : Mm), u + d = 2 ^ np n → MT M n t b m mk dr sd → ∃ M', (∀ N nu ju, 28 < N → d < nu → L_Mo_even_45 N (nI e0) ju nu (rb (fM (kyE n t mk dr) (gE b m n e0) tt u)) (rp (fM (kyE n t mk dr) (gE b m n e0) tt u)) (nI u) M = ju (rb (fM (kyE n t mk dr) (gE b m n e0) tt (2 ^ np n))) (rp (fM (kyE n t mk dr) (gE b m n e0) tt (2 ^ np n))) M') ∧ ∀ a j, a ≠ 51 → M'.1 a j = M.1 a j := by
  have hn9 : n < 9 := by omega
  have h15 : 2 ^ np n ≤ 2 ^ 15 := Nat.pow_le_pow_right (by decide) (np6 n hn)
  have hpw : (1 : Int32) <<< (f_Mo_pairs (nI n) &&& 31) = nI (2 ^ np n) := by rw [prs_I hn9, one_sl (by have := np6 n hn; omega)]
  intro d
  induction d with
  | zero =>
    intro u M hu hM
    have hu : u = 2 ^ np n := by omega
    subst hu
    refine ⟨M, fun N nu ju hN hnu => ?_, fun _ _ _ => rfl⟩
    obtain ⟨nu, rfl⟩ : ∃ v, nu = v + 1 := ⟨nu - 1, by omega⟩
    rw [L_Mo_even_45, hM.1, hpw, if_pos (nI_le (Nat.le_refl _) (by omega))]
  | succ d ih =>
    intro u M hu hM
    have hul : u < 2 ^ np n := by omega
    have hu31 : u < 2 ^ 31 := by omega
    have hs := fM_s (c := kyE n t mk dr) (g := gE b m n e0) (k := u)
    have hkb := mkb_I (M := M) hn9 hT.2.2.1 hT.2.2.2.1 hul hM.2.2.1 hM.2.2.2.1
    by_cases hg : gK b m n u = true
    · generalize hC : cnM n u (np n) M = C
      have oC : ∀ a j, a ≠ 51 → C.1 a j = M.1 a j := fun a j q => by rw [← hC, cn_off q]
      have C51 : ∀ j, j < n → C.1 51 j = nI (dgr n u j) := fun j hj => by rw [← hC, cn_at hj, pd_full hn9 hj]
      have hMC : MT C n t b m mk dr sd := hM.ag (fun a j q => by
        simp only [uMT, Bool.or_eq_true, Bool.and_eq_true, beq_iff_eq, decide_eq_true_eq] at q
        exact oC a j (by omega))
      obtain ⟨M', a1, a2⟩ := ih (u + 1) C (by omega) hMC
      refine ⟨M', fun N nu ju hN hnu => ?_, fun a j q => (a2 a j q).trans (oC a j q)⟩
      obtain ⟨nu, rfl⟩ : ∃ v, nu = v + 1 := ⟨nu - 1, by omega⟩
      have h := a1 N nu ju hN (by omega)
      have hpl : prK t mk dr u (np n) ≤ 504 := pr_all hT (np_le n hn9)
      have hu20 : u < 1048576 := by omega
      have hky : kyE n t mk dr u = key 0 (prK t mk dr u (np n)) u := rfl
      have hpr := mpr_I (M := C) hN hn9 hT.2.1 hul hMC.2.2.2.2.1 hMC.2.2.2.2.2.1
      have hsm := fM_small (b := b) (m := m) (e0 := e0) (V := tt) (K := u) hn hT (by omega)
      rw [L_Mo_even_45, hM.1, hpw, if_neg (nI_ge hul (by omega)), hkb.1 (gK_t.mp hg)]
      dsimp only [lt]
      rw [if_neg h10, fc_I (by omega) hn9 hu31, bnd_s, hC]
      refine (ev84 N (n := n) (u := u) (e0 := e0) (M := C) _ hn9 he hMC.1 C51 n 0 N (by omega) (by omega)).trans ?_
      rw [hMC.2.1, hpr, bnd_s, nI_1]
      have hge : gE b m n e0 u = g0 n (fun _ => e0) u := by unfold gE; rw [hg, Bool.true_and]
      rw [hge, hky] at hs
      generalize prK t mk dr u (np n) = pr at *
      have hki := ky_inf (a := 0) (by decide) hpl hu20
      have new : fM (kyE n t mk dr) (gE b m n e0) tt (u + 1) = key 0 pr u → rb (fM (kyE n t mk dr) (gE b m n e0) tt (u + 1)) = nI u ∧ rp (fM (kyE n t mk dr) (gE b m n e0) tt (u + 1)) = nI pr := fun e => by
        have ne : ¬ fM (kyE n t mk dr) (gE b m n e0) tt (u + 1) = INF := by omega
        unfold rb rp
        rw [if_neg ne, if_neg ne, e, kT_k hu20, kP_k (by omega) hu20]
        exact ⟨rfl, rfl⟩
      cases hG : g0 n (fun _ => e0) u with
      | false =>
        rw [hG, if_neg (by decide)] at hs
        rw [hs] at h
        rw [if_pos (show bI false = 0 from rfl), if_pos (show bI false = 0 from rfl), if_pos rfl, if_pos rfl]
        exact h
      | true =>
        rw [hG, if_pos rfl] at hs
        rw [if_neg (show ¬ bI true = 0 by decide), if_neg (show ¬ bI true = 0 by decide)]
        by_cases hk : fM (kyE n t mk dr) (gE b m n e0) tt u = INF
        · have e2 : fM (kyE n t mk dr) (gE b m n e0) tt (u + 1) = key 0 pr u := by rw [hs, hk]; exact Nat.min_eq_right (by omega)
          obtain ⟨n1, n3⟩ := new e2
          rw [n1, n3] at h
          have r1 : rb (fM (kyE n t mk dr) (gE b m n e0) tt u) = -1 := if_pos hk
          rw [r1, if_pos (show (-1 : Int32) < 0 by decide), if_neg h10, if_neg h10]
          exact h
        · obtain ⟨u', hu', ek⟩ := hsm.resolve_left hk
          have hpl' : prK t mk dr u' (np n) ≤ 504 := pr_all hT (np_le n hn9)
          have r1 : rb (fM (kyE n t mk dr) (gE b m n e0) tt u) = nI u' := by unfold rb; rw [if_neg hk, ek, kT_k (by omega)]
          have r3 : rp (fM (kyE n t mk dr) (gE b m n e0) tt u) = nI (prK t mk dr u' (np n)) := by unfold rp; rw [if_neg hk, ek, kP_k (by omega) (by omega)]
          rw [ek] at hs
          rw [r1, r3, if_neg (nI_pos (by omega))]
          by_cases c4 : prK t mk dr u' (np n) ≤ pr
          · rw [if_pos (nI_le c4 (by omega)), if_pos rfl, if_pos rfl]
            have e2 : fM (kyE n t mk dr) (gE b m n e0) tt (u + 1) = fM (kyE n t mk dr) (gE b m n e0) tt u := by
              rw [hs, ek]
              exact Nat.min_eq_left (by unfold key; omega)
            rw [e2, r1, r3] at h
            exact h
          · rw [if_neg (nI_ge (by omega) (by omega)), if_neg h10, if_neg h10]
            have e2 : fM (kyE n t mk dr) (gE b m n e0) tt (u + 1) = key 0 pr u := by
              rw [hs]
              exact Nat.min_eq_right (by unfold key; omega)
            obtain ⟨n1, n3⟩ := new e2
            rw [n1, n3] at h
            exact h
    · have hge : ¬ gE b m n e0 u = true := fun z => by
        unfold gE at z
        rw [Bool.and_eq_true] at z
        exact hg z.1
      rw [if_neg hge] at hs
      obtain ⟨M', a1, a2⟩ := ih (u + 1) M (by omega) hM
      refine ⟨M', fun N nu ju hN hnu => ?_, a2⟩
      obtain ⟨nu, rfl⟩ : ∃ v, nu = v + 1 := ⟨nu - 1, by omega⟩
      have h := a1 N nu ju hN (by omega)
      rw [L_Mo_even_45, hM.1, hpw, if_neg (nI_ge hul (by omega)), hkb.2 (fun z => hg (gK_t.mpr z))]
      dsimp only [lt]
      rw [if_pos rfl, nI_1]
      rw [hs] at h
      exact h
theorem q_even {M : Mm} (h : Rel M) (x y : Int32) : ∃ (r : Int32) (M1 M2 : Mm), (∀ N, 40000 < N → f_Uc_even N x y M = some (r, M1) ∧ f_Mo_even N x y M1 = some (r, M2)) ∧ Rel M2 := by
  have hh := h
  obtain ⟨n, t, b, m, mk, dr, sd, hP⟩ := h
  obtain ⟨h1, h2, h3, -⟩ := id hP
  have hn := h1.1
  by_cases bad : x < 0 ∨ ¬ x ≤ 5 ∨ y < 0 ∨ ¬ y ≤ 1
  · refine ⟨-1000000002, M, M, fun N hN => ?_, hh⟩
    unfold f_Uc_even f_Mo_even
    rw [show (0 : Int64) = (0 : Int32).toInt64 from rfl, show (5 : Int64) = (5 : Int32).toInt64 from rfl, show (1 : Int64) = (1 : Int32).toInt64 from rfl, in_if, in_if]
    by_cases z1 : x < 0
    · rw [if_pos z1, if_pos z1]; exact ⟨rfl, rfl⟩
    rw [if_neg z1, if_neg z1]
    by_cases z2 : 5 < x
    · rw [if_pos z2, if_pos z2]; exact ⟨rfl, rfl⟩
    rw [if_neg z2, if_neg z2]
    by_cases z3 : y < 0
    · rw [if_pos z3, if_pos z3]; exact ⟨rfl, rfl⟩
    rw [if_neg z3, if_neg z3]
    by_cases z4 : y ≤ 1
    · exact absurd bad (by
        rintro (q | q | q | q)
        · exact z1 q
        · exact z2 (nle_I.mp q)
        · exact z3 q
        · exact q z4)
    · rw [if_neg z4, if_pos (nle_I.mp z4)]; exact ⟨rfl, rfl⟩
  · have z1 : ¬ x < 0 := fun q => bad (Or.inl q)
    have z2 : x ≤ 5 := Classical.byContradiction (fun q => bad (Or.inr (Or.inl q)))
    have z3 : ¬ y < 0 := fun q => bad (Or.inr (Or.inr (Or.inl q)))
    have z4 : y ≤ 1 := Classical.byContradiction (fun q => bad (Or.inr (Or.inr (Or.inr q))))
    obtain ⟨e0, he0, rfl⟩ := nI_of2 (x := x) (M := 5) (n := 5) rfl z1 z2
    by_cases z : n < 7
    · have h15 : 2 ^ np n ≤ 2 ^ 15 := Nat.pow_le_pow_right (by decide) (np6 n z)
      obtain ⟨M1, a1, a3, a4, a5⟩ := fev_I (e0 := e0) z h1 h2 (by omega)
      have hS := Same.se a5
      have g3 := h3.same hS
      obtain ⟨M2, c1, c2⟩ := mn45 (e0 := e0) z (by omega) h1 (2 ^ np n) 0 M1 (by omega) g3
      have hsm := fM_small (b := b) (m := m) (e0 := e0) (V := tt) z h1 (Nat.le_refl (2 ^ np n))
      generalize fM (kyE n t mk dr) (gE b m n e0) tt (2 ^ np n) = k at *
      have s6 : nI n ≤ 6 := nI_le (b := 6) (by omega) (by decide)
      have hSame : Rel M2 := hh.same (hS.tr (fun a j r => c2 a j (fun e => by rw [e] at r; cases r)))
      have eU : ∀ N, 40000 < N → f_Uc_even N (nI e0) y M = if y = 0 then some (M1.1 20 11, M1) else some (M1.1 20 12, M1) := fun N hN => by
        unfold f_Uc_even
        rw [if_neg z1, if_neg (nlt_I.mpr z2), if_neg z3, if_pos z4, h2.1, if_pos s6, a1 N (by omega), bnd_s]
      have eM : ∀ N, 40000 < N → f_Mo_even N (nI e0) y M1 = if 0 ≤ rb k then (if y = 0 then some (rp k, M2) else some (rb k, M2)) else some (-1, M2) := fun N hN => by
        unfold f_Mo_even
        rw [show (0 : Int64) = (0 : Int32).toInt64 from rfl, show (5 : Int64) = (5 : Int32).toInt64 from rfl, show (1 : Int64) = (1 : Int32).toInt64 from rfl, in_if, in_if, if_neg z1, if_neg (nlt_I.mpr z2), if_neg z3, if_neg (nlt_I.mpr z4), g3.1, if_pos s6]
        dsimp only [lt]
        exact c1 N N _ (by omega) (by omega)
      by_cases hk : k = INF
      · have r1 : rb k = -1 := if_pos hk
        rw [if_pos hk] at a3 a4
        refine ⟨-1, M1, M2, fun N hN => ⟨?_, ?_⟩, hSame⟩
        · rw [eU N hN, a3, a4]; exact ite_self _
        · rw [eM N hN, r1, if_neg m1n]
      · obtain ⟨u, hu, ek⟩ := hsm.resolve_left hk
        have r1 : rb k = nI (kT k) := if_neg hk
        have r3 : rp k = nI (kP k) := if_neg hk
        have hT20 : kT k < 2 ^ 31 := by unfold kT; omega
        rw [if_neg hk] at a3 a4
        refine ⟨if y = 0 then nI (kP k) else nI (kT k), M1, M2, fun N hN => ⟨?_, ?_⟩, hSame⟩
        · rw [eU N hN, a3, a4]
          by_cases e : y = 0
          · rw [if_pos e, if_pos e]
          · rw [if_neg e, if_neg e]
        · rw [eM N hN, r1, r3, if_pos (nI_pos' hT20)]
          by_cases e : y = 0
          · rw [if_pos e, if_pos e]
          · rw [if_neg e, if_neg e]
    · have s6 : ¬ nI n ≤ 6 := nI_ge (a := 6) (by omega) (by omega)
      refine ⟨-1000000003, M, M, fun N hN => ⟨?_, ?_⟩, hh⟩
      · unfold f_Uc_even
        rw [if_neg z1, if_neg (nlt_I.mpr z2), if_neg z3, if_pos z4, h2.1, if_neg s6]
      · unfold f_Mo_even
        rw [show (0 : Int64) = (0 : Int32).toInt64 from rfl, show (5 : Int64) = (5 : Int32).toInt64 from rfl, show (1 : Int64) = (1 : Int32).toInt64 from rfl, in_if, in_if, if_neg z1, if_neg (nlt_I.mpr z2), if_neg z3, if_neg (nlt_I.mpr z4), h3.1, if_neg s6]
