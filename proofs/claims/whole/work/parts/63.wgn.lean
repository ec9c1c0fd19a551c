/-! PURE 44: the class's search for weights -/
def wk (g k c i : Nat) : Nat := if i < k then 1 + c / g ^ (k - 1 - i) % g else 0
theorem wk_E {g E c i : Nat} (hi : i < E) : wk g E c i = wc g E c i := if_pos hi
theorem wk_ch {g k c v i : Nat} (hg : 0 < g) (hv : v < g) : wk g (k + 1) (c * g + v) i = upw (wk g k c) k (v + 1) i := by
  show (if i < k + 1 then 1 + (c * g + v) / g ^ (k + 1 - 1 - i) % g else 0) = (if i = k then v + 1 else (if i < k then 1 + c / g ^ (k - 1 - i) % g else 0))
  by_cases e : i = k
  · subst e
    rw [if_pos (by omega), if_pos rfl, show i + 1 - 1 - i = 0 by omega, Nat.pow_zero, Nat.div_one, Nat.add_comm (c * g), Nat.add_mul_mod_self_right, Nat.mod_eq_of_lt hv, Nat.add_comm]
  · rw [if_neg e]
    by_cases h : i < k
    · rw [if_pos (by omega), if_pos h, show k + 1 - 1 - i = (k - 1 - i) + 1 by omega, Nat.pow_succ, Nat.mul_comm (g ^ (k - 1 - i)) g, ← Nat.div_div_eq_div_mul, Nat.add_comm (c * g), Nat.add_mul_div_right _ _ hg, Nat.div_eq_of_lt hv, Nat.zero_add]
    · rw [if_neg (by omega), if_neg h]
theorem wc_pre {g E k c C i : Nat} (hk : k ≤ E) (hi : i < k) (h : C / g ^ (E - k) = c) : wc g E C i = wk g k c i := by
  unfold wc wk
  rw [if_pos hi, show E - 1 - i = (E - k) + (k - 1 - i) by omega, Nat.pow_add, ← Nat.div_div_eq_div_mul, h]
theorem di_up {g E k C : Nat} (hk : k < E) : C / g ^ (E - k) = C / g ^ (E - (k + 1)) / g := by
  rw [Nat.div_div_eq_div_mul, ← Nat.pow_succ, show (E - (k + 1)).succ = E - k by omega]
section WN
variable {n t g : Nat} {Mb : Mm}
theorem psm_0 {w : Nat → Nat} {j : Nat} (h : hasL n t 0 j = false) : psm n t w j (rk t (np n)) = 0 := by
  have e : psm n t w j (rk t (np n)) = psm n t (fun _ => 0) j (rk t (np n)) := psm_cong (fun i hi hin => by
    rw [hl_f.mp h i (by omega) hi] at hin; cases hin)
  rw [e]
  unfold psm
  rw [smN_cong (g := fun _ => 0) (fun i _ => by split <;> rfl)]
  exact smN_zero _
theorem psm_p {w : Nat → Nat} {j : Nat} (h : hasL n t 0 j = true) (hw : ∀ i, i < rk t (np n) → 1 ≤ w i) : 1 ≤ psm n t w j (rk t (np n)) := by
  obtain ⟨i, -, h2, h3⟩ := hl_iff.mp h
  exact Nat.le_trans (hw i h2) (psm_ge h2 h3)
/-- a person whose friendships all lie below k has its sum -/
theorem psm_fix {w w' : Nat → Nat} {k j : Nat} (h : hasL n t k j = false) (hw : ∀ i, i < k → w i = w' i) : psm n t w j (rk t (np n)) = psm n t w' j (rk t (np n)) := psm_cong (fun i hi hin => by
  by_cases q : i < k
  · exact hw i q
  · rw [hl_f.mp h i (by omega) hi] at hin; cases hin)
theorem inE_n {k j : Nat} (hn : n < 9) (hk : k < rk t (np n)) (h : inE n t k j = true) : j < n := by
  obtain ⟨-, -, -, d1, d2, -⟩ := ed_ok hn hk
  unfold inE at h
  rw [Bool.or_eq_true] at h
  rcases h with h | h
  · have := of_decide_eq_true h; omega
  · have := of_decide_eq_true h; omega
theorem hasL_n {j : Nat} (hn : n < 9) (h : hasL n t 0 j = true) : j < n := by
  obtain ⟨i, -, h2, h3⟩ := hl_iff.mp h
  exact inE_n hn h2 h3
/-- those whose sums are settled differ -/
def DS (n t k : Nat) (w : Nat → Nat) : Prop := ∀ i j, i ≠ j → stB n t k i = true → stB n t k j = true → psm n t w i (rk t (np n)) ≠ psm n t w j (rk t (np n))
def FND (n t g k c : Nat) (f : Option (Int32 × Mm)) (Mb : Mm) : Prop := (∃ C, C < g ^ rk t (np n) ∧ C / g ^ (rk t (np n) - k) = c ∧ VW n t g C = true ∧ (∀ C', C' < C → C' / g ^ (rk t (np n) - k) = c → VW n t g C' = false) ∧ f = some (1, weM n t (wc g (rk t (np n)) C) Mb)) ∨ ((∀ C, C < g ^ rk t (np n) → C / g ^ (rk t (np n) - k) = c → VW n t g C = false) ∧ f = some (0, weM n t (wk g k c) Mb))
theorem VW_f {C i j : Nat} (hi : i < n) (hj : j < n) (hij : i ≠ j) (h : psm n t (wc g (rk t (np n)) C) i (rk t (np n)) = psm n t (wc g (rk t (np n)) C) j (rk t (np n))) : VW n t g C = false := by
  cases hv : VW n t g C
  · rfl
  · have hu := unl_iff.mp hv
    rcases Nat.lt_or_gt_of_ne hij with q | q
    · exact absurd h.symm (hu j i q hj)
    · exact absurd h (hu i j q hi)
theorem wg_node (hn : n < 9) (hE : rk t (np n) ≤ 8) (hg1 : 1 ≤ g) (hg : g < 5) (hS : WS n t Mb) (hF : ∀ i j, i < n → j < n → i ≠ j → hasL n t 0 i = false → hasL n t 0 j = true) : ∀ (d k c : Nat), k + d = rk t (np n) → c < g ^ k → DS n t k (wk g k c) → ∀ N dd, 100 < N → d < dd → FND n t g k c (f_We_weighFrom N dd (nI k) (nI g) (nI (bs (stB n t k) 8)) (weM n t (wk g k c) Mb)) Mb := by
  intro d
  induction d with
  | zero =>
    intro k c hk hc hD N dd hN hdd
    obtain ⟨dd, rfl⟩ : ∃ v, dd = v + 1 := ⟨dd - 1, by omega⟩
    have hkE : k = rk t (np n) := by omega
    have hz : rk t (np n) - k = 0 := by omega
    refine Or.inl ⟨c, by rw [← hkE]; exact hc, by rw [hz, Nat.pow_zero, Nat.div_one], ?_, fun C' h1 h2 => ?_, ?_⟩
    · refine unl_iff.mpr (fun p q hqp hp => ?_)
      have e : ∀ j, psm n t (wc g (rk t (np n)) c) j (rk t (np n)) = psm n t (wk g k c) j (rk t (np n)) := fun j => psm_cong (fun i hi _ => by rw [hkE, wk_E hi])
      have w1 : ∀ i, i < rk t (np n) → 1 ≤ wk g k c i := fun i hi => by rw [hkE, wk_E hi]; exact (wc_le hg1).1
      show psm n t (wc g (rk t (np n)) c) p (rk t (np n)) ≠ psm n t (wc g (rk t (np n)) c) q (rk t (np n))
      rw [e, e]
      have st : ∀ j, hasL n t 0 j = true → stB n t k j = true := fun j hj => by unfold stB; rw [hj, hl_E (by omega)]; rfl
      cases hP : hasL n t 0 p with
      | true =>
        cases hQ : hasL n t 0 q with
        | true => exact hD p q (by omega) (st p hP) (st q hQ)
        | false =>
          have := psm_p hP w1
          rw [psm_0 hQ]; omega
      | false =>
        have hQ := hF p q hp (by omega) (by omega) hP
        have := psm_p hQ w1
        rw [psm_0 hP]; omega
    · rw [hz, Nat.pow_zero, Nat.div_one] at h2; omega
    · rw [f_We_weighFrom, (hS.we).1, if_neg (nI_nlt (by omega) (by omega)), we_cong (w := wk g k c) (w' := wc g (rk t (np n)) c) (fun i hi => by rw [hkE, wk_E hi])]
  | succ d ih =>
    intro k c hk hc hD N dd hN hdd
    obtain ⟨dd, rfl⟩ : ∃ v, dd = v + 1 := ⟨dd - 1, by omega⟩
    have hkE : k < rk t (np n) := by omega
    have hgE := gE_le hg hE
    have hst : nI (bs (stB n t k) 8) ||| nI (bs (enB n t k) 8) = nI (bs (stB n t (k + 1)) 8) := by
      rw [or_I, bs_orB]
      congr 1
      exact bs_cong (fun i _ => st_s hkE)
    have loop : ∀ (e v nu : Nat), v + e = g → e < nu → (∀ C, C < g ^ rk t (np n) → C / g ^ (rk t (np n) - k) = c → C / g ^ (rk t (np n) - (k + 1)) % g < v → VW n t g C = false) → FND n t g k c (L_We_weighFrom_23 N (nI k) (nI g) (nI (bs (stB n t (k + 1)) 8)) (fun Mu5 => (f_We_putWeight (nI k) 0 Mu5).bind fun vu6 => some (0, vu6)) (f_We_weighFrom N dd) nu (nI (v + 1)) (weM n t (upw (wk g k c) k v) Mb)) Mb := by
      intro e
      induction e with
      | zero =>
        intro v nu hv hnu hpre
        obtain ⟨nu, rfl⟩ : ∃ u, nu = u + 1 := ⟨nu - 1, by omega⟩
        refine Or.inr ⟨fun C h1 h2 => hpre C h1 h2 (by have := Nat.mod_lt (C / g ^ (rk t (np n) - (k + 1))) hg1; omega), ?_⟩
        rw [L_We_weighFrom_23, if_pos (nI_lt (by omega) (by omega)), show (0 : Int32) = nI 0 from rfl, put_I hn hE hS hkE, bnd_s]
        congr 2
        refine we_cong (fun i hi => ?_)
        unfold upw
        by_cases q : i = k
        · subst q; rw [if_pos rfl]; unfold wk; rw [if_neg (by omega)]
        · rw [if_neg q, if_neg q]
      | succ e ihe =>
        intro v nu hv hnu hpre
        obtain ⟨nu, rfl⟩ : ∃ u, nu = u + 1 := ⟨nu - 1, by omega⟩
        have hvg : v < g := by omega
        have hu2 : upw (upw (wk g k c) k v) k (v + 1) = upw (wk g k c) k (v + 1) := by
          funext i
          unfold upw
          by_cases q : i = k
          · rw [if_pos q, if_pos q]
          · rw [if_neg q, if_neg q, if_neg q]
        have hwk : weM n t (upw (wk g k c) k (v + 1)) Mb = weM n t (wk g (k + 1) (c * g + v)) Mb := we_cong (fun i _ => (wk_ch hg1 hvg).symm)
        have hpre2 : (∀ C, C < g ^ rk t (np n) → C / g ^ (rk t (np n) - (k + 1)) = c * g + v → VW n t g C = false) → ∀ C, C < g ^ rk t (np n) → C / g ^ (rk t (np n) - k) = c → C / g ^ (rk t (np n) - (k + 1)) % g < v + 1 → VW n t g C = false := fun hno C h1 h2 h3 => by
          by_cases q : C / g ^ (rk t (np n) - (k + 1)) % g < v
          · exact hpre C h1 h2 q
          · refine hno C h1 ?_
            rw [di_up hkE] at h2
            have := Nat.div_add_mod (C / g ^ (rk t (np n) - (k + 1))) g
            rw [h2, Nat.mul_comm] at this
            omega
        have hcl : c * g + v < g ^ (k + 1) := by
          rw [Nat.pow_succ]
          have : (c + 1) * g ≤ g ^ k * g := Nat.mul_le_mul hc (Nat.le_refl _)
          rw [Nat.succ_mul] at this
          omega
        have ih2 := ihe (v + 1) nu (by omega) (by omega)
        rw [hwk] at ih2
        -- the sums of the child
        have hsum : ∀ j, psm n t (wk g (k + 1) (c * g + v)) j (rk t (np n)) < 2 ^ 31 := fun j => by
          have h1 := psm_le (n := n) (t := t) (w := wk g (k + 1) (c * g + v)) (j := j) (c := g) (k := rk t (np n)) (fun i _ => by
            unfold wk
            by_cases q : i < k + 1
            · rw [if_pos q]
              have := Nat.mod_lt ((c * g + v) / g ^ (k + 1 - 1 - i)) hg1
              omega
            · rw [if_neg q]; omega)
          have h2 : rk t (np n) * g ≤ 8 * 4 := Nat.mul_le_mul hE (by omega)
          omega
        have hb8 : ∀ (f : Nat → Bool) i, (bs f 8).testBit i = (decide (i < 8) && f i) := fun f i => bs_bit f i 8
        have hden : ∀ j, (bs (enB n t k) 8).testBit j = true → enB n t k j = true := fun j hj => by
          rw [hb8, Bool.and_eq_true] at hj; exact hj.2
        have hdst : ∀ j, (bs (stB n t (k + 1)) 8).testBit j = true → stB n t (k + 1) j = true := fun j hj => by
          rw [hb8, Bool.and_eq_true] at hj; exact hj.2
        have stn : ∀ j, stB n t (k + 1) j = true → j < n := fun j hj => by
          unfold stB at hj
          rw [Bool.and_eq_true] at hj
          exact hasL_n hn hj.1
        have enst : ∀ j, enB n t k j = true → stB n t (k + 1) j = true := fun j hj => by
          rw [← st_s hkE, hj, Bool.or_true]
        have hsd := sd2 N (F := bs (enB n t k) 8) (A := bs (stB n t (k + 1)) 8) (s := fun j => psm n t (wk g (k + 1) (c * g + v)) j (rk t (np n))) (M := weM n t (wk g (k + 1) (c * g + v)) Mb) (by omega) (bs_lt _ _) (bs_lt _ _) (fun j hj => we_29 (by
          rcases hj with hj | hj
          · exact stn j (hdst j hj)
          · exact stn j (enst j (hden j hj)))) hsum 8 0 N (by omega) (by omega)
        have hstep : L_We_weighFrom_23 N (nI k) (nI g) (nI (bs (stB n t (k + 1)) 8)) (fun Mu5 => (f_We_putWeight (nI k) 0 Mu5).bind fun vu6 => some (0, vu6)) (f_We_weighFrom N dd) (nu + 1) (nI (v + 1)) (weM n t (upw (wk g k c) k v) Mb) = (L_We_sumsDiffer_2 N (nI (bs (enB n t k) 8)) (nI (bs (stB n t (k + 1)) 8)) (weM n t (wk g (k + 1) (c * g + v)) Mb) N (nI 0)).bind fun vu10 => if vu10 = 0 then L_We_weighFrom_23 N (nI k) (nI g) (nI (bs (stB n t (k + 1)) 8)) (fun Mu5 => (f_We_putWeight (nI k) 0 Mu5).bind fun vu6 => some (0, vu6)) (f_We_weighFrom N dd) nu (nI (v + 1 + 1)) (weM n t (wk g (k + 1) (c * g + v)) Mb) else (f_We_weighFrom N dd (nI (k + 1)) (nI g) (nI (bs (stB n t (k + 1)) 8)) (weM n t (wk g (k + 1) (c * g + v)) Mb)).bind fun vu15 => if vu15.1 = 0 then L_We_weighFrom_23 N (nI k) (nI g) (nI (bs (stB n t (k + 1)) 8)) (fun Mu5 => (f_We_putWeight (nI k) 0 Mu5).bind fun vu6 => some (0, vu6)) (f_We_weighFrom N dd) nu (nI (v + 1 + 1)) vu15.2 else some (1, vu15.2) := by
          rw [L_We_weighFrom_23, if_neg (nI_nlt (by omega) (by omega)), put_I hn hE hS hkE, bnd_s, hu2, hwk, if_pos (inb_nI (show k < 8 by omega) (by decide)), ix_nI (by omega), (hS.we.2 k hkE).2.2, nI_1, nI_1]
          rfl
        rw [hstep]
        by_cases tw : ∃ i, 0 ≤ i ∧ i < 8 ∧ (bs (enB n t k) 8).testBit i = true ∧ ∃ j, j < 8 ∧ j ≠ i ∧ (bs (stB n t (k + 1)) 8).testBit j = true ∧ psm n t (wk g (k + 1) (c * g + v)) j (rk t (np n)) = psm n t (wk g (k + 1) (c * g + v)) i (rk t (np n))
        · rw [hsd.1 tw, bnd_s, if_pos rfl]
          refine ih2 (hpre2 (fun C h1 h2 => ?_))
          obtain ⟨i, -, i2, i3, j, j2, j3, j4, j5⟩ := tw
          have si' := enst i (hden i i3)
          have sj' := hdst j j4
          have hli : hasL n t (k + 1) i = false := by
            unfold stB at si'; rw [Bool.and_eq_true] at si'
            cases hq : hasL n t (k + 1) i
            · rfl
            · rw [hq] at si'; exact absurd si'.2 (by decide)
          have hlj : hasL n t (k + 1) j = false := by
            unfold stB at sj'; rw [Bool.and_eq_true] at sj'
            cases hq : hasL n t (k + 1) j
            · rfl
            · rw [hq] at sj'; exact absurd sj'.2 (by decide)
          have fx : ∀ x, hasL n t (k + 1) x = false → psm n t (wc g (rk t (np n)) C) x (rk t (np n)) = psm n t (wk g (k + 1) (c * g + v)) x (rk t (np n)) := fun x hx => psm_fix hx (fun y hy => wc_pre (by omega) hy h2)
          exact VW_f (stn j sj') (stn i si') j3 (by rw [fx j hlj, fx i hli]; exact j5)
        · rw [hsd.2 tw, bnd_s, if_neg h10]
          have hD2 : DS n t (k + 1) (wk g (k + 1) (c * g + v)) := by
            intro i j hij hi hj heq
            have old : ∀ x, stB n t k x = true → psm n t (wk g (k + 1) (c * g + v)) x (rk t (np n)) = psm n t (wk g k c) x (rk t (np n)) := fun x hx => by
              have hlx : hasL n t k x = false := by
                unfold stB at hx; rw [Bool.and_eq_true] at hx
                cases hq : hasL n t k x
                · rfl
                · rw [hq] at hx; exact absurd hx.2 (by decide)
              exact psm_fix hlx (fun y hy => by
                rw [wk_ch hg1 hvg]
                unfold upw
                rw [if_neg (by omega)])
            have m8 : ∀ (f : Nat → Bool) x, x < n → f x = true → (bs f 8).testBit x = true := fun f x hx hf => by
              rw [hb8]
              have : x < 8 := by omega
              simp [this, hf]
            have hin := stn i hi
            have hjn := stn j hj
            rw [← st_s hkE, Bool.or_eq_true] at hi
            by_cases ei : enB n t k i = true
            · exact tw ⟨i, by omega, by omega, m8 _ i hin ei, j, by omega, fun z => hij z.symm, m8 _ j hjn hj, heq.symm⟩
            · have hi1 := hi.resolve_right ei
              by_cases ej : enB n t k j = true
              · exact tw ⟨j, by omega, by omega, m8 _ j hjn ej, i, by omega, hij, m8 _ i hin (by rw [← st_s hkE, hi1, Bool.true_or]), heq⟩
              · rw [← st_s hkE, Bool.or_eq_true] at hj
                have hj1 := hj.resolve_right ej
                rw [old i hi1, old j hj1] at heq
                exact hD i j hij hi1 hj1 heq
          rcases ih (k + 1) (c * g + v) (by omega) hcl hD2 N dd hN (by omega) with ⟨C, c1, c2, c3, c4, c5⟩ | ⟨c1, c5⟩
          · rw [c5, bnd_s, if_neg h10]
            refine Or.inl ⟨C, c1, ?_, c3, fun C' h1 h2 => ?_, rfl⟩
            · rw [di_up hkE, c2, Nat.add_comm (c * g), Nat.add_mul_div_right _ _ hg1, Nat.div_eq_of_lt hvg, Nat.zero_add]
            · have hle : C' / g ^ (rk t (np n) - (k + 1)) ≤ c * g + v := by rw [← c2]; exact Nat.div_le_div_right (by omega)
              by_cases q : C' / g ^ (rk t (np n) - (k + 1)) = c * g + v
              · exact c4 C' h1 q
              · refine hpre C' (by omega) h2 ?_
                rw [di_up hkE] at h2
                have := Nat.div_add_mod (C' / g ^ (rk t (np n) - (k + 1))) g
                rw [h2, Nat.mul_comm] at this
                omega
          · rw [c5, bnd_s, if_pos rfl]
            exact ih2 (hpre2 c1)
    have h0 := loop g 0 N (by omega) (by omega) (fun C _ _ h => by omega)
    rw [show weM n t (upw (wk g k c) k 0) Mb = weM n t (wk g k c) Mb from we_cong (fun i hi => by
      unfold upw
      by_cases q : i = k
      · subst q; rw [if_pos rfl]; unfold wk; rw [if_neg (by omega)]
      · rw [if_neg q])] at h0
    rw [f_We_weighFrom, (hS.we).1, if_pos (nI_lt hkE (by omega)), if_pos (inb_nI (show k < 8 by omega) (by decide))]
    dsimp only [lt]
    rw [ix_nI (by omega), (hS.we.2 k hkE).2.2, hst]
    exact h0
end WN
