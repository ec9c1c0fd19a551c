/-! PURE 21: death -/
def upg (g a : Nat) : Nat := if a < g then a else a + 1
def dng (g p : Nat) : Nat := if p ≤ g then p else p - 1
def wof (n g t K a b : Nat) : Bool := t.testBit (pn (n + 1) (upg g a) (upg g b)) && decide (pn (n + 1) (upg g a) (upg g b) < K)
/-- n + 1 persons, of whom g goes -/
def woN (n g t : Nat) : Nat := tfm n (fun _ _ => true) (fun a b => pn (n + 1) (upg g a) (upg g b)) t
theorem upg_lt {g a b : Nat} (h : a < b) : upg g a < upg g b := by unfold upg; split <;> split <;> omega
theorem upg_ne {g a : Nat} : upg g a ≠ g := by unfold upg; split <;> omega
theorem upg_le {g a n : Nat} (h : a < n) : upg g a < n + 1 := by unfold upg; split <;> omega
theorem upg_dn {g p : Nat} (h : p ≠ g) : upg g (dng g p) = p := by unfold upg dng; split <;> split <;> omega
theorem dng_lt {g p q : Nat} (h : p < q) (hp : p ≠ g) : dng g p < dng g q := by unfold dng; split <;> split <;> omega
theorem dng_le {g p n : Nat} (h : p < n + 1) (hg : g < n + 1) (hp : p ≠ g) : dng g p < n := by unfold dng; split <;> omega
/-- the bit that a pair of the town gives behind the death -/
def wob (Nu : Nat) (Pu Tu Gu Zu zu5 : Int32) : Option Int32 := if Zu = Gu then some 0 else if zu5 = Gu then some 0 else (f_Mo_pairOf Nu Pu Zu zu5).bind fun vu => if f_Mo_has Tu vu = 0 then some 0 else (f_Mo_pairOf Nu (Pu - 1) (if Zu ≤ Gu then Zu else Zu - 1) (if zu5 ≤ Gu then zu5 else zu5 - 1)).bind fun wu => some ((1 : Int32) <<< (wu &&& 31))
theorem wo_unf (Nu : Nat) (Pu Tu Gu Zu : Int32) (ju : Int32 → Option Int32) (nu : Nat) (zu3 zu5 : Int32) : L_Mo_without_17 Nu Pu Tu Gu Zu ju (nu + 1) zu3 zu5 = if Pu ≤ zu5 then ju zu3 else (wob Nu Pu Tu Gu Zu zu5).bind fun xu => L_Mo_without_17 Nu Pu Tu Gu Zu ju nu (zu3 ||| xu) (zu5 + 1) := by
  rw [L_Mo_without_17]
  unfold wob
  simp only [lt]
  by_cases h0 : Pu ≤ zu5
  · rw [if_pos h0, if_pos h0]
  · rw [if_neg h0, if_neg h0]
    by_cases h1 : Zu ≤ Gu
    · by_cases h2 : zu5 ≤ Gu
      · simp only [if_pos h1, if_pos h2]
        by_cases h3 : Zu = Gu
        · rw [if_pos h3, if_pos h3]; first | exact if_pos trivial | exact if_pos rfl
        · rw [if_neg h3, if_neg h3]
          by_cases h4 : zu5 = Gu
          · rw [if_pos h4, if_pos h4]; first | exact if_pos trivial | exact if_pos rfl
          · rw [if_neg h4, if_neg h4]
            cases f_Mo_pairOf Nu Pu Zu zu5 with
            | none => rfl
            | some vu =>
              rw [bnd_s, bnd_s]
              by_cases h5 : f_Mo_has Tu vu = 0
              · rw [if_pos h5, if_pos h5]; first | exact if_pos trivial | exact if_pos rfl
              · rw [if_neg h5, if_neg h5, if_neg h10]
                rw [Option.bind_assoc]
                rfl
      · simp only [if_pos h1, if_neg h2]
        by_cases h3 : Zu = Gu
        · rw [if_pos h3, if_pos h3]; first | exact if_pos trivial | exact if_pos rfl
        · rw [if_neg h3, if_neg h3]
          by_cases h4 : zu5 = Gu
          · rw [if_pos h4, if_pos h4]; first | exact if_pos trivial | exact if_pos rfl
          · rw [if_neg h4, if_neg h4]
            cases f_Mo_pairOf Nu Pu Zu zu5 with
            | none => rfl
            | some vu =>
              rw [bnd_s, bnd_s]
              by_cases h5 : f_Mo_has Tu vu = 0
              · rw [if_pos h5, if_pos h5]; first | exact if_pos trivial | exact if_pos rfl
              · rw [if_neg h5, if_neg h5, if_neg h10]
                rw [Option.bind_assoc]
                rfl
    · by_cases h2 : zu5 ≤ Gu
      · simp only [if_neg h1, if_pos h2]
        by_cases h3 : Zu = Gu
        · rw [if_pos h3, if_pos h3]; first | exact if_pos trivial | exact if_pos rfl
        · rw [if_neg h3, if_neg h3]
          by_cases h4 : zu5 = Gu
          · rw [if_pos h4, if_pos h4]; first | exact if_pos trivial | exact if_pos rfl
          · rw [if_neg h4, if_neg h4]
            cases f_Mo_pairOf Nu Pu Zu zu5 with
            | none => rfl
            | some vu =>
              rw [bnd_s, bnd_s]
              by_cases h5 : f_Mo_has Tu vu = 0
              · rw [if_pos h5, if_pos h5]; first | exact if_pos trivial | exact if_pos rfl
              · rw [if_neg h5, if_neg h5, if_neg h10]
                rw [Option.bind_assoc]
                rfl
      · simp only [if_neg h1, if_neg h2]
        by_cases h3 : Zu = Gu
        · rw [if_pos h3, if_pos h3]; first | exact if_pos trivial | exact if_pos rfl
        · rw [if_neg h3, if_neg h3]
          by_cases h4 : zu5 = Gu
          · rw [if_pos h4, if_pos h4]; first | exact if_pos trivial | exact if_pos rfl
          · rw [if_neg h4, if_neg h4]
            cases f_Mo_pairOf Nu Pu Zu zu5 with
            | none => rfl
            | some vu =>
              rw [bnd_s, bnd_s]
              by_cases h5 : f_Mo_has Tu vu = 0
              · rw [if_pos h5, if_pos h5]; first | exact if_pos trivial | exact if_pos rfl
              · rw [if_neg h5, if_neg h5, if_neg h10]
                rw [Option.bind_assoc]
                rfl
theorem dn_I {g p : Nat} (hp : p < 100) (hg : g < 100) : (if nI p ≤ nI g then nI p else nI p - 1) = nI (dng g p) := by
  unfold dng
  by_cases h : p ≤ g
  · rw [if_pos h, if_pos (nI_le h (by omega))]
  · rw [if_neg h, if_neg (nI_ge (by omega) (by omega))]; exact pk_sub (a := p) (b := 1) (by omega)
theorem wob_I {N n g t p q : Nat} (hN : 8 < N) (hn : n < 8) (ht : t < 2 ^ 31) (hg : g < n + 1) (hpq : p < q) (hq : q < n + 1) : wob N (nI (n + 1)) (nI t) (nI g) (nI p) (nI q) = some (if (p = g ∨ q = g ∨ ¬ t.testBit (pn (n + 1) p q) = true) then nI 0 else nI (2 ^ pn n (dng g p) (dng g q))) := by
  have hb : pn (n + 1) p q < 32 := Nat.lt_of_lt_of_le (pn_lt (n + 1) (by omega) p (by omega) q (by omega) (by omega)) (Nat.le_trans (np_le (n + 1) (by omega)) (by decide))
  unfold wob
  by_cases e1 : p = g
  · rw [if_pos (by rw [e1]), if_pos (Or.inl e1)]; rfl
  · rw [if_neg (fun w => e1 ((nI_eq (by omega) (by omega)).mp w))]
    by_cases e2 : q = g
    · rw [if_pos (by rw [e2]), if_pos (Or.inr (Or.inl e2))]; rfl
    · rw [if_neg (fun w => e2 ((nI_eq (by omega) (by omega)).mp w)), po_I hN (by omega) (by omega) hq (by omega), bnd_s, has_I ht hb]
      by_cases z : t.testBit (pn (n + 1) p q) = true
      · have d1 := dng_le (n := n) (show p < n + 1 by omega) hg e1
        have d2 := dng_le (n := n) hq hg e2
        have d3 := dng_lt (g := g) hpq e1
        have hb2 : pn n (dng g p) (dng g q) < 32 := Nat.lt_of_lt_of_le (pn_lt n (by omega) _ d1 _ d2 (by omega)) (Nat.le_trans (np_le n (by omega)) (by decide))
        rw [if_pos z, if_neg h10, nI_pred, dn_I (by omega) (by omega), dn_I (by omega) (by omega), po_I hN (by omega) d1 d2 (by omega), bnd_s, one_sl hb2, if_neg (by simp [e1, e2, z])]
      · rw [if_neg z, if_pos rfl, if_pos (Or.inr (Or.inr z))]; rfl
theorem wo_in (N n g t p : Nat) (ju : Int32 → Option Int32) (hN : 8 < N) (hn : n < 8) (ht : t < 2 ^ 31) (hg : g < n + 1) (hp : p < n + 1) : ∀ (d q nu : Nat), q + d = n + 1 → p < q → d < nu → L_Mo_without_17 N (nI (n + 1)) (nI t) (nI g) (nI p) ju nu (nI (tof n (wof n g t (pr0 (n + 1) p + (q - p - 1))))) (nI q) = ju (nI (tof n (wof n g t (pr0 (n + 1) (p + 1)))))
  | 0, q, nu + 1, hq, hpq, hnu => by
    have hq : q = n + 1 := by omega
    subst hq
    rw [wo_unf, if_pos (nI_le (Nat.le_refl (n + 1)) (by omega)), pr_next (n + 1) (by omega) p hp]
  | d + 1, q, nu + 1, hq, hpq, hnu => by
    have ih := wo_in N n g t p ju hN hn ht hg hp d (q + 1) nu (by omega) (by omega) (by omega)
    rw [show pr0 (n + 1) p + (q + 1 - p - 1) = pr0 (n + 1) p + (q - p - 1) + 1 by omega] at ih
    have hK := pn_up (n := n + 1) hpq
    rw [← hK] at ih ⊢
    have oth : ∀ a b, a < b → b < n → ¬ (upg g a = p ∧ upg g b = q) → wof n g t (pn (n + 1) p q + 1) a b = wof n g t (pn (n + 1) p q) a b := by
      intro a b hab hbn hne
      unfold wof
      have h1 : upg g b < n + 1 := upg_le hbn
      have h2 : upg g a < upg g b := upg_lt hab
      have : pn (n + 1) (upg g a) (upg g b) ≠ pn (n + 1) p q := fun w => hne (pn_inj0 (by omega) (by omega) h1 h2 (by omega) (by omega) hpq w)
      have e3 : (pn (n + 1) (upg g a) (upg g b) < pn (n + 1) p q + 1) ↔ (pn (n + 1) (upg g a) (upg g b) < pn (n + 1) p q) := by omega
      simp [e3]
    rw [wo_unf, if_neg (nI_ge (by omega) (by omega)), wob_I hN hn ht hg hpq (by omega), bnd_s, nI_1]
    by_cases hs : (p = g ∨ q = g ∨ ¬ t.testBit (pn (n + 1) p q) = true)
    · rw [if_pos hs, or_I, Nat.or_zero, tof_cong (R' := wof n g t (pn (n + 1) p q + 1)) (by omega) (fun a b hab hbn => by
        by_cases e : upg g a = p ∧ upg g b = q
        · have hs2 : ¬ t.testBit (pn (n + 1) p q) = true := by
            rcases hs with hs | hs | hs
            · exact absurd (e.1.trans hs) upg_ne
            · exact absurd (e.2.trans hs) upg_ne
            · exact hs
          unfold wof
          rw [e.1, e.2]
          simp [hs2]
        · exact (oth a b hab hbn e).symm)]
      exact ih
    · have e1 : p ≠ g := fun w => hs (Or.inl w)
      have e2 : q ≠ g := fun w => hs (Or.inr (Or.inl w))
      have z : t.testBit (pn (n + 1) p q) = true := Classical.byContradiction (fun w => hs (Or.inr (Or.inr w)))
      have d2 := dng_le (n := n) (show q < n + 1 by omega) hg e2
      rw [if_neg hs, or_I, tof_or (R' := wof n g t (pn (n + 1) p q + 1)) (by omega) (dng_lt hpq e1) d2 (by unfold wof; rw [upg_dn e1, upg_dn e2]; simp [z]) (fun a b hab hbn hne => oth a b hab hbn (fun w => hne ⟨by
        have := upg_dn e1
        rcases Nat.lt_trichotomy a (dng g p) with f | f | f
        · have := upg_lt (g := g) f; omega
        · exact f
        · have := upg_lt (g := g) f; omega, by
        have := upg_dn e2
        rcases Nat.lt_trichotomy b (dng g q) with f | f | f
        · have := upg_lt (g := g) f; omega
        · exact f
        · have := upg_lt (g := g) f; omega⟩))]
      exact ih
theorem wo_out (N n g t : Nat) (hN : 9 < N) (hn : n < 8) (ht : t < 2 ^ 31) (hg : g < n + 1) : ∀ (d p nu : Nat), p + d = n + 1 → d < nu → L_Mo_without_5 N (nI (n + 1)) (nI t) (nI g) nu (nI (tof n (wof n g t (pr0 (n + 1) p)))) (nI p) = some (nI (tof n (wof n g t (np (n + 1)))))
  | 0, p, nu + 1, hp, hnu => by
    have hp : p = n + 1 := by omega
    subst hp
    rw [L_Mo_without_5, if_pos (nI_le (Nat.le_refl (n + 1)) (by omega)), pr_end (n + 1) (by omega)]
  | d + 1, p, nu + 1, hp, hnu => by
    have ih := wo_out N n g t hN hn ht hg d (p + 1) nu (by omega) (by omega)
    rw [L_Mo_without_5, if_neg (nI_ge (by omega) (by omega))]
    simp only [lt, nI_1]
    have h := wo_in N n g t p (fun xu4 => L_Mo_without_5 N (nI (n + 1)) (nI t) (nI g) nu xu4 (nI (p + 1))) (by omega) hn ht hg (by omega) (n + 1 - (p + 1)) (p + 1) N (by omega) (by omega) (by omega)
    simp only [show p + 1 - p - 1 = 0 by omega, Nat.add_zero] at h
    rw [h]
    exact ih
theorem wo_I {N n g t : Nat} (hN : 9 < N) (hn : n < 8) (ht : t < 2 ^ 31) (hg : g < n + 1) : f_Mo_without N (nI (n + 1)) (nI t) (nI g) = some (nI (woN n g t)) := by
  have h := wo_out N n g t hN hn ht hg (n + 1) 0 N (by omega) (by omega)
  rw [show pr0 (n + 1) 0 = 0 by unfold pr0; simp, tof_zero (by omega) (fun a b _ _ => by simp [wof])] at h
  have e : woN n g t = tof n (wof n g t (np (n + 1))) := by
    unfold woN tfm
    refine tof_cong (by omega) (fun a b hab hbn => ?_)
    have h1 : upg g b < n + 1 := upg_le hbn
    have h2 : upg g a < upg g b := upg_lt hab
    have := pn_lt (n + 1) (by omega) (upg g a) (by omega) (upg g b) h1 (by omega)
    unfold wof
    simp [this]
  rw [e]
  exact h
theorem woN_lt {n g t : Nat} : woN n g t < 2 ^ np n := by unfold woN tfm; exact tof_lt
/-- a row behind the death -/
theorem rwo_wo {n g t p : Nat} (hn : n < 8) (hg : g < n + 1) (hp : p < n) (i : Nat) : (rwo n (woN n g t) p).testBit i = (rwo (n + 1) t (upg g p)).testBit (upg g i) := by
  have hp2 : upg g p < n + 1 := upg_le hp
  rw [rwo_bit, rwo_bit]
  unfold rwf woN tfm
  by_cases hi : i < n
  · have hi2 : upg g i < n + 1 := upg_le hi
    by_cases e : i = p
    · subst e; simp
    · rcases Nat.lt_or_gt_of_ne e with f | f
      · have f2 := upg_lt (g := g) f
        have e3 : ¬ upg g i = upg g p := by omega
        rw [pn_comm (n := n) (fun w => e w.symm), tof_bit (by omega) f hp, pn_comm (n := n + 1) (p := upg g p) (fun w => e3 w.symm)]
        simp [hp, hi, e, e3, hi2, hp2]
      · have f2 := upg_lt (g := g) f
        have e3 : ¬ upg g i = upg g p := by omega
        rw [tof_bit (by omega) f hi]
        simp [hp, hi, e, e3, hi2, hp2]
  · have h3 : ¬ upg g i < n + 1 := by unfold upg; split <;> omega
    simp [hi, h3]
/-- the class's row behind the death -/
theorem gap_I {r g : Nat} (hr : r < 2 ^ 8) (hg : g < 8) : (nI r &&& (((1 : Int32) <<< (nI g &&& 31)) - (1 : Int32))) ||| ((nI r >>> ((1 : Int32) &&& 31)) &&& ((((1 : Int32) <<< (nI g &&& 31)) - (1 : Int32)) ^^^ (-1))) = nI (bs (fun i => r.testBit (upg g i)) 8) := by
  have h1 : nI r >>> ((1 : Int32) &&& 31) = nI (r / 2 ^ 1) := sr_I (a := r) (b := 1) (Nat.lt_trans hr (by decide)) (by decide)
  have h2 : (1 : Int32) <<< (nI g &&& 31) - 1 = nI (2 ^ g - 1) := by rw [one_sl (by omega)]; exact pk_sub (a := 2 ^ g) (b := 1) (Nat.two_pow_pos g)
  rw [h1, h2, m1_I, xo_I, an_I, an_I, or_I]
  congr 1
  apply Nat.eq_of_testBit_eq
  intro i
  rw [bs_bit, Nat.testBit_or, Nat.testBit_and, Nat.testBit_and, Nat.testBit_xor, show (4294967295 : Nat) = 2 ^ 32 - 1 from rfl, Nat.testBit_two_pow_sub_one, Nat.testBit_two_pow_sub_one, show r / 2 ^ 1 = r >>> 1 from (Nat.shiftRight_eq_div_pow r 1).symm, Nat.testBit_shiftRight]
  unfold upg
  by_cases h : i < g
  · have h8 : i < 8 := by omega
    have h32 : i < 32 := by omega
    simp [h, h8, h32]
  · by_cases h8 : i < 8
    · have h32 : i < 32 := by omega
      rw [show 1 + i = i + 1 by omega]
      simp [h, h8, h32]
    · have e1 : r.testBit i = false := lt_bit hr (by omega)
      have e2 : r.testBit (1 + i) = false := lt_bit hr (by omega)
      simp [h, h8, e1, e2]
/-! the class closes a gap in its rows -/
def cgA (c g k : Nat) (M : Mm) : Mm := (fun x j => if x = c ∧ g ≤ j ∧ j < k then M.1 c (j + 1) else M.1 x j, M.2)
theorem cgA_off {c g k x j : Nat} {M : Mm} (h : x ≠ c) : (cgA c g k M).1 x j = M.1 x j := if_neg (fun z => h z.1)
theorem cgA_step {c g k : Nat} {M : Mm} (hk : g ≤ k) : si (cgA c g k M) c k ((cgA c g k M).1 c (k + 1)) = cgA c g (k + 1) M := by
  refine mm_ext (fun x j => ?_) rfl
  have e : (cgA c g k M).1 c (k + 1) = M.1 c (k + 1) := if_neg (by omega)
  rw [si1, e]
  show (if _ then _ else (if x = c ∧ g ≤ j ∧ j < k then _ else _)) = (if x = c ∧ g ≤ j ∧ j < k + 1 then _ else _)
  by_cases h1 : x = c ∧ j = k
  · rw [if_pos h1, if_pos (by omega), h1.2]
  · rw [if_neg h1]
    by_cases h2 : x = c ∧ g ≤ j ∧ j < k
    · rw [if_pos h2, if_pos (by omega)]
    · rw [if_neg h2, if_neg (by omega)]
theorem cgA_loop (N : Nat) {M : Mm} {a c n g : Nat} (ju : Mm → Option Mm) (hn : n < 8) (hac : a ≠ c) (h0 : M.1 a 0 = nI (n + 1)) : ∀ (d k nu : Nat), k + d = n → g ≤ k → d < nu → L_To_closeGap_2 N a c ju nu (nI k) (cgA c g k M) = ju (cgA c g n M)
  | 0, k, nu + 1, hk, hg, hnu => by
    have hk : k = n := by omega
    subst hk
    rw [L_To_closeGap_2, cgA_off hac, h0, nI_pred, if_pos (nI_le (Nat.le_refl k) (by omega))]
  | d + 1, k, nu + 1, hk, hg, hnu => by
    have ih := cgA_loop N (g := g) ju hn hac h0 d (k + 1) nu (by omega) (by omega) (by omega)
    rw [L_To_closeGap_2, cgA_off hac, h0, nI_pred, if_neg (nI_ge (by omega) (by omega))]
    simp only [lt, nI_1]
    rw [if_pos (inb_nI (show k + 1 < 8 by omega) (by decide)), if_pos (inb_nI (show k < 8 by omega) (by decide)), ix_nI (show k < 2 ^ 31 by omega), ix_nI (show k + 1 < 2 ^ 31 by omega), cgA_step hg]
    exact ih
def cgB (c n g t k : Nat) (M : Mm) : Mm := (fun x j => if x = c ∧ j < k then nI (rwo n (woN n g t) j) else M.1 x j, M.2)
theorem cgB_off {c n g t k x j : Nat} {M : Mm} (h : x ≠ c) : (cgB c n g t k M).1 x j = M.1 x j := if_neg (fun z => h z.1)
theorem cgB_step {c n g t k : Nat} {M : Mm} : si (cgB c n g t k M) c k (nI (rwo n (woN n g t) k)) = cgB c n g t (k + 1) M := by
  refine mm_ext (fun x j => ?_) rfl
  rw [si1]
  show (if _ then _ else (if x = c ∧ j < k then _ else _)) = (if x = c ∧ j < k + 1 then _ else _)
  by_cases h1 : x = c ∧ j = k
  · rw [if_pos h1, if_pos (by omega), h1.2]
  · rw [if_neg h1]
    by_cases h2 : x = c ∧ j < k
    · rw [if_pos h2, if_pos (by omega)]
    · rw [if_neg h2, if_neg (by omega)]
theorem row_eq {n g t p : Nat} (hn : n < 8) (hg : g < n + 1) (hp : p < n) : bs (fun i => (rwo (n + 1) t (upg g p)).testBit (upg g i)) 8 = rwo n (woN n g t) p := by
  apply Nat.eq_of_testBit_eq
  intro i
  rw [bs_bit, rwo_wo hn hg hp]
  by_cases h : i < 8
  · simp [h]
  · have : (rwo (n + 1) t (upg g p)).testBit (upg g i) = false := lt_bit (rwo_lt (by omega)) (by unfold upg; split <;> omega)
    simp [this]
theorem cgB_loop (N : Nat) {M : Mm} {a c n g t : Nat} (hn : n < 8) (hg : g < n + 1) (hac : a ≠ c) (h0 : M.1 a 0 = nI (n + 1)) (hr : ∀ p, p < n → M.1 c p = nI (rwo (n + 1) t (upg g p))) : ∀ (d k nu : Nat), k + d = n → d < nu → L_To_closeGap_35 N a c ((1 : Int32) <<< (nI g &&& 31) - 1) nu (nI k) (cgB c n g t k M) = some (cgB c n g t n M)
  | 0, k, nu + 1, hk, hnu => by
    have hk : k = n := by omega
    subst hk
    rw [L_To_closeGap_35, cgB_off hac, h0, nI_pred, if_pos (nI_le (Nat.le_refl k) (by omega))]
  | d + 1, k, nu + 1, hk, hnu => by
    have ih := cgB_loop N hn hg hac h0 hr d (k + 1) nu (by omega) (by omega)
    have e : (cgB c n g t k M).1 c k = nI (rwo (n + 1) t (upg g k)) := by
      rw [← hr k (by omega)]
      exact if_neg (by omega)
    rw [L_To_closeGap_35, cgB_off hac, h0, nI_pred, if_neg (nI_ge (by omega) (by omega))]
    simp only [lt, nI_1]
    rw [if_pos (inb_nI (show k < 8 by omega) (by decide)), if_pos (inb_nI (show k < 8 by omega) (by decide)), if_pos (inb_nI (show k < 8 by omega) (by decide)), ix_nI (show k < 2 ^ 31 by omega), e, gap_I (rwo_lt (by omega)) (by omega), row_eq hn hg (by omega), cgB_step]
    exact ih
theorem clo_I {M : Mm} {a c n g t : Nat} (hn : n < 8) (hg : g < n + 1) (hac : a ≠ c) (h0 : M.1 a 0 = nI (n + 1)) (hr : ∀ p, p < 8 → M.1 c p = nI (rwo (n + 1) t p)) : ∃ M1, (∀ N, 9 < N → f_To_closeGap N a c (nI g) M = some M1) ∧ (∀ x j, x ≠ c → M1.1 x j = M.1 x j) ∧ (∀ p, p < 8 → p ≠ n → M1.1 c p = nI (rwo n (woN n g t) p)) := by
  have e0 : cgA c g g M = M := mm_ext (fun x j => if_neg (by omega)) rfl
  have e1 : cgB c n g t 0 (cgA c g n M) = cgA c g n M := mm_ext (fun x j => if_neg (by omega)) rfl
  have hA : ∀ p, p < n → (cgA c g n M).1 c p = nI (rwo (n + 1) t (upg g p)) := fun p hp => by
    show (if c = c ∧ g ≤ p ∧ p < n then M.1 c (p + 1) else M.1 c p) = _
    unfold upg
    by_cases h : p < g
    · rw [if_neg (by omega), if_pos h, hr p (by omega)]
    · rw [if_pos (by omega), if_neg h, hr (p + 1) (by omega)]
  refine ⟨cgB c n g t n (cgA c g n M), fun N hN => ?_, fun x j hx => by rw [cgB_off hx, cgA_off hx], fun p hp hpn => ?_⟩
  · unfold f_To_closeGap
    simp only [lt]
    have h1 := cgA_loop N (g := g) (fun (Mu2 : Mm) => L_To_closeGap_35 N a c (((1 : Int32) <<< (nI g &&& 31)) - 1) N 0 Mu2) hn hac h0 (n - g) g N (by omega) (by omega) (by omega)
    rw [e0] at h1
    rw [h1]
    have h2 := cgB_loop N (M := cgA c g n M) hn hg hac (by rw [cgA_off hac]; exact h0) hA n 0 N (by omega) (by omega)
    rw [e1] at h2
    exact h2
  · show (if c = c ∧ p < n then _ else (cgA c g n M).1 c p) = _
    by_cases h : p < n
    · rw [if_pos ⟨rfl, h⟩]
    · rw [if_neg (fun z => h z.2)]
      have : (cgA c g n M).1 c p = M.1 c p := if_neg (by omega)
      rw [this, hr p hp]
      have z1 : rwo (n + 1) t p = 0 := by
        apply Nat.eq_of_testBit_eq; intro i; rw [rwo_bit]; simp [rwf]; omega
      have z2 : rwo n (woN n g t) p = 0 := by
        apply Nat.eq_of_testBit_eq; intro i; rw [rwo_bit]; simp [rwf]; omega
      rw [z1, z2]
theorem rwo_out {n t p : Nat} (h : n ≤ p) : rwo n t p = 0 := by
  apply Nat.eq_of_testBit_eq; intro i; rw [rwo_bit]; simp [rwf]; omega
theorem rem_CT {M : Mm} {a n g t b m mk dr : Nat} {sd : Nat → Nat} (hn : n < 8) (hg : g < n + 1) (h : CT M a (n + 1) t b m mk dr sd) (hz : ∀ p, n + 1 ≤ p → sd p = 0) : ∃ M1, (∀ N, 9 < N → f_To_removePerson N a (nI g) M = some M1) ∧ CT M1 a n (woN n g t) (woN n g b) (woN n g m) mk dr (dgS n (woN n g t)) ∧ (∀ x j, ¬ (x = a ∧ j = 0) → ¬ (a + 1 ≤ x ∧ x ≤ a + 4) → M1.1 x j = M.1 x j) := by
  obtain ⟨h1, h2, h3, h4⟩ := h
  obtain ⟨A1, a1, a2, a3⟩ := clo_I (a := a) (c := a + 1) (t := t) hn hg (by omega) h1 (fun p hp => (h4 p hp).1)
  obtain ⟨A2, b1', b2, b3⟩ := clo_I (M := A1) (a := a) (c := a + 2) (t := b) hn hg (by omega) (by rw [a2 _ _ (by omega)]; exact h1) (fun p hp => by rw [a2 _ _ (by omega)]; exact (h4 p hp).2.1)
  obtain ⟨A3, c1, c2, c3⟩ := clo_I (M := A2) (a := a) (c := a + 3) (t := m) hn hg (by omega) (by rw [b2 _ _ (by omega), a2 _ _ (by omega)]; exact h1) (fun p hp => by rw [b2 _ _ (by omega), a2 _ _ (by omega)]; exact (h4 p hp).2.2.1)
  have o3 : ∀ x j, ¬ (a + 1 ≤ x ∧ x ≤ a + 3) → A3.1 x j = M.1 x j := fun x j hx => by rw [c2 _ _ (by omega), b2 _ _ (by omega), a2 _ _ (by omega)]
  generalize hF : si (si (si (si (si A3 a 0 (nI n)) (a + 1) n 0) (a + 2) n 0) (a + 3) n 0) (a + 4) n 0 = F
  have oF : ∀ x j, ¬ (x = a ∧ j = 0) → ¬ (a + 1 ≤ x ∧ x ≤ a + 4) → F.1 x j = M.1 x j := fun x j q1 q2 => by
    rw [← hF, si1, if_neg (by omega), si1, if_neg (by omega), si1, if_neg (by omega), si1, if_neg (by omega), si1, if_neg (by omega)]
    exact o3 x j (by omega)
  have f0 : F.1 a 0 = nI n := by rw [← hF, si_a _ _ (by omega), si_a _ _ (by omega), si_a _ _ (by omega), si_a _ _ (by omega), si_s]
  have r1 : ∀ p, p < 8 → F.1 (a + 1) p = nI (rwo n (woN n g t) p) := fun p hp => by
    rw [← hF, si_a _ _ (by omega), si_a _ _ (by omega), si_a _ _ (by omega)]
    by_cases e : p = n
    · subst e; rw [si_s, rwo_out (Nat.le_refl p)]; rfl
    · rw [si_k _ _ e, si_a _ _ (by omega), c2 _ _ (by omega), b2 _ _ (by omega)]; exact a3 p hp e
  have r2 : ∀ p, p < 8 → F.1 (a + 2) p = nI (rwo n (woN n g b) p) := fun p hp => by
    rw [← hF, si_a _ _ (by omega), si_a _ _ (by omega)]
    by_cases e : p = n
    · subst e; rw [si_s, rwo_out (Nat.le_refl p)]; rfl
    · rw [si_k _ _ e, si_a _ _ (by omega), si_a _ _ (by omega), c2 _ _ (by omega)]; exact b3 p hp e
  have r3 : ∀ p, p < 8 → F.1 (a + 3) p = nI (rwo n (woN n g m) p) := fun p hp => by
    rw [← hF, si_a _ _ (by omega)]
    by_cases e : p = n
    · subst e; rw [si_s, rwo_out (Nat.le_refl p)]; rfl
    · rw [si_k _ _ e, si_a _ _ (by omega), si_a _ _ (by omega), si_a _ _ (by omega)]; exact c3 p hp e
  have r4 : ∀ p, p < 8 → F.1 (a + 4) p = nI ((fun q => if q = n then 0 else sd q) p) := fun p hp => by
    rw [← hF]
    show _ = nI (if p = n then 0 else sd p)
    by_cases e : p = n
    · subst e; rw [si_s, if_pos rfl]; rfl
    · rw [si_k _ _ e, si_a _ _ (by omega), si_a _ _ (by omega), si_a _ _ (by omega), si_a _ _ (by omega), o3 _ _ (by omega), if_neg e]; exact (h4 p hp).2.2.2
  refine ⟨scK a n (woN n g t) n F, fun N hN => ?_, ⟨?_, ?_, ?_, fun p hp => ⟨?_, ?_, ?_, ?_⟩⟩, fun x j q1 q2 => ?_⟩
  · have ib : inb (nI n) 8 = true := inb_nI hn (by decide)
    unfold f_To_removePerson f_To_forget
    rw [has_yes (by omega) h1 hg, if_neg h10, a1 N hN, bnd_s, b1' N hN, bnd_s, c1 N hN, bnd_s]
    simp only [lt]
    rw [o3 _ _ (by omega), h1, nI_pred, si_s, if_pos ib, if_pos ib, if_pos ib, if_pos ib, ix_nI (by omega), bnd_s, hF, say_I (by omega) f0 r1 N hN, bnd_s]
  · rw [sc_off (by omega)]; exact f0
  · rw [sc_off (by omega), oF _ _ (by omega) (by omega)]; exact h2
  · rw [sc_off (by omega), oF _ _ (by omega) (by omega)]; exact h3
  · rw [sc_off (by omega)]; exact r1 p hp
  · rw [sc_off (by omega)]; exact r2 p hp
  · rw [sc_off (by omega)]; exact r3 p hp
  · exact sc_at (sd := fun q => if q = n then 0 else sd q) (r4 p hp) (fun z => by
      show (if p = n then 0 else sd p) = 0
      by_cases e : p = n
      · rw [if_pos e]
      · rw [if_neg e]; exact hz p (by omega))
  · rw [sc_off (by omega), oF x j q1 q2]
theorem mod_I {M : Mm} {n g t b m mk dr : Nat} {sd : Nat → Nat} (hn : n < 8) (hg : g < n + 1) (ht : t < 2 ^ 31) (hb : b < 2 ^ 31) (hm : m < 2 ^ 31) (h : MT M (n + 1) t b m mk dr sd) : ∃ M2, (∀ N, 9 < N → f_Mo_death N (nI g) M = some (nI n, M2)) ∧ MT M2 n (woN n g t) (woN n g b) (woN n g m) mk dr (dgS n (woN n g t)) ∧ (∀ x j, ¬ (x = 49 ∧ j ≤ 3) → x ≠ 50 → M2.1 x j = M.1 x j) := by
  obtain ⟨h1, h2, h3, h4, h5, h6, h7⟩ := h
  have hlt : ∀ x, woN n g x < 2 ^ 31 := fun x => np_lt31 (n := n) (by omega) woN_lt
  generalize hM : si (si (si (si M 49 1 (nI (woN n g t))) 49 2 (nI (woN n g b))) 49 3 (nI (woN n g m))) 49 0 (nI n) = M0
  have o : ∀ x j, ¬ (x = 49 ∧ j ≤ 3) → M0.1 x j = M.1 x j := fun x j q => by rw [← hM, si1, if_neg (by omega), si1, if_neg (by omega), si1, if_neg (by omega), si1, if_neg (by omega)]
  have e0 : M0.1 49 0 = nI n := by rw [← hM, si_s]
  have e1 : M0.1 49 1 = nI (woN n g t) := by rw [← hM, si_k _ _ (by decide), si_k _ _ (by decide), si_k _ _ (by decide), si_s]
  have e2 : M0.1 49 2 = nI (woN n g b) := by rw [← hM, si_k _ _ (by decide), si_k _ _ (by decide), si_s]
  have e3 : M0.1 49 3 = nI (woN n g m) := by rw [← hM, si_k _ _ (by decide), si_s]
  refine ⟨tcK n (woN n g t) 8 M0, fun N hN => ?_, ⟨?_, ?_, ?_, ?_, ?_, ?_, fun p hp => if_pos ⟨rfl, hp⟩⟩, fun x j q1 q2 => ?_⟩
  · have f1 : ∀ (u v : Int32), (si (si M 49 1 u) 49 2 v).1 49 0 = nI (n + 1) ∧ (si M 49 1 u).1 49 0 = nI (n + 1) ∧ (si M 49 1 u).1 49 2 = nI b ∧ (si (si M 49 1 u) 49 2 v).1 49 3 = nI m := fun u v => ⟨by rw [si_k _ _ (by decide), si_k _ _ (by decide)]; exact h1, by rw [si_k _ _ (by decide)]; exact h1, by rw [si_k _ _ (by decide)]; exact h3, by rw [si_k _ _ (by decide), si_k _ _ (by decide)]; exact h4⟩
    have f2 : ∀ (u v w : Int32), (si (si (si M 49 1 u) 49 2 v) 49 3 w).1 49 0 = nI (n + 1) := fun u v w => by rw [si_k _ _ (by decide)]; exact (f1 u v).1
    unfold f_Mo_death
    rw [per_yes (by omega) h1 hg, if_neg h10, h1, h2, wo_I hN hn ht hg, bnd_s]
    simp only [lt]
    rw [(f1 _ 0).2.1, (f1 _ 0).2.2.1, wo_I hN hn hb hg, bnd_s, (f1 _ _).1, (f1 _ _).2.2.2, wo_I hN hn hm hg, bnd_s, f2, nI_pred, hM, tc_I (by omega) (hlt t) e0 e1 N hN, bnd_s, tc_off (by decide), e0]
  · rw [tc_off (by decide)]; exact e0
  · rw [tc_off (by decide)]; exact e1
  · rw [tc_off (by decide)]; exact e2
  · rw [tc_off (by decide)]; exact e3
  · rw [tc_off (by decide), o _ _ (by omega)]; exact h5
  · rw [tc_off (by decide), o _ _ (by omega)]; exact h6
  · rw [tc_off q2, o x j q1]
theorem q_death {M : Mm} (h : Rel M) (x : Int32) : ∃ (r : Int32) (M1 M2 : Mm), (∀ N, 9 < N → f_Uc_death N x M = some (r, M1) ∧ f_Mo_death N x M1 = some (r, M2)) ∧ Rel M2 := by
  have hh := h
  obtain ⟨n, t, b, m, mk, dr, sd, hP⟩ := h
  obtain ⟨h1, h2, h3, ⟨s, s1, s2, s3⟩, -⟩ := id hP
  have hn := h1.1
  rcases pers x hn with ⟨g, hg, rfl⟩ | hx
  · obtain ⟨n', rfl⟩ : ∃ n', n = n' + 1 := ⟨n - 1, by omega⟩
    obtain ⟨M1, a1, a2, a3⟩ := rem_CT (show n' < 8 by omega) hg h2 (fun p hp => (h1.2.2.2.2.2.2.2.2.2.2 p).2 hp)
    have g3 : MT M1 (n' + 1) t b m mk dr sd := h3.ag (fun x j u => by
      simp only [uMT, Bool.or_eq_true, Bool.and_eq_true, beq_iff_eq, decide_eq_true_eq] at u
      exact a3 x j (by omega) (by omega))
    obtain ⟨M2, c1, c2, c3⟩ := mod_I (show n' < 8 by omega) hg (np_lt31 hn h1.2.1) (np_lt31 hn h1.2.2.1) (np_lt31 hn h1.2.2.2.1) g3
    refine ⟨nI n', M1, M2, fun N hN => ⟨?_, c1 N hN⟩, RelP.two hP (h1.map (by omega) (dgS_ok (by omega))) a2 c2 ⟨s, s1, ?_, ?_⟩ ?_ ?_⟩
    · unfold f_Uc_death
      rw [has_yes hn h2.1 hg, if_neg h10, a1 N hN, bnd_s, a2.1]
    · rw [a3 _ _ (by omega) (by omega)]; exact s2
    · rw [c3 _ _ (by omega) (by omega), a3 _ _ (by omega) (by omega)]; exact s3
    · intro x j u1 u2 _
      exact a3 x j (by omega) (by omega)
    · intro x j u1 u2 _
      exact c3 x j (by omega) u2
  · refine ⟨-1000000001, M, M, fun N hN => ⟨?_, ?_⟩, hh⟩
    · unfold f_Uc_death
      rw [has_no hn h2.1 hx, if_pos rfl]
    · unfold f_Mo_death
      rw [per_no hn h3.1 hx, if_pos rfl]
