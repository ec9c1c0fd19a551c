/-! PURE 22: drift -/
def drw (s : Nat) : Nat := (s * 1103515245 + 12345) % 2147483648
theorem drw_lt {s : Nat} : drw s < 2 ^ 31 := Nat.mod_lt _ (by decide)
theorem ucd_I {M : Mm} {s c : Nat} (h : M.1 0 10 = nI s) (hc0 : 0 < c) (hc : c < 2 ^ 31) : f_Uc_draw (nI c) M = some (nI (drw s / 65536 % c), si M 0 10 (nI (drw s))) := by
  have e : ((nI s * 1103515245) + 12345) &&& 2147483647 = nI (drw s) := by
    rw [show (1103515245 : Int32) = nI 1103515245 from rfl, show (12345 : Int32) = nI 12345 from rfl, show (2147483647 : Int32) = nI 2147483647 from rfl, pk_mul, nI_add, an_I]
    have e0 : ∀ y : Nat, y &&& 2147483647 = y % 2147483648 := fun y => Nat.and_two_pow_sub_one_eq_mod y 31
    rw [e0]
    rfl
  have hd : drw s < 2 ^ 31 := drw_lt
  unfold f_Uc_draw
  dsimp only [lt]
  rw [h, e, si_s, if_neg (nI_nle hc0 hc), if_pos (nI_ne0 hc0 hc), show (65536 : Int32) = nI 65536 from rfl, pk_div hd (by decide) (by decide), pk_rem (Nat.lt_of_le_of_lt (Nat.div_le_self _ _) hd) hc0 hc]
theorem modr_I {M : Mm} {s c : Nat} (h : M.1 49 7 = nI s) (hs : s < 2 ^ 31) (hc0 : 0 < c) (hc : c < 2 ^ 31) : f_Mo_draw (nI c) M = some (nI (drw s / 65536 % c), si M 49 7 (nI (drw s))) := by
  have hb : s * 1103515245 + 12345 < 2 ^ 63 := by omega
  have e : ((((nI s).toInt64 * 1103515245) + 12345) - (((nI s).toInt64 * 1103515245) + 12345) / 2147483648 * 2147483648).toInt32 = nI (drw s) := by
    rw [nI_l hs, show (1103515245 : Int64) = lN 1103515245 from rfl, show (12345 : Int64) = lN 12345 from rfl, show (2147483648 : Int64) = lN 2147483648 from rfl, lN_mul, lN_add, pk_lRem hb (by decide) (by decide), lN_i]
    rfl
  have hd : drw s < 2 ^ 31 := drw_lt
  unfold f_Mo_draw
  dsimp only [lt]
  rw [h, e, si_s, if_pos (nI_ne0 hc0 hc), show (65536 : Int32) = nI 65536 from rfl, pk_div hd (by decide) (by decide), pk_rem (Nat.lt_of_le_of_lt (Nat.div_le_self _ _) hd) hc0 hc]
theorem np_I {n : Nat} (h1 : 1 ≤ n) (hn : n < 9) : (nI n * (nI n - 1)) / 2 = nI (np n) := by
  obtain ⟨k, rfl⟩ : ∃ k, n = k + 1 := ⟨n - 1, by omega⟩
  have hb : (k + 1) * k ≤ 8 * 8 := Nat.mul_le_mul (by omega) (by omega)
  rw [nI_pred, pk_mul, show (2 : Int32) = nI 2 from rfl, pk_div (by omega) (by decide) (by decide)]
  rfl
theorem np_pos : ∀ n, n < 9 → 1 < n → 0 < np n := by decide
theorem pr_mono : ∀ n, n < 9 → ∀ i, i < n → ∀ p, p < n → (i < p → pr0 n (i + 1) ≤ pr0 n p) := by decide
theorem cpl_I (N : Nat) {M : Mm} {n p q : Nat} (ju : Int32 → Int32 → Option Mm) (hn : n < 9) (h0 : M.1 1 0 = nI n) (hpq : p < q) (hq : q < n) : ∀ (d i nu : Nat), i + d = p → d < nu → L_Uc_changePair_4 N (nI (pn n p q)) M ju nu (nI i) (nI (pr0 n i)) = ju (nI p) (nI (pr0 n p))
  | 0, i, nu + 1, hi, hnu => by
    have hi : i = p := by omega
    subst hi
    have hK := pn_up (n := n) hpq
    have hl := pr_le n hn i (by omega)
    rw [L_Uc_changePair_4, h0, show (2 : Int32) = nI 2 from rfl, pk_sub (by omega)]
    by_cases z : n - 2 ≤ i
    · rw [if_pos (nI_le z (by omega))]
    · rw [if_neg (nI_ge (by omega) (by omega)), show (1 : Int32) = nI 1 from rfl, nI_add, pk_sub (by omega), pk_sub (by omega), if_pos (nI_lt (by omega) (by omega))]
  | d + 1, i, nu + 1, hi, hnu => by
    have ih := cpl_I N ju hn h0 hpq hq d (i + 1) nu (by omega) (by omega)
    have hK := pn_up (n := n) hpq
    have hl := pr_le n hn p (by omega)
    have hl2 := pr_le n hn i (by omega)
    have hm := pr_mono n hn i (by omega) p (by omega) (by omega)
    have hx := pr_next n hn i (by omega)
    rw [L_Uc_changePair_4, h0, show (2 : Int32) = nI 2 from rfl, pk_sub (by omega), if_neg (nI_ge (by omega) (by omega)), show (1 : Int32) = nI 1 from rfl, nI_add, pk_sub (by omega), pk_sub (by omega), if_neg (nI_nlt (by omega) (by omega))]
    dsimp only [lt]
    rw [pk_sub (by omega), pk_sub (by omega), nI_add, nI_add, show pr0 n i + (n - 1 - i) = pr0 n (i + 1) by omega]
    exact ih
/-- the pair k of the town changes, if bars let it -/
def mayc (t b m k : Nat) : Bool := if t.testBit k = true then !(m.testBit k) else !(b.testBit k)
def chT (n t b m k : Nat) : Nat := if mayc t b m k = true then stb t k (!(t.testBit k)) (np n) else t
theorem chT_lt {n t b m k : Nat} (ht : t < 2 ^ np n) : chT n t b m k < 2 ^ np n := by
  unfold chT
  split
  · exact stb_lt
  · exact ht
theorem TOK.cht {n t b m mk dr k : Nat} {sd : Nat → Nat} (h : TOK n t b m mk dr sd) (hk : k < np n) : TOK n (chT n t b m k) b m mk dr sd := by
  unfold chT mayc
  by_cases z : t.testBit k = true
  · rw [if_pos z]
    by_cases w : m.testBit k = true
    · rw [if_neg (by simp [w])]; exact h
    · rw [if_pos (by simp [w])]
      exact h.tie hk (fun e => by simp [z] at e) (fun _ => by simpa using w)
  · rw [if_neg z]
    by_cases w : b.testBit k = true
    · rw [if_neg (by simp [w])]; exact h
    · rw [if_pos (by simp [w])]
      exact h.tie hk (fun _ => by simpa using w) (fun e => by simp [z] at e)
theorem chp_I {M : Mm} {n t b m mk dr p q : Nat} {sd : Nat → Nat} (h1 : TOK n t b m mk dr sd) (h : CT M 1 n t b m mk dr sd) (hpq : p < q) (hq : q < n) : ∃ M1, (∀ N, 9 < N → f_Uc_changePair N (nI (pn n p q)) M = some M1) ∧ CT M1 1 n (chT n t b m (pn n p q)) b m mk dr sd ∧ (∀ x j, x ≠ 2 → M1.1 x j = M.1 x j) := by
  have hn := h1.1
  have hp : p < n := by omega
  have hne : p ≠ q := by omega
  have hK := pn_up (n := n) hpq
  have key : ∀ (R : Option Mm), ((f_To_areFriends 1 (nI p) (nI q) M).bind fun vu6 => lt (fun (xu8 : Int32) => (f_To_allows 1 (nI p) (nI q) xu8 M).bind fun vu9 => if vu9 = 0 then some M else (f_To_mark 1 2 (nI p) (nI q) xu8 M).bind fun vu11 => some vu11) fun ju7 => if vu6 = 0 then ju7 1 else ju7 0) = R → ∀ N, 9 < N → f_Uc_changePair N (nI (pn n p q)) M = R := by
    intro R hR N hN
    unfold f_Uc_changePair
    dsimp only [lt]
    have hl := cpl_I N (M := M) (fun (xu2 : Int32) (xu3 : Int32) => if (f_To_hasTwo 1 xu2 (((xu2 + 1) + nI (pn n p q)) - xu3) M) = 0 then some M else (f_To_areFriends 1 xu2 (((xu2 + 1) + nI (pn n p q)) - xu3) M).bind fun vu6 => if vu6 = 0 then (f_To_allows 1 xu2 (((xu2 + 1) + nI (pn n p q)) - xu3) 1 M).bind fun vu9 => if vu9 = 0 then some M else (f_To_mark 1 2 xu2 (((xu2 + 1) + nI (pn n p q)) - xu3) 1 M).bind fun vu11 => some vu11 else (f_To_allows 1 xu2 (((xu2 + 1) + nI (pn n p q)) - xu3) 0 M).bind fun vu9 => if vu9 = 0 then some M else (f_To_mark 1 2 xu2 (((xu2 + 1) + nI (pn n p q)) - xu3) 0 M).bind fun vu11 => some vu11) hn h.1 hpq hq p 0 N (by omega) (by omega)
    rw [show pr0 n 0 = 0 by unfold pr0; simp] at hl
    refine hl.trans ?_
    have e : ((nI p + 1) + nI (pn n p q)) - nI (pr0 n p) = nI q := by
      rw [nI_1, nI_add, pk_sub (by omega)]
      congr 1
      omega
    show (if (f_To_hasTwo 1 (nI p) (((nI p + 1) + nI (pn n p q)) - nI (pr0 n p)) M) = 0 then some M else _) = R
    rw [e, two_yes hn h.1 hp hq hne, if_neg h10]
    exact hR
  have a0 : f_To_allows 1 (nI p) (nI q) 0 M = some (if m.testBit (pn n p q) = true then 0 else 1) := alw_I false hn h h1.bm hp hq hne
  have a1 : f_To_allows 1 (nI p) (nI q) 1 M = some (if b.testBit (pn n p q) = true then 0 else 1) := alw_I true hn h h1.bm hp hq hne
  have k0 : f_To_mark 1 2 (nI p) (nI q) 0 M = some (mkM 2 p q n t false M) := mark_I (v := false) hn (fun p hp => (h.2.2.2 p hp).1) hp hq hne
  have k1 : f_To_mark 1 2 (nI p) (nI q) 1 M = some (mkM 2 p q n t true M) := mark_I (v := true) hn (fun p hp => (h.2.2.2 p hp).1) hp hq hne
  have hCT : ∀ v : Bool, CT (mkM 2 p q n t v M) 1 n (stb t (pn n p q) v (np n)) b m mk dr sd := fun v => ⟨by rw [mk_off (by decide)]; exact h.1, by rw [mk_off (by decide)]; exact h.2.1, by rw [mk_off (by decide)]; exact h.2.2.1, fun j hj => ⟨mk_rows hn h1.2.1 (fun p hp => (h.2.2.2 p hp).1) hp hq hne j hj, by rw [mk_off (by decide)]; exact (h.2.2.2 j hj).2.1, by rw [mk_off (by decide)]; exact (h.2.2.2 j hj).2.2.1, by rw [mk_off (by decide)]; exact (h.2.2.2 j hj).2.2.2⟩⟩
  have fr := fri_I hn h hp hq hne
  by_cases z : t.testBit (pn n p q) = true
  · rw [if_pos z] at fr
    have fr : f_To_areFriends 1 (nI p) (nI q) M = some 1 := fr
    by_cases w : m.testBit (pn n p q) = true
    · refine ⟨M, key _ ?_, ?_, fun _ _ _ => rfl⟩
      · rw [fr, bnd_s]
        dsimp only [lt]
        rw [if_neg h10, a0, if_pos w, bnd_s, if_pos rfl]
      · have : chT n t b m (pn n p q) = t := by unfold chT mayc; rw [if_pos z, if_neg (by simp [w])]
        rw [this]; exact h
    · refine ⟨mkM 2 p q n t false M, key _ ?_, ?_, fun _ _ q2 => mk_off q2⟩
      · rw [fr, bnd_s]
        dsimp only [lt]
        rw [if_neg h10, a0, if_neg w, bnd_s, if_neg h10, k0, bnd_s]
      · have : chT n t b m (pn n p q) = stb t (pn n p q) false (np n) := by unfold chT mayc; rw [if_pos z, if_pos (by simp [w]), z]; rfl
        rw [this]; exact hCT false
  · rw [if_neg z] at fr
    have fr : f_To_areFriends 1 (nI p) (nI q) M = some 0 := fr
    have z' : t.testBit (pn n p q) = false := by simpa using z
    by_cases w : b.testBit (pn n p q) = true
    · refine ⟨M, key _ ?_, ?_, fun _ _ _ => rfl⟩
      · rw [fr, bnd_s]
        dsimp only [lt]
        rw [if_pos rfl, a1, if_pos w, bnd_s, if_pos rfl]
      · have : chT n t b m (pn n p q) = t := by unfold chT mayc; rw [if_neg z, if_neg (by simp [w])]
        rw [this]; exact h
    · refine ⟨mkM 2 p q n t true M, key _ ?_, ?_, fun _ _ q2 => mk_off q2⟩
      · rw [fr, bnd_s]
        dsimp only [lt]
        rw [if_pos rfl, a1, if_neg w, bnd_s, if_neg h10, k1, bnd_s]
      · have : chT n t b m (pn n p q) = stb t (pn n p q) true (np n) := by unfold chT mayc; rw [if_neg z, if_pos (by simp [w]), z']; rfl
        rw [this]; exact hCT true
theorem xo_stb {t k w : Nat} (ht : t < 2 ^ w) (hk : k < w) : t ^^^ 2 ^ k = stb t k (!(t.testBit k)) w := by
  apply Nat.eq_of_testBit_eq
  intro i
  rw [stb_bit ht hk, Nat.testBit_xor, Nat.testBit_two_pow]
  by_cases e : i = k
  · subst e; simp
  · have e2 : ¬ k = i := fun z => e z.symm
    simp [e, e2]
def mayI (t b m k : Nat) : Int32 := if mayc t b m k = true then 1 else 0
theorem may_I {t b m k : Nat} (ht : t < 2 ^ 31) (hb : b < 2 ^ 31) (hm : m < 2 ^ 31) (hk : k < 32) {α : Type} (ju : Int32 → α) : (if (f_Mo_has (nI t) (nI k)) = 0 then if (f_Mo_has (nI b) (nI k)) = 0 then ju 1 else ju 0 else if (f_Mo_has (nI m) (nI k)) = 0 then ju 1 else ju 0) = ju (mayI t b m k) := by
  rw [has_I ht hk, has_I hb hk, has_I hm hk]
  unfold mayI mayc
  by_cases z : t.testBit k = true
  · rw [if_pos z, if_neg h10, if_pos z]
    by_cases w : m.testBit k = true
    · rw [if_pos w, if_neg h10, if_neg (by simp [w])]
    · rw [if_neg w, if_pos rfl, if_pos (by simp [w])]
  · rw [if_neg z, if_pos rfl, if_neg z]
    by_cases w : b.testBit k = true
    · rw [if_pos w, if_neg h10, if_neg (by simp [w])]
    · rw [if_neg w, if_pos rfl, if_pos (by simp [w])]
/-- a week: both sides go to the same state -/
theorem wk_ex' {n t b m mk dr s s1 s2 E : Nat} {sd : Nat → Nat} (hT : TOK n t b m mk dr sd) (hn1 : 1 ≤ n) (d1 : s1 < 2 ^ 31) (d2 : s2 < 2 ^ 31) (he8 : E < 8) (c8 : ∀ (M : Mm), M.1 0 10 = nI s → f_Uc_draw 8 M = some (nI E, si M 0 10 (nI s1))) (r8 : ∀ (M : Mm), M.1 49 7 = nI s → f_Mo_draw 8 M = some (nI E, si M 49 7 (nI s1))) (cA : ∀ c, 0 < c → c < 2 ^ 31 → ∀ (M : Mm), M.1 0 10 = nI s1 → f_Uc_draw (nI c) M = some (nI (s2 / 65536 % c), si M 0 10 (nI s2))) (rA : ∀ c, 0 < c → c < 2 ^ 31 → ∀ (M : Mm), M.1 49 7 = nI s1 → f_Mo_draw (nI c) M = some (nI (s2 / 65536 % c), si M 49 7 (nI s2))) : ∃ (n' t' b' m' : Nat) (sd' : Nat → Nat) (s' : Nat), TOK n' t' b' m' mk dr sd' ∧ s' < 2 ^ 31 ∧ 1 ≤ n' ∧ (∀ M : Mm, CT M 1 n t b m mk dr sd → M.1 0 10 = nI s → ∃ M1, (∀ N, 9 < N → f_Uc_liveWeek N M = some M1) ∧ CT M1 1 n' t' b' m' mk dr sd' ∧ M1.1 0 10 = nI s' ∧ ∀ x j, ¬ (x = 0 ∧ j = 10) → ¬ (1 ≤ x ∧ x ≤ 5) → M1.1 x j = M.1 x j) ∧ (∀ M : Mm, MT M n t b m mk dr sd → M.1 49 7 = nI s → ∃ M2, (∀ N, 9 < N → f_Mo_weekNow N M = some M2) ∧ MT M2 n' t' b' m' mk dr sd' ∧ M2.1 49 7 = nI s' ∧ ∀ x j, ¬ (x = 49 ∧ (j ≤ 5 ∨ j = 7)) → x ≠ 50 → M2.1 x j = M.1 x j) := by
  have hn := hT.1
  have ht31 := np_lt31 hn hT.2.1
  have hb31 := np_lt31 hn hT.2.2.1
  have hm31 := np_lt31 hn hT.2.2.2.1
  have hz : ∀ p, n ≤ p → sd p = 0 := fun p hp => (hT.2.2.2.2.2.2.2.2.2.2 p).2 hp
  have cS : ∀ (M : Mm) (u : Int32), CT M 1 n t b m mk dr sd → CT (si M 0 10 u) 1 n t b m mk dr sd := fun M u h => h.ag (fun a j q => by
    simp only [uCT, Bool.and_eq_true, decide_eq_true_eq] at q
    exact si_a _ _ (by omega))
  have mS : ∀ (M : Mm) (u : Int32), MT M n t b m mk dr sd → MT (si M 49 7 u) n t b m mk dr sd := fun M u h => h.ag (fun a j q => by
    simp only [uMT, Bool.or_eq_true, Bool.and_eq_true, beq_iff_eq, decide_eq_true_eq] at q
    rw [si1, if_neg (by omega)])
  by_cases e0 : E = 0
  · subst e0
    by_cases z : n < 8
    · refine ⟨n + 1, wmN n t, wmN n b, wmN n m, dgS (n + 1) (wmN n t), s1, hT.map (by omega) (dgS_ok (by omega)), d1, by omega, fun M hC hM => ?_, fun M hC hM => ?_⟩
      · obtain ⟨M1, a1, a2, a3⟩ := add_CT z (cS M (nI (s1)) hC) hz
        refine ⟨M1, fun N hN => ?_, a2, ?_, fun x j q1 q2 => ?_⟩
        · unfold f_Uc_liveWeek
          rw [c8 M hM, bnd_s]
          dsimp only [lt]
          rw [if_pos (show nI 0 = 0 from rfl), (cS M (nI (s1)) hC).1, if_neg (show ¬ (8 : Int32) ≤ nI n from nI_ge (a := n) (b := 8) z (by decide)), a1 N hN, bnd_s]
        · rw [a3 _ _ (by omega) (by omega), si_s]
        · rw [a3 x j (by omega) (by omega), si1, if_neg q1]
      · obtain ⟨M2, a1, a2, a3⟩ := mob_I z ht31 hb31 hm31 (mS M (nI (s1)) hC)
        refine ⟨M2, fun N hN => ?_, a2, ?_, fun x j q1 q2 => ?_⟩
        · unfold f_Mo_weekNow
          rw [r8 M hM, bnd_s]
          dsimp only [lt]
          rw [if_pos (show nI 0 = 0 from rfl), a1 N hN, bnd_s]
        · rw [a3 _ _ (by omega) (by omega), si_s]
        · rw [a3 x j (by omega) q2, si1, if_neg (by omega)]
    · have hn8 : n = 8 := by omega
      refine ⟨n, t, b, m, sd, s1, hT, d1, hn1, fun M hC hM => ⟨si M 0 10 (nI (s1)), fun N hN => ?_, cS M _ hC, si_s _ _ _ _, fun x j q1 q2 => by rw [si1, if_neg q1]⟩, fun M hC hM => ⟨si M 49 7 (nI (s1)), fun N hN => ?_, mS M _ hC, si_s _ _ _ _, fun x j q1 q2 => by rw [si1, if_neg (by omega)]⟩⟩
      · unfold f_Uc_liveWeek
        rw [c8 M hM, bnd_s]
        dsimp only [lt]
        rw [if_pos (show nI 0 = 0 from rfl), (cS M (nI (s1)) hC).1, hn8, if_pos (by decide)]
      · unfold f_Mo_weekNow
        rw [r8 M hM, bnd_s]
        dsimp only [lt]
        unfold f_Mo_birth
        rw [if_pos (show nI 0 = 0 from rfl), (mS M (nI (s1)) hC).1, hn8, if_pos (show nI 8 = 8 from rfl), bnd_s]
  · have ne0 : ¬ nI E = 0 := nI_ne0 (by omega) (by omega)
    by_cases zn : n ≤ 1
    · refine ⟨n, t, b, m, sd, s1, hT, d1, hn1, fun M hC hM => ⟨si M 0 10 (nI (s1)), fun N hN => ?_, cS M _ hC, si_s _ _ _ _, fun x j q1 q2 => by rw [si1, if_neg q1]⟩, fun M hC hM => ⟨si M 49 7 (nI (s1)), fun N hN => ?_, mS M _ hC, si_s _ _ _ _, fun x j q1 q2 => by rw [si1, if_neg (by omega)]⟩⟩
      · unfold f_Uc_liveWeek
        rw [c8 M hM, bnd_s]
        dsimp only [lt]
        rw [if_neg ne0, (cS M (nI (s1)) hC).1, if_pos (show nI n ≤ 1 from nI_le (b := 1) zn (by decide)), if_pos (show nI n ≤ 1 from nI_le (b := 1) zn (by decide))]
        exact ite_self _
      · unfold f_Mo_weekNow
        rw [r8 M hM, bnd_s]
        dsimp only [lt]
        rw [if_neg ne0, (mS M (nI (s1)) hC).1, if_pos (show nI n ≤ 1 from nI_le (b := 1) zn (by decide)), if_pos (show nI n ≤ 1 from nI_le (b := 1) zn (by decide))]
        exact ite_self _
    · have zn1 : ¬ nI n ≤ 1 := nI_ge (a := 1) (by omega) (by omega)
      by_cases e1 : E = 1
      · subst e1
        obtain ⟨n', rfl⟩ : ∃ n', n = n' + 1 := ⟨n - 1, by omega⟩
        have hg : s2 / 65536 % (n' + 1) < n' + 1 := Nat.mod_lt _ (by omega)
        have cc := cA (n' + 1) (by omega) (by omega)
        have rr := rA (n' + 1) (by omega) (by omega)
        generalize s2 / 65536 % (n' + 1) = g at cc rr hg
        refine ⟨n', woN n' g t, woN n' g b, woN n' g m, dgS n' (woN n' g t), s2, hT.map (by omega) (dgS_ok (by omega)), d2, by omega, fun M hC hM => ?_, fun M hC hM => ?_⟩
        · have hC2 : CT (si (si M 0 10 (nI (s1))) 0 10 (nI (s2))) 1 (n' + 1) t b m mk dr sd := cS _ _ (cS M _ hC)
          obtain ⟨M1, a1, a2, a3⟩ := rem_CT (show n' < 8 by omega) hg hC2 hz
          refine ⟨M1, fun N hN => ?_, a2, ?_, fun x j q1 q2 => ?_⟩
          · unfold f_Uc_liveWeek
            rw [c8 M hM, bnd_s]
            dsimp only [lt]
            rw [if_neg ne0, if_pos (show nI 1 = 1 from rfl), (cS M (nI (s1)) hC).1, if_neg zn1, cc _ (si_s _ _ _ _), bnd_s, a1 N hN, bnd_s]
          · rw [a3 _ _ (by omega) (by omega), si_s]
          · rw [a3 x j (by omega) (by omega), si1, if_neg q1, si1, if_neg q1]
        · have hC2 : MT (si (si M 49 7 (nI (s1))) 49 7 (nI (s2))) (n' + 1) t b m mk dr sd := mS _ _ (mS M _ hC)
          obtain ⟨M2, a1, a2, a3⟩ := mod_I (show n' < 8 by omega) hg ht31 hb31 hm31 hC2
          refine ⟨M2, fun N hN => ?_, a2, ?_, fun x j q1 q2 => ?_⟩
          · unfold f_Mo_weekNow
            rw [r8 M hM, bnd_s]
            dsimp only [lt]
            rw [if_neg ne0, if_pos (show nI 1 = 1 from rfl), (mS M (nI (s1)) hC).1, if_neg zn1, rr _ (si_s _ _ _ _), bnd_s, a1 N hN, bnd_s]
          · rw [a3 _ _ (by omega) (by omega), si_s]
          · rw [a3 x j (by omega) q2, si1, if_neg (by omega), si1, if_neg (by omega)]
      · have ne1 : ¬ nI E = 1 := fun w => e1 ((nI_eq (b := 1) (by omega) (by decide)).mp w)
        have hnp := np_pos n hn (by omega)
        have hnp2 := np_le n hn
        have hk : s2 / 65536 % np n < np n := Nat.mod_lt _ hnp
        have cc := cA (np n) hnp (by omega)
        have rr := rA (np n) hnp (by omega)
        generalize s2 / 65536 % np n = k at cc rr hk
        obtain ⟨p, hp, q, hq, hpq, ek⟩ := pn_on n hn k hk
        refine ⟨n, chT n t b m k, b, m, sd, s2, hT.cht hk, d2, hn1, fun M hC hM => ?_, fun M hC hM => ?_⟩
        · have hC2 : CT (si (si M 0 10 (nI (s1))) 0 10 (nI (s2))) 1 n t b m mk dr sd := cS _ _ (cS M _ hC)
          obtain ⟨M1, a1, a2, a3⟩ := chp_I hT hC2 hpq hq
          rw [ek] at a1 a2
          refine ⟨M1, fun N hN => ?_, a2, ?_, fun x j q1 q2 => ?_⟩
          · unfold f_Uc_liveWeek
            rw [c8 M hM, bnd_s]
            dsimp only [lt]
            rw [if_neg ne0, if_neg ne1, (cS M (nI (s1)) hC).1, if_neg zn1, np_I hn1 hn, cc _ (si_s _ _ _ _), bnd_s, a1 N hN, bnd_s]
          · rw [a3 _ _ (by omega), si_s]
          · rw [a3 x j (by omega), si1, if_neg q1, si1, if_neg q1]
        · have hC2 : MT (si (si M 49 7 (nI (s1))) 49 7 (nI (s2))) n t b m mk dr sd := mS _ _ (mS M _ hC)
          have key : ∀ N, 9 < N → f_Mo_weekNow N M = some (si (si (si M 49 7 (nI (s1))) 49 7 (nI (s2))) 49 1 (nI (chT n t b m k))) := by
            intro N hN
            unfold f_Mo_weekNow f_Mo_pairs
            rw [r8 M hM, bnd_s]
            dsimp only [lt]
            rw [if_neg ne0, if_neg ne1, (mS M (nI (s1)) hC).1, if_neg zn1, np_I hn1 hn, rr _ (si_s _ _ _ _), bnd_s]
            dsimp only
            rw [hC2.2.1, hC2.2.2.1, hC2.2.2.2.1]
            have mj := may_I (k := k) ht31 hb31 hm31 (by omega) (fun (xu11 : Int32) => if xu11 = 0 then some (si (si (si M 49 7 (nI (s1))) 49 7 (nI (s2))) 49 1 (nI t ^^^ 0)) else some (si (si (si M 49 7 (nI (s1))) 49 7 (nI (s2))) 49 1 (nI t ^^^ ((1 : Int32) <<< (nI k &&& 31)))))
            refine mj.trans ?_
            unfold mayI chT
            by_cases w : mayc t b m k = true
            · rw [if_pos w, if_pos w]
              show (if (1 : Int32) = 0 then _ else _) = _
              rw [if_neg h10, one_sl (by omega), xo_I, xo_stb hT.2.1 hk]
            · rw [if_neg w, if_neg w]
              show (if (0 : Int32) = 0 then _ else _) = _
              rw [if_pos rfl, show (0 : Int32) = nI 0 from rfl, xo_I, Nat.xor_zero]
          refine ⟨_, key, ⟨?_, si_s _ _ _ _, ?_, ?_, ?_, ?_, fun p hp => ?_⟩, ?_, fun x j q1 q2 => ?_⟩
          · rw [si_k _ _ (by decide)]; exact hC2.1
          · rw [si_k _ _ (by decide)]; exact hC2.2.2.1
          · rw [si_k _ _ (by decide)]; exact hC2.2.2.2.1
          · rw [si_k _ _ (by decide)]; exact hC2.2.2.2.2.1
          · rw [si_k _ _ (by decide)]; exact hC2.2.2.2.2.2.1
          · rw [si_a _ _ (by decide)]; exact hC2.2.2.2.2.2.2 p hp
          · rw [si_k _ _ (by decide), si_s]
          · rw [si1, if_neg (by omega), si1, if_neg (by omega), si1, if_neg (by omega)]
theorem wk_ex {n t b m mk dr s : Nat} {sd : Nat → Nat} (hT : TOK n t b m mk dr sd) (hs : s < 2 ^ 31) (hn1 : 1 ≤ n) : ∃ (n' t' b' m' : Nat) (sd' : Nat → Nat) (s' : Nat), TOK n' t' b' m' mk dr sd' ∧ s' < 2 ^ 31 ∧ 1 ≤ n' ∧ (∀ M : Mm, CT M 1 n t b m mk dr sd → M.1 0 10 = nI s → ∃ M1, (∀ N, 9 < N → f_Uc_liveWeek N M = some M1) ∧ CT M1 1 n' t' b' m' mk dr sd' ∧ M1.1 0 10 = nI s' ∧ ∀ x j, ¬ (x = 0 ∧ j = 10) → ¬ (1 ≤ x ∧ x ≤ 5) → M1.1 x j = M.1 x j) ∧ (∀ M : Mm, MT M n t b m mk dr sd → M.1 49 7 = nI s → ∃ M2, (∀ N, 9 < N → f_Mo_weekNow N M = some M2) ∧ MT M2 n' t' b' m' mk dr sd' ∧ M2.1 49 7 = nI s' ∧ ∀ x j, ¬ (x = 49 ∧ (j ≤ 5 ∨ j = 7)) → x ≠ 50 → M2.1 x j = M.1 x j) :=
  wk_ex' (s1 := drw s) (s2 := drw (drw s)) hT hn1 drw_lt drw_lt (Nat.mod_lt _ (by decide)) (fun M h => ucd_I (c := 8) h (by decide) (by decide)) (fun M h => modr_I (c := 8) h hs (by decide) (by decide)) (fun c h0 hc M h => ucd_I (c := c) h h0 hc) (fun c h0 hc M h => modr_I (c := c) h drw_lt h0 hc)
/-- the weeks of a drift -/
theorem dft_ex {mk dr W : Nat} (hW : W < 100) : ∀ (d w n t b m s : Nat) (sd : Nat → Nat), w + d = W → TOK n t b m mk dr sd → s < 2 ^ 31 → 1 ≤ n → ∃ (n' t' b' m' : Nat) (sd' : Nat → Nat) (s' : Nat), TOK n' t' b' m' mk dr sd' ∧ s' < 2 ^ 31 ∧ (∀ M : Mm, CT M 1 n t b m mk dr sd → M.1 0 10 = nI s → ∃ M1, (∀ N nu ju, 9 < N → d < nu → L_Uc_drift_30 N (nI W) ju nu (nI w) M = ju M1) ∧ CT M1 1 n' t' b' m' mk dr sd' ∧ M1.1 0 10 = nI s' ∧ ∀ x j, ¬ (x = 0 ∧ j = 10) → ¬ (1 ≤ x ∧ x ≤ 5) → M1.1 x j = M.1 x j) ∧ (∀ M : Mm, MT M n t b m mk dr sd → M.1 49 7 = nI s → ∃ M2, (∀ N nu, 9 < N → d < nu → L_Mo_drift_27 N (nI W) nu (nI w) M = some (nI t', M2)) ∧ MT M2 n' t' b' m' mk dr sd' ∧ M2.1 49 7 = nI s' ∧ ∀ x j, ¬ (x = 49 ∧ (j ≤ 5 ∨ j = 7)) → x ≠ 50 → M2.1 x j = M.1 x j) := by
  intro d
  induction d with
  | zero =>
    intro w n t b m s sd hw hT hs hn1
    have hw : w = W := by omega
    subst hw
    refine ⟨n, t, b, m, sd, s, hT, hs, fun M hC hM => ⟨M, fun N nu ju hN hnu => ?_, hC, hM, fun _ _ _ _ => rfl⟩, fun M hC hM => ⟨M, fun N nu hN hnu => ?_, hC, hM, fun _ _ _ _ => rfl⟩⟩
    · obtain ⟨nu, rfl⟩ : ∃ v, nu = v + 1 := ⟨nu - 1, by omega⟩
      rw [L_Uc_drift_30, if_pos (nI_le (Nat.le_refl w) (by omega))]
    · obtain ⟨nu, rfl⟩ : ∃ v, nu = v + 1 := ⟨nu - 1, by omega⟩
      rw [L_Mo_drift_27, if_pos (nI_le (Nat.le_refl w) (by omega)), hC.2.1]
  | succ d ih =>
    intro w n t b m s sd hw hT hs hn1
    obtain ⟨n1, t1, b1', m1, sd1, s1, g1, g2, g3, g4, g5⟩ := wk_ex hT hs hn1
    obtain ⟨n2, t2, b2, m2, sd2, s2, f1, f2, f4, f5⟩ := ih (w + 1) n1 t1 b1' m1 s1 sd1 (by omega) g1 g2 g3
    refine ⟨n2, t2, b2, m2, sd2, s2, f1, f2, fun M hC hM => ?_, fun M hC hM => ?_⟩
    · obtain ⟨M1, a1, a2, a3, a4⟩ := g4 M hC hM
      obtain ⟨M2, c1, c2, c3, c4⟩ := f4 M1 a2 a3
      refine ⟨M2, fun N nu ju hN hnu => ?_, c2, c3, fun x j q1 q2 => (c4 x j q1 q2).trans (a4 x j q1 q2)⟩
      obtain ⟨nu, rfl⟩ : ∃ v, nu = v + 1 := ⟨nu - 1, by omega⟩
      rw [L_Uc_drift_30, if_neg (nI_ge (by omega) (by omega)), a1 N hN, bnd_s]
      dsimp only [lt]
      rw [nI_1]
      exact c1 N nu ju hN (by omega)
    · obtain ⟨M1, a1, a2, a3, a4⟩ := g5 M hC hM
      obtain ⟨M2, c1, c2, c3, c4⟩ := f5 M1 a2 a3
      refine ⟨M2, fun N nu hN hnu => ?_, c2, c3, fun x j q1 q2 => (c4 x j q1 q2).trans (a4 x j q1 q2)⟩
      obtain ⟨nu, rfl⟩ : ∃ v, nu = v + 1 := ⟨nu - 1, by omega⟩
      rw [L_Mo_drift_27, if_neg (nI_ge (by omega) (by omega)), a1 N hN, bnd_s]
      dsimp only [lt]
      rw [nI_1]
      exact c1 N nu hN (by omega)
theorem q_drift {M : Mm} (h : Rel M) (x : Int32) : ∃ (r : Int32) (M1 M2 : Mm), (∀ N, 100 < N → f_Uc_drift N x M = some (r, M1) ∧ f_Mo_drift N x M1 = some (r, M2)) ∧ Rel M2 := by
  have hh := h
  obtain ⟨n, t, b, m, mk, dr, sd, hP⟩ := h
  obtain ⟨h1, h2, h3, ⟨s, s1, s2, s3⟩, -⟩ := id hP
  have hn := h1.1
  have bad : (x < 1 ∨ ¬ x ≤ 99) → ∃ (r : Int32) (M1 M2 : Mm), (∀ N, 100 < N → f_Uc_drift N x M = some (r, M1) ∧ f_Mo_drift N x M1 = some (r, M2)) ∧ Rel M2 := by
    intro hx
    refine ⟨-1000000002, M, M, fun N hN => ?_, hh⟩
    unfold f_Uc_drift f_Mo_drift
    rw [show (1 : Int64) = (1 : Int32).toInt64 from rfl, show (99 : Int64) = (99 : Int32).toInt64 from rfl, in_if]
    by_cases z : x < 1
    · rw [if_pos z, if_pos z]; exact ⟨rfl, rfl⟩
    · have w : ¬ x ≤ 99 := hx.resolve_left z
      rw [if_neg z, if_neg w, if_neg z, if_pos (nle_I.mp w)]; exact ⟨rfl, rfl⟩
  by_cases z : x < 1
  · exact bad (Or.inl z)
  by_cases w : x ≤ 99
  · obtain ⟨W, hW, rfl⟩ := nI_of2 (x := x) (M := 99) (n := 99) rfl (fun q => z (Int32.lt_trans q (by decide))) w
    have w2 : ¬ (99 : Int32) < nI W := nlt_I.mpr w
    by_cases zn : n = 0
    · subst zn
      refine ⟨-1000000003, M, M, fun N hN => ?_, hh⟩
      unfold f_Uc_drift f_Mo_drift
      rw [show (1 : Int64) = (1 : Int32).toInt64 from rfl, show (99 : Int64) = (99 : Int32).toInt64 from rfl, in_if, if_neg z, if_pos w, if_neg z, if_neg w2, h2.1, h3.1, if_neg (by decide), if_pos (show nI 0 = 0 from rfl)]
      exact ⟨rfl, rfl⟩
    · obtain ⟨n', t', b', m', sd', s', f1, f2, f4, f5⟩ := dft_ex (mk := mk) (dr := dr) (W := W) (by omega) W 0 n t b m s sd (by omega) h1 s1 (by omega)
      obtain ⟨M1, a1, a2, a3, a4⟩ := f4 M h2 s2
      have g3 : MT M1 n t b m mk dr sd := h3.ag (fun x j u => by
        simp only [uMT, Bool.or_eq_true, Bool.and_eq_true, beq_iff_eq, decide_eq_true_eq] at u
        exact a4 x j (by omega) (by omega))
      obtain ⟨M2, c1, c2, c3, c4⟩ := f5 M1 g3 ((a4 49 7 (by omega) (by omega)).trans s3)
      refine ⟨nI t', M1, M2, fun N hN => ⟨?_, ?_⟩, RelP.two hP f1 a2 c2 ⟨s', f2, a3, c3⟩ (fun x j q1 q2 _ => a4 x j q1 q2) (fun x j q1 q2 _ => c4 x j q1 q2)⟩
      · unfold f_Uc_drift
        rw [if_neg z, if_pos w, h2.1, if_pos (show (1 : Int32) ≤ nI n from nI_le (a := 1) (by omega) (by omega))]
        dsimp only [lt]
        refine (a1 N N _ (by omega) (by omega)).trans ?_
        show (f_To_asNumber N 1 2 M1).bind _ = _
        rw [as_I (by omega) f1.1 a2.1 (fun p hp => (a2.2.2.2 p (by have := f1.1; omega)).1) f1.2.1, bnd_s]
      · unfold f_Mo_drift
        rw [show (1 : Int64) = (1 : Int32).toInt64 from rfl, show (99 : Int64) = (99 : Int32).toInt64 from rfl, in_if, if_neg z, if_neg w2, g3.1, if_neg (nI_ne0 (by omega) (by omega))]
        exact c1 N N (by omega) (by omega)
  · exact bad (Or.inr w)
