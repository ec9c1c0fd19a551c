/-! PURE 50: the class makes good -/
theorem fo_cc {β : Type} {op : β → β → β} {e : β} {c c' : Nat → β} {V : Nat → Bool} : ∀ {K}, (∀ t, t < K → V t = true → c t = c' t) → fo op e c V K = fo op e c' V K
  | 0, _ => rfl
  | K + 1, h => by
    rw [fo, fo, fo_cc (c := c) (c' := c') (fun t ht => h t (by omega))]
    by_cases q : V K = true
    · rw [if_pos q, if_pos q, h K (by omega) q]
    · rw [if_neg q, if_neg q]
section MK2
variable {n t b m mk dr w a : Nat} {sd : Nat → Nat}
theorem REC_cong {T T' : Nat → Nat} {x : Nat} (hn : n < 9) (hx : x < 2 ^ n) (h : ∀ j, j ≤ x → T j = T' j) (hR : REC n t b m mk dr w T x) : REC n t b m mk dr w T' x := by
  have hpw : 2 ^ n ≤ 2 ^ 8 := Nat.pow_le_pow_right (by decide) (by omega)
  unfold REC at hR ⊢
  rw [← h x (Nat.le_refl x), hR]
  refine fo_cc (fun p hp hb => ?_)
  have hl := rem_lt (show x < 2 ^ 8 by omega) (show p < 8 by omega) hb
  unfold Xv
  rw [h (rem1 x p) (by omega)]
theorem pl_I {k : Nat} (hn : n < 9) (hk : k < n) {α : Type} (ju : Int32 → α) : (if (nI k - nI k / 2 * 2) = 0 then ju (nI k / 2) else ju ((nI n - 1) - (nI k / 2))) = ju (nI (spl n k)) := by
  rw [show (2 : Int32) = nI 2 from rfl, pk_rem (by omega) (by decide) (by decide), pk_div (by omega) (by decide) (by decide), show (1 : Int32) = nI 1 from rfl, pk_sub (by omega), pk_sub (by omega)]
  unfold spl
  by_cases h : k % 2 = 0
  · rw [if_pos (by rw [h]; rfl), if_pos h]
  · rw [if_neg (fun z => h ((nI0_iff (by omega)).mp z)), if_neg h]
theorem fr_I {k : Nat} (hk : k < 9) (hw : w < 2) {α : Type} (ju : Int32 → α) : (if ((nI k + nI w) - (nI k + nI w) / 2 * 2) = 1 then ju 1 else ju 0) = ju (bI (frB w k)) := by
  rw [nI_add, show (2 : Int32) = nI 2 from rfl, pk_rem (by omega) (by decide) (by decide)]
  unfold frB
  by_cases h : (k + w) % 2 = 1
  · rw [if_pos (by rw [h]; rfl), decide_eq_true h]; rfl
  · rw [if_neg (show ¬ nI ((k + w) % 2) = 1 from fun z => h ((nI_eq (b := 1) (by omega) (by decide)).mp z)), decide_eq_false h]; rfl
theorem CT.snd {M M' : Mm} (h : CT M a n t b m mk dr sd) (e : M'.1 = M.1) : CT M' a n t b m mk dr sd := by
  unfold CT at h ⊢
  rw [e]
  exact h
theorem mk19 (hn : n < 9) (hw : w < 2) (h1 : mk ≤ 9) (h2 : dr ≤ 9) : ∀ (d x : Nat) (M : Mm) (T : Nat → Nat), x + d = 2 ^ n → 1 ≤ x → M.1 18 1 = nI n → CT M a n t b m mk dr sd → T 0 = 0 → (∀ j, j < x → M.2 19 j = lN (T j) ∧ BD T j) → (∀ j, 1 ≤ j → j < x → REC n t b m mk dr w T j) → ∃ T' M', (∀ N nu ju, 300 < N → d < nu → L_Mk_leastByWay_19 N a (nI w) (nI (2 ^ n - 1)) ju nu (nI x) M = ju M') ∧ T' 0 = 0 ∧ (∀ j, j < 2 ^ n → M'.2 19 j = lN (T' j) ∧ BD T' j) ∧ (∀ j, 1 ≤ j → j < 2 ^ n → REC n t b m mk dr w T' j) ∧ M'.1 = M.1 := by
  have hpw : 2 ^ n ≤ 2 ^ 8 := Nat.pow_le_pow_right (by decide) (by omega)
  intro d
  induction d with
  | zero =>
    intro x M T hx hx1 h0 hC hT0 hT hR
    refine ⟨T, M, fun N nu ju hN hnu => ?_, hT0, fun j hj => hT j (by omega), fun j g1 g2 => hR j g1 (by omega), rfl⟩
    obtain ⟨nu, rfl⟩ : ∃ v, nu = v + 1 := ⟨nu - 1, by omega⟩
    rw [L_Mk_leastByWay_19, if_pos (nI_lt (by omega) (by omega))]
  | succ d ih =>
    intro x M T hx hx1 h0 hC hT0 hT hR
    have hxl : x < 2 ^ n := by omega
    have hpc1 : 1 ≤ pcnt x := Nat.pos_of_ne_zero (fun z => by have := pc_0 (show x < 2 ^ 8 by omega) z; omega)
    have hpcn := pc_le hn hxl
    generalize hk : n - pcnt x = k
    have hkn : k < n := by omega
    generalize hV : fo (fun a b => min a b) NV (fun p => Xv n t b m mk dr w T k p (rem1 x p)) (fun p => x.testBit p) n = V
    have hVB : V = NV ∨ V ≤ x * 2147483648 := by
      rcases mE_at (c := fun p => Xv n t b m mk dr w T k p (rem1 x p)) (V := fun p => x.testBit p) (e := NV) n with q | ⟨p, hp, hb, q⟩
      · exact Or.inl (hV.symm.trans q)
      · have hl := rem_lt (show x < 2 ^ 8 by omega) (show p < 8 by omega) hb
        have hX := Xv_bd (t := t) (b := b) (m := m) (w := w) (p := p) hn hkn h1 h2 (hT _ hl).2
        have hVX : V = Xv n t b m mk dr w T k p (rem1 x p) := hV.symm.trans q
        rw [← hVX] at hX
        rcases hX with hX | hX
        · exact Or.inl hX
        · right
          exact Nat.le_trans hX (Nat.mul_le_mul hl (Nat.le_refl _))
    have eT : ∀ j, j < x → upw T x V j = T j := fun j hj => if_neg (by omega)
    have eX : upw T x V x = V := if_pos rfl
    have hRn : ∀ j, 1 ≤ j → j < x + 1 → REC n t b m mk dr w (upw T x V) j := fun j g1 g2 => by
      by_cases e : j = x
      · subst e
        unfold REC
        rw [eX, hk]
        refine hV.symm.trans (fo_cc (fun p hp hb => ?_))
        have hl := rem_lt (show j < 2 ^ 8 by omega) (show p < 8 by omega) hb
        unfold Xv
        rw [eT _ hl]
      · exact REC_cong hn (by omega) (fun i hi => (eT i (by omega)).symm) (hR j g1 (by omega))
    obtain ⟨T', M', g1, g2, g3, g4, g5⟩ := ih (x + 1) (sl M 19 x (lN V)) (upw T x V) (by omega) (by omega) h0 (hC.snd rfl) (by rw [eT 0 (by omega)]; exact hT0) (fun j hj => by
      rw [sl2]
      by_cases e : j = x
      · subst e
        rw [if_pos ⟨rfl, rfl⟩, eX]
        exact ⟨rfl, by unfold BD; rw [eX]; exact hVB⟩
      · rw [if_neg (fun z => e z.2), eT j (by omega)]
        exact ⟨(hT j (by omega)).1, by unfold BD; rw [eT j (by omega)]; exact (hT j (by omega)).2⟩) hRn
    refine ⟨T', M', fun N nu ju hN hnu => ?_, g2, g3, g4, g5⟩
    obtain ⟨nu, rfl⟩ : ∃ v, nu = v + 1 := ⟨nu - 1, by omega⟩
    rw [L_Mk_leastByWay_19, if_neg (nI_nlt (by omega) (by omega)), h0, pc_bc (by omega)]
    dsimp only [lt]
    rw [pk_sub (by omega), hk]
    refine (pl_I hn hkn (fun xu9 => if ((nI k + nI w) - (nI k + nI w) / 2 * 2) = 1 then L_Mk_leastByWay_89 N a (nI x) M xu9 1 (fun xu13 => if inb (nI x) 256 = true then L_Mk_leastByWay_19 N a (nI w) (nI (2 ^ n - 1)) ju nu (nI x + 1) (sl M 19 (Int32.toNatClampNeg (nI x)) xu13) else none) N 4611686018427387904 0 else L_Mk_leastByWay_89 N a (nI x) M xu9 0 (fun xu13 => if inb (nI x) 256 = true then L_Mk_leastByWay_19 N a (nI w) (nI (2 ^ n - 1)) ju nu (nI x + 1) (sl M 19 (Int32.toNatClampNeg (nI x)) xu13) else none) N 4611686018427387904 0)).trans ?_
    refine (fr_I (by omega) hw (fun xu11 => L_Mk_leastByWay_89 N a (nI x) M (nI (spl n k)) xu11 (fun xu13 => if inb (nI x) 256 = true then L_Mk_leastByWay_19 N a (nI w) (nI (2 ^ n - 1)) ju nu (nI x + 1) (sl M 19 (Int32.toNatClampNeg (nI x)) xu13) else none) N 4611686018427387904 0)).trans ?_
    have h89 := mk89 N (w := w) (T := T) (M := M) (x := x) (k := k) (fun xu13 => if inb (nI x) 256 = true then L_Mk_leastByWay_19 N a (nI w) (nI (2 ^ n - 1)) ju nu (nI x + 1) (sl M 19 (Int32.toNatClampNeg (nI x)) xu13) else none) hn hkn hxl h0 hC h1 h2 hT n 0 N (by omega) (by omega)
    refine h89.trans ?_
    rw [hV, if_pos (inb_nI (show x < 256 by omega) (by decide)), ix_nI (by omega), nI_1]
    exact g1 N nu ju hN (by omega)
theorem lbw_I {M : Mm} (hn : n < 9) (hn1 : 1 ≤ n) (hw : w < 2) (h1 : mk ≤ 9) (h2 : dr ≤ 9) (h0 : M.1 18 1 = nI n) (hC : CT M a n t b m mk dr sd) : ∃ T M', (∀ N, 300 < N → f_Mk_leastByWay N a (nI w) M = some (lN (T (2 ^ n - 1)), M')) ∧ T 0 = 0 ∧ (∀ j, 1 ≤ j → j < 2 ^ n → REC n t b m mk dr w T j) ∧ BD T (2 ^ n - 1) ∧ M'.1 = M.1 := by
  have hpw : 2 ^ n ≤ 2 ^ 8 := Nat.pow_le_pow_right (by decide) (by omega)
  have hpw2 : 2 ^ 1 ≤ 2 ^ n := Nat.pow_le_pow_right (by decide) hn1
  obtain ⟨T, M', g1, g2, g3, g4, g5⟩ := mk19 (w := w) (t := t) (b := b) (m := m) (sd := sd) (a := a) hn hw h1 h2 (2 ^ n - 1) 1 (sl M 19 0 0) (fun _ => 0) (by omega) (by omega) h0 (hC.snd rfl) rfl (fun j hj => by
    have : j = 0 := by omega
    subst this
    rw [sl2, if_pos ⟨rfl, rfl⟩]
    exact ⟨rfl, Or.inr (Nat.zero_le _)⟩) (fun j a1 a2 => by omega)
  refine ⟨T, M', fun N hN => ?_, g2, g4, (g3 _ (by omega)).2, g5⟩
  unfold f_Mk_leastByWay
  dsimp only [lt]
  have e : ((1 : Int32) <<< ((M.1 18 1) &&& 31)) - 1 = nI (2 ^ n - 1) := by
    rw [h0, one_sl (by omega)]
    exact pk_sub (a := 2 ^ n) (b := 1) (by omega)
  rw [show (sl M 19 (Int32.toNatClampNeg 0) 0).1 = M.1 from rfl, e]
  refine (g1 N N _ hN (by omega)).trans ?_
  rw [if_pos (inb_nI (show 2 ^ n - 1 < 256 by omega) (by decide)), ix_nI (by omega), (g3 (2 ^ n - 1) (by omega)).1]
end MK2
/-- a row of places that keeps bars -/
def OKP (n b m w : Nat) (f : Nat → Nat) : Prop := (∀ p, p < n → f p < n) ∧ (∀ p q, p < n → q < n → f p = f q → p = q) ∧ ∀ p q, p < n → q < n → ¬ Bad n b m w f p q
def TC (n t mk dr w : Nat) (f : Nat → Nat) : Nat := T1 (Ppr n t mk dr w f) tt n
def CD (n : Nat) (f : Nat → Nat) : Nat := cdS f tt n
/-- the table's last: the least price, then the first row -/
theorem tab_I {n t b m mk dr w : Nat} {T : Nat → Nat} (hn : n < 9) (hw : w < 2) (h1 : mk ≤ 9) (h2 : dr ≤ 9) (h0 : T 0 = 0) (hR : ∀ j, 1 ≤ j → j < 2 ^ n → REC n t b m mk dr w T j) : (T (2 ^ n - 1) = NV ∧ ∀ f, ¬ OKP n b m w f) ∨ (∃ f, OKP n b m w f ∧ T (2 ^ n - 1) = TC n t mk dr w f * 16777216 + CD n f ∧ CD n f < 16777216 ∧ TC n t mk dr w f ≤ 576 ∧ ∀ f', OKP n b m w f' → T (2 ^ n - 1) ≤ TC n t mk dr w f' * 16777216 + CD n f') := by
  have hpos : 0 < 2 ^ n := Nat.two_pow_pos n
  have hbit : ∀ i, (2 ^ n - 1).testBit i = decide (i < n) := fun i => Nat.testBit_two_pow_sub_one n i
  have hall : ∀ (f : Nat → Nat), bs (fun p => decide (0 ≤ ixp n (f p))) n = 2 ^ n - 1 := fun f => by
    apply Nat.eq_of_testBit_eq
    intro i
    rw [bs_bit, hbit]
    simp
  have hlow : ∀ f, OKP n b m w f → T (2 ^ n - 1) ≤ TC n t mk dr w f * 16777216 + CD n f := fun f hf => by
    have h := (dp_low hn hw h1 h2 h0 hR hf.1 hf.2.1 hf.2.2 n 0 (by omega)).2
    rw [hall f] at h
    have e1 : T1 (Ppr n t mk dr w f) (fun i => (2 ^ n - 1).testBit i) n = TC n t mk dr w f := T1_cong (fun p hp => by
      show (2 ^ n - 1).testBit p = true
      rw [hbit]; simp [hp]) (fun _ _ _ _ _ _ => rfl)
    have e2 : cdS f (fun i => (2 ^ n - 1).testBit i) n = CD n f := cd_cong (fun p hp => by
      show (2 ^ n - 1).testBit p = true
      rw [hbit]; simp [hp]) (fun _ _ _ => rfl)
    rw [e1, e2] at h
    exact h
  have hcd : ∀ f, (∀ p, p < n → f p < n) → CD n f < 16777216 := fun f hf => by
    have h := cd_le (f := f) (s := tt) n (by omega) (fun p hp _ => by have := hf p hp; omega)
    have : 0 < 8 ^ (8 - n) := Nat.pow_pos (by decide)
    unfold CD
    omega
  have htc : ∀ f, TC n t mk dr w f ≤ 576 := fun f => T1_le (by omega) (fun p q => Ppr_le h1 h2)
  have hpc : pcnt (2 ^ n - 1) = n := by
    unfold pcnt
    rw [ctb_cut (k := n) (by omega) (fun i hi => by rw [hbit]; exact decide_eq_false (by omega))]
    have : ∀ L, L ≤ n → ctb (fun i => (2 ^ n - 1).testBit i) L = L := fun L => by
      induction L with
      | zero => intro _; rfl
      | succ L ih => intro hL; rw [ctb, ih (by omega), hbit, if_pos (by simp; omega)]
    exact this n (Nat.le_refl n)
  by_cases hN : T (2 ^ n - 1) = NV
  · refine Or.inl ⟨hN, fun f hf => ?_⟩
    have := hlow f hf
    have c1 := hcd f hf.1
    have c2 := htc f
    rw [hN] at this
    unfold NV at this
    omega
  · obtain ⟨f, f1, f2, f3, f4⟩ := dp_ex hn hw h0 hR n (2 ^ n - 1) (by omega) hpc hN
    have bb : ∀ p, p < n → (2 ^ n - 1).testBit p = true := fun p hp => by rw [hbit]; simp [hp]
    have hOK : OKP n b m w f := ⟨fun p hp => (f1 p (bb p hp)).1, fun p q hp hq => f2 p q (bb p hp) (bb q hq), fun p q hp hq => f3 p q (bb p hp) (bb q hq)⟩
    refine Or.inr ⟨f, hOK, ?_, hcd f hOK.1, htc f, hlow⟩
    rw [f4]
    have e1 : T1 (Ppr n t mk dr w f) (fun i => (2 ^ n - 1).testBit i) n = TC n t mk dr w f := T1_cong (fun p hp => bb p hp) (fun _ _ _ _ _ _ => rfl)
    have e2 : cdS f (fun i => (2 ^ n - 1).testBit i) n = CD n f := cd_cong (fun p hp => bb p hp) (fun _ _ _ => rfl)
    rw [e1, e2]
