/-! PURE 48: the least over sets is the least over places -/
def NV : Nat := 4611686018427387904
def pcnt (x : Nat) : Nat := ctb (fun i => x.testBit i) 8
def rem1 (x p : Nat) : Nat := stb x p false 8
def hdB (n b m w k p rest : Nat) : Bool := decide (¬ ((if frB w k = true then rwo n b p else rwo n m p) &&& rest = 0))
def chN (n t mk dr w k p rest : Nat) : Nat := if frB w k = true then mk * ctb (fun q => rest.testBit q && !((rwo n t p).testBit q)) 8 else dr * ctb (fun q => rest.testBit q && (rwo n t p).testBit q) 8
def Xv (n t b m mk dr w : Nat) (T : Nat → Nat) (k p rest : Nat) : Nat := if hdB n b m w k p rest = true then NV else if T rest = NV then NV else T rest + chN n t mk dr w k p rest * 16777216 + spl n k * 8 ^ (7 - p)
def REC (n t b m mk dr w : Nat) (T : Nat → Nat) (x : Nat) : Prop := T x = fo (fun a b => min a b) NV (fun p => Xv n t b m mk dr w T (n - pcnt x) p (rem1 x p)) (fun p => x.testBit p) n
theorem pc_rem {x p : Nat} (hx : x < 2 ^ 8) (hp : p < 8) (h : x.testBit p = true) : pcnt (rem1 x p) + 1 = pcnt x := by
  have hb : ∀ i, (rem1 x p).testBit i = if i = p then false else x.testBit i := fun i => stb_bit hx hp
  have e := ctb_one (g := fun i => x.testBit i) (g' := fun i => (rem1 x p).testBit i) (q := p) (n := 8) hp (fun i _ hne => by
    show (rem1 x p).testBit i = x.testBit i
    rw [hb, if_neg hne])
  have h1 : ¬ (rem1 x p).testBit p = true := by rw [hb, if_pos rfl]; decide
  rw [if_pos h, if_neg h1] at e
  unfold pcnt
  omega
theorem pc_0 {x : Nat} (hx : x < 2 ^ 8) (h : pcnt x = 0) : x = 0 := by
  apply Nat.eq_of_testBit_eq
  intro i
  rw [Nat.zero_testBit]
  by_cases q : i < 8
  · exact ctb_0.mp h i q
  · exact lt_bit hx (by omega)
theorem pc_le {x n : Nat} (hn : n < 9) (hx : x < 2 ^ n) : pcnt x ≤ n := by
  unfold pcnt
  rw [ctb_cut (k := n) (by omega) (fun i hi => lt_bit hx hi)]
  exact ctb_le _ _
/-- the changes of one who is settled against those behind -/
theorem ch_eq {n t mk dr w k p rest : Nat} {f : Nat → Nat} (hn : n < 9) (hp : p < n) (hr : rest < 2 ^ n) (hpr : rest.testBit p = false) (hf : ∀ q, q < n → rest.testBit q = true → mdB w n (f p) (f q) = frB w k) : Tq (Ppr n t mk dr w f) (fun i => rest.testBit i) p n = chN n t mk dr w k p rest := by
  have hb : ∀ q, q < n → q ≠ p → (rwo n t p).testBit q = t.testBit (pn n p q) := fun q hq hne => by
    rw [rwo_bit, rwf_at hp hne]
    simp [hq]
  unfold Tq chN
  have sum : ∀ (c : Nat) (g : Nat → Bool), smN (fun q => if g q = true then c else 0) n = c * ctb g n := fun c g => by
    have : ∀ L, smN (fun q => if g q = true then c else 0) L = c * ctb g L := fun L => by
      induction L with
      | zero => simp [smN, ctb]
      | succ L ih =>
        rw [smN, ctb, ih, Nat.mul_add]
        cases g L <;> simp
    exact this n
  have cut : ∀ (g : Nat → Bool), (∀ i, g i = true → rest.testBit i = true) → ctb g 8 = ctb g n := fun g hg => ctb_cut (k := n) (by omega) (fun i hi => by
    cases hq : g i
    · rfl
    · have := hg i hq
      rw [lt_bit hr hi] at this; cases this)
  cases hk : frB w k with
  | true =>
    rw [if_pos rfl, cut _ (fun i hi => by rw [Bool.and_eq_true] at hi; exact hi.1), ← sum]
    refine smN_cong (fun q hq => ?_)
    show (if rest.testBit q = true then Ppr n t mk dr w f p q else 0) = (if (rest.testBit q && !((rwo n t p).testBit q)) = true then mk else 0)
    by_cases hrq : rest.testBit q = true
    · have hne : ¬ q = p := fun z => by rw [z, hpr] at hrq; cases hrq
      have h1 := hf q hq hrq
      rw [if_pos hrq, hrq, hb q hq hne]
      unfold Ppr
      rw [if_neg (fun z => hne z.symm), h1, hk]
      cases t.testBit (pn n p q) <;> simp
    · rw [if_neg hrq]
      simp [hrq]
  | false =>
    rw [if_neg (by decide), cut _ (fun i hi => by rw [Bool.and_eq_true] at hi; exact hi.1), ← sum]
    refine smN_cong (fun q hq => ?_)
    show (if rest.testBit q = true then Ppr n t mk dr w f p q else 0) = (if (rest.testBit q && (rwo n t p).testBit q) = true then dr else 0)
    by_cases hrq : rest.testBit q = true
    · have hne : ¬ q = p := fun z => by rw [z, hpr] at hrq; cases hrq
      have h1 := hf q hq hrq
      rw [if_pos hrq, hrq, hb q hq hne]
      unfold Ppr
      rw [if_neg (fun z => hne z.symm), h1, hk]
      cases t.testBit (pn n p q) <;> simp
    · rw [if_neg hrq]
      simp [hrq]
/-- nothing hinders, if and only if no pair of these is bad -/
theorem hd_iff {n b m w k p rest : Nat} {f : Nat → Nat} (hn : n < 9) (hp : p < n) (hr : rest < 2 ^ n) (hpr : rest.testBit p = false) (hf : ∀ q, q < n → rest.testBit q = true → mdB w n (f p) (f q) = frB w k) : hdB n b m w k p rest = false ↔ ∀ q, q < n → rest.testBit q = true → ¬ Bad n b m w f p q := by
  have hb : ∀ (x q : Nat), q < n → q ≠ p → (rwo n x p).testBit q = x.testBit (pn n p q) := fun x q hq hne => by
    rw [rwo_bit, rwf_at hp hne]
    simp [hq]
  unfold hdB
  rw [decide_eq_false_iff_not, Classical.not_not, and_0]
  constructor
  · intro h q hq hrq hbad
    have hne : q ≠ p := fun z => by rw [z, hpr] at hrq; cases hrq
    obtain ⟨-, h2⟩ := hbad
    rw [hf q hq hrq] at h2
    refine h q ⟨?_, hrq⟩
    cases hk : frB w k with
    | true => rw [hk, if_pos rfl] at h2; rw [if_pos rfl, hb b q hq hne]; exact h2
    | false => rw [hk, if_neg (by decide)] at h2; rw [if_neg (by decide), hb m q hq hne]; exact h2
  · intro h q ⟨h1, h2⟩
    have hq : q < n := by
      refine Classical.byContradiction (fun z => ?_)
      rw [lt_bit hr (by omega)] at h2; cases h2
    have hne : q ≠ p := fun z => by rw [z, hpr] at h2; cases h2
    refine h q hq h2 ⟨fun z => hne z.symm, ?_⟩
    rw [hf q hq h2]
    cases hk : frB w k with
    | true => rw [hk, if_pos rfl, hb b q hq hne] at h1; rw [if_pos rfl]; exact h1
    | false => rw [hk, if_neg (by decide), hb m q hq hne] at h1; rw [if_neg (by decide)]; exact h1
theorem T1_le {P : Nat → Nat → Nat} {s : Nat → Bool} {L : Nat} (hL : L ≤ 8) (h : ∀ p q, P p q ≤ 9) : T1 P s L ≤ 576 := by
  have h1 : T1 P s L ≤ L * 72 := smN_le (fun p hp => by
    by_cases q : s p = true
    · rw [if_pos q]
      have : smN (fun q => if s q = true then P p q else 0) p ≤ p * 9 := smN_le (fun x _ => by
        have := h p x
        split <;> omega)
      omega
    · rw [if_neg q]; omega)
  omega
theorem cd_le {f : Nat → Nat} {s : Nat → Bool} : ∀ L, L ≤ 8 → (∀ p, p < L → s p = true → f p ≤ 7) → cdS f s L + 8 ^ (8 - L) ≤ 16777216
  | 0, _, _ => by simp [cdS, smN]
  | L + 1, hL, h => by
    have ih := cd_le (f := f) (s := s) L (by omega) (fun p hp => h p (by omega))
    have e : cdS f s (L + 1) = cdS f s L + (if s L = true then f L * 8 ^ (7 - L) else 0) := rfl
    rw [show 8 - L = (7 - L) + 1 by omega, Nat.pow_succ] at ih
    rw [e, show 8 - (L + 1) = 7 - L by omega]
    by_cases q : s L = true
    · rw [if_pos q]
      have : f L * 8 ^ (7 - L) ≤ 7 * 8 ^ (7 - L) := Nat.mul_le_mul (h L (by omega) q) (Nat.le_refl _)
      omega
    · rw [if_neg q]; omega
theorem Ppr_le {n t mk dr w p q : Nat} {f : Nat → Nat} (h1 : mk ≤ 9) (h2 : dr ≤ 9) : Ppr n t mk dr w f p q ≤ 9 := by
  unfold Ppr
  split
  · omega
  · split
    · omega
    · split <;> omega
section DP
variable {n t b m mk dr w : Nat} {T : Nat → Nat}
/-- each row of places costs no less than the table says -/
theorem dp_low (hn : n < 9) (hw : w < 2) (hmk : mk ≤ 9) (hdr : dr ≤ 9) (h0 : T 0 = 0) (hT : ∀ x, 1 ≤ x → x < 2 ^ n → REC n t b m mk dr w T x) {f : Nat → Nat} (f1 : ∀ p, p < n → f p < n) (f2 : ∀ p q, p < n → q < n → f p = f q → p = q) (f3 : ∀ p q, p < n → q < n → ¬ Bad n b m w f p q) : ∀ (d k : Nat), k + d = n → pcnt (bs (fun p => decide (k ≤ ixp n (f p))) n) = d ∧ T (bs (fun p => decide (k ≤ ixp n (f p))) n) ≤ T1 (Ppr n t mk dr w f) (fun i => (bs (fun p => decide (k ≤ ixp n (f p))) n).testBit i) n * 16777216 + cdS f (fun i => (bs (fun p => decide (k ≤ ixp n (f p))) n).testBit i) n := by
  have hpw : 2 ^ n ≤ 2 ^ 8 := Nat.pow_le_pow_right (by decide) (by omega)
  intro d
  induction d with
  | zero =>
    intro k hk
    have hz : bs (fun p => decide (k ≤ ixp n (f p))) n = 0 := bs_0.mpr (fun p hp => decide_eq_false (by have := ixp_lt n hn _ (f1 p hp); omega))
    rw [hz, h0]
    exact ⟨ctb_0.mpr (fun i _ => Nat.zero_testBit i), Nat.zero_le _⟩
  | succ d ih =>
    intro k hk
    obtain ⟨ih1, ih2⟩ := ih (k + 1) (by omega)
    obtain ⟨r, hr, er⟩ := surj (f := fun p => ixp n (f p)) (fun p hp => ixp_lt n hn _ (f1 p hp)) (fun p q hp hq e => f2 p q hp hq (ixp_inj hn (f1 p hp) (f1 q hq) e)) (show k < n by omega)
    have bk : ∀ j i, (bs (fun p => decide (j ≤ ixp n (f p))) n).testBit i = (decide (i < n) && decide (j ≤ ixp n (f i))) := fun j i => bs_bit _ _ _
    have hun : ∀ i, i < n → ixp n (f i) = k → i = r := fun i hi e => f2 i r hi hr (ixp_inj hn (f1 i hi) (f1 r hr) (e.trans er.symm))
    generalize hS : bs (fun p => decide (k ≤ ixp n (f p))) n = S
    generalize hR : bs (fun p => decide (k + 1 ≤ ixp n (f p))) n = R at ih1 ih2
    have bS : ∀ i, S.testBit i = (decide (i < n) && decide (k ≤ ixp n (f i))) := fun i => by rw [← hS]; exact bk k i
    have bR : ∀ i, R.testBit i = (decide (i < n) && decide (k + 1 ≤ ixp n (f i))) := fun i => by rw [← hR]; exact bk (k + 1) i
    have hSl : S < 2 ^ n := by rw [← hS]; exact bs_lt _ _
    have hRl : R < 2 ^ n := by rw [← hR]; exact bs_lt _ _
    have er : ixp n (f r) = k := er
    have Sr : S.testBit r = true := by rw [bS]; simp [hr, er]
    have Rr : R.testBit r = false := by rw [bR, er]; simp
    have hrem : rem1 S r = R := by
      apply Nat.eq_of_testBit_eq
      intro i
      have : (rem1 S r).testBit i = if i = r then false else S.testBit i := stb_bit (by omega) (by omega)
      rw [this]
      by_cases e : i = r
      · rw [if_pos e, e, Rr]
      · rw [if_neg e, bS, bR]
        by_cases hi : i < n
        · have hne : ixp n (f i) ≠ k := fun z => e (hun i hi z)
          have : (k ≤ ixp n (f i)) ↔ (k + 1 ≤ ixp n (f i)) := by omega
          simp [this]
        · simp [hi]
    have hpc : pcnt S = d + 1 := by
      have := pc_rem (x := S) (p := r) (by omega) (by omega) Sr
      rw [hrem, ih1] at this
      omega
    have hmd : ∀ q, q < n → R.testBit q = true → mdB w n (f r) (f q) = frB w k := fun q hq hq2 => by
      rw [bR, Bool.and_eq_true] at hq2
      have := of_decide_eq_true hq2.2
      have h := md_ix (w := w) hn (f1 r hr) (f1 q hq) (by omega) hw
      rw [er] at h
      exact h
    have hS1 : 1 ≤ S := Nat.pos_of_ne_zero (fun z => by rw [z, Nat.zero_testBit] at Sr; cases Sr)
    have hle : T S ≤ Xv n t b m mk dr w T k r R := by
      have h := hT S hS1 hSl
      unfold REC at h
      rw [show n - pcnt S = k by omega] at h
      have this : fo (fun a b => min a b) NV (fun p => Xv n t b m mk dr w T k p (rem1 S p)) (fun p => S.testBit p) n ≤ Xv n t b m mk dr w T k r (rem1 S r) := mE_le (c := fun p => Xv n t b m mk dr w T k p (rem1 S p)) hr Sr
      rw [hrem, ← h] at this
      exact this
    have hT1 : T1 (Ppr n t mk dr w f) (fun i => R.testBit i) n ≤ 576 := T1_le (by omega) (fun p q => Ppr_le hmk hdr)
    have hcd := cd_le (f := f) (s := fun i => R.testBit i) n (by omega) (fun p hp _ => by have := f1 p hp; omega)
    have hcd2 : cdS f (fun i => R.testBit i) n ≤ 16777216 := Nat.le_trans (Nat.le_add_right _ _) hcd
    have hXv : Xv n t b m mk dr w T k r R = T R + chN n t mk dr w k r R * 16777216 + f r * 8 ^ (7 - r) := by
      unfold Xv
      rw [(hd_iff (b := b) (m := m) hn hr hRl Rr hmd).mpr (fun q hq _ => f3 r q hr hq), if_neg (by decide), if_neg (by unfold NV; omega)]
      have := spl_ix n hn (f r) (f1 r hr)
      rw [er] at this
      rw [this]
    refine ⟨hpc, ?_⟩
    have hadd : ∀ i, i < n → S.testBit i = adS (fun i => R.testBit i) r i := fun i hi => by
      show S.testBit i = (decide (i = r) || R.testBit i)
      rw [bS, bR]
      by_cases e : i = r
      · subst e; simp [hi, er]
      · have hne : ixp n (f i) ≠ k := fun z => e (hun i hi z)
        have : (k ≤ ixp n (f i)) ↔ (k + 1 ≤ ixp n (f i)) := by omega
        simp [e, this]
    have e1 : T1 (Ppr n t mk dr w f) (fun i => S.testBit i) n = T1 (Ppr n t mk dr w f) (fun i => R.testBit i) n + chN n t mk dr w k r R := by
      rw [T1_cong (P' := Ppr n t mk dr w f) (s' := adS (fun i => R.testBit i) r) hadd (fun _ _ _ _ _ _ => rfl), T1_ad Rr (fun p q => Ppr_comm), if_pos hr, ch_eq hn hr hRl Rr hmd]
    have e2 : cdS f (fun i => S.testBit i) n = cdS f (fun i => R.testBit i) n + f r * 8 ^ (7 - r) := by
      rw [cd_cong (f' := f) (s' := adS (fun i => R.testBit i) r) hadd (fun _ _ _ => rfl), cd_ad Rr hr]
    rw [hXv] at hle
    rw [e1, e2, Nat.add_mul]
    omega
/-- what the table says, some row of places costs -/
theorem dp_ex (hn : n < 9) (hw : w < 2) (h0 : T 0 = 0) (hT : ∀ x, 1 ≤ x → x < 2 ^ n → REC n t b m mk dr w T x) : ∀ (s x : Nat), x < 2 ^ n → pcnt x = s → T x ≠ NV → ∃ f : Nat → Nat, (∀ p, x.testBit p = true → f p < n ∧ n - s ≤ ixp n (f p)) ∧ (∀ p q, x.testBit p = true → x.testBit q = true → f p = f q → p = q) ∧ (∀ p q, x.testBit p = true → x.testBit q = true → ¬ Bad n b m w f p q) ∧ T x = T1 (Ppr n t mk dr w f) (fun i => x.testBit i) n * 16777216 + cdS f (fun i => x.testBit i) n := by
  have hpw : 2 ^ n ≤ 2 ^ 8 := Nat.pow_le_pow_right (by decide) (by omega)
  intro s
  induction s with
  | zero =>
    intro x hx hs hne
    have hz := pc_0 (by omega) hs
    subst hz
    have z : ∀ p, ¬ (0 : Nat).testBit p = true := fun p h => by rw [Nat.zero_testBit] at h; cases h
    refine ⟨fun _ => 0, fun p h => absurd h (z p), fun p q h => absurd h (z p), fun p q h => absurd h (z p), ?_⟩
    have e1 : T1 (Ppr n t mk dr w fun _ => 0) (fun i => (0 : Nat).testBit i) n = 0 := by
      unfold T1
      rw [smN_cong (g := fun _ => 0) (fun p _ => if_neg (z p))]
      exact smN_zero n
    have e2 : cdS (fun _ => 0) (fun i => (0 : Nat).testBit i) n = 0 := by
      unfold cdS
      rw [smN_cong (g := fun _ => 0) (fun p _ => if_neg (z p))]
      exact smN_zero n
    rw [e1, e2, h0]
  | succ s ih =>
    intro x hx hs hne
    have hsn := pc_le hn hx
    have hx1 : 1 ≤ x := Nat.pos_of_ne_zero (fun z => by
      rw [z] at hs
      have : pcnt 0 = 0 := ctb_0.mpr (fun i _ => Nat.zero_testBit i)
      omega)
    have hrec := hT x hx1 hx
    unfold REC at hrec
    rcases mE_at (c := fun p => Xv n t b m mk dr w T (n - pcnt x) p (rem1 x p)) (V := fun p => x.testBit p) (e := NV) n with q | ⟨p, hp, hbp, q⟩
    · exact absurd (hrec.trans q) hne
    · have hTx := hrec.trans q
      rw [hs] at hTx
      have hbr : ∀ i, (rem1 x p).testBit i = if i = p then false else x.testBit i := fun i => stb_bit (by omega) (by omega)
      have hpc := pc_rem (x := x) (p := p) (by omega) (by omega) hbp
      generalize hk : n - (s + 1) = k at hTx
      have hRl : rem1 x p < 2 ^ n := by
        refine Nat.lt_of_le_of_lt ?_ hx
        refine Nat.le_of_not_lt (fun z => ?_)
        have e : x = rem1 x p ||| 2 ^ p := by
          apply Nat.eq_of_testBit_eq
          intro i
          rw [Nat.testBit_or, hbr, Nat.testBit_two_pow]
          by_cases e : i = p
          · subst e; rw [if_pos rfl]; simp [hbp]
          · have e2 : ¬ p = i := fun z => e z.symm
            rw [if_neg e]; simp [e2]
        have : rem1 x p ≤ rem1 x p ||| 2 ^ p := Nat.left_le_or
        omega
      generalize hR : rem1 x p = R at *
      have Rp : R.testBit p = false := by rw [hbr, if_pos rfl]
      unfold Xv at hTx
      by_cases hh : hdB n b m w k p R = true
      · rw [if_pos hh] at hTx; exact absurd hTx hne
      · rw [if_neg hh] at hTx
        by_cases hN : T R = NV
        · rw [if_pos hN] at hTx; exact absurd hTx hne
        · rw [if_neg hN] at hTx
          obtain ⟨f0, g1, g2, g3, g4⟩ := ih R hRl (by omega) hN
          have hkn : k < n := by omega
          have hspl := spl_lt n hn k hkn
          have hixk := ix_spl n hn k hkn
          have fp : upw f0 p (spl n k) p = spl n k := if_pos rfl
          have fq : ∀ q, q ≠ p → upw f0 p (spl n k) q = f0 q := fun q hq => if_neg hq
          have xq : ∀ q, x.testBit q = true → q = p ∨ (q ≠ p ∧ R.testBit q = true) := fun q hq => by
            by_cases e : q = p
            · exact Or.inl e
            · exact Or.inr ⟨e, by rw [hbr, if_neg e]; exact hq⟩
          have Rq : ∀ q, R.testBit q = true → q ≠ p ∧ q < n := fun q hq => by
            refine ⟨fun z => ?_, Classical.byContradiction (fun z => ?_)⟩
            · rw [z, Rp] at hq; cases hq
            · rw [lt_bit hRl (by omega)] at hq; cases hq
          have hmd : ∀ q, q < n → R.testBit q = true → mdB w n (upw f0 p (spl n k) p) (upw f0 p (spl n k) q) = frB w k := fun q hq hq2 => by
            rw [fp, fq q (Rq q hq2).1]
            have h := md_ix (w := w) hn hspl (g1 q hq2).1 (by have := (g1 q hq2).2; omega) hw
            rw [hixk] at h
            exact h
          have hgood := (hd_iff (b := b) (m := m) hn hp hRl Rp hmd).mp (by simpa using hh)
          refine ⟨upw f0 p (spl n k), fun q hq => ?_, fun q q' hq hq' e => ?_, fun q q' hq hq' => ?_, ?_⟩
          · rcases xq q hq with e | ⟨e1, e2⟩
            · rw [e, fp, hixk]; exact ⟨hspl, by omega⟩
            · rw [fq q e1]; exact ⟨(g1 q e2).1, by have := (g1 q e2).2; omega⟩
          · rcases xq q hq with e1 | ⟨e1, e2⟩
            · rcases xq q' hq' with d1 | ⟨d1, d2⟩
              · omega
              · rw [e1, fp, fq q' d1] at e
                have := (g1 q' d2).2
                rw [← e, hixk] at this
                omega
            · rcases xq q' hq' with d1 | ⟨d1, d2⟩
              · rw [d1, fp, fq q e1] at e
                have := (g1 q e2).2
                rw [e, hixk] at this
                omega
              · rw [fq q e1, fq q' d1] at e
                exact g2 q q' e2 d2 e
          · rcases xq q hq with e1 | ⟨e1, e2⟩
            · rcases xq q' hq' with d1 | ⟨d1, d2⟩
              · intro hb; exact hb.1 (by omega)
              · rw [e1]; exact hgood q' (Rq q' d2).2 d2
            · rcases xq q' hq' with d1 | ⟨d1, d2⟩
              · rw [d1]; exact fun hb => hgood q (Rq q e2).2 e2 (Bad_comm hb)
              · intro hb
                refine g3 q q' e2 d2 ?_
                unfold Bad at hb ⊢
                rw [fq q e1, fq q' d1] at hb
                exact hb
          · have hadd : ∀ i, i < n → x.testBit i = adS (fun i => R.testBit i) p i := fun i _ => by
              show x.testBit i = (decide (i = p) || R.testBit i)
              rw [hbr]
              by_cases e : i = p
              · subst e; simp [hbp]
              · rw [if_neg e]; simp [e]
            have e1 : T1 (Ppr n t mk dr w (upw f0 p (spl n k))) (fun i => x.testBit i) n = T1 (Ppr n t mk dr w f0) (fun i => R.testBit i) n + chN n t mk dr w k p R := by
              rw [T1_cong (P' := Ppr n t mk dr w (upw f0 p (spl n k))) (s' := adS (fun i => R.testBit i) p) hadd (fun _ _ _ _ _ _ => rfl), T1_ad Rp (fun p q => Ppr_comm), if_pos hp, ch_eq hn hp hRl Rp hmd, T1_cong (P' := Ppr n t mk dr w f0) (s' := fun i => R.testBit i) (fun _ _ => rfl) (fun a c _ _ ha hc => by
                unfold Ppr
                rw [fq a (Rq a ha).1, fq c (Rq c hc).1])]
            have e2 : cdS (upw f0 p (spl n k)) (fun i => x.testBit i) n = cdS f0 (fun i => R.testBit i) n + spl n k * 8 ^ (7 - p) := by
              rw [cd_cong (f' := upw f0 p (spl n k)) (s' := adS (fun i => R.testBit i) p) hadd (fun _ _ _ => rfl), cd_ad Rp hp, fp, cd_cong (f' := f0) (s' := fun i => R.testBit i) (fun _ _ => rfl) (fun a _ ha => fq a (Rq a ha).1)]
            rw [hTx, e1, e2, g4, Nat.add_mul]
            omega
end DP
