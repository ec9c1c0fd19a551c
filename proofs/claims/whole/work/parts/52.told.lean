/-! PURE 33: the class's search by counts told -/
def ofN (n : Nat) (sd : Nat → Nat) (x p : Nat) : Nat := bs (fun q => decide (dgr n x q ≠ sd q)) p
def cof (n : Nat) (sd : Nat → Nat) (x p : Nat) : Nat := ctb (fun q => decide (dgr n x q ≠ sd q)) p
theorem ctb_0 {f : Nat → Bool} : ∀ {k}, ctb f k = 0 ↔ ∀ i, i < k → f i = false
  | 0 => ⟨fun _ i hi => by omega, fun _ => rfl⟩
  | k + 1 => by
    rw [ctb]
    constructor
    · intro h i hi
      by_cases e : i = k
      · subst e
        cases hf : f i
        · rfl
        · rw [hf] at h; simp at h
      · exact (ctb_0 (k := k)).mp (by omega) i (by omega)
    · intro h
      rw [(ctb_0 (k := k)).mpr (fun i hi => h i (by omega)), h k (by omega)]; rfl
theorem bs_0 {f : Nat → Bool} {k : Nat} : bs f k = 0 ↔ ∀ i, i < k → f i = false := by
  constructor
  · intro h i hi
    have := bs_bit f i k
    rw [h, Nat.zero_testBit] at this
    simpa [hi] using this.symm
  · intro h
    apply Nat.eq_of_testBit_eq
    intro i
    rw [bs_bit, Nat.zero_testBit]
    by_cases hi : i < k
    · simp [h i hi]
    · simp [hi]
theorem of_0 {n x p : Nat} {sd : Nat → Nat} : ofN n sd x p = 0 ↔ cof n sd x p = 0 := bs_0.trans ctb_0.symm
theorem of_lt {n x p : Nat} {sd : Nat → Nat} (hp : p < 9) : ofN n sd x p < 2 ^ 8 := Nat.lt_of_lt_of_le (bs_lt _ _) (Nat.pow_le_pow_right (by decide) (by omega))
theorem of_bc {n x p : Nat} {sd : Nat → Nat} (hp : p < 9) : f_In_bitCount (nI (ofN n sd x p)) = nI (cof n sd x p) := bc_bs (by omega)
def g0 (n : Nat) (sd : Nat → Nat) (t : Nat) : Bool := decide (cof n sd t n = 0)
def g1 (w n : Nat) (sd : Nat → Nat) (t : Nat) : Bool := decide (w = 1 ∧ cof n sd t n = 1)
def fC (n : Nat) (sd : Nat → Nat) (V : Nat → Bool) (K : Nat) : Int32 := fo (fun a b => a + b) 0 (fun _ => 1) (fun t => V t && g0 n sd t) K
def fA (n : Nat) (sd : Nat → Nat) (V : Nat → Bool) (K : Nat) : Int32 := fo (fun a b => a &&& b) (-1) (fun t => nI t) (fun t => V t && g0 n sd t) K
def fR (n : Nat) (sd : Nat → Nat) (V : Nat → Bool) (K : Nat) : Int32 := fo (fun a b => a ||| b) 0 (fun t => nI t) (fun t => V t && g0 n sd t) K
def fL (w n : Nat) (sd : Nat → Nat) (V : Nat → Bool) (K : Nat) : Int32 := fo (fun a b => a ||| b) 0 (fun t => nI (ofN n sd t n)) (fun t => V t && g1 w n sd t) K
def toM (w n : Nat) (sd : Nat → Nat) (V : Nat → Bool) (Mb : Mm) : Mm := (fun a j => if a = 20 ∧ j = 13 then fC n sd V (2 ^ np n) else if a = 20 ∧ j = 14 then fA n sd V (2 ^ np n) else if a = 20 ∧ j = 15 then fR n sd V (2 ^ np n) else if a = 20 ∧ j = 16 then fL w n sd V (2 ^ np n) else Mb.1 a j, Mb.2)
theorem vb_up (v e : Bool) (r row : Nat) : ((v || (e && decide (r < row))) || (e && decide (r = row))) = (v || (e && decide (r < row + 1))) := by
  cases v
  · cases e
    · rfl
    · by_cases q1 : r < row
      · have q2 : r < row + 1 := by omega
        simp [q1, q2]
      · by_cases q3 : r = row
        · simp [q3]
        · have q2 : ¬ r < row + 1 := by omega
          simp [q1, q2, q3]
  · rfl
section TOLD
variable {w n : Nat} {sd : Nat → Nat} {V W : Nat → Bool} {Mb : Mm}
theorem to_13 : (toM w n sd V Mb).1 20 13 = fC n sd V (2 ^ np n) := by
  have e : (toM w n sd V Mb).1 20 13 = (if (20 : Nat) = 20 ∧ (13 : Nat) = 13 then fC n sd V (2 ^ np n) else if (20 : Nat) = 20 ∧ (13 : Nat) = 14 then fA n sd V (2 ^ np n) else if (20 : Nat) = 20 ∧ (13 : Nat) = 15 then fR n sd V (2 ^ np n) else if (20 : Nat) = 20 ∧ (13 : Nat) = 16 then fL w n sd V (2 ^ np n) else Mb.1 20 13) := rfl
  rw [e, if_pos ⟨rfl, rfl⟩]
theorem to_14 : (toM w n sd V Mb).1 20 14 = fA n sd V (2 ^ np n) := by
  have e : (toM w n sd V Mb).1 20 14 = (if (20 : Nat) = 20 ∧ (14 : Nat) = 13 then fC n sd V (2 ^ np n) else if (20 : Nat) = 20 ∧ (14 : Nat) = 14 then fA n sd V (2 ^ np n) else if (20 : Nat) = 20 ∧ (14 : Nat) = 15 then fR n sd V (2 ^ np n) else if (20 : Nat) = 20 ∧ (14 : Nat) = 16 then fL w n sd V (2 ^ np n) else Mb.1 20 14) := rfl
  rw [e, if_neg (by decide), if_pos ⟨rfl, rfl⟩]
theorem to_15 : (toM w n sd V Mb).1 20 15 = fR n sd V (2 ^ np n) := by
  have e : (toM w n sd V Mb).1 20 15 = (if (20 : Nat) = 20 ∧ (15 : Nat) = 13 then fC n sd V (2 ^ np n) else if (20 : Nat) = 20 ∧ (15 : Nat) = 14 then fA n sd V (2 ^ np n) else if (20 : Nat) = 20 ∧ (15 : Nat) = 15 then fR n sd V (2 ^ np n) else if (20 : Nat) = 20 ∧ (15 : Nat) = 16 then fL w n sd V (2 ^ np n) else Mb.1 20 15) := rfl
  rw [e, if_neg (by decide), if_neg (by decide), if_pos ⟨rfl, rfl⟩]
theorem to_16 : (toM w n sd V Mb).1 20 16 = fL w n sd V (2 ^ np n) := by
  have e : (toM w n sd V Mb).1 20 16 = (if (20 : Nat) = 20 ∧ (16 : Nat) = 13 then fC n sd V (2 ^ np n) else if (20 : Nat) = 20 ∧ (16 : Nat) = 14 then fA n sd V (2 ^ np n) else if (20 : Nat) = 20 ∧ (16 : Nat) = 15 then fR n sd V (2 ^ np n) else if (20 : Nat) = 20 ∧ (16 : Nat) = 16 then fL w n sd V (2 ^ np n) else Mb.1 20 16) := rfl
  rw [e, if_neg (by decide), if_neg (by decide), if_neg (by decide), if_pos ⟨rfl, rfl⟩]
theorem to_off {a j : Nat} (h : ¬ (a = 20 ∧ 13 ≤ j ∧ j ≤ 16)) : (toM w n sd V Mb).1 a j = Mb.1 a j := by
  show (if a = 20 ∧ j = 13 then _ else if a = 20 ∧ j = 14 then _ else if a = 20 ∧ j = 15 then _ else if a = 20 ∧ j = 16 then _ else _) = _
  rw [if_neg (by omega), if_neg (by omega), if_neg (by omega), if_neg (by omega)]
theorem to_eq (h1 : fC n sd V (2 ^ np n) = fC n sd W (2 ^ np n)) (h2 : fA n sd V (2 ^ np n) = fA n sd W (2 ^ np n)) (h3 : fR n sd V (2 ^ np n) = fR n sd W (2 ^ np n)) (h4 : fL w n sd V (2 ^ np n) = fL w n sd W (2 ^ np n)) : toM w n sd V Mb = toM w n sd W Mb := by
  unfold toM
  rw [h1, h2, h3, h4]
theorem to_cong (h : ∀ t, t < 2 ^ np n → V t = W t) : toM w n sd V Mb = toM w n sd W Mb :=
  to_eq (fo_cong (fun t ht => by rw [h t ht])) (fo_cong (fun t ht => by rw [h t ht])) (fo_cong (fun t ht => by rw [h t ht])) (fo_cong (fun t ht => by rw [h t ht]))
theorem to_prune {p x : Nat} (h : ∀ t, t < 2 ^ np n → ext n p x t = true → g0 n sd t = false ∧ g1 w n sd t = false) : toM w n sd (fun t => V t || ext n p x t) Mb = toM w n sd V Mb := by
  have k0 : ∀ t, t < 2 ^ np n → ((V t || ext n p x t) && g0 n sd t) = (V t && g0 n sd t) := fun t ht => by
    cases he : ext n p x t
    · rw [Bool.or_false]
    · rw [(h t ht he).1, Bool.and_false, Bool.and_false]
  have k1 : ∀ t, t < 2 ^ np n → ((V t || ext n p x t) && g1 w n sd t) = (V t && g1 w n sd t) := fun t ht => by
    cases he : ext n p x t
    · rw [Bool.or_false]
    · rw [(h t ht he).2, Bool.and_false, Bool.and_false]
  exact to_eq (fo_cong k0) (fo_cong k0) (fo_cong k0) (fo_cong k1)
theorem ext_n {x t : Nat} (hn : n < 9) (ht : t < 2 ^ np n) : ext n n x t = decide (t = x) := by
  unfold ext
  rw [pr_end n hn, Nat.mod_eq_of_lt ht]
theorem fo_lf {β : Type} {op : β → β → β} {e : β} {c : Nat → β} {g : Nat → Bool} {x : Nat} (hop : ∀ a b d, op (op a b) d = op (op a d) b) (hn : n < 9) (hx : x < 2 ^ np n) (hV : V x = false) (hg : g x = true) : fo op e c (fun t => (V t || ext n n x t) && g t) (2 ^ np n) = op (fo op e c (fun t => V t && g t) (2 ^ np n)) (c x) := by
  refine fo_ins hop hx (by rw [hV]; rfl) (by rw [ext_n hn hx, hg]; simp) (fun t ht hne => ?_)
  rw [ext_n hn ht]
  simp [hne]
theorem fo_lfn {β : Type} {op : β → β → β} {e : β} {c : Nat → β} {g : Nat → Bool} {x : Nat} (hn : n < 9) (hg : g x = false) : fo op e c (fun t => (V t || ext n n x t) && g t) (2 ^ np n) = fo op e c (fun t => V t && g t) (2 ^ np n) := by
  refine fo_cong (fun t ht => ?_)
  rw [ext_n hn ht]
  by_cases hne : t = x
  · subst hne; rw [hg]; simp
  · simp [hne]
theorem ac_I (a b d : Int32) : a + b + d = a + d + b := by rw [Int32.add_assoc, Int32.add_comm b, ← Int32.add_assoc]
theorem cc_I (a b d : Int32) : a &&& b &&& d = a &&& d &&& b := by rw [Int32.and_assoc, Int32.and_comm b, ← Int32.and_assoc]
theorem oc_I (a b d : Int32) : a ||| b ||| d = a ||| d ||| b := by rw [Int32.or_assoc, Int32.or_comm b, ← Int32.or_assoc]
/-- a whole town is looked at -/
theorem note_I {x : Nat} (hn : n < 7) (hx : x < 2 ^ np n) (hV : V x = false) (hc : cof n sd x n ≤ w) (hw : w ≤ 1) : f_Se_noteTold (nI x) (nI (ofN n sd x n)) (toM w n sd V Mb) = toM w n sd (fun t => V t || ext n n x t) Mb := by
  have hol : ofN n sd x n < 2 ^ 31 := Nat.lt_trans (of_lt (by omega)) (by decide)
  have hn9 : n < 9 := by omega
  unfold f_Se_noteTold
  dsimp only [lt]
  by_cases z : cof n sd x n = 0
  · have z0 : g0 n sd x = true := by simp [g0, z]
    have z1 : g1 w n sd x = false := by simp [g1, z]
    rw [if_pos ((nI0_iff hol).mpr (of_0.mpr z)), si_k _ _ (show (14 : Nat) ≠ 13 by decide), si_k _ _ (show (15 : Nat) ≠ 14 by decide), si_k _ _ (show (15 : Nat) ≠ 13 by decide), to_13, to_14, to_15]
    have e1 : fC n sd V (2 ^ np n) + 1 = fC n sd (fun t => V t || ext n n x t) (2 ^ np n) := (fo_lf (c := fun _ => (1 : Int32)) ac_I hn9 hx hV z0).symm
    have e2 : fA n sd V (2 ^ np n) &&& nI x = fA n sd (fun t => V t || ext n n x t) (2 ^ np n) := (fo_lf (c := fun t => nI t) cc_I hn9 hx hV z0).symm
    have e3 : fR n sd V (2 ^ np n) ||| nI x = fR n sd (fun t => V t || ext n n x t) (2 ^ np n) := (fo_lf (c := fun t => nI t) oc_I hn9 hx hV z0).symm
    have e4 : fL w n sd V (2 ^ np n) = fL w n sd (fun t => V t || ext n n x t) (2 ^ np n) := (fo_lfn (c := fun t => nI (ofN n sd t n)) hn9 z1).symm
    rw [e1, e2, e3]
    refine mm_ext (fun a j => ?_) rfl
    rw [si1, si1, si1]
    by_cases h3 : a = 20 ∧ j = 15
    · rw [if_pos h3, h3.1, h3.2, to_15]
    · rw [if_neg h3]
      by_cases h2 : a = 20 ∧ j = 14
      · rw [if_pos h2, h2.1, h2.2, to_14]
      · rw [if_neg h2]
        by_cases h1 : a = 20 ∧ j = 13
        · rw [if_pos h1, h1.1, h1.2, to_13]
        · rw [if_neg h1]
          by_cases h4 : a = 20 ∧ j = 16
          · rw [h4.1, h4.2, to_16, to_16, e4]
          · rw [to_off (by omega), to_off (by omega)]
  · have hc1 : cof n sd x n = 1 := by omega
    have hw1 : w = 1 := by omega
    have z0 : g0 n sd x = false := by simp [g0, z]
    have z1 : g1 w n sd x = true := by simp [g1, hw1, hc1]
    rw [if_neg (fun v => z (of_0.mp ((nI0_iff hol).mp v))), to_16]
    have e1 : fC n sd V (2 ^ np n) = fC n sd (fun t => V t || ext n n x t) (2 ^ np n) := (fo_lfn (c := fun _ => (1 : Int32)) hn9 z0).symm
    have e2 : fA n sd V (2 ^ np n) = fA n sd (fun t => V t || ext n n x t) (2 ^ np n) := (fo_lfn (c := fun t => nI t) hn9 z0).symm
    have e3 : fR n sd V (2 ^ np n) = fR n sd (fun t => V t || ext n n x t) (2 ^ np n) := (fo_lfn (c := fun t => nI t) hn9 z0).symm
    have e4 : fL w n sd V (2 ^ np n) ||| nI (ofN n sd x n) = fL w n sd (fun t => V t || ext n n x t) (2 ^ np n) := (fo_lf (c := fun t => nI (ofN n sd t n)) oc_I hn9 hx hV z1).symm
    rw [e4]
    refine mm_ext (fun a j => ?_) rfl
    rw [si1]
    by_cases h4 : a = 20 ∧ j = 16
    · rw [if_pos h4, h4.1, h4.2, to_16]
    · rw [if_neg h4]
      by_cases h3 : a = 20 ∧ j = 15
      · rw [h3.1, h3.2, to_15, to_15, e3]
      · by_cases h2 : a = 20 ∧ j = 14
        · rw [h2.1, h2.2, to_14, to_14, e2]
        · by_cases h1 : a = 20 ∧ j = 13
          · rw [h1.1, h1.2, to_13, to_13, e1]
          · rw [to_off (by omega), to_off (by omega)]
theorem SS.to {t b m mk dr : Nat} (h : SS n t b m mk dr sd Mb) : SS n t b m mk dr sd (toM w n sd V Mb) := by
  obtain ⟨h1, h2, h3, h4, h5, h6, h7, h8, h9⟩ := h
  exact ⟨(to_off (by omega)).trans h1, (to_off (by omega)).trans h2, (to_off (by omega)).trans h3, (to_off (by omega)).trans h4, (to_off (by omega)).trans h5, (to_off (by omega)).trans h6, fun p hp => (to_off (by omega)).trans (h7 p hp), fun p hp => (to_off (by omega)).trans (h8 p hp), fun p hp => (to_off (by omega)).trans (h9 p hp)⟩
theorem of_agr {t x p : Nat} (hn : n < 7) (hp : p ≤ n) (h : ∀ k, k < pr0 n p → t.testBit k = x.testBit k) : ofN n sd t p = ofN n sd x p ∧ cof n sd t p = cof n sd x p := by
  have hd : ∀ q, q < p → dgr n t q = dgr n x q := fun q hq => by
    obtain ⟨p', rfl⟩ : ∃ p', p = p' + 1 := ⟨p - 1, by omega⟩
    exact dgr_agr hn (by omega) (by omega) h
  exact ⟨bs_cong (fun q hq => by rw [hd q hq]), ctb_cong (fun q hq => by rw [hd q hq])⟩
theorem cof_mono {x p d : Nat} : cof n sd x p ≤ cof n sd x (p + d) := ctb_mono d
theorem sdb {p : Nat} (hs : ∀ p, sd p ≤ 7) : sd p < 2 ^ 31 := by have := hs p; omega
/-- the class's search from a person on -/
theorem told_node {t b m mk dr : Nat} (hn : n < 7) (hw : w ≤ 1) (hs : ∀ p, sd p ≤ 7) (hS : SS n t b m mk dr sd Mb) (h9 : Mb.1 20 9 = nI w) : ∀ (d p x : Nat) (V : Nat → Bool), p + d = n → x < 2 ^ pr0 n p → cof n sd x p ≤ w → (∀ t, t < 2 ^ np n → ext n p x t = true → V t = false) → ∀ N dd, 100 < N → d < dd → f_Se_toldFrom N dd (nI p) (nI x) (nI (ofN n sd x p)) (toM w n sd V Mb) = some (toM w n sd (fun t => V t || ext n p x t) Mb) := by
  intro d
  induction d with
  | zero =>
    intro p x V hp hx hc hV N dd hN hdd
    obtain ⟨dd, rfl⟩ : ∃ v, dd = v + 1 := ⟨dd - 1, by omega⟩
    have hp : p = n := by omega
    subst hp
    have hx2 : x < 2 ^ np p := by rw [← pr_end p (by omega)]; exact hx
    rw [f_Se_toldFrom, (SS.to hS).1, if_neg (nI_nlt (Nat.le_refl p) (by omega))]
    dsimp only [lt]
    rw [note_I hn hx2 (hV x hx2 (by rw [ext_n (by omega) hx2]; simp)) hc hw]
  | succ d ih =>
    intro p x V hp hx hc hV N dd hN hdd
    obtain ⟨dd, rfl⟩ : ∃ v, dd = v + 1 := ⟨dd - 1, by omega⟩
    have hpn : p < n := by omega
    have hK := pr_next n (by omega) p hpn
    have hK1 := pr_lt1 hn (show p + 1 < n + 1 by omega)
    have hnp : pr0 n (p + 1) ≤ np n := pr_np n (by omega) (p + 1) (by omega)
    have loop : ∀ (e row nu : Nat), row + e = 2 ^ (n - 1 - p) → e < nu → L_Se_toldFrom_25 N (nI p) (nI x) (nI (ofN n sd x p)) (nI (2 ^ (n - 1 - p))) (f_Se_toldFrom N dd) nu (nI row) (toM w n sd (fun t => V t || (ext n p x t && decide (t / 2 ^ pr0 n p % 2 ^ (n - 1 - p) < row))) Mb) = some (toM w n sd (fun t => V t || ext n p x t) Mb) := by
      have hpw : 2 ^ (n - 1 - p) ≤ 2 ^ 5 := Nat.pow_le_pow_right (by decide) (by omega)
      intro e
      induction e with
      | zero =>
        intro row nu hrow hnu
        obtain ⟨nu, rfl⟩ : ∃ v, nu = v + 1 := ⟨nu - 1, by omega⟩
        have hrow : row = 2 ^ (n - 1 - p) := by omega
        subst hrow
        rw [L_Se_toldFrom_25, if_pos (nI_le (Nat.le_refl _) (by omega))]
        congr 1
        refine to_cong (fun t ht => ?_)
        have : t / 2 ^ pr0 n p % 2 ^ (n - 1 - p) < 2 ^ (n - 1 - p) := Nat.mod_lt _ (Nat.two_pow_pos _)
        simp [this]
      | succ e ihe =>
        intro row nu hrow hnu
        obtain ⟨nu, rfl⟩ : ∃ v, nu = v + 1 := ⟨nu - 1, by omega⟩
        have hrl : row < 2 ^ (n - 1 - p) := by omega
        have ih2 := ihe (row + 1) nu (by omega) (by omega)
        generalize hV' : (fun t => V t || (ext n p x t && decide (t / 2 ^ pr0 n p % 2 ^ (n - 1 - p) < row))) = V'
        have hSM : SS n t b m mk dr sd (toM w n sd V' Mb) := SS.to hS
        have hK2 : pr0 n p + (n - 1 - p) = pr0 n (p + 1) := by omega
        have hpK : 2 ^ pr0 n p * 2 ^ (n - 1 - p) = 2 ^ pr0 n (p + 1) := by rw [← Nat.pow_add, hK2]
        have hp15 : 2 ^ pr0 n (p + 1) ≤ 2 ^ 15 := Nat.pow_le_pow_right (by decide) hK1
        have hrm : row * 2 ^ pr0 n p + 2 ^ pr0 n p ≤ 2 ^ pr0 n (p + 1) := by
          rw [← hpK, Nat.mul_comm (2 ^ pr0 n p), ← Nat.succ_mul]
          exact Nat.mul_le_mul hrl (Nat.le_refl _)
        have hx' : x + row * 2 ^ pr0 n p < 2 ^ pr0 n (p + 1) := by omega
        have hext : ∀ t, ext n (p + 1) (x + row * 2 ^ pr0 n p) t = (ext n p x t && decide (t / 2 ^ pr0 n p % 2 ^ (n - 1 - p) = row)) := fun t => by
          unfold ext
          rw [← hK2]
          have := ext_split (t := t) hx hrl
          by_cases q : t % 2 ^ (pr0 n p + (n - 1 - p)) = x + row * 2 ^ pr0 n p
          · simp [q, this.mp q]
          · have q2 := fun z => q (this.mpr z)
            by_cases q3 : t % 2 ^ pr0 n p = x
            · have q4 : ¬ t / 2 ^ pr0 n p % 2 ^ (n - 1 - p) = row := fun z => q2 ⟨q3, z⟩
              simp [q, q4]
            · simp [q, q3]
        have hup : toM w n sd (fun t => V' t || ext n (p + 1) (x + row * 2 ^ pr0 n p) t) Mb = toM w n sd (fun t => V t || (ext n p x t && decide (t / 2 ^ pr0 n p % 2 ^ (n - 1 - p) < row + 1))) Mb := to_cong (fun t _ => by
          rw [hext, ← hV']
          exact vb_up _ _ _ _)
        have hxb : ∀ k, k < pr0 n p → (x + row * 2 ^ pr0 n p).testBit k = x.testBit k := mod_bits (by rw [Nat.add_mul_mod_self_right, Nat.mod_eq_of_lt hx])
        obtain ⟨ho1, ho2⟩ := of_agr (sd := sd) hn (show p ≤ n by omega) hxb
        have hnx := nx_I (row := row) hx (by omega) (by omega)
        generalize hX : x + row * 2 ^ pr0 n p = x' at *
        have hx15 : x' < 2 ^ 15 := by omega
        have hd7 : dgr n x' p ≤ n := dgr_le
        have hoff : (if nI (dgr n x' p) = nI (sd p) then nI (ofN n sd x p) else nI (ofN n sd x p) ||| ((1 : Int32) <<< (nI p &&& 31))) = nI (ofN n sd x' (p + 1)) := by
          rw [← ho1]
          by_cases q : dgr n x' p = sd p
          · rw [if_pos (by rw [q])]
            congr 1
            exact bs_no (by simp [q])
          · rw [if_neg (fun z => q ((nI_eq (by omega) (sdb hs)).mp z)), one_sl (by omega), or_I]
            congr 1
            exact bs_or (by simp [q])
        have step : L_Se_toldFrom_25 N (nI p) (nI x) (nI (ofN n sd x p)) (nI (2 ^ (n - 1 - p))) (f_Se_toldFrom N dd) (nu + 1) (nI row) (toM w n sd V' Mb) = if nI w < nI (cof n sd x' (p + 1)) then L_Se_toldFrom_25 N (nI p) (nI x) (nI (ofN n sd x p)) (nI (2 ^ (n - 1 - p))) (f_Se_toldFrom N dd) nu (nI (row + 1)) (toM w n sd V' Mb) else (f_Se_toldFrom N dd (nI (p + 1)) (nI x') (nI (ofN n sd x' (p + 1))) (toM w n sd V' Mb)).bind fun vu14 => L_Se_toldFrom_25 N (nI p) (nI x) (nI (ofN n sd x p)) (nI (2 ^ (n - 1 - p))) (f_Se_toldFrom N dd) nu (nI (row + 1)) vu14 := by
          rw [L_Se_toldFrom_25, if_neg (nI_ge (by omega) (by omega)), if_pos (inb_nI (show p < 7 by omega) (by decide))]
          dsimp only [lt]
          rw [ix_nI (show p < 2 ^ 31 by omega), hSM.2.2.2.2.2.2.2.1 p (by omega), hnx, cin_I hSM hn hpn hx15, bnd_s, if_pos (inb_nI (show p < 6 by omega) (by decide)), hSM.2.2.2.2.2.2.2.2 p hpn, to_off (show ¬ ((20 : Nat) = 20 ∧ 13 ≤ 9 ∧ 9 ≤ 16) by omega), h9, nI_1, nI_1]
          have hb := of_bc (n := n) (x := x') (sd := sd) (p := p + 1) (by omega)
          rw [← hoff] at hb ⊢
          rw [← hb]
          by_cases q : nI (dgr n x' p) = nI (sd p)
          · rw [if_pos q, if_pos q]
          · rw [if_neg q, if_neg q]
        rw [step]
        by_cases q : w < cof n sd x' (p + 1)
        · have hcl : cof n sd x' (p + 1) ≤ p + 1 := ctb_le _ _
          rw [if_pos (nI_lt q (by omega))]
          have hpr : toM w n sd (fun t => V' t || ext n (p + 1) x' t) Mb = toM w n sd V' Mb := to_prune (fun t ht he => by
            have hb := mod_bits (of_decide_eq_true he)
            have h1 := (of_agr (sd := sd) hn (show p + 1 ≤ n by omega) hb).2
            have h2 := cof_mono (n := n) (sd := sd) (x := t) (p := p + 1) (d := n - (p + 1))
            rw [show p + 1 + (n - (p + 1)) = n by omega] at h2
            have h3 : w < cof n sd t n := by omega
            refine ⟨?_, ?_⟩
            · have : ¬ cof n sd t n = 0 := by omega
              simp [g0, this]
            · have : ¬ (w = 1 ∧ cof n sd t n = 1) := by omega
              simp [g1, this])
          rw [← hpr, hup]
          exact ih2
        · rw [if_neg (nI_nlt (by omega) (by omega)), ih (p + 1) x' V' (by omega) hx' (by omega) (fun t ht he => by
            rw [hext] at he
            have h1 : ext n p x t = true := by
              cases hq : ext n p x t
              · rw [hq] at he; cases he
              · rfl
            have h2 : t / 2 ^ pr0 n p % 2 ^ (n - 1 - p) = row := by
              rw [h1, Bool.true_and] at he
              exact of_decide_eq_true he
            rw [← hV']
            show (V t || (ext n p x t && decide (t / 2 ^ pr0 n p % 2 ^ (n - 1 - p) < row))) = false
            rw [hV t ht h1, h2]
            simp) N dd hN (by omega), bnd_s, hup]
          exact ih2
    rw [f_Se_toldFrom, (SS.to hS).1, if_pos (nI_lt hpn (by omega))]
    dsimp only [lt]
    rw [rows_I (SS.to hS) hn hpn]
    have h0 := loop (2 ^ (n - 1 - p)) 0 N (by omega) (by
      have : 2 ^ (n - 1 - p) ≤ 2 ^ 5 := Nat.pow_le_pow_right (by decide) (by omega)
      omega)
    rw [to_cong (W := V) (fun t _ => by simp)] at h0
    exact h0
end TOLD
