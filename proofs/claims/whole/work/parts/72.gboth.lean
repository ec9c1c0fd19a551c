/-! PURE 53: class and reference make good alike -/
def PRM (n : Nat) (g : Nat → Nat) : Prop := (∀ q, q < n → g q < n) ∧ ∀ q q', q < n → q' < n → g q = g q' → q = q'
theorem smN_ge {f : Nat → Nat} {k : Nat} : ∀ {n}, k < n → f k ≤ smN f n
  | 0, h => absurd h (by omega)
  | n + 1, h => by
    rw [smN]
    by_cases e : k = n
    · subst e; omega
    · have := smN_ge (f := f) (k := k) (n := n) (by omega); omega
theorem bd_Bad {n b m w p q : Nat} {f : Nat → Nat} (h : p ≠ q) : bdB n b m w f p q = true ↔ Bad n b m w f p q := ⟨fun z => ⟨h, z⟩, fun z => z.2⟩
section GB
variable {n t b m mk dr w : Nat}
theorem ps_ok {g : Nat → Nat} (h : OKP n b m w g) : PS n t b m mk dr w g n = TC n t mk dr w g := by
  unfold PS TC T1 cl
  refine smN_cong (fun p hp => ?_)
  rw [if_pos (show tt p = true from rfl)]
  refine smN_cong (fun q hq => ?_)
  rw [if_pos (show tt q = true from rfl)]
  unfold Pb
  rw [if_neg (fun z => h.2.2 p q hp (by omega) ((bd_Bad (by omega)).mp z))]
theorem ps_bad {g : Nat → Nat} (h : PRM n g) (hno : ¬ OKP n b m w g) : 1000000 ≤ PS n t b m mk dr w g n := by
  have : ∃ p q, p < n ∧ q < p ∧ Bad n b m w g p q := Classical.byContradiction (fun hne => hno ⟨h.1, h.2, fun p q hp hq hb => by
    rcases Nat.lt_trichotomy p q with e | e | e
    · exact hne ⟨q, p, hq, e, Bad_comm hb⟩
    · exact hb.1 e
    · exact hne ⟨p, q, hp, e, hb⟩⟩)
  obtain ⟨p, q, hp, hq, hb⟩ := this
  have h1 : Pb n t b m mk dr w g p q = 1000000 := if_pos ((bd_Bad (by omega)).mpr hb)
  have h2 : Pb n t b m mk dr w g p q ≤ cl n t b m mk dr w g p := smN_ge (f := fun q => Pb n t b m mk dr w g p q) hq
  have h3 : cl n t b m mk dr w g p ≤ PS n t b m mk dr w g n := smN_ge (f := fun p => cl n t b m mk dr w g p) hp
  omega
/-- what a way of the reference does -/
def WR (n t b m mk dr w B B' : Nat) (M M' : Mm) : Prop := (B' = B ∧ M'.1 49 26 = M.1 49 26 ∧ (∀ j, M'.1 55 j = M.1 55 j) ∧ ∀ g, OKP n b m w g → B ≤ TC n t mk dr w g) ∨ (∃ g, OKP n b m w g ∧ B' = TC n t mk dr w g ∧ B' < B ∧ M'.1 49 26 = nI w ∧ (∀ q, q < n → M'.1 55 q = nI (g q)) ∧ ∀ g', OKP n b m w g' → TC n t mk dr w g < TC n t mk dr w g' ∨ (TC n t mk dr w g = TC n t mk dr w g' ∧ CD n g ≤ CD n g'))
theorem fpl_I {M : Mm} {B : Nat} (hn : n < 9) (hn1 : 1 ≤ n) (hw : w < 2) (ht : t < 2 ^ 31) (hb : b < 2 ^ 31) (hm : m < 2 ^ 31) (hmk : mk ≤ 9) (hdr : dr ≤ 9) (h4 : M.1 49 4 = nI mk) (h5 : M.1 49 5 = nI dr) (h27 : M.1 49 27 = nI B) (hB : B ≤ 1000000) : ∃ K M' B', (∀ N, K < N → f_Mo_findPlaces N (nI n) (nI t) (nI b) (nI m) (nI w) M = some M') ∧ WR n t b m mk dr w B B' M M' ∧ B' ≤ 1000000 ∧ M'.1 49 27 = nI B' ∧ ∀ a j, a ≠ 53 → a ≠ 54 → a ≠ 55 → ¬ (a = 49 ∧ (j = 26 ∨ j = 27)) → M'.1 a j = M.1 a j := by
  generalize hA : si (si M 54 0 0) 53 0 (-1) = A
  have oA : ∀ a j, a ≠ 53 → a ≠ 54 → A.1 a j = M.1 a j := fun a j q1 q2 => by rw [← hA, si_a _ _ q1, si_a _ _ q2]
  obtain ⟨K, M', B', k1, k2, k3, k4, k5, k6, k7⟩ := lev (t := t) (b := b) (m := m) hn hw ht hb hm hmk hdr n 0 (by omega) hn1 n 0 (by omega) (fun _ => 0) A B ((oA _ _ (by decide) (by decide)).trans h4) ((oA _ _ (by decide) (by decide)).trans h5) (fun q hq => by omega) (fun q hq => by omega) (fun q q' hq => by omega) (by rw [← hA, si_s]; decide) (by rw [← hA, si_a _ _ (by decide), si_s]; rfl) ((oA _ _ (by decide) (by decide)).trans h27) hB
  refine ⟨K + 101, M', B', fun N hN => ?_, ?_, k3, k6, fun a j q1 q2 q3 q4 => by rw [k7 a j q1 q2 q3 q4, oA a j q1 q2]⟩
  · unfold f_Mo_findPlaces
    dsimp only [lt]
    obtain ⟨nu, hnu⟩ : ∃ nu, N = nu + 1 + K := ⟨N - 1 - K, by omega⟩
    have e : L_Mo_findPlaces_17 N (nI n) (nI t) (nI b) (nI m) (nI w) N (nI 0) A = L_Mo_findPlaces_17 N (nI n) (nI t) (nI b) (nI m) (nI w) (nu + 1 + K) (nI 0) A := by rw [← hnu]
    have e2 : L_Mo_findPlaces_17 N (nI n) (nI t) (nI b) (nI m) (nI w) N (nI 0) A = some M' := by
      rw [e, k1 N (nu + 1) (by omega), L_Mo_findPlaces_17, if_pos (by decide)]
    have e3 : si (si M 54 (Int32.toNatClampNeg 0) 0) 53 (Int32.toNatClampNeg 0) (-1) = A := hA
    rw [e3]
    exact e2
  · have hQ : ∀ g, PRM n g → RG n 0 0 (fun _ => 0) g := fun g hg => ⟨fun q hq => by omega, by omega, hg.1, hg.2⟩
    rcases k2 with ⟨a1, a2, a3, a4⟩ | ⟨g, a0, a1, a2, a3, a4, a5⟩
    · refine Or.inl ⟨a1, a2.trans (oA _ _ (by decide) (by decide)), fun j => (a3 j).trans (oA _ _ (by decide) (by decide)), fun g hg => ?_⟩
      rw [← ps_ok (t := t) (mk := mk) (dr := dr) hg]
      exact a4 g (hQ g ⟨hg.1, hg.2.1⟩)
    · have hOK : OKP n b m w g := Classical.byContradiction (fun hno => by
        have := ps_bad (t := t) (mk := mk) (dr := dr) ⟨a0.2.2.1, a0.2.2.2⟩ hno
        omega)
      refine Or.inr ⟨g, hOK, by rw [a1, ps_ok hOK], a2, a3, a4, fun g' hg' => ?_⟩
      have := a5 g' (hQ g' ⟨hg'.1, hg'.2.1⟩)
      rw [ps_ok hOK, ps_ok hg'] at this
      exact this
end GB
/-- the digits of a row of places -/
theorem cd_dig {n p : Nat} {g : Nat → Nat} (hn : n < 9) (hp : p < n) (hg : ∀ q, q < n → g q < n) : CD n g / 8 ^ (7 - p) % 8 = g p := by
  obtain ⟨d, rfl⟩ : ∃ d, n = p + 1 + d := ⟨n - (p + 1), by omega⟩
  have ht := cd_tail (g := g) (p := p) d (by omega) (fun q hq => by have := hg q hq; omega)
  have hm : cdS g tt (p + 1) ≤ cdS g tt (p + 1 + d) := smN_mono d
  have hpos : 0 < 8 ^ (8 - (p + 1 + d)) := Nat.pow_pos (by decide)
  have hgp := hg p (by omega)
  have hdv : ∀ k, k ≤ p → ∃ x, cdS g tt k = x * (8 * 8 ^ (7 - p)) := fun k => by
    induction k with
    | zero => intro _; exact ⟨0, by simp [cdS, smN]⟩
    | succ k ih =>
      intro hk
      obtain ⟨x, hx⟩ := ih (by omega)
      refine ⟨x + g k * 8 ^ (p - k - 1), ?_⟩
      have e : cdS g tt (k + 1) = cdS g tt k + g k * 8 ^ (7 - k) := rfl
      have hp8 : 8 ^ (7 - k) = 8 ^ (p - k - 1) * (8 * 8 ^ (7 - p)) := by
        rw [← Nat.pow_succ', ← Nat.pow_add]
        congr 1
        omega
      rw [e, hx, Nat.add_mul, hp8, Nat.mul_assoc]
  obtain ⟨x, hx⟩ := hdv p (Nat.le_refl p)
  have e1 : cdS g tt (p + 1) = cdS g tt p + g p * 8 ^ (7 - p) := rfl
  generalize hA : 8 ^ (7 - p) = A at *
  have hApos : 0 < A := by rw [← hA]; exact Nat.pow_pos (by decide)
  have hx2 : x * (8 * A) = x * 8 * A := by rw [Nat.mul_assoc]
  obtain ⟨r, hr⟩ : ∃ r, CD (p + 1 + d) g = (x * 8 + g p) * A + r ∧ r < A := ⟨CD (p + 1 + d) g - (x * 8 + g p) * A, by
    unfold CD
    rw [Nat.add_mul]
    omega⟩
  rw [hr.1, Nat.add_comm, Nat.add_mul_div_right _ _ hApos, Nat.div_eq_of_lt hr.2, Nat.zero_add, Nat.add_comm, Nat.add_mul_mod_self_right, Nat.mod_eq_of_lt (by omega)]
/-- the class's answer -/
theorem slv_I {n t b m mk dr a : Nat} {sd : Nat → Nat} {M : Mm} (hn : n < 9) (hn1 : 1 ≤ n) (h1 : mk ≤ 9) (h2 : dr ≤ 9) (ha : a = 1 ∨ a = 6) (hC : CT M a n t b m mk dr sd) : ∃ D0 D1 M', (∃ T, T 0 = 0 ∧ (∀ j, 1 ≤ j → j < 2 ^ n → REC n t b m mk dr 0 T j) ∧ D0 = T (2 ^ n - 1)) ∧ (∃ T, T 0 = 0 ∧ (∀ j, 1 ≤ j → j < 2 ^ n → REC n t b m mk dr 1 T j) ∧ D1 = T (2 ^ n - 1)) ∧ (∀ N, 300 < N → f_Mk_solve N a M = some M') ∧ M'.1 18 1 = nI n ∧ M'.1 18 3 = nI (if D1 / 16777216 < D0 / 16777216 then 1 else 0) ∧ M'.1 18 2 = (if (if D1 / 16777216 < D0 / 16777216 then D1 else D0) = NV then -1 else nI ((if D1 / 16777216 < D0 / 16777216 then D1 else D0) / 16777216)) ∧ M'.2 18 4 = lN ((if D1 / 16777216 < D0 / 16777216 then D1 else D0) % 16777216) ∧ ∀ x j, x ≠ 18 → M'.1 x j = M.1 x j := by
  have hpw : 2 ^ n ≤ 2 ^ 8 := Nat.pow_le_pow_right (by decide) (by omega)
  generalize hA : si M 18 1 (nI n) = A
  have oA : ∀ x j, x ≠ 18 → A.1 x j = M.1 x j := fun x j q => by rw [← hA, si_a _ _ q]
  have A1 : A.1 18 1 = nI n := by rw [← hA, si_s]
  have hCA : CT A a n t b m mk dr sd := hC.ag (fun x j u => by
    simp only [uCT, Bool.and_eq_true, decide_eq_true_eq] at u
    exact oA x j (by omega))
  obtain ⟨T0, M0, p1, p2, p3, p4, p5⟩ := lbw_I (w := 0) (M := A) hn hn1 (by decide) h1 h2 A1 hCA
  obtain ⟨T1', M1, q1, q2, q3, q4, q5⟩ := lbw_I (w := 1) (M := M0) hn hn1 (by decide) h1 h2 (by rw [p5]; exact A1) (hCA.snd p5)
  have hb0 : T0 (2 ^ n - 1) < 2 ^ 63 := by
    rcases p4 with q | q
    · rw [q]; unfold NV; omega
    · omega
  have hb1 : T1' (2 ^ n - 1) < 2 ^ 63 := by
    rcases q4 with q | q
    · rw [q]; unfold NV; omega
    · omega
  have eM1 : M1.1 = A.1 := q5.trans p5
  generalize hD0 : T0 (2 ^ n - 1) = D0 at *
  generalize hD1 : T1' (2 ^ n - 1) = D1 at *
  generalize hwy : (if D1 / 16777216 < D0 / 16777216 then 1 else 0) = wy
  generalize hbe : (if D1 / 16777216 < D0 / 16777216 then D1 else D0) = be
  have hbel : be < 2 ^ 63 := by rw [← hbe]; split <;> omega
  have hcmp : (lg_cmp (lN be) 4611686018427387904 = 0) ↔ be = NV := by rw [lgc_eq, lNV, pk_lEQ hbel (by unfold NV; omega)]
  refine ⟨D0, D1, sl (si (si M1 18 3 (nI wy)) 18 2 (if be = NV then -1 else nI (be / 16777216))) 18 4 (lN (be % 16777216)), ⟨T0, p2, p3, hD0.symm⟩, ⟨T1', q2, q3, hD1.symm⟩, fun N hN => ?_, ?_, ?_, ?_, ?_, fun x j q => ?_⟩
  · have s24 : ∀ x, x < 2 ^ 63 → lN x >>> (((24 : Int32)).toInt64 &&& 63) = lN (x / 16777216) := fun x hx => wb_shr63 (k := 24) (by decide) hx
    have hand : lN be &&& 16777215 = lN (be % 16777216) := by
      rw [show (16777215 : Int64) = lN 16777215 from rfl, wb_and (by omega) (by decide)]
      congr 1
      exact Nat.and_two_pow_sub_one_eq_mod be 24
    unfold f_Mk_solve
    dsimp only [lt]
    rw [hC.1, hA, show f_Mk_leastByWay N a 0 A = some (lN D0, M0) from p1 N hN, bnd_s]
    dsimp only
    rw [show f_Mk_leastByWay N a 1 M0 = some (lN D1, M1) from q1 N hN, bnd_s]
    dsimp only
    rw [s24 D0 hb0, s24 D1 hb1, si_s, si_s]
    have hge : (0 ≤ lg_cmp (lN (D1 / 16777216)) (lN (D0 / 16777216))) ↔ ¬ D1 / 16777216 < D0 / 16777216 := by
      rw [← nlt_I, cm_lt, pk_lLT (by omega) (by omega)]
    by_cases hlt : D1 / 16777216 < D0 / 16777216
    · rw [if_pos hlt] at hwy hbe
      rw [if_neg (fun z => hge.mp z hlt), if_neg (show ¬ (1 : Int32) = 0 by decide)]
      rw [hbe, hand, lN_i, ← hwy]
      by_cases q : be = NV
      · rw [if_pos (hcmp.mpr q), if_pos q]; rfl
      · rw [if_neg (fun z => q (hcmp.mp z)), if_neg q]; rfl
    · rw [if_neg hlt] at hwy hbe
      rw [if_pos (hge.mpr hlt), if_pos rfl]
      rw [hbe, hand, lN_i, ← hwy]
      by_cases q : be = NV
      · rw [if_pos (hcmp.mpr q), if_pos q]; rfl
      · rw [if_neg (fun z => q (hcmp.mp z)), if_neg q]; rfl
  · rw [sl1, si_k _ _ (by decide), si_k _ _ (by decide), eM1]; exact A1
  · rw [sl1, si_k _ _ (by decide), si_s, hwy]
  · rw [sl1, si_s, hbe]
  · rw [sl2, if_pos ⟨rfl, rfl⟩, hbe]
  · rw [sl1, si_a _ _ q, si_a _ _ q, eM1, oA x j q]
