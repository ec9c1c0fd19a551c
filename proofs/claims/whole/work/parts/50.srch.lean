/-! PURE 31: a fold over towns; the pairs of a person -/
def fo {β : Type} (op : β → β → β) (e : β) (c : Nat → β) (V : Nat → Bool) : Nat → β
  | 0 => e
  | K + 1 => if V K = true then op (fo op e c V K) (c K) else fo op e c V K
theorem fo_cong {β : Type} {op : β → β → β} {e : β} {c : Nat → β} {V W : Nat → Bool} : ∀ {K}, (∀ t, t < K → V t = W t) → fo op e c V K = fo op e c W K
  | 0, _ => rfl
  | K + 1, h => by rw [fo, fo, fo_cong (fun t ht => h t (by omega)), h K (by omega)]
theorem fo_none {β : Type} {op : β → β → β} {e : β} {c : Nat → β} {V : Nat → Bool} : ∀ {K}, (∀ t, t < K → V t = false) → fo op e c V K = e
  | 0, _ => rfl
  | K + 1, h => by rw [fo, h K (by omega), fo_none (fun t ht => h t (by omega))]; rfl
theorem fo_ins {β : Type} {op : β → β → β} {e : β} {c : Nat → β} {V W : Nat → Bool} {x : Nat} (hop : ∀ a b d, op (op a b) d = op (op a d) b) : ∀ {K}, x < K → V x = false → W x = true → (∀ t, t < K → t ≠ x → W t = V t) → fo op e c W K = op (fo op e c V K) (c x)
  | 0, h, _, _, _ => absurd h (by omega)
  | K + 1, h, hV, hW, ho => by
    rw [fo, fo]
    by_cases e1 : x = K
    · subst e1
      rw [hW, hV, fo_cong (V := W) (W := V) (fun t ht => ho t (by omega) (by omega))]
      rfl
    · rw [fo_ins hop (by omega) hV hW (fun t ht => ho t (by omega)), ho K (by omega) (fun z => e1 z.symm)]
      cases V K with
      | false => rfl
      | true => exact hop _ _ _
theorem np6 : ∀ n, n < 7 → np n ≤ 15 := by decide
def ipr (n k j : Nat) : Bool := decide (j = pinv n k / 8) || decide (j = pinv n k % 8)
def pO (n j : Nat) : Nat := bs (fun k => ipr n k j) (np n)
theorem ipr_at {n p q j : Nat} (hn : n < 9) (hpq : p < q) (hq : q < n) : ipr n (pn n p q) j = (decide (j = p) || decide (j = q)) := by
  unfold ipr
  rw [pinv_ok n hn p (by omega) q hq hpq, show (8 * p + q) / 8 = p by omega, show (8 * p + q) % 8 = q by omega]
theorem cpd {n x j : Nat} (hn : n < 9) (hj : j < n) : ∀ K, K ≤ np n → ctb (fun k => x.testBit k && ipr n k j) K = pdg n x K j
  | 0, _ => by rw [pd_zero]; rfl
  | K + 1, h => by
    obtain ⟨p, hp, q, hq, hpq, e⟩ := pn_on n hn K (by omega)
    rw [ctb, cpd hn hj K (by omega), pd_step hn hpq hq e hj]
    congr 1
    have hi : ipr n K j = (decide (j = p) || decide (j = q)) := by rw [← e]; exact ipr_at hn hpq hq
    rw [hi]
    unfold bt
    by_cases e1 : j = p
    · subst e1; simp
    · by_cases e2 : j = q
      · subst e2; simp
      · simp [e1, e2]
theorem pO_lt {n j : Nat} : pO n j < 2 ^ np n := bs_lt _ _
theorem lt15 {n x : Nat} (hn : n < 7) (hx : x < 2 ^ np n) : x < 2 ^ 15 := Nat.lt_of_lt_of_le hx (Nat.pow_le_pow_right (by decide) (np6 n hn))
theorem ctb_cut {f : Nat → Bool} {k K : Nat} (hk : k ≤ K) (h : ∀ i, k ≤ i → f i = false) : ctb f K = ctb f k := by
  obtain ⟨d, rfl⟩ : ∃ d, K = k + d := ⟨K - k, by omega⟩
  exact ctb_ext h d
theorem bcp_I {n x j : Nat} (hn : n < 7) (hx : x < 2 ^ 15) (hj : j < n) : f_In_bitCount (nI x &&& nI (pO n j)) = nI (dgr n x j) := by
  have h15 := np6 n hn
  rw [an_I, bc_I (Nat.lt_of_le_of_lt Nat.and_le_left hx)]
  congr 1
  rw [ctb_cut (k := np n) h15 (fun i hi => by rw [Nat.testBit_and, lt_bit (pO_lt (n := n) (j := j)) hi, Bool.and_false])]
  rw [← pd_full (by omega) hj, ← cpd (by omega) hj (np n) (Nat.le_refl _)]
  refine ctb_cong (fun i hi => ?_)
  rw [Nat.testBit_and]
  unfold pO
  rw [bs_bit]
  simp [hi]
/-! the class lays out the pairs -/
def lyM (n K P : Nat) (M : Mm) : Mm := (fun a j => if a = 21 ∧ j < n then nI (bs (fun k => ipr n k j) K) else if a = 22 ∧ j < P then nI (pr0 n j) else M.1 a j, M.2)
theorem ly_21 {n K P j : Nat} {M : Mm} (h : j < n) : (lyM n K P M).1 21 j = nI (bs (fun k => ipr n k j) K) := if_pos ⟨rfl, h⟩
theorem ly_off {n K P a j : Nat} {M : Mm} (h1 : a ≠ 21) (h2 : a ≠ 22) : (lyM n K P M).1 a j = M.1 a j := by
  show (if a = 21 ∧ j < n then _ else if a = 22 ∧ j < P then _ else _) = _
  rw [if_neg (fun z => h1 z.1), if_neg (fun z => h2 z.1)]
theorem ly_22 {n K P j : Nat} {M : Mm} (h : j < P) : (lyM n K P M).1 22 j = nI (pr0 n j) := by
  have e : (lyM n K P M).1 22 j = (if (22 : Nat) = 21 ∧ j < n then nI (bs (fun k => ipr n k j) K) else if (22 : Nat) = 22 ∧ j < P then nI (pr0 n j) else M.1 22 j) := rfl
  rw [e, if_neg (by omega), if_pos ⟨rfl, h⟩]
theorem ly_row {n K P : Nat} {M : Mm} : si (lyM n K P M) 22 P (nI (pr0 n P)) = lyM n K (P + 1) M := by
  refine mm_ext (fun a j => ?_) rfl
  rw [si1]
  show (if a = 22 ∧ j = P then _ else (if a = 21 ∧ j < n then _ else if a = 22 ∧ j < P then _ else _)) = (if a = 21 ∧ j < n then _ else if a = 22 ∧ j < P + 1 then _ else _)
  by_cases h1 : a = 22 ∧ j = P
  · rw [if_pos h1, if_neg (by omega), if_pos (by omega), h1.2]
  · rw [if_neg h1]
    by_cases h2 : a = 21 ∧ j < n
    · rw [if_pos h2, if_pos h2]
    · rw [if_neg h2, if_neg h2]
      by_cases h3 : a = 22 ∧ j < P
      · rw [if_pos h3, if_pos (by omega)]
      · rw [if_neg h3, if_neg (by omega)]
theorem ly_step {n p q P : Nat} {M : Mm} (hn : n < 9) (hpq : p < q) (hq : q < n) : si (si (lyM n (pn n p q) P M) 21 p (nI (bs (fun k => ipr n k p) (pn n p q) ||| 2 ^ pn n p q))) 21 q (nI (bs (fun k => ipr n k q) (pn n p q) ||| 2 ^ pn n p q)) = lyM n (pn n p q + 1) P M := by
  have hi : ∀ j, ipr n (pn n p q) j = (decide (j = p) || decide (j = q)) := fun j => ipr_at hn hpq hq
  refine mm_ext (fun a j => ?_) rfl
  rw [si1, si1]
  show (if a = 21 ∧ j = q then _ else if a = 21 ∧ j = p then _ else (if a = 21 ∧ j < n then _ else if a = 22 ∧ j < P then _ else _)) = (if a = 21 ∧ j < n then _ else if a = 22 ∧ j < P then _ else _)
  by_cases h1 : a = 21 ∧ j = q
  · rw [if_pos h1, if_pos (by omega), h1.2, bs_or (by rw [hi]; simp)]
  · rw [if_neg h1]
    by_cases h2 : a = 21 ∧ j = p
    · rw [if_pos h2, if_pos (by omega), h2.2, bs_or (by rw [hi]; simp)]
    · rw [if_neg h2]
      by_cases h3 : a = 21 ∧ j < n
      · have e1 : j ≠ q := fun z => h1 ⟨h3.1, z⟩
        have e2 : j ≠ p := fun z => h2 ⟨h3.1, z⟩
        rw [if_pos h3, if_pos h3, bs_no (k := pn n p q) (by rw [hi]; simp [e1, e2])]
      · rw [if_neg h3, if_neg h3]
theorem ly46 (N : Nat) {n p P : Nat} {M : Mm} (ju : Int32 → Mm → Option Mm) (hn : n < 7) (hp : p < n) (h0 : M.1 20 3 = nI n) : ∀ (d q nu : Nat), q + d = n → p < q → d < nu → L_Se_layOutPairs_46 N (nI p) ju nu (nI (pr0 n p + (q - p - 1))) (nI q) (lyM n (pr0 n p + (q - p - 1)) P M) = ju (nI (pr0 n (p + 1))) (lyM n (pr0 n (p + 1)) P M)
  | 0, q, nu + 1, hq, hpq, hnu => by
    have hq : q = n := by omega
    subst hq
    rw [L_Se_layOutPairs_46, ly_off (by decide) (by decide), h0, if_pos (nI_le (Nat.le_refl q) (by omega)), pr_next q (by omega) p hp]
  | d + 1, q, nu + 1, hq, hpq, hnu => by
    have ih := ly46 N (P := P) (M := M) ju hn hp h0 d (q + 1) nu (by omega) (by omega) (by omega)
    have hK := pn_up (n := n) hpq
    have hb : pn n p q < 32 := Nat.lt_of_lt_of_le (pn_lt n (by omega) p hp q (by omega) (by omega)) (Nat.le_trans (np_le n (by omega)) (by decide))
    rw [show pr0 n p + (q + 1 - p - 1) = pr0 n p + (q - p - 1) + 1 by omega, ← hK] at ih
    rw [← hK, L_Se_layOutPairs_46, ly_off (by decide) (by decide), h0, if_neg (nI_ge (by omega) (by omega))]
    dsimp only [lt]
    rw [if_pos (inb_nI (show p < 6 by omega) (by decide)), if_pos (inb_nI (show p < 6 by omega) (by decide)), if_pos (inb_nI (show q < 6 by omega) (by decide)), if_pos (inb_nI (show q < 6 by omega) (by decide)), ix_nI (show p < 2 ^ 31 by omega), ix_nI (show q < 2 ^ 31 by omega), si_k _ _ (show q ≠ p by omega), ly_21 hp, ly_21 (show q < n by omega), one_sl hb, or_I, or_I, ly_step (by omega) hpq (by omega), nI_1, nI_1]
    exact ih
theorem ly27 (N : Nat) {n : Nat} {M : Mm} (ju : Int32 → Mm → Option Mm) (hN : 9 < N) (hn : n < 7) (h0 : M.1 20 3 = nI n) : ∀ (d p nu : Nat), p + d = n → d < nu → L_Se_layOutPairs_27 N ju nu (nI (pr0 n p)) (nI p) (lyM n (pr0 n p) p M) = ju (nI (np n)) (lyM n (np n) n M)
  | 0, p, nu + 1, hp, hnu => by
    have hp : p = n := by omega
    subst hp
    rw [L_Se_layOutPairs_27, ly_off (by decide) (by decide), h0, if_pos (nI_le (Nat.le_refl p) (by omega)), pr_end p (by omega)]
  | d + 1, p, nu + 1, hp, hnu => by
    have ih := ly27 N (M := M) ju hN hn h0 d (p + 1) nu (by omega) (by omega)
    rw [L_Se_layOutPairs_27, ly_off (by decide) (by decide), h0, if_neg (nI_ge (by omega) (by omega))]
    dsimp only [lt]
    rw [if_pos (inb_nI (show p < 7 by omega) (by decide)), ix_nI (show p < 2 ^ 31 by omega), ly_row, nI_1]
    have h := ly46 N (P := p + 1) (M := M) (fun xu13 Mu14 => L_Se_layOutPairs_27 N ju nu xu13 (nI (p + 1)) Mu14) hn (show p < n by omega) h0 (n - (p + 1)) (p + 1) N (by omega) (by omega) (by omega)
    simp only [show p + 1 - p - 1 = 0 by omega, Nat.add_zero] at h
    rw [h]
    exact ih
def zyM (k : Nat) (M : Mm) : Mm := (fun a j => if a = 21 ∧ j < k then 0 else M.1 a j, M.2)
theorem zy_step {k : Nat} {M : Mm} : si (zyM k M) 21 k 0 = zyM (k + 1) M := by
  refine mm_ext (fun a j => ?_) rfl
  rw [si1]
  show (if _ then _ else (if a = 21 ∧ j < k then _ else _)) = (if a = 21 ∧ j < k + 1 then _ else _)
  by_cases h1 : a = 21 ∧ j = k
  · rw [if_pos h1, if_pos ⟨h1.1, by omega⟩]
  · rw [if_neg h1]
    by_cases h2 : a = 21 ∧ j < k
    · rw [if_pos h2, if_pos ⟨h2.1, by omega⟩]
    · rw [if_neg h2, if_neg (by omega)]
theorem zy_off {k a j : Nat} {M : Mm} (h : a ≠ 21) : (zyM k M).1 a j = M.1 a j := if_neg (fun z => h z.1)
theorem ly2 (N : Nat) {n : Nat} {M : Mm} (ju : Mm → Option Mm) (hn : n < 7) (h0 : M.1 20 3 = nI n) : ∀ (d k nu : Nat), k + d = n → d < nu → L_Se_layOutPairs_2 N ju nu (nI k) (zyM k M) = ju (zyM n M)
  | 0, k, nu + 1, hk, hnu => by
    have hk : k = n := by omega
    subst hk
    rw [L_Se_layOutPairs_2, zy_off (by decide), h0, if_pos (nI_le (Nat.le_refl k) (by omega))]
  | d + 1, k, nu + 1, hk, hnu => by
    have ih := ly2 N (M := M) ju hn h0 d (k + 1) nu (by omega) (by omega)
    rw [L_Se_layOutPairs_2, zy_off (by decide), h0, if_neg (nI_ge (by omega) (by omega))]
    dsimp only [lt]
    rw [if_pos (inb_nI (show k < 6 by omega) (by decide)), ix_nI (by omega), zy_step, nI_1]
    exact ih
theorem lay_I {N n : Nat} {M : Mm} (hN : 9 < N) (hn : n < 7) (h0 : M.1 20 3 = nI n) : f_Se_layOutPairs N M = some (lyM n (np n) (n + 1) M) := by
  have e0 : zyM 0 M = M := mm_ext (fun a j => if_neg (by omega)) rfl
  have e1 : zyM n M = lyM n (pr0 n 0) 0 M := mm_ext (fun a j => by
    show (if a = 21 ∧ j < n then _ else _) = (if a = 21 ∧ j < n then _ else if a = 22 ∧ j < 0 then _ else _)
    rw [show pr0 n 0 = 0 by unfold pr0; simp, if_neg (show ¬ (a = 22 ∧ j < 0) by omega)]
    rfl) rfl
  unfold f_Se_layOutPairs
  dsimp only [lt]
  have h := ly2 N (M := M) (fun Mu2 => L_Se_layOutPairs_27 N (fun xu4 Mu5 => if inb (Mu5.1 20 3) 7 = true then some (si Mu5 22 (Int32.toNatClampNeg (Mu5.1 20 3)) xu4) else none) N 0 0 Mu2) hn h0 n 0 N (by omega) (by omega)
  rw [e0] at h
  refine h.trans ?_
  rw [e1]
  have h2 := ly27 N (M := M) (fun xu4 Mu5 => if inb (Mu5.1 20 3) 7 = true then some (si Mu5 22 (Int32.toNatClampNeg (Mu5.1 20 3)) xu4) else none) hN hn h0 n 0 N (by omega) (by omega)
  have e3 : nI (pr0 n 0) = 0 := by rw [show pr0 n 0 = 0 by unfold pr0; simp]; rfl
  rw [e3] at h2
  refine h2.trans ?_
  rw [ly_off (by decide) (by decide), h0, if_pos (inb_nI (show n < 7 by omega) (by decide)), ix_nI (by omega), ← pr_end n (by omega), ly_row]
/-! the search begins -/
def SS (n t b m mk dr : Nat) (sd : Nat → Nat) (M : Mm) : Prop := M.1 20 3 = nI n ∧ M.1 20 4 = nI mk ∧ M.1 20 5 = nI dr ∧ M.1 20 6 = nI t ∧ M.1 20 7 = nI b ∧ M.1 20 8 = nI m ∧ (∀ p, p < n → M.1 21 p = nI (pO n p)) ∧ (∀ p, p < n + 1 → M.1 22 p = nI (pr0 n p)) ∧ ∀ p, p < n → M.1 23 p = nI (sd p)
def sbM (k : Nat) (sd : Nat → Nat) (M : Mm) : Mm := (fun a j => if a = 23 ∧ j < k then nI (sd j) else M.1 a j, M.2)
theorem sb_off {k a j : Nat} {sd : Nat → Nat} {M : Mm} (h : a ≠ 23) : (sbM k sd M).1 a j = M.1 a j := if_neg (fun z => h z.1)
theorem sb_step {k : Nat} {sd : Nat → Nat} {M : Mm} : si (sbM k sd M) 23 k (nI (sd k)) = sbM (k + 1) sd M := by
  refine mm_ext (fun a j => ?_) rfl
  rw [si1]
  show (if _ then _ else (if a = 23 ∧ j < k then _ else _)) = (if a = 23 ∧ j < k + 1 then _ else _)
  by_cases h1 : a = 23 ∧ j = k
  · rw [if_pos h1, if_pos ⟨h1.1, by omega⟩, h1.2]
  · rw [if_neg h1]
    by_cases h2 : a = 23 ∧ j < k
    · rw [if_pos h2, if_pos ⟨h2.1, by omega⟩]
    · rw [if_neg h2, if_neg (by omega)]
theorem sb31 (N : Nat) {n : Nat} {sd : Nat → Nat} {M : Mm} (ju : Mm → Option Mm) (hn : n < 7) (h0 : M.1 20 3 = nI n) (hs : ∀ p, p < 8 → M.1 5 p = nI (sd p)) : ∀ (d k nu : Nat), k + d = n → d < nu → L_Se_begin_31 N 1 ju nu (nI k) (sbM k sd M) = ju (sbM n sd M)
  | 0, k, nu + 1, hk, hnu => by
    have hk : k = n := by omega
    subst hk
    rw [L_Se_begin_31, sb_off (by decide), h0, if_pos (nI_le (Nat.le_refl k) (by omega))]
  | d + 1, k, nu + 1, hk, hnu => by
    have ih := sb31 N (M := M) ju hn h0 hs d (k + 1) nu (by omega) (by omega)
    rw [L_Se_begin_31, sb_off (by decide), h0, if_neg (nI_ge (by omega) (by omega))]
    dsimp only [lt]
    rw [if_pos (inb_nI (show k < 8 by omega) (by decide)), if_pos (inb_nI (show k < 6 by omega) (by decide)), ix_nI (by omega), sb_off (by decide), hs k (by omega), sb_step, nI_1]
    exact ih
theorem beg_I {M : Mm} {n t b m mk dr : Nat} {sd : Nat → Nat} (hn : n < 7) (hT : TOK n t b m mk dr sd) (h : CT M 1 n t b m mk dr sd) : ∃ Mb, (∀ N, 9 < N → f_Se_begin N 1 M = some Mb) ∧ SS n t b m mk dr sd Mb ∧ (Mb.1 20 10 = 1000000 ∧ Mb.1 20 11 = 1000000 ∧ Mb.1 20 12 = 1000000 ∧ Mb.1 20 13 = 0 ∧ Mb.1 20 14 = -1 ∧ Mb.1 20 15 = 0 ∧ Mb.1 20 16 = 0) ∧ ∀ a j, ¬ (20 ≤ a ∧ a ≤ 23) → Mb.1 a j = M.1 a j := by
  obtain ⟨h1, h2, h3, h4⟩ := h
  generalize hA : si (si (si M 20 3 (nI n)) 20 4 (nI mk)) 20 5 (nI dr) = A
  have oA : ∀ a j, a ≠ 20 → A.1 a j = M.1 a j := fun a j q => by rw [← hA, si_a _ _ q, si_a _ _ q, si_a _ _ q]
  have A3 : A.1 20 3 = nI n := by rw [← hA, si_k _ _ (by decide), si_k _ _ (by decide), si_s]
  have A4 : A.1 20 4 = nI mk := by rw [← hA, si_k _ _ (by decide), si_s]
  have A5 : A.1 20 5 = nI dr := by rw [← hA, si_s]
  generalize hB : sbM n sd A = B
  have oB : ∀ a j, a ≠ 23 → B.1 a j = A.1 a j := fun a j q => by rw [← hB, sb_off q]
  have B23 : ∀ p, p < n → B.1 23 p = nI (sd p) := fun p hp => by rw [← hB]; exact if_pos ⟨rfl, hp⟩
  generalize hC : si (si (si (si (si (si (si (si (si (si B 20 6 (nI t)) 20 7 (nI b)) 20 8 (nI m)) 20 10 1000000) 20 11 1000000) 20 12 1000000) 20 13 0) 20 14 (-1)) 20 15 0) 20 16 0 = C
  have oC : ∀ a j, a ≠ 20 → C.1 a j = B.1 a j := fun a j q => by rw [← hC, si_a _ _ q, si_a _ _ q, si_a _ _ q, si_a _ _ q, si_a _ _ q, si_a _ _ q, si_a _ _ q, si_a _ _ q, si_a _ _ q, si_a _ _ q]
  have oC2 : ∀ j, j < 6 → C.1 20 j = B.1 20 j := fun j q => by rw [← hC, si_k _ _ (by omega), si_k _ _ (by omega), si_k _ _ (by omega), si_k _ _ (by omega), si_k _ _ (by omega), si_k _ _ (by omega), si_k _ _ (by omega), si_k _ _ (by omega), si_k _ _ (by omega), si_k _ _ (by omega)]
  have C3 : C.1 20 3 = nI n := by rw [oC2 3 (by decide), oB _ _ (by decide)]; exact A3
  refine ⟨lyM n (np n) (n + 1) C, fun N hN => ?_, ⟨?_, ?_, ?_, ?_, ?_, ?_, fun p hp => ly_21 hp, fun p hp => ly_22 hp, fun p hp => ?_⟩, ⟨?_, ?_, ?_, ?_, ?_, ?_, ?_⟩, fun a j q => ?_⟩
  · unfold f_Se_begin
    dsimp only [lt]
    have e6 : f_Ma_min_II (M.1 1 0) 6 = nI n := by
      unfold f_Ma_min_II
      rw [h1, if_neg (show ¬ (6 : Int32) < nI n from nI_nlt (a := 6) (by omega) (by decide))]
    rw [e6, si_a _ _ (show (1 : Nat) ≠ 20 by decide), h2, si_a _ _ (show (1 : Nat) ≠ 20 by decide), si_a _ _ (show (1 : Nat) ≠ 20 by decide), h3, hA]
    have h31 := sb31 N (n := n) (sd := sd) (M := A) (fun Mu5 => (f_To_asNumber N 1 (1 + 1) Mu5).bind fun vu6 => (f_To_asNumber N 1 (1 + 2) (si Mu5 20 6 vu6)).bind fun vu8 => (f_To_asNumber N 1 (1 + 3) (si (si Mu5 20 6 vu6) 20 7 vu8)).bind fun vu10 => (f_Se_layOutPairs N (si (si (si (si (si (si (si (si (si (si Mu5 20 6 vu6) 20 7 vu8) 20 8 vu10) 20 10 1000000) 20 11 1000000) 20 12 1000000) 20 13 0) 20 14 (-1)) 20 15 0) 20 16 0)).bind fun vu19 => some vu19) hn A3 (fun p hp => by rw [oA _ _ (by decide)]; exact (h4 p hp).2.2.2) n 0 N (by omega) (by omega)
    rw [show sbM 0 sd A = A from mm_ext (fun a j => if_neg (by omega)) rfl, hB] at h31
    refine h31.trans ?_
    have b0 : B.1 1 0 = nI n := by rw [oB _ _ (by decide), oA _ _ (by decide)]; exact h1
    rw [as_I (t := t) (by omega) (by omega) b0 (fun p hp => by rw [oB _ _ (by decide), oA _ _ (by decide)]; exact (h4 p (by omega)).1) hT.2.1, bnd_s]
    rw [as_I (t := b) (by omega) (by omega) (by rw [si_a _ _ (by decide)]; exact b0) (fun p hp => by rw [si_a _ _ (by decide), oB _ _ (by decide), oA _ _ (by decide)]; exact (h4 p (by omega)).2.1) hT.2.2.1, bnd_s]
    rw [as_I (t := m) (by omega) (by omega) (by rw [si_a _ _ (by decide), si_a _ _ (by decide)]; exact b0) (fun p hp => by rw [si_a _ _ (by decide), si_a _ _ (by decide), oB _ _ (by decide), oA _ _ (by decide)]; exact (h4 p (by omega)).2.2.1) hT.2.2.2.1, bnd_s]
    rw [hC, lay_I hN hn C3, bnd_s]
  · rw [ly_off (by decide) (by decide)]; exact C3
  · rw [ly_off (by decide) (by decide), oC2 4 (by decide), oB _ _ (by decide)]; exact A4
  · rw [ly_off (by decide) (by decide), oC2 5 (by decide), oB _ _ (by decide)]; exact A5
  · rw [ly_off (by decide) (by decide), ← hC, si_k _ _ (by decide), si_k _ _ (by decide), si_k _ _ (by decide), si_k _ _ (by decide), si_k _ _ (by decide), si_k _ _ (by decide), si_k _ _ (by decide), si_k _ _ (by decide), si_k _ _ (by decide), si_s]
  · rw [ly_off (by decide) (by decide), ← hC, si_k _ _ (by decide), si_k _ _ (by decide), si_k _ _ (by decide), si_k _ _ (by decide), si_k _ _ (by decide), si_k _ _ (by decide), si_k _ _ (by decide), si_k _ _ (by decide), si_s]
  · rw [ly_off (by decide) (by decide), ← hC, si_k _ _ (by decide), si_k _ _ (by decide), si_k _ _ (by decide), si_k _ _ (by decide), si_k _ _ (by decide), si_k _ _ (by decide), si_k _ _ (by decide), si_s]
  · rw [ly_off (by decide) (by decide), oC _ _ (by decide)]; exact B23 p hp
  · rw [ly_off (by decide) (by decide), ← hC, si_k _ _ (by decide), si_k _ _ (by decide), si_k _ _ (by decide), si_k _ _ (by decide), si_k _ _ (by decide), si_k _ _ (by decide), si_s]
  · rw [ly_off (by decide) (by decide), ← hC, si_k _ _ (by decide), si_k _ _ (by decide), si_k _ _ (by decide), si_k _ _ (by decide), si_k _ _ (by decide), si_s]
  · rw [ly_off (by decide) (by decide), ← hC, si_k _ _ (by decide), si_k _ _ (by decide), si_k _ _ (by decide), si_k _ _ (by decide), si_s]
  · rw [ly_off (by decide) (by decide), ← hC, si_k _ _ (by decide), si_k _ _ (by decide), si_k _ _ (by decide), si_s]
  · rw [ly_off (by decide) (by decide), ← hC, si_k _ _ (by decide), si_k _ _ (by decide), si_s]
  · rw [ly_off (by decide) (by decide), ← hC, si_k _ _ (by decide), si_s]
  · rw [ly_off (by decide) (by decide), ← hC, si_s]
  · rw [ly_off (by omega) (by omega), oC _ _ (by omega), oB _ _ (by omega), oA _ _ (by omega)]
