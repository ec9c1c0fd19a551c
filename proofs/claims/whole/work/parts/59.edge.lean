/-! PURE 40: friendships by their numbers; the reference's weights -/
def rk (t K : Nat) : Nat := ctb (fun i => t.testBit i) K
def eK (t i : Nat) : Nat := smN (fun K => if rk t (K + 1) ≤ i then 1 else 0) 28
def ea (n t i : Nat) : Nat := pinv n (eK t i) / 8
def eb (n t i : Nat) : Nat := pinv n (eK t i) % 8
def inE (n t i j : Nat) : Bool := decide (j = ea n t i) || decide (j = eb n t i)
def psm (n t : Nat) (w : Nat → Nat) (j k : Nat) : Nat := smN (fun i => if inE n t i j = true then w i else 0) k
theorem smN_1 : ∀ k, smN (fun _ => 1) k = k
  | 0 => rfl
  | k + 1 => by rw [smN, smN_1 k]
theorem rk_s {t K : Nat} : rk t (K + 1) = rk t K + (if t.testBit K = true then 1 else 0) := rfl
theorem rk_mono {t K K' : Nat} (h : K ≤ K') : rk t K ≤ rk t K' := by
  obtain ⟨d, rfl⟩ : ∃ d, K' = K + d := ⟨K' - K, by omega⟩
  exact ctb_mono d
theorem eK_rk {t K : Nat} (hK : K < 28) (h : t.testBit K = true) : eK t (rk t K) = K := by
  unfold eK
  obtain ⟨d, hd⟩ : ∃ d, 28 = K + d := ⟨28 - K, by omega⟩
  rw [hd, smN_at]
  have e1 : smN (fun j => if rk t (j + 1) ≤ rk t K then 1 else 0) K = K := by
    rw [smN_cong (g := fun _ => 1) (fun j hj => if_pos (rk_mono (by omega)))]
    exact smN_1 K
  have e2 : smN (fun i => if rk t (K + i + 1) ≤ rk t K then 1 else 0) d = 0 := by
    rw [smN_cong (g := fun _ => 0) (fun j hj => if_neg (fun z => by
      have h1 : rk t (K + 1) ≤ rk t (K + j + 1) := rk_mono (by omega)
      rw [rk_s, if_pos h] at h1
      omega))]
    exact smN_zero d
  rw [e1, e2, Nat.add_zero]
theorem rk_ex {t i : Nat} : ∀ {L}, i < rk t L → ∃ K, K < L ∧ t.testBit K = true ∧ rk t K = i
  | 0, h => absurd h (Nat.not_lt_zero _)
  | L + 1, h => by
    rw [rk_s] at h
    by_cases q : i < rk t L
    · obtain ⟨K, h1, h2, h3⟩ := rk_ex (L := L) q
      exact ⟨K, by omega, h2, h3⟩
    · by_cases z : t.testBit L = true
      · rw [if_pos z] at h
        exact ⟨L, by omega, z, by omega⟩
      · rw [if_neg z] at h; omega
theorem ed_ok {n t i : Nat} (hn : n < 9) (hi : i < rk t (np n)) : eK t i < np n ∧ t.testBit (eK t i) = true ∧ rk t (eK t i) = i ∧ ea n t i < eb n t i ∧ eb n t i < n ∧ pn n (ea n t i) (eb n t i) = eK t i := by
  obtain ⟨K, h1, h2, h3⟩ := rk_ex hi
  have hl := np_le n hn
  have e := eK_rk (t := t) (K := K) (by omega) h2
  rw [h3] at e
  obtain ⟨p, hp, q, hq, hpq, ek⟩ := pn_on n hn K h1
  have hpi := pinv_ok n hn p hp q hq hpq
  unfold ea eb
  rw [e, ← ek, hpi, show (8 * p + q) / 8 = p by omega, show (8 * p + q) % 8 = q by omega, ek]
  exact ⟨h1, h2, h3, hpq, hq, rfl⟩
theorem ed_at {n t p q : Nat} (hn : n < 9) (hpq : p < q) (hq : q < n) (h : t.testBit (pn n p q) = true) : eK t (rk t (pn n p q)) = pn n p q ∧ ea n t (rk t (pn n p q)) = p ∧ eb n t (rk t (pn n p q)) = q := by
  have hK := pn_lt n hn p (by omega) q hq (by omega)
  have hl := np_le n hn
  have e := eK_rk (t := t) (K := pn n p q) (by omega) h
  have hpi := pinv_ok n hn p (by omega) q hq hpq
  unfold ea eb
  rw [e, hpi]
  exact ⟨rfl, by omega, by omega⟩
theorem psm_le {n t : Nat} {w : Nat → Nat} {j c : Nat} : ∀ {k}, (∀ i, i < k → w i ≤ c) → psm n t w j k ≤ k * c
  | 0, _ => by simp [psm, smN]
  | k + 1, h => by
    have ih := psm_le (n := n) (t := t) (w := w) (j := j) (k := k) (fun i hi => h i (by omega))
    have h1 := h k (by omega)
    unfold psm at ih ⊢
    rw [smN, Nat.succ_mul]
    split <;> omega
theorem psm_cong {n t : Nat} {w w' : Nat → Nat} {j k : Nat} (h : ∀ i, i < k → inE n t i j = true → w i = w' i) : psm n t w j k = psm n t w' j k := smN_cong (fun i hi => by
  by_cases q : inE n t i j = true
  · rw [if_pos q, if_pos q, h i hi q]
  · rw [if_neg q, if_neg q])
/-! the reference: sums of weights -/
def wsM (n t : Nat) (w : Nat → Nat) (i : Nat) (M : Mm) : Mm := (fun a j => if a = 56 ∧ j < n then nI (psm n t w j i) else if a = 57 ∧ j < i then nI (eK t j) else M.1 a j, M.2)
theorem ws_56 {n t i j : Nat} {w : Nat → Nat} {M : Mm} (h : j < n) : (wsM n t w i M).1 56 j = nI (psm n t w j i) := if_pos ⟨rfl, h⟩
theorem ws_57 {n t i j : Nat} {w : Nat → Nat} {M : Mm} (h : j < i) : (wsM n t w i M).1 57 j = nI (eK t j) := by
  have e : (wsM n t w i M).1 57 j = (if (57 : Nat) = 56 ∧ j < n then nI (psm n t w j i) else if (57 : Nat) = 57 ∧ j < i then nI (eK t j) else M.1 57 j) := rfl
  rw [e, if_neg (by omega), if_pos ⟨rfl, h⟩]
theorem ws_off {n t i a j : Nat} {w : Nat → Nat} {M : Mm} (h1 : a ≠ 56) (h2 : a ≠ 57) : (wsM n t w i M).1 a j = M.1 a j := by
  have e : (wsM n t w i M).1 a j = (if a = 56 ∧ j < n then nI (psm n t w j i) else if a = 57 ∧ j < i then nI (eK t j) else M.1 a j) := rfl
  rw [e, if_neg (fun z => h1 z.1), if_neg (fun z => h2 z.1)]
theorem ws_step {n t p q : Nat} {w : Nat → Nat} {M : Mm} (hn : n < 9) (hpq : p < q) (hq : q < n) (h : t.testBit (pn n p q) = true) : si (si (si (wsM n t w (rk t (pn n p q)) M) 56 p (nI (psm n t w p (rk t (pn n p q)) + w (rk t (pn n p q))))) 56 q (nI (psm n t w q (rk t (pn n p q)) + w (rk t (pn n p q))))) 57 (rk t (pn n p q)) (nI (pn n p q)) = wsM n t w (rk t (pn n p q) + 1) M := by
  obtain ⟨e1, e2, e3⟩ := ed_at hn hpq hq h
  generalize hI : rk t (pn n p q) = I at *
  have hin : ∀ j, inE n t I j = (decide (j = p) || decide (j = q)) := fun j => by unfold inE; rw [e2, e3]
  have hps : ∀ j, psm n t w j (I + 1) = psm n t w j I + (if inE n t I j = true then w I else 0) := fun j => rfl
  refine mm_ext (fun a j => ?_) rfl
  rw [si1, si1, si1]
  show (if a = 57 ∧ j = I then _ else if a = 56 ∧ j = q then _ else if a = 56 ∧ j = p then _ else (if a = 56 ∧ j < n then nI (psm n t w j I) else if a = 57 ∧ j < I then _ else _)) = (if a = 56 ∧ j < n then nI (psm n t w j (I + 1)) else if a = 57 ∧ j < I + 1 then _ else _)
  by_cases h3 : a = 57 ∧ j = I
  · rw [if_pos h3, if_neg (by omega), if_pos (by omega), h3.2, e1]
  · rw [if_neg h3]
    by_cases h1 : a = 56 ∧ j = q
    · rw [if_pos h1, if_pos (by omega), h1.2, hps, hin, if_pos (by simp)]
    · rw [if_neg h1]
      by_cases h2 : a = 56 ∧ j = p
      · rw [if_pos h2, if_pos (by omega), h2.2, hps, hin, if_pos (by simp)]
      · rw [if_neg h2]
        by_cases h4 : a = 56 ∧ j < n
        · have q1 : ¬ j = q := fun z => h1 ⟨h4.1, z⟩
          have q2 : ¬ j = p := fun z => h2 ⟨h4.1, z⟩
          rw [if_pos h4, if_pos h4, hps, hin, if_neg (by simp [q1, q2]), Nat.add_zero]
        · rw [if_neg h4, if_neg h4]
          by_cases h5 : a = 57 ∧ j < I
          · rw [if_pos h5, if_pos (by omega)]
          · rw [if_neg h5, if_neg (by omega)]
theorem ws88 (N : Nat) {n t p : Nat} {w : Nat → Nat} {M : Mm} (ju : Int32 → Int32 → Mm → Option (Int32 × Mm)) (hn : n < 9) (ht : t < 2 ^ np n) (hE : rk t (np n) ≤ 8) (hp : p < n) (h0 : M.1 49 0 = nI n) (h1 : M.1 49 1 = nI t) (hw : ∀ i, i < rk t (np n) → M.1 58 i = nI (w i)) : ∀ (d q nu : Nat), q + d = n → p < q → d < nu → L_Mo_isWeighed_88 N (nI p) ju nu (nI (pr0 n p + (q - p - 1))) (nI (rk t (pr0 n p + (q - p - 1)))) (nI q) (wsM n t w (rk t (pr0 n p + (q - p - 1))) M) = ju (nI (pr0 n (p + 1))) (nI (rk t (pr0 n (p + 1)))) (wsM n t w (rk t (pr0 n (p + 1))) M)
  | 0, q, nu + 1, hq, hpq, hnu => by
    have hq : q = n := by omega
    subst hq
    rw [L_Mo_isWeighed_88, ws_off (by decide) (by decide), h0, if_pos (nI_le (Nat.le_refl q) (by omega)), pr_next q hn p hp]
  | d + 1, q, nu + 1, hq, hpq, hnu => by
    have ih := ws88 N (w := w) (M := M) ju hn ht hE hp h0 h1 hw d (q + 1) nu (by omega) (by omega) (by omega)
    have hK := pn_up (n := n) hpq
    have hkl := pn_lt n hn p hp q (by omega) (by omega)
    have hl := np_le n hn
    rw [show pr0 n p + (q + 1 - p - 1) = pr0 n p + (q - p - 1) + 1 by omega, ← hK] at ih
    rw [← hK, L_Mo_isWeighed_88, ws_off (by decide) (by decide), h0, if_neg (nI_ge (by omega) (by omega))]
    dsimp only [lt]
    rw [ws_off (by decide) (by decide), h1, has_I (np_lt31 hn ht) (by omega), nI_1, nI_1]
    by_cases z : t.testBit (pn n p q) = true
    · have hr : rk t (pn n p q + 1) = rk t (pn n p q) + 1 := by rw [rk_s, if_pos z]
      have hr2 : rk t (pn n p q + 1) ≤ rk t (np n) := rk_mono (by omega)
      have hs := ws_step (w := w) (M := M) hn hpq (show q < n by omega) z
      rw [hr] at ih hr2
      generalize hI : rk t (pn n p q) = I at *
      have e58 : (wsM n t w I M).1 58 I = nI (w I) := by rw [ws_off (by decide) (by decide)]; exact hw I (by omega)
      rw [if_pos z, if_neg h10]
      rw [if_pos (inb_nI (show p < 8 by omega) (by decide)), if_pos (inb_nI (show I < 8 by omega) (by decide)), if_pos (inb_nI (show p < 8 by omega) (by decide)), if_pos (inb_nI (show q < 8 by omega) (by decide)), if_pos (inb_nI (show I < 8 by omega) (by decide)), if_pos (inb_nI (show q < 8 by omega) (by decide)), if_pos (inb_nI (show I < 8 by omega) (by decide)), ix_nI (show p < 2 ^ 31 by omega), ix_nI (show q < 2 ^ 31 by omega), ix_nI (show I < 2 ^ 31 by omega), si_k _ _ (show q ≠ p by omega), si_a _ _ (show (58 : Nat) ≠ 56 by decide), e58, ws_56 hp, ws_56 (show q < n by omega), nI_add, nI_add, hs, nI_1]
      exact ih
    · have hr : rk t (pn n p q + 1) = rk t (pn n p q) := by rw [rk_s, if_neg z, Nat.add_zero]
      rw [hr] at ih
      rw [if_neg z, if_pos rfl]
      exact ih
theorem ws73 (N : Nat) {n t : Nat} {w : Nat → Nat} {M : Mm} (ju : Mm → Option (Int32 × Mm)) (hN : 9 < N) (hn : n < 9) (ht : t < 2 ^ np n) (hE : rk t (np n) ≤ 8) (h0 : M.1 49 0 = nI n) (h1 : M.1 49 1 = nI t) (hw : ∀ i, i < rk t (np n) → M.1 58 i = nI (w i)) : ∀ (d p nu : Nat), p + d = n → d < nu → L_Mo_isWeighed_73 N ju nu (nI (pr0 n p)) (nI (rk t (pr0 n p))) (nI p) (wsM n t w (rk t (pr0 n p)) M) = ju (wsM n t w (rk t (np n)) M)
  | 0, p, nu + 1, hp, hnu => by
    have hp : p = n := by omega
    subst hp
    rw [L_Mo_isWeighed_73, ws_off (by decide) (by decide), h0, if_pos (nI_le (Nat.le_refl p) (by omega)), pr_end p hn]
  | d + 1, p, nu + 1, hp, hnu => by
    have ih := ws73 N (w := w) (M := M) ju hN hn ht hE h0 h1 hw d (p + 1) nu (by omega) (by omega)
    rw [L_Mo_isWeighed_73, ws_off (by decide) (by decide), h0, if_neg (nI_ge (by omega) (by omega))]
    dsimp only [lt]
    rw [nI_1]
    have h := ws88 N (w := w) (M := M) (fun xu13 xu14 Mu15 => L_Mo_isWeighed_73 N ju nu xu13 xu14 (nI (p + 1)) Mu15) hn ht hE (show p < n by omega) h0 h1 hw (n - (p + 1)) (p + 1) N (by omega) (by omega) (by omega)
    simp only [show p + 1 - p - 1 = 0 by omega, Nat.add_zero] at h
    rw [h]
    exact ih
theorem zo_off {k a j : Nat} {M : Mm} (h : a ≠ 56) : (zoM k M).1 a j = M.1 a j := if_neg (fun z => h z.1)
theorem ws41 (N : Nat) {n : Nat} {M : Mm} (ju : Mm → Option (Int32 × Mm)) (hn : n < 9) (h0 : M.1 49 0 = nI n) : ∀ (d k nu : Nat), k + d = n → d < nu → L_Mo_isWeighed_41 N ju nu (nI k) (zoM k M) = ju (zoM n M)
  | 0, k, nu + 1, hk, hnu => by
    have hk : k = n := by omega
    subst hk
    have e : (zoM k M).1 49 0 = M.1 49 0 := zo_off (by decide)
    rw [L_Mo_isWeighed_41, e, h0, if_pos (nI_le (Nat.le_refl k) (by omega))]
  | d + 1, k, nu + 1, hk, hnu => by
    have ih := ws41 N (M := M) ju hn h0 d (k + 1) nu (by omega) (by omega)
    have e : (zoM k M).1 49 0 = M.1 49 0 := zo_off (by decide)
    rw [L_Mo_isWeighed_41, e, h0, if_neg (nI_ge (by omega) (by omega))]
    dsimp only [lt]
    rw [if_pos (inb_nI (by omega) (by decide)), ix_nI (by omega), zo_step, nI_1]
    exact ih
/-! weights by a code -/
def wc (g E c i : Nat) : Nat := 1 + c / g ^ (E - 1 - i) % g
def w8M (g E c r : Nat) (M : Mm) : Mm := (fun a j => if a = 58 ∧ r ≤ j ∧ j < E then nI (wc g E c j) else M.1 a j, M.2)
theorem w8_step {g E c r : Nat} {M : Mm} (hr : r < E) : si (w8M g E c (r + 1) M) 58 r (nI (wc g E c r)) = w8M g E c r M := by
  refine mm_ext (fun a j => ?_) rfl
  rw [si1]
  show (if a = 58 ∧ j = r then _ else (if a = 58 ∧ r + 1 ≤ j ∧ j < E then _ else _)) = (if a = 58 ∧ r ≤ j ∧ j < E then _ else _)
  by_cases h1 : a = 58 ∧ j = r
  · rw [if_pos h1, if_pos (by omega), h1.2]
  · rw [if_neg h1]
    by_cases h2 : a = 58 ∧ r + 1 ≤ j ∧ j < E
    · rw [if_pos h2, if_pos (by omega)]
    · rw [if_neg h2, if_neg (by omega)]
theorem w88 (N : Nat) {g E c : Nat} {M : Mm} (ju : Mm → Option (Int32 × Mm)) (hg1 : 1 ≤ g) (hg : g < 5) (hE : E ≤ 8) (hc : c < 2 ^ 31) : ∀ (r nu : Nat), r ≤ E → r < nu → L_Mo_isWeighed_8 N (nI g) ju nu (nI (c / g ^ (E - r))) (nI r - 1) (w8M g E c r M) = ju (w8M g E c 0 M)
  | 0, nu + 1, hr, hnu => by
    rw [L_Mo_isWeighed_8, if_pos (by decide)]
  | r + 1, nu + 1, hr, hnu => by
    have ih := w88 N (M := M) ju hg1 hg hE hc r nu (by omega) (by omega)
    have hcl : c / g ^ (E - (r + 1)) < 2 ^ 31 := Nat.lt_of_le_of_lt (Nat.div_le_self _ _) hc
    have hw : wc g E c r = 1 + c / g ^ (E - (r + 1)) % g := by unfold wc; rw [show E - 1 - r = E - (r + 1) by omega]
    have hd : c / g ^ (E - (r + 1)) / g = c / g ^ (E - r) := by rw [Nat.div_div_eq_div_mul, ← Nat.pow_succ, show (E - (r + 1)).succ = E - r by omega]
    rw [L_Mo_isWeighed_8, nI_pred, if_neg (nI_pos (by omega)), if_pos (nI_ne0 hg1 (by omega)), if_pos (inb_nI (show r < 8 by omega) (by decide))]
    dsimp only [lt]
    rw [if_pos (nI_ne0 hg1 (by omega)), ix_nI (by omega), pk_rem hcl hg1 (by omega), pk_div hcl hg1 (by omega), m1_sub, show (1 : Int32) = nI 1 from rfl, nI_add, ← hw, w8_step (by omega), hd]
    exact ih
def VW (n t g c : Nat) : Bool := unl (fun j => psm n t (wc g (rk t (np n)) c) j (rk t (np n))) n
theorem wc_le {g E c i : Nat} (hg1 : 1 ≤ g) : 1 ≤ wc g E c i ∧ wc g E c i ≤ g := by
  unfold wc
  have := Nat.mod_lt (c / g ^ (E - 1 - i)) hg1
  omega
theorem isw_I {n t g c : Nat} {M : Mm} (hn : n < 9) (ht : t < 2 ^ np n) (hE : rk t (np n) ≤ 8) (hg1 : 1 ≤ g) (hg : g < 5) (hc : c < 2 ^ 31) (h0 : M.1 49 0 = nI n) (h1 : M.1 49 1 = nI t) : ∃ M', (∀ N, 28 < N → f_Mo_isWeighed N (nI (rk t (np n))) (nI g) (nI c) M = some (bI (VW n t g c), M')) ∧ (∀ i, i < rk t (np n) → M'.1 58 i = nI (wc g (rk t (np n)) c i) ∧ M'.1 57 i = nI (eK t i)) ∧ ∀ a j, a ≠ 56 → a ≠ 57 → a ≠ 58 → M'.1 a j = M.1 a j := by
  generalize hEE : rk t (np n) = E at *
  generalize hA : w8M g E c 0 M = A
  have oA : ∀ a j, a ≠ 58 → A.1 a j = M.1 a j := fun a j q => by rw [← hA]; exact if_neg (fun z => q z.1)
  have A58 : ∀ i, i < E → A.1 58 i = nI (wc g E c i) := fun i hi => by rw [← hA]; exact if_pos ⟨rfl, by omega, hi⟩
  have hb : ∀ j, psm n t (wc g E c) j E < 2 ^ 31 := fun j => by
    have := psm_le (n := n) (t := t) (w := wc g E c) (j := j) (c := g) (k := E) (fun i _ => (wc_le hg1).2)
    have h2 : E * g ≤ 8 * 4 := Nat.mul_le_mul hE (by omega)
    omega
  have ez : zoM n A = wsM n t (wc g E c) 0 A := mm_ext (fun a j => by
    show (if a = 56 ∧ j < n then (0 : Int32) else A.1 a j) = (if a = 56 ∧ j < n then nI 0 else if a = 57 ∧ j < 0 then _ else A.1 a j)
    rw [if_neg (show ¬ (a = 57 ∧ j < 0) by omega)]
    rfl) rfl
  refine ⟨wsM n t (wc g E c) E A, fun N hN => ?_, fun i hi => ⟨?_, ws_57 hi⟩, fun a j q1 q2 q3 => ?_⟩
  · unfold f_Mo_isWeighed
    dsimp only [lt]
    have hw := w88 N (M := M) (fun Mu3 => L_Mo_isWeighed_41 N (fun Mu5 => L_Mo_isWeighed_73 N (fun Mu7 => (f_Mo_areUnlike N (Mu7.1 49 0) Mu7).bind fun vu8 => if (vu8 = 0 ∨ vu8 = 1) then some (vu8, Mu7) else none) N 0 0 0 Mu5) N 0 Mu3) hg1 hg hE hc E N (Nat.le_refl E) (by omega)
    rw [Nat.sub_self, Nat.pow_zero, Nat.div_one, show w8M g E c E M = M from mm_ext (fun a j => if_neg (by omega)) rfl, hA] at hw
    refine hw.trans ?_
    have h41 := ws41 N (n := n) (M := A) (fun Mu5 => L_Mo_isWeighed_73 N (fun Mu7 => (f_Mo_areUnlike N (Mu7.1 49 0) Mu7).bind fun vu8 => if (vu8 = 0 ∨ vu8 = 1) then some (vu8, Mu7) else none) N 0 0 0 Mu5) hn (by rw [oA _ _ (by decide)]; exact h0) n 0 N (by omega) (by omega)
    rw [zo0, ez] at h41
    refine h41.trans ?_
    have h73 := ws73 N (w := wc g E c) (M := A) (fun Mu7 => (f_Mo_areUnlike N (Mu7.1 49 0) Mu7).bind fun vu8 => if (vu8 = 0 ∨ vu8 = 1) then some (vu8, Mu7) else none) (by omega) hn ht (by omega) (by rw [oA _ _ (by decide)]; exact h0) (by rw [oA _ _ (by decide)]; exact h1) (fun i hi => A58 i (by omega)) n 0 N (by omega) (by omega)
    rw [show pr0 n 0 = 0 by unfold pr0; simp, show rk t 0 = 0 from rfl, hEE] at h73
    refine h73.trans ?_
    rw [ws_off (by decide) (by decide), oA _ _ (by decide), h0, au_I (by omega) hn (s := fun j => psm n t (wc g E c) j E) (fun j hj => ws_56 hj) (fun j _ => hb j), bnd_s]
    have hV : unl (fun j => psm n t (wc g E c) j E) n = VW n t g c := by unfold VW; rw [hEE]
    rw [hV, if_pos (by cases VW n t g c; exact Or.inl rfl; exact Or.inr rfl)]
  · rw [ws_off (by decide) (by decide)]; exact A58 i hi
  · rw [ws_off q1 q2, oA a j q3]
