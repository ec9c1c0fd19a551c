/-! PURE 27: sorts, the reference -/
theorem ju_b {α : Type} (ju : Int32 → α) (v : Bool) : (if bI v = 0 then ju 0 else ju 1) = ju (bI v) := by
  cases v <;> rfl
/-! sums unlike -/
def unA (s : Nat → Nat) (p : Nat) : Nat → Bool
  | 0 => true
  | k + 1 => unA s p k && !(decide (s p = s k))
def unl (s : Nat → Nat) : Nat → Bool
  | 0 => true
  | p + 1 => unl s p && unA s p p
theorem unA_cong {s s' : Nat → Nat} {p : Nat} (hp : s p = s' p) : ∀ {k}, (∀ i, i < k → s i = s' i) → unA s p k = unA s' p k
  | 0, _ => rfl
  | k + 1, h => by rw [unA, unA, unA_cong hp (fun i hi => h i (by omega)), hp, h k (by omega)]
theorem unl_cong {s s' : Nat → Nat} : ∀ {n}, (∀ i, i < n → s i = s' i) → unl s n = unl s' n
  | 0, _ => rfl
  | n + 1, h => by rw [unl, unl, unl_cong (fun i hi => h i (by omega)), unA_cong (h n (by omega)) (fun i hi => h i (by omega))]
theorem au12 (N : Nat) {M : Mm} {s : Nat → Nat} {n p : Nat} {v : Bool} (ju : Int32 → Option Int32) (hn : n < 9) (hp : p < n) (hM : ∀ j, j < n → M.1 56 j = nI (s j)) (hs : ∀ j, j < n → s j < 2 ^ 31) : ∀ (d k nu : Nat), k + d = p → d < nu → L_Mo_areUnlike_12 N M (nI p) ju nu (bI (v && unA s p k)) (nI k) = ju (bI (v && unA s p p))
  | 0, k, nu + 1, hk, hnu => by
    have hk : k = p := by omega
    subst hk
    rw [L_Mo_areUnlike_12, if_pos (nI_le (Nat.le_refl k) (by omega))]
  | d + 1, k, nu + 1, hk, hnu => by
    have ih := au12 N (v := v) ju hn hp hM hs d (k + 1) nu (by omega) (by omega)
    rw [L_Mo_areUnlike_12, if_neg (nI_ge (by omega) (by omega))]
    dsimp only [lt]
    rw [if_pos (inb_nI (show p < 8 by omega) (by decide)), if_pos (inb_nI (show k < 8 by omega) (by decide)), ix_nI (by omega), ix_nI (by omega), hM p hp, hM k (by omega), nI_1]
    rw [unA, ← Bool.and_assoc] at ih
    cases hv : v && unA s p k with
    | false =>
      rw [hv, Bool.false_and] at ih
      rw [if_pos (show bI false = 0 from rfl)]
      exact ih
    | true =>
      rw [hv, Bool.true_and] at ih
      rw [if_neg (show ¬ bI true = 0 by decide)]
      by_cases z : s p = s k
      · rw [if_pos (by rw [z])]
        rw [show (!(decide (s p = s k))) = false by simp [z]] at ih
        exact ih
      · rw [if_neg (fun w => z ((nI_eq (hs p hp) (hs k (by omega))).mp w))]
        rw [show (!(decide (s p = s k))) = true by simp [z]] at ih
        exact ih
theorem au4 (N : Nat) {M : Mm} {s : Nat → Nat} {n : Nat} (hN : 9 < N) (hn : n < 9) (hM : ∀ j, j < n → M.1 56 j = nI (s j)) (hs : ∀ j, j < n → s j < 2 ^ 31) : ∀ (d p nu : Nat), p + d = n → d < nu → L_Mo_areUnlike_4 N (nI n) M nu (bI (unl s p)) (nI p) = some (bI (unl s n))
  | 0, p, nu + 1, hp, hnu => by
    have hp : p = n := by omega
    subst hp
    rw [L_Mo_areUnlike_4, if_pos (nI_le (Nat.le_refl p) (by omega)), if_pos (by cases unl s p; exact Or.inl rfl; exact Or.inr rfl)]
  | d + 1, p, nu + 1, hp, hnu => by
    have ih := au4 N hN hn hM hs d (p + 1) nu (by omega) (by omega)
    rw [L_Mo_areUnlike_4, if_neg (nI_ge (by omega) (by omega))]
    dsimp only [lt]
    have h := au12 N (n := n) (p := p) (v := unl s p) (fun x => L_Mo_areUnlike_4 N (nI n) M nu x (nI p + 1)) hn (by omega) hM hs p 0 N (by omega) (by omega)
    rw [show unA s p 0 = true from rfl, Bool.and_true] at h
    refine h.trans ?_
    rw [nI_1]
    exact ih
theorem au_I {N : Nat} {M : Mm} {s : Nat → Nat} {n : Nat} (hN : 9 < N) (hn : n < 9) (hM : ∀ j, j < n → M.1 56 j = nI (s j)) (hs : ∀ j, j < n → s j < 2 ^ 31) : f_Mo_areUnlike N (nI n) M = some (bI (unl s n)) := au4 N hN hn hM hs n 0 N (by omega) (by omega)
/-! sums of both sorts -/
def pT (n o : Nat) : Nat := ([[], [], [1], [1, 2, 10], [1, 2, 3, 10, 11, 19], [1, 2, 3, 4, 10, 11, 12, 19, 20, 28]].getD n []).getD o 0
theorem pT_ok : ∀ n, n < 6 → ∀ p, p < n → ∀ q, q < n → (p < q → pT n (pn n p q) = 8 * p + q) := by decide +kernel
def byd (d : Nat) : Nat := if d = 0 then 0 else if d = 1 then 1 else 10
def ad1 (n o v j : Nat) : Nat := if j = pT n o / 8 ∨ j = pT n o % 8 then v else 0
def sX (n : Nat) : Nat → Nat → Nat → Nat → Nat
  | 0, _, _, _ => 0
  | K + 1, o, c, j => ad1 n o (byd (c % 3)) j + sX n K (o + 1) (c / 3) j
theorem byd_le (d : Nat) : byd d ≤ 10 := by unfold byd; split; omega; split <;> omega
theorem ad1_le {n o v j : Nat} : ad1 n o v j ≤ v := by unfold ad1; split <;> omega
theorem sX_le {n : Nat} : ∀ {K o c j}, sX n K o c j ≤ K * 10
  | 0, _, _, _ => by simp [sX]
  | K + 1, o, c, j => by
    have h := sX_le (n := n) (K := K) (o := o + 1) (c := c / 3) (j := j)
    have h1 := ad1_le (n := n) (o := o) (v := byd (c % 3)) (j := j)
    have h2 := byd_le (c % 3)
    rw [sX]; omega
theorem sX_add {n : Nat} : ∀ (K1 K2 o c j : Nat), sX n (K1 + K2) o c j = sX n K1 o c j + sX n K2 (o + K1) (c / 3 ^ K1) j
  | 0, K2, o, c, j => by simp [sX]
  | K1 + 1, K2, o, c, j => by
    rw [show K1 + 1 + K2 = (K1 + K2) + 1 by omega, sX, sX_add K1 K2 (o + 1) (c / 3) j, sX, Nat.div_div_eq_div_mul, show 3 * 3 ^ K1 = 3 ^ (K1 + 1) by rw [Nat.pow_succ, Nat.mul_comm], show o + 1 + K1 = o + (K1 + 1) by omega, Nat.add_assoc]
def soM (n : Nat) (s : Nat → Nat) (M : Mm) : Mm := (fun a j => if a = 56 ∧ j < n then nI (s j) else M.1 a j, M.2)
theorem so_at {n j : Nat} {s : Nat → Nat} {M : Mm} (h : j < n) : (soM n s M).1 56 j = nI (s j) := if_pos ⟨rfl, h⟩
theorem so_off {n a j : Nat} {s : Nat → Nat} {M : Mm} (h : a ≠ 56) : (soM n s M).1 a j = M.1 a j := if_neg (fun z => h z.1)
theorem so_cong {n : Nat} {s s' : Nat → Nat} {M : Mm} (h : ∀ j, j < n → s j = s' j) : soM n s M = soM n s' M := mm_ext (fun a j => by
  show (if a = 56 ∧ j < n then _ else _) = (if a = 56 ∧ j < n then _ else _)
  by_cases z : a = 56 ∧ j < n
  · rw [if_pos z, if_pos z, h j z.2]
  · rw [if_neg z, if_neg z]) rfl
theorem so_step {n p q v : Nat} {s : Nat → Nat} {M : Mm} (hn : n < 6) (hpq : p < q) (hq : q < n) : si (si (soM n s M) 56 p (nI (s p + v))) 56 q (nI (s q + v)) = soM n (fun j => s j + ad1 n (pn n p q) v j) M := by
  have hT := pT_ok n hn p (by omega) q hq hpq
  refine mm_ext (fun a j => ?_) rfl
  rw [si1, si1]
  show (if a = 56 ∧ j = q then _ else if a = 56 ∧ j = p then _ else (if a = 56 ∧ j < n then _ else _)) = (if a = 56 ∧ j < n then nI (s j + ad1 n (pn n p q) v j) else _)
  unfold ad1
  rw [hT]
  by_cases h1 : a = 56 ∧ j = q
  · rw [if_pos h1, if_pos (by omega), h1.2, if_pos (by omega)]
  · rw [if_neg h1]
    by_cases h2 : a = 56 ∧ j = p
    · rw [if_pos h2, if_pos (by omega), h2.2, if_pos (by omega)]
    · rw [if_neg h2]
      by_cases h3 : a = 56 ∧ j < n
      · rw [if_pos h3, if_pos h3, if_neg (by omega), Nat.add_zero]
      · rw [if_neg h3, if_neg h3]
theorem so90 (N : Nat) {n p : Nat} {M : Mm} (ju : Int32 → Mm → Option (Int32 × Mm)) (hn : n < 6) (hp : p < n) : ∀ (d q nu c : Nat) (s : Nat → Nat), q + d = n → p < q → d < nu → c < 2 ^ 31 → L_Mo_sorts_90 N (nI n) (nI p) ju nu (nI c) (nI q) (soM n s M) = ju (nI (c / 3 ^ d)) (soM n (fun j => s j + sX n d (pr0 n p + (q - p - 1)) c j) M)
  | 0, q, nu + 1, c, s, hq, hpq, hnu, hc => by
    have hq : q = n := by omega
    subst hq
    rw [L_Mo_sorts_90, if_pos (nI_le (Nat.le_refl q) (by omega)), Nat.pow_zero, Nat.div_one]
    rfl
  | d + 1, q, nu + 1, c, s, hq, hpq, hnu, hc => by
    have hK := pn_up (n := n) hpq
    have ih := so90 N (M := M) ju hn hp d (q + 1) nu (c / 3) (fun j => s j + ad1 n (pn n p q) (byd (c % 3)) j) (by omega) (by omega) (by omega) (by omega)
    rw [L_Mo_sorts_90, if_neg (nI_ge (by omega) (by omega))]
    dsimp only [lt]
    rw [show (3 : Int32) = nI 3 from rfl, pk_rem hc (by decide) (by decide), pk_div hc (by decide) (by decide)]
    have jj : ∀ (ju22 : Int32 → Option (Int32 × Mm)), (if nI (c % 3) = 0 then ju22 0 else if nI (c % 3) = 1 then ju22 1 else ju22 10) = ju22 (nI (byd (c % 3))) := by
      intro ju22
      unfold byd
      rcases (show c % 3 = 0 ∨ c % 3 = 1 ∨ c % 3 = 2 by omega) with e | e | e <;> rw [e] <;> rfl
    refine (jj (fun xu23 => if inb (nI p) 8 = true then if inb (nI p) 8 = true then if inb (nI q) 8 = true then if inb (nI q) 8 = true then L_Mo_sorts_90 N (nI n) (nI p) ju nu (nI (c / 3)) (nI q + 1) (si (si (soM n s M) 56 (Int32.toNatClampNeg (nI p)) ((soM n s M).1 56 (Int32.toNatClampNeg (nI p)) + xu23)) 56 (Int32.toNatClampNeg (nI q)) ((si (soM n s M) 56 (Int32.toNatClampNeg (nI p)) ((soM n s M).1 56 (Int32.toNatClampNeg (nI p)) + xu23)).1 56 (Int32.toNatClampNeg (nI q)) + xu23)) else none else none else none else none)).trans ?_
    rw [if_pos (inb_nI (show p < 8 by omega) (by decide)), if_pos (inb_nI (show p < 8 by omega) (by decide)), if_pos (inb_nI (show q < 8 by omega) (by decide)), if_pos (inb_nI (show q < 8 by omega) (by decide)), ix_nI (show p < 2 ^ 31 by omega), ix_nI (show q < 2 ^ 31 by omega), si_k _ _ (show q ≠ p by omega), so_at hp, so_at (show q < n by omega), nI_add, nI_add, so_step hn hpq (by omega), nI_1, ih]
    rw [Nat.div_div_eq_div_mul, show 3 * 3 ^ d = 3 ^ (d + 1) by rw [Nat.pow_succ, Nat.mul_comm]]
    congr 1
    refine so_cong (fun j _ => ?_)
    rw [sX, hK, show pr0 n p + (q + 1 - p - 1) = pr0 n p + (q - p - 1) + 1 by omega, Nat.add_assoc]
theorem pr_np : ∀ n, n < 9 → ∀ p, p < n + 1 → pr0 n p ≤ np n := by decide
theorem so78 (N : Nat) {n : Nat} {M : Mm} (ju : Mm → Option (Int32 × Mm)) (hN : 9 < N) (hn : n < 6) : ∀ (d p nu c : Nat) (s : Nat → Nat), p + d = n → d < nu → c < 2 ^ 31 → L_Mo_sorts_78 N (nI n) ju nu (nI c) (nI p) (soM n s M) = ju (soM n (fun j => s j + sX n (np n - pr0 n p) (pr0 n p) c j) M)
  | 0, p, nu + 1, c, s, hp, hnu, hc => by
    have hp : p = n := by omega
    subst hp
    rw [L_Mo_sorts_78, if_pos (nI_le (Nat.le_refl p) (by omega)), pr_end p (by omega), Nat.sub_self]
    rfl
  | d + 1, p, nu + 1, c, s, hp, hnu, hc => by
    have hx := pr_next n (by omega) p (by omega)
    have hl := pr_np n (by omega) (p + 1) (by omega)
    have ih := so78 N (M := M) ju hN hn d (p + 1) nu (c / 3 ^ (n - p - 1)) (fun j => s j + sX n (n - p - 1) (pr0 n p) c j) (by omega) (by omega) (Nat.lt_of_le_of_lt (Nat.div_le_self _ _) hc)
    rw [L_Mo_sorts_78, if_neg (nI_ge (by omega) (by omega))]
    dsimp only [lt]
    rw [nI_1]
    refine (so90 N _ hn (by omega) (n - p - 1) (p + 1) N c s (by omega) (by omega) (by omega) hc).trans ?_
    simp only [show p + 1 - p - 1 = 0 by omega, Nat.add_zero]
    rw [ih]
    congr 1
    refine so_cong (fun j _ => ?_)
    have e := sX_add (n := n) (n - p - 1) (np n - pr0 n (p + 1)) (pr0 n p) c j
    rw [show n - p - 1 + (np n - pr0 n (p + 1)) = np n - pr0 n p by omega, hx] at e
    rw [e, Nat.add_assoc]
def zoM (k : Nat) (M : Mm) : Mm := (fun a j => if a = 56 ∧ j < k then 0 else M.1 a j, M.2)
theorem zo_step {k : Nat} {M : Mm} : si (zoM k M) 56 k 0 = zoM (k + 1) M := by
  refine mm_ext (fun a j => ?_) rfl
  rw [si1]
  show (if _ then _ else (if a = 56 ∧ j < k then _ else _)) = (if a = 56 ∧ j < k + 1 then _ else _)
  by_cases h1 : a = 56 ∧ j = k
  · rw [if_pos h1, if_pos ⟨h1.1, by omega⟩]
  · rw [if_neg h1]
    by_cases h2 : a = 56 ∧ j < k
    · rw [if_pos h2, if_pos ⟨h2.1, by omega⟩]
    · rw [if_neg h2, if_neg (by omega)]
theorem so55 (N : Nat) {n : Nat} {M : Mm} (ju : Mm → Option (Int32 × Mm)) (hn : n < 9) : ∀ (d k nu : Nat), k + d = n → d < nu → L_Mo_sorts_55 N (nI n) ju nu (nI k) (zoM k M) = ju (zoM n M)
  | 0, k, nu + 1, hk, hnu => by
    have hk : k = n := by omega
    subst hk
    rw [L_Mo_sorts_55, if_pos (nI_le (Nat.le_refl k) (by omega))]
  | d + 1, k, nu + 1, hk, hnu => by
    have ih := so55 N (M := M) ju hn d (k + 1) nu (by omega) (by omega)
    rw [L_Mo_sorts_55, if_neg (nI_ge (by omega) (by omega))]
    dsimp only [lt]
    rw [if_pos (inb_nI (by omega) (by decide)), ix_nI (by omega), zo_step, nI_1]
    exact ih
theorem zo0 {M : Mm} : zoM 0 M = M := mm_ext (fun a j => if_neg (by omega)) rfl
theorem zo_so {n : Nat} {s : Nat → Nat} {M : Mm} : zoM n (soM n s M) = soM n (fun _ => 0) M := mm_ext (fun a j => by
  show (if a = 56 ∧ j < n then _ else (if a = 56 ∧ j < n then _ else _)) = (if a = 56 ∧ j < n then _ else _)
  by_cases z : a = 56 ∧ j < n
  · rw [if_pos z, if_pos z]; rfl
  · rw [if_neg z, if_neg z, if_neg z]) rfl
def soG (n c : Nat) : Bool := unl (fun j => 0 + sX n (np n) 0 c j) n
theorem np5 : ∀ n, n < 6 → np n ≤ 10 := by decide
theorem so42 {n : Nat} {M : Mm} (hn : n < 6) : ∀ (d k : Nat) (s : Nat → Nat), k + d = 3 ^ np n → ∃ s' : Nat → Nat, ∀ N nu, 9 < N → d < nu → L_Mo_sorts_42 N (nI n) (nI (3 ^ np n)) nu (nI (ctb (soG n) k)) (nI k) (soM n s M) = some (nI (ctb (soG n) (3 ^ np n)), soM n s' M) := by
  have hE : 3 ^ np n ≤ 3 ^ 10 := Nat.pow_le_pow_right (by decide) (np5 n hn)
  intro d
  induction d with
  | zero =>
    intro k s hk
    refine ⟨s, fun N nu hN hnu => ?_⟩
    obtain ⟨nu, rfl⟩ : ∃ v, nu = v + 1 := ⟨nu - 1, by omega⟩
    have hk : k = 3 ^ np n := by omega
    rw [L_Mo_sorts_42, if_pos (by rw [hk]; exact nI_le (Nat.le_refl _) (by omega)), hk]
  | succ d ih =>
    intro k s hk
    obtain ⟨s', hs'⟩ := ih (k + 1) (fun j => 0 + sX n (np n) 0 k j) (by omega)
    refine ⟨s', fun N nu hN hnu => ?_⟩
    obtain ⟨nu, rfl⟩ : ∃ v, nu = v + 1 := ⟨nu - 1, by omega⟩
    have h := hs' N nu hN (by omega)
    rw [L_Mo_sorts_42, if_neg (nI_ge (by omega) (by omega))]
    dsimp only [lt]
    have h55 := so55 N (n := n) (M := soM n s M) (fun Mu6 => L_Mo_sorts_78 N (nI n) (fun Mu8 => (f_Mo_areUnlike N (nI n) Mu8).bind fun vu9 => if vu9 = 0 then L_Mo_sorts_42 N (nI n) (nI (3 ^ np n)) nu (nI (ctb (soG n) k) + 0) (nI k + 1) Mu8 else L_Mo_sorts_42 N (nI n) (nI (3 ^ np n)) nu (nI (ctb (soG n) k) + 1) (nI k + 1) Mu8) N (nI k) 0 Mu6) (by omega) n 0 N (by omega) (by omega)
    rw [zo0, zo_so] at h55
    refine h55.trans ?_
    have h78 := so78 N (n := n) (M := M) (fun Mu8 => (f_Mo_areUnlike N (nI n) Mu8).bind fun vu9 => if vu9 = 0 then L_Mo_sorts_42 N (nI n) (nI (3 ^ np n)) nu (nI (ctb (soG n) k) + 0) (nI k + 1) Mu8 else L_Mo_sorts_42 N (nI n) (nI (3 ^ np n)) nu (nI (ctb (soG n) k) + 1) (nI k + 1) Mu8) hN hn n 0 N k (fun _ => 0) (by omega) (by omega) (by omega)
    rw [show pr0 n 0 = 0 by unfold pr0; simp, Nat.sub_zero] at h78
    refine h78.trans ?_
    try dsimp only
    have hb : ∀ j, 0 + sX n (np n) 0 k j < 2 ^ 31 := fun j => by
      have := sX_le (n := n) (K := np n) (o := 0) (c := k) (j := j)
      have := np5 n hn
      omega
    rw [au_I hN (by omega) (s := fun j => 0 + sX n (np n) 0 k j) (fun j hj => so_at hj) (fun j _ => hb j), bnd_s, nI_1]
    show (if bI (soG n k) = 0 then _ else _) = _
    by_cases z : soG n k = true
    · rw [if_neg (by rw [z]; decide), nI_1, ct_yes z]
      exact h
    · rw [if_pos (by rw [show soG n k = false by simpa using z]; rfl), show (0 : Int32) = nI 0 from rfl, nI_add, Nat.add_zero, ct_no z]
      exact h
theorem so19 (N : Nat) {n : Nat} (ju : Int32 → Option (Int32 × Mm)) (h1 : 1 ≤ n) (hn : n < 6) : ∀ (d k nu : Nat), k + d = np n → d < nu → L_Mo_sorts_19 N (nI n) ju nu (nI (3 ^ k)) (nI k) = ju (nI (3 ^ np n))
  | 0, k, nu + 1, hk, hnu => by
    have hk : k = np n := by omega
    have := np5 n hn
    rw [L_Mo_sorts_19]
    unfold f_Mo_pairs
    rw [np_I h1 (by omega), if_pos (nI_le (by omega) (by omega)), hk]
  | d + 1, k, nu + 1, hk, hnu => by
    have ih := so19 N ju h1 hn d (k + 1) nu (by omega) (by omega)
    have := np5 n hn
    rw [L_Mo_sorts_19]
    unfold f_Mo_pairs
    rw [np_I h1 (by omega), if_neg (nI_ge (by omega) (by omega))]
    dsimp only [lt]
    rw [show (3 : Int32) = nI 3 from rfl, pk_mul, nI_1, ← Nat.pow_succ]
    exact ih
theorem moso_I {n : Nat} {M : Mm} (h1 : 1 ≤ n) (hn : n < 6) : ∃ s' : Nat → Nat, ∀ N, 70000 < N → f_Mo_sorts N (nI n) M = some (nI (ctb (soG n) (3 ^ np n)), soM n s' M) := by
  have hE : 3 ^ np n ≤ 3 ^ 10 := Nat.pow_le_pow_right (by decide) (np5 n hn)
  have hE2 : (3 : Nat) ^ 10 = 59049 := by decide
  obtain ⟨s', hs'⟩ := so42 (M := M) hn (3 ^ np n) 0 (fun j => (M.1 56 j).toBitVec.toNat) (by omega)
  have e0 : soM n (fun j => (M.1 56 j).toBitVec.toNat) M = M := mm_ext (fun a j => by
    show (if a = 56 ∧ j < n then nI ((M.1 56 j).toBitVec.toNat) else _) = _
    by_cases z : a = 56 ∧ j < n
    · rw [if_pos z, z.1]
      apply Int32.toBitVec_inj.1
      show BitVec.ofNat 32 _ = _
      simp
    · rw [if_neg z]) rfl
  rw [e0] at hs'
  refine ⟨s', fun N hN => ?_⟩
  unfold f_Mo_sorts
  rw [show (1 : Int64) = (1 : Int32).toInt64 from rfl, show (5 : Int64) = (5 : Int32).toInt64 from rfl, in_if, if_neg (show ¬ nI n < 1 from nI_nlt (b := 1) h1 (by omega)), if_neg (show ¬ (5 : Int32) < nI n from nI_nlt (a := 5) (by omega) (by decide))]
  dsimp only [lt]
  refine (so19 N _ h1 hn (np n) 0 N (by omega) (by have := np5 n hn; omega)).trans ?_
  exact hs' N N (by omega) (by omega)
