/-! PURE 24: sides -/
def bI (v : Bool) : Int32 := if v = true then 1 else 0
theorem ctb_add (g : Nat → Bool) (k : Nat) : ∀ d, ctb g (k + d) = ctb g k + ctb (fun i => g (k + i)) d
  | 0 => by simp [ctb]
  | d + 1 => by rw [← Nat.add_assoc, ctb, ctb_add g k d, ctb, Nat.add_assoc]
theorem ctb_mul (g : Nat → Bool) (R : Nat) : ∀ K, ctb g (R * K) = smN (fun h => ctb (fun l => g (R * h + l)) R) K
  | 0 => by simp [ctb, smN]
  | K + 1 => by rw [Nat.mul_succ, ctb_add, ctb_mul g R K, smN]
theorem sd66 (N : Nat) {b t i : Nat} (ju : Int32 → Option Int32) (ht : t < 2 ^ 31) (hb : b < 5) (hi : i < 5) : ∀ (d k nu : Nat), k + d = b → d < nu → L_Mo_sides_66 N (nI b) (nI t) (nI i) ju nu (nI (ctb (fun j => t.testBit (b * i + j)) k)) (nI k) = ju (nI (ctb (fun j => t.testBit (b * i + j)) b))
  | 0, k, nu + 1, hk, hnu => by
    have hk : k = b := by omega
    subst hk
    rw [L_Mo_sides_66, if_pos (nI_le (Nat.le_refl k) (by omega))]
  | d + 1, k, nu + 1, hk, hnu => by
    have ih := sd66 N ju ht hb hi d (k + 1) nu (by omega) (by omega)
    have hm : b * i ≤ 4 * 4 := Nat.mul_le_mul (by omega) (by omega)
    rw [L_Mo_sides_66, if_neg (nI_ge (by omega) (by omega))]
    dsimp only [lt]
    rw [pk_mul, nI_add, bit_I ht (by omega), nI_add, nI_1]
    rw [ctb] at ih
    exact ih
theorem sd147 (N : Nat) {a b t j : Nat} (ju : Int32 → Option Int32) (ht : t < 2 ^ 31) (ha : a < 5) (hb : b < 5) (hj : j < 5) : ∀ (d k nu : Nat), k + d = a → d < nu → L_Mo_sides_147 N (nI a) (nI b) (nI t) (nI j) ju nu (nI (ctb (fun i => t.testBit (b * i + j)) k)) (nI k) = ju (nI (ctb (fun i => t.testBit (b * i + j)) a))
  | 0, k, nu + 1, hk, hnu => by
    have hk : k = a := by omega
    subst hk
    rw [L_Mo_sides_147, if_pos (nI_le (Nat.le_refl k) (by omega))]
  | d + 1, k, nu + 1, hk, hnu => by
    have ih := sd147 N ju ht ha hb hj d (k + 1) nu (by omega) (by omega)
    have hm : b * k ≤ 4 * 4 := Nat.mul_le_mul (by omega) (by omega)
    rw [L_Mo_sides_147, if_neg (nI_ge (by omega) (by omega))]
    dsimp only [lt]
    rw [pk_mul, nI_add, bit_I ht (by omega), nI_add, nI_1]
    rw [ctb] at ih
    exact ih
/-- the set of the first counts, and whether they are unlike -/
def uS (c : Nat → Nat) : Nat → Nat
  | 0 => 0
  | k + 1 => uS c k ||| 2 ^ c k
def uB (c : Nat → Nat) : Nat → Bool
  | 0 => true
  | k + 1 => uB c k && !((uS c k).testBit (c k))
theorem uS_lt {c : Nat → Nat} : ∀ {k}, (∀ i, i < k → c i < 5) → uS c k < 2 ^ 5
  | 0, _ => by show (0 : Nat) < 2 ^ 5; decide
  | k + 1, h => by
    rw [uS]
    refine Nat.or_lt_two_pow (uS_lt (fun i hi => h i (by omega))) ?_
    exact Nat.pow_lt_pow_right (by decide) (h k (by omega))
theorem un_step {c : Nat → Nat} {v : Bool} {k : Nat} (h : ∀ i, i < k + 1 → c i < 5) {α : Type} (ju : Int32 → α) : (if bI (v && uB c k) = 0 then ju 0 else if f_Mo_has (nI (uS c k)) (nI (c k)) = 0 then ju 1 else ju 0) = ju (bI (v && uB c (k + 1))) := by
  have hs : uS c k < 2 ^ 5 := uS_lt (fun i hi => h i (by omega))
  have hc := h k (by omega)
  rw [has_I (Nat.lt_trans hs (by decide)) (by omega), uB, ← Bool.and_assoc]
  cases v && uB c k with
  | false => rfl
  | true =>
    rw [if_neg (show ¬ bI true = 0 by decide)]
    by_cases z : (uS c k).testBit (c k) = true
    · rw [if_pos z, if_neg h10, z]; rfl
    · have z' : (uS c k).testBit (c k) = false := by simpa using z
      rw [if_neg z, if_pos rfl, z']; rfl
theorem un_set {c : Nat → Nat} {k : Nat} (h : c k < 5) : nI (uS c k) ||| ((1 : Int32) <<< (nI (c k) &&& 31)) = nI (uS c (k + 1)) := by
  rw [one_sl (by omega), or_I]; rfl
def rcn (b t i : Nat) : Nat := ctb (fun j => t.testBit (b * i + j)) b
def ccn (a b t j : Nat) : Nat := ctb (fun i => t.testBit (b * i + j)) a
theorem sd54 (N : Nat) {a b t : Nat} (ju : Int32 → Option Int32) (hN : 9 < N) (ht : t < 2 ^ 31) (ha : a < 5) (hb : b < 5) : ∀ (d k nu : Nat), k + d = a → d < nu → L_Mo_sides_54 N (nI a) (nI b) (nI t) ju nu (nI (uS (rcn b t) k)) (bI (true && uB (rcn b t) k)) (nI k) = ju (bI (true && uB (rcn b t) a))
  | 0, k, nu + 1, hk, hnu => by
    have hk : k = a := by omega
    subst hk
    rw [L_Mo_sides_54, if_pos (nI_le (Nat.le_refl k) (by omega))]
  | d + 1, k, nu + 1, hk, hnu => by
    have ih := sd54 N ju hN ht ha hb d (k + 1) nu (by omega) (by omega)
    have hc : ∀ i, i < k + 1 → rcn b t i < 5 := fun i _ => Nat.lt_of_le_of_lt (ctb_le _ _) hb
    rw [L_Mo_sides_54, if_neg (nI_ge (by omega) (by omega))]
    dsimp only [lt]
    refine (sd66 N _ ht hb (show k < 5 by omega) b 0 N (by omega) (by omega)).trans ?_
    try dsimp only
    rw [show ctb (fun j => t.testBit (b * k + j)) b = rcn b t k from rfl, un_set (hc k (by omega)), nI_1]
    refine (un_step (v := true) hc (fun x => L_Mo_sides_54 N (nI a) (nI b) (nI t) ju nu (nI (uS (rcn b t) (k + 1))) x (nI (k + 1)))).trans ?_
    exact ih
theorem sd135 (N : Nat) {a b t : Nat} {v : Bool} (ju : Int32 → Option Int32) (hN : 9 < N) (ht : t < 2 ^ 31) (ha : a < 5) (hb : b < 5) : ∀ (d k nu : Nat), k + d = b → d < nu → L_Mo_sides_135 N (nI a) (nI b) (nI t) ju nu (nI (uS (ccn a b t) k)) (bI (v && uB (ccn a b t) k)) (nI k) = ju (bI (v && uB (ccn a b t) b))
  | 0, k, nu + 1, hk, hnu => by
    have hk : k = b := by omega
    subst hk
    rw [L_Mo_sides_135, if_pos (nI_le (Nat.le_refl k) (by omega))]
  | d + 1, k, nu + 1, hk, hnu => by
    have ih := sd135 N (v := v) ju hN ht ha hb d (k + 1) nu (by omega) (by omega)
    have hc : ∀ i, i < k + 1 → ccn a b t i < 5 := fun i _ => Nat.lt_of_le_of_lt (ctb_le _ _) ha
    rw [L_Mo_sides_135, if_neg (nI_ge (by omega) (by omega))]
    dsimp only [lt]
    refine (sd147 N _ ht ha hb (show k < 5 by omega) a 0 N (by omega) (by omega)).trans ?_
    try dsimp only
    rw [show ctb (fun i => t.testBit (b * i + k)) a = ccn a b t k from rfl, un_set (hc k (by omega)), nI_1]
    refine (un_step (v := v) hc (fun x => L_Mo_sides_135 N (nI a) (nI b) (nI t) ju nu (nI (uS (ccn a b t) (k + 1))) x (nI (k + 1)))).trans ?_
    exact ih
def sdG (a b t : Nat) : Bool := (true && uB (rcn b t) a) && uB (ccn a b t) b
theorem sd32 (N : Nat) {a b : Nat} (hN : 9 < N) (ha : a < 5) (hb : b < 5) : ∀ (d k nu : Nat), k + d = 2 ^ (a * b) → d < nu → L_Mo_sides_32 N (nI a) (nI b) nu (nI (ctb (sdG a b) k)) (nI k) = some (nI (ctb (sdG a b) (2 ^ (a * b))))
  | 0, k, nu + 1, hk, hnu => by
    have hm : a * b ≤ 4 * 4 := Nat.mul_le_mul (by omega) (by omega)
    have hp : 2 ^ (a * b) ≤ 2 ^ 16 := Nat.pow_le_pow_right (by decide) (by omega)
    have hk : k = 2 ^ (a * b) := by omega
    subst hk
    rw [L_Mo_sides_32, pk_mul, one_sl (by omega), if_pos (nI_le (Nat.le_refl _) (by omega))]
  | d + 1, k, nu + 1, hk, hnu => by
    have ih := sd32 N hN ha hb d (k + 1) nu (by omega) (by omega)
    have hm : a * b ≤ 4 * 4 := Nat.mul_le_mul (by omega) (by omega)
    have hp : 2 ^ (a * b) ≤ 2 ^ 16 := Nat.pow_le_pow_right (by decide) (by omega)
    have hk31 : k < 2 ^ 31 := by omega
    rw [L_Mo_sides_32, pk_mul, one_sl (by omega), if_neg (nI_ge (by omega) (by omega))]
    dsimp only [lt]
    refine (sd54 N _ hN hk31 ha hb a 0 N (by omega) (by omega)).trans ?_
    try dsimp only
    have h := sd135 N (v := true && uB (rcn b k) a) (fun xu7 => if xu7 = 0 then L_Mo_sides_32 N (nI a) (nI b) nu (nI (ctb (sdG a b) k) + 0) (nI k + 1) else L_Mo_sides_32 N (nI a) (nI b) nu (nI (ctb (sdG a b) k) + 1) (nI k + 1)) hN hk31 ha hb b 0 N (by omega) (by omega)
    rw [show uB (ccn a b k) 0 = true from rfl, Bool.and_true] at h
    refine h.trans ?_
    try dsimp only
    rw [nI_1]
    show (if bI (sdG a b k) = 0 then L_Mo_sides_32 N (nI a) (nI b) nu (nI (ctb (sdG a b) k) + 0) (nI (k + 1)) else L_Mo_sides_32 N (nI a) (nI b) nu (nI (ctb (sdG a b) k) + 1) (nI (k + 1))) = _
    by_cases z : sdG a b k = true
    · rw [if_neg (by rw [z]; decide), nI_1, ct_yes z]
      exact ih
    · rw [if_pos (by rw [show sdG a b k = false by simpa using z]; rfl), show (0 : Int32) = nI 0 from rfl, nI_add, Nat.add_zero, ct_no z]
      exact ih
theorem mosd_I {N a b : Nat} (hN : 70000 < N) (ha1 : 1 ≤ a) (ha : a < 5) (hb1 : 1 ≤ b) (hb : b < 5) : f_Mo_sides N (nI a) (nI b) = some (nI (ctb (sdG a b) (2 ^ (a * b)))) := by
  have hm : a * b ≤ 4 * 4 := Nat.mul_le_mul (by omega) (by omega)
  have hp : 2 ^ (a * b) ≤ 2 ^ 16 := Nat.pow_le_pow_right (by decide) (by omega)
  unfold f_Mo_sides
  rw [show (1 : Int64) = (1 : Int32).toInt64 from rfl, show (4 : Int64) = (4 : Int32).toInt64 from rfl, in_if, in_if, if_neg (show ¬ nI a < 1 from nI_nlt (b := 1) ha1 (by omega)), if_neg (show ¬ (4 : Int32) < nI a from nI_nlt (a := 4) (by omega) (by decide)), if_neg (show ¬ nI b < 1 from nI_nlt (b := 1) hb1 (by omega)), if_neg (show ¬ (4 : Int32) < nI b from nI_nlt (a := 4) (by omega) (by decide))]
  exact sd32 N (by omega) ha hb (2 ^ (a * b)) 0 N (by omega) (by omega)
