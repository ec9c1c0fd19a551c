/-! PURE 35: the least of keys -/
def key (a p t : Nat) : Nat := a * 1099511627776 + p * 1048576 + t
def INF : Nat := key 1000000 1000000 1000000
def kA (k : Nat) : Nat := k / 1099511627776
def kP (k : Nat) : Nat := k / 1048576 % 1048576
def kT (k : Nat) : Nat := k % 1048576
theorem kA_k {a p t : Nat} (hp : p < 1048576) (ht : t < 1048576) : kA (key a p t) = a := by unfold kA key; omega
theorem kP_k {a p t : Nat} (hp : p < 1048576) (ht : t < 1048576) : kP (key a p t) = p := by unfold kP key; omega
theorem kT_k {a p t : Nat} (ht : t < 1048576) : kT (key a p t) = t := by unfold kT key; omega
theorem key_lt {a p t k : Nat} (hp : p < 1048576) (ht : t < 1048576) : key a p t < k ↔ (a < kA k ∨ (a = kA k ∧ (p < kP k ∨ (p = kP k ∧ t < kT k)))) := by
  unfold kA kP kT key
  omega
theorem k_bd {k : Nat} (h : k ≤ INF) : kA k ≤ 1000000 ∧ kP k < 1048576 ∧ kT k < 1048576 := by
  unfold INF key at h
  unfold kA kP kT
  omega
def fM (c : Nat → Nat) (g V : Nat → Bool) (K : Nat) : Nat := fo (fun a b => min a b) INF c (fun t => V t && g t) K
theorem mn_inf {c : Nat → Nat} {V : Nat → Bool} : ∀ K, fo (fun a b => min a b) INF c V K ≤ INF
  | 0 => Nat.le_refl _
  | K + 1 => by
    have := mn_inf (c := c) (V := V) K
    rw [fo]
    split
    · exact Nat.le_trans (Nat.min_le_left _ _) this
    · exact this
theorem mn_le {c : Nat → Nat} {V : Nat → Bool} {t : Nat} : ∀ {K}, t < K → V t = true → fo (fun a b => min a b) INF c V K ≤ c t
  | 0, h, _ => absurd h (by omega)
  | K + 1, h, hV => by
    rw [fo]
    by_cases e : t = K
    · subst e
      rw [if_pos hV]
      exact Nat.min_le_right _ _
    · have := mn_le (c := c) (V := V) (t := t) (K := K) (by omega) hV
      split
      · exact Nat.le_trans (Nat.min_le_left _ _) this
      · exact this
theorem mn_ge {c : Nat → Nat} {V : Nat → Bool} {x : Nat} (hx : x ≤ INF) : ∀ {K}, (∀ t, t < K → V t = true → x ≤ c t) → x ≤ fo (fun a b => min a b) INF c V K
  | 0, _ => hx
  | K + 1, h => by
    have ih := mn_ge (c := c) (V := V) hx (K := K) (fun t ht => h t (by omega))
    rw [fo]
    by_cases q : V K = true
    · rw [if_pos q]
      exact Nat.le_min.mpr ⟨ih, h K (by omega) q⟩
    · rw [if_neg q]; exact ih
theorem mn_att {c : Nat → Nat} {V : Nat → Bool} : ∀ K, fo (fun a b => min a b) INF c V K = INF ∨ ∃ t, t < K ∧ V t = true ∧ fo (fun a b => min a b) INF c V K = c t
  | 0 => Or.inl rfl
  | K + 1 => by
    have ih := mn_att (c := c) (V := V) K
    rw [fo]
    by_cases q : V K = true
    · rw [if_pos q]
      rcases Nat.le_total (fo (fun a b => min a b) INF c V K) (c K) with h | h
      · have e : min (fo (fun a b => min a b) INF c V K) (c K) = fo (fun a b => min a b) INF c V K := Nat.min_eq_left h
        rw [e]
        rcases ih with ih | ⟨t, h1, h2, h3⟩
        · exact Or.inl ih
        · exact Or.inr ⟨t, by omega, h2, h3⟩
      · have e : min (fo (fun a b => min a b) INF c V K) (c K) = c K := Nat.min_eq_right h
        rw [e]
        exact Or.inr ⟨K, by omega, q, rfl⟩
    · rw [if_neg q]
      rcases ih with ih | ⟨t, h1, h2, h3⟩
      · exact Or.inl ih
      · exact Or.inr ⟨t, by omega, h2, h3⟩
theorem min_rc (a b d : Nat) : min (min a b) d = min (min a d) b := by omega
theorem fM_cong {c : Nat → Nat} {g V W : Nat → Bool} {K : Nat} (h : ∀ t, t < K → V t = W t) : fM c g V K = fM c g W K := fo_cong (fun t ht => by rw [h t ht])
theorem fM_prune {c : Nat → Nat} {g V : Nat → Bool} {n p x : Nat} (h : ∀ t, t < 2 ^ np n → ext n p x t = true → g t = true → fM c g V (2 ^ np n) ≤ c t) : fM c g (fun t => V t || ext n p x t) (2 ^ np n) = fM c g V (2 ^ np n) := by
  refine Nat.le_antisymm ?_ ?_
  · refine mn_ge (mn_inf _) (fun t ht hV => mn_le ht ?_)
    rw [Bool.and_eq_true] at hV ⊢
    exact ⟨by show (V t || ext n p x t) = true; rw [hV.1]; rfl, hV.2⟩
  · refine mn_ge (mn_inf _) (fun t ht hV => ?_)
    rw [Bool.and_eq_true, Bool.or_eq_true] at hV
    rcases hV.1 with q | q
    · exact mn_le ht (by rw [Bool.and_eq_true]; exact ⟨q, hV.2⟩)
    · exact h t ht q hV.2
theorem fM_leaf {c : Nat → Nat} {g V : Nat → Bool} {n x : Nat} (hn : n < 9) (hx : x < 2 ^ np n) (hV : V x = false) (hg : g x = true) : fM c g (fun t => V t || ext n n x t) (2 ^ np n) = min (fM c g V (2 ^ np n)) (c x) := fo_lf min_rc hn hx hV hg
/-! the class's best -/
def neM (k : Nat) (Mb : Mm) : Mm := (fun a j => if a = 20 ∧ j = 10 then nI (kA k) else if a = 20 ∧ j = 11 then nI (kP k) else if a = 20 ∧ j = 12 then nI (kT k) else Mb.1 a j, Mb.2)
theorem ne_10 {k : Nat} {Mb : Mm} : (neM k Mb).1 20 10 = nI (kA k) := by
  have e : (neM k Mb).1 20 10 = (if (20 : Nat) = 20 ∧ (10 : Nat) = 10 then nI (kA k) else if (20 : Nat) = 20 ∧ (10 : Nat) = 11 then nI (kP k) else if (20 : Nat) = 20 ∧ (10 : Nat) = 12 then nI (kT k) else Mb.1 20 10) := rfl
  rw [e, if_pos ⟨rfl, rfl⟩]
theorem ne_11 {k : Nat} {Mb : Mm} : (neM k Mb).1 20 11 = nI (kP k) := by
  have e : (neM k Mb).1 20 11 = (if (20 : Nat) = 20 ∧ (11 : Nat) = 10 then nI (kA k) else if (20 : Nat) = 20 ∧ (11 : Nat) = 11 then nI (kP k) else if (20 : Nat) = 20 ∧ (11 : Nat) = 12 then nI (kT k) else Mb.1 20 11) := rfl
  rw [e, if_neg (by decide), if_pos ⟨rfl, rfl⟩]
theorem ne_12 {k : Nat} {Mb : Mm} : (neM k Mb).1 20 12 = nI (kT k) := by
  have e : (neM k Mb).1 20 12 = (if (20 : Nat) = 20 ∧ (12 : Nat) = 10 then nI (kA k) else if (20 : Nat) = 20 ∧ (12 : Nat) = 11 then nI (kP k) else if (20 : Nat) = 20 ∧ (12 : Nat) = 12 then nI (kT k) else Mb.1 20 12) := rfl
  rw [e, if_neg (by decide), if_neg (by decide), if_pos ⟨rfl, rfl⟩]
theorem ne_off {k a j : Nat} {Mb : Mm} (h : ¬ (a = 20 ∧ 10 ≤ j ∧ j ≤ 12)) : (neM k Mb).1 a j = Mb.1 a j := by
  show (if a = 20 ∧ j = 10 then _ else if a = 20 ∧ j = 11 then _ else if a = 20 ∧ j = 12 then _ else _) = _
  rw [if_neg (by omega), if_neg (by omega), if_neg (by omega)]
theorem ne_set {k a p x : Nat} {Mb : Mm} (hp : p < 1048576) (hx : x < 1048576) : si (si (si (neM k Mb) 20 10 (nI a)) 20 11 (nI p)) 20 12 (nI x) = neM (key a p x) Mb := by
  refine mm_ext (fun c j => ?_) rfl
  rw [si1, si1, si1]
  by_cases h3 : c = 20 ∧ j = 12
  · rw [if_pos h3, h3.1, h3.2, ne_12, kT_k hx]
  · rw [if_neg h3]
    by_cases h2 : c = 20 ∧ j = 11
    · rw [if_pos h2, h2.1, h2.2, ne_11, kP_k hp hx]
    · rw [if_neg h2]
      by_cases h1 : c = 20 ∧ j = 10
      · rw [if_pos h1, h1.1, h1.2, ne_10, kA_k hp hx]
      · rw [if_neg h1, ne_off (by omega), ne_off (by omega)]
theorem SS.ne {n t b m mk dr k : Nat} {sd : Nat → Nat} {Mb : Mm} (h : SS n t b m mk dr sd Mb) : SS n t b m mk dr sd (neM k Mb) := by
  obtain ⟨h1, h2, h3, h4, h5, h6, h7, h8, h9⟩ := h
  exact ⟨(ne_off (by omega)).trans h1, (ne_off (by omega)).trans h2, (ne_off (by omega)).trans h3, (ne_off (by omega)).trans h4, (ne_off (by omega)).trans h5, (ne_off (by omega)).trans h6, fun p hp => (ne_off (by omega)).trans (h7 p hp), fun p hp => (ne_off (by omega)).trans (h8 p hp), fun p hp => (ne_off (by omega)).trans (h9 p hp)⟩
theorem setn_I {n t b m mk dr : Nat} {sd : Nat → Nat} {M : Mm} (h : SS n t b m mk dr sd M) (hn : n < 7) : ∃ p, nI n - 1 = p ∧ f_Se_settled p M = some (nI (2 ^ np n - 1)) := by
  by_cases z : n = 0
  · subst z
    exact ⟨_, rfl, by unfold f_Se_settled; rw [if_neg (by decide)]; rfl⟩
  · obtain ⟨k, rfl⟩ : ∃ k, n = k + 1 := ⟨n - 1, by omega⟩
    refine ⟨nI k, nI_pred k, ?_⟩
    rw [set_I h hn (by omega), pr_end (k + 1) (by omega)]
theorem prT2 {n t b m mk dr x S : Nat} {sd : Nat → Nat} {M : Mm} {p : Int32} (h : SS n t b m mk dr sd M) (hS : S ≤ 15) (hx : x < 2 ^ 15) (hs : f_Se_settled p M = some (nI (2 ^ S - 1))) : f_Se_priceTo (nI x) p M = some (nI (prK t mk dr x S)) := by
  unfold f_Se_priceTo
  rw [hs, bnd_s, h.2.2.2.1, h.2.1, h.2.2.1]
  dsimp only [lt]
  rw [xo_I, an_I, an_I, an_I]
  have e1 : f_In_bitCount (nI (((x ^^^ t) &&& (2 ^ S - 1)) &&& x)) = nI (ctb (fun k => x.testBit k && !(t.testBit k)) S) := bcK_I hS (fun i => by
    rw [Nat.testBit_and, Nat.testBit_and, Nat.testBit_xor, Nat.testBit_two_pow_sub_one]
    cases x.testBit i <;> cases t.testBit i <;> cases decide (i < S) <;> rfl)
  have e2 : f_In_bitCount (nI (((x ^^^ t) &&& (2 ^ S - 1)) &&& t)) = nI (ctb (fun k => !(x.testBit k) && t.testBit k) S) := bcK_I hS (fun i => by
    rw [Nat.testBit_and, Nat.testBit_and, Nat.testBit_xor, Nat.testBit_two_pow_sub_one]
    cases x.testBit i <;> cases t.testBit i <;> cases decide (i < S) <;> rfl)
  rw [e1, e2, pk_mul, pk_mul, nI_add]
  rfl
theorem take_I {n t b m mk dr x a k : Nat} {sd : Nat → Nat} {Mb : Mm} (hn : n < 7) (hT : TOK n t b m mk dr sd) (h : SS n t b m mk dr sd Mb) (hx : x < 2 ^ np n) (ha : a < 1000) (hk : k ≤ INF) : f_Se_take (nI x) (nI a) (neM k Mb) = some (neM (min k (key a (prK t mk dr x (np n)) x)) Mb) := by
  have hS := SS.ne (k := k) h
  have hx15 := lt15 hn hx
  obtain ⟨p, hp1, hp2⟩ := setn_I hS hn
  have hpr := prT2 (x := x) hS (np6 n hn) hx15 hp2
  have hprl : prK t mk dr x (np n) ≤ 504 := prK_le hT.2.2.2.2.2.2.2.1 hT.2.2.2.2.2.2.2.2.2.1 (np_le n hT.1)
  generalize prK t mk dr x (np n) = pr at *
  obtain ⟨k1, k2, k3⟩ := k_bd hk
  have hx20 : x < 1048576 := by omega
  have hkl := key_lt (a := a) (p := pr) (t := x) (k := k) (by omega) hx20
  unfold f_Se_take
  rw [hS.1, hp1, hpr, bnd_s]
  dsimp only [lt]
  rw [ne_10, ne_11, ne_12]
  have hset : si (si (si (neM k Mb) 20 10 (nI a)) 20 11 (nI pr)) 20 12 (nI x) = neM (key a pr x) Mb := ne_set (by omega) hx20
  by_cases c1 : a < kA k
  · rw [if_pos (nI_lt c1 (by omega)), if_neg h10, hset, Nat.min_eq_right (Nat.le_of_lt (hkl.mpr (Or.inl c1)))]
  · rw [if_neg (nI_nlt (by omega) (by omega))]
    by_cases c2 : a = kA k
    · rw [if_pos (by rw [c2])]
      by_cases c3 : pr < kP k
      · rw [if_pos (nI_lt c3 (by omega)), if_neg h10, hset, Nat.min_eq_right (Nat.le_of_lt (hkl.mpr (Or.inr ⟨c2, Or.inl c3⟩)))]
      · rw [if_neg (nI_nlt (by omega) (by omega))]
        by_cases c4 : pr = kP k
        · rw [if_pos (by rw [c4])]
          by_cases c5 : kT k ≤ x
          · rw [if_pos (nI_le c5 (by omega)), if_pos rfl, Nat.min_eq_left (Nat.le_of_not_lt (fun z => by have := hkl.mp z; omega))]
          · rw [if_neg (nI_ge (by omega) (by omega)), if_neg h10, hset, Nat.min_eq_right (Nat.le_of_lt (hkl.mpr (Or.inr ⟨c2, Or.inr ⟨c4, by omega⟩⟩)))]
        · rw [if_neg (fun z => c4 ((nI_eq (by omega) (by omega)).mp z)), if_pos rfl, Nat.min_eq_left (Nat.le_of_not_lt (fun z => by have := hkl.mp z; omega))]
    · rw [if_neg (fun z => c2 ((nI_eq (by omega) (by omega)).mp z)), if_pos rfl, Nat.min_eq_left (Nat.le_of_not_lt (fun z => by have := hkl.mp z; omega))]
/-! bars -/
noncomputable def gK (b m n t : Nat) : Bool := @decide (KB b m t (np n)) (Classical.propDecidable _)
theorem gK_t {b m n t : Nat} : gK b m n t = true ↔ KB b m t (np n) := by
  unfold gK
  exact @decide_eq_true_iff (KB b m t (np n)) (Classical.propDecidable _)
theorem KB_down {b m t x K K' : Nat} (h : KB b m t K') (hK : K ≤ K') (hx : x < 2 ^ K) (ha : ∀ k, k < K → t.testBit k = x.testBit k) : KB b m x K := by
  refine ⟨fun k z => ?_, fun k hk hm => ?_⟩
  · by_cases hk : k < K
    · exact h.1 k ⟨by rw [ha k hk]; exact z.1, z.2⟩
    · rw [lt_bit hx (by omega)] at z; exact absurd z.1 (by decide)
  · rw [← ha k hk]; exact h.2 k (by omega) hm
/-! pairs alike among the first persons -/
def alP (n x p : Nat) : Nat := smN (fun p' => ctb (fun q => decide (dgr n x q = dgr n x p')) p') p
theorem alP_agr {n t x p : Nat} (hn : n < 7) (hp : p ≤ n) (h : ∀ k, k < pr0 n p → t.testBit k = x.testBit k) : alP n t p = alP n x p := by
  have hd : ∀ q, q < p → dgr n t q = dgr n x q := fun q hq => by
    obtain ⟨p', rfl⟩ : ∃ p', p = p' + 1 := ⟨p - 1, by omega⟩
    exact dgr_agr hn (by omega) (by omega) h
  exact smN_cong (fun p' hp' => ctb_cong (fun q hq => by rw [hd q (by omega), hd p' hp']))
theorem smN_mono {f : Nat → Nat} {k : Nat} : ∀ d, smN f k ≤ smN f (k + d)
  | 0 => Nat.le_refl _
  | d + 1 => by rw [← Nat.add_assoc, smN]; exact Nat.le_trans (smN_mono d) (Nat.le_add_right _ _)
theorem ctb_lim {f : Nat → Bool} {k n : Nat} (h : k ≤ n) : ctb f k = ctb (fun q => decide (q < k) && f q) n := by
  have e : ∀ i, k ≤ i → (fun q => decide (q < k) && f q) i = false := fun i hi => by
    have h1 : ¬ i < k := by omega
    simp [h1]
  rw [ctb_cut (f := fun q => decide (q < k) && f q) h e]
  exact ctb_cong (fun i hi => by simp [hi])
theorem alP_n {n t : Nat} : alP n t n = alN n t := by
  unfold alP alN
  have e1 : smN (fun p' => ctb (fun q => decide (dgr n t q = dgr n t p')) p') n = smN (fun p' => smN (fun q => b1 (decide (q < p') && decide (dgr n t q = dgr n t p'))) n) n := smN_cong (fun p' hp' => by rw [ctb_lim (n := n) (by omega), ctb_sm])
  rw [e1, smN_swap]
  refine smN_cong (fun q hq => ?_)
  rw [ctb_sm]
  rfl
theorem alP_le {n x p : Nat} (hp : p < 9) : alP n x p < 1000 := by
  have h : alP n x p ≤ p * 8 := smN_le (fun i hi => Nat.le_trans (ctb_le _ _) (by omega))
  omega
/-- two or more never have all counts unlike -/
theorem pig : ∀ (k n : Nat) (f : Nat → Nat), (∀ p, p < n → f p < k) → (∀ p q, p < q → q < n → f p ≠ f q) → n ≤ k
  | 0, n, f, h, _ => by
    rcases Nat.eq_zero_or_pos n with e | e
    · omega
    · have := h 0 e; omega
  | k + 1, n, f, h, hi => by
    by_cases hk : ∃ p, p < n ∧ f p = k
    · obtain ⟨p, hp, e⟩ := hk
      have := pig k (n - 1) (fun i => if i < p then f i else f (i + 1)) (fun i hi2 => by
        by_cases q : i < p
        · show (if i < p then f i else f (i + 1)) < k
          rw [if_pos q]
          have h1 := h i (by omega)
          have h2 := hi i p q hp
          omega
        · show (if i < p then f i else f (i + 1)) < k
          rw [if_neg q]
          have h1 := h (i + 1) (by omega)
          have h2 := hi p (i + 1) (by omega) (by omega)
          omega) (fun i j hij hj => by
        show (if i < p then f i else f (i + 1)) ≠ (if j < p then f j else f (j + 1))
        by_cases q1 : i < p
        · rw [if_pos q1]
          by_cases q2 : j < p
          · rw [if_pos q2]; exact hi i j hij (by omega)
          · rw [if_neg q2]; exact hi i (j + 1) (by omega) (by omega)
        · rw [if_neg q1, if_neg (by omega)]; exact hi (i + 1) (j + 1) (by omega) (by omega))
      omega
    · have := pig k n f (fun p hp => by
        have h1 := h p hp
        have h2 : f p ≠ k := fun z => hk ⟨p, hp, z⟩
        omega) hi
      omega
theorem ctb_full {f : Nat → Bool} : ∀ {n}, ctb f n = n → ∀ i, i < n → f i = true
  | 0, _, i, hi => absurd hi (by omega)
  | n + 1, h, i, hi => by
    rw [ctb] at h
    have hl := ctb_le f n
    by_cases q : f n = true
    · rw [if_pos q] at h
      by_cases e : i = n
      · subst e; exact q
      · exact ctb_full (n := n) (by omega) i (by omega)
    · rw [if_neg q] at h; omega
theorem dg_top {n t p q : Nat} (hp : p < n) (hq : q < n) (hpq : p ≠ q) (h : dgr n t p = n - 1) : rwf n t p q = true := by
  unfold dgr at h
  have e := ctb_one (g := rwf n t p) (g' := fun i => decide (i = p) || rwf n t p i) (q := p) (n := n) hp (fun i _ hne => by simp [hne])
  have z : rwf n t p p = false := by simp [rwf]
  rw [if_neg (by rw [z]; decide), if_pos (by simp)] at e
  have := ctb_full (f := fun i => decide (i = p) || rwf n t p i) (n := n) (by omega) q hq
  have hqp : ¬ q = p := fun w => hpq w.symm
  simpa [hqp] using this
theorem al_ge1 {n t : Nat} (hn : 2 ≤ n) : 1 ≤ alN n t := by
  refine Classical.byContradiction (fun hc => ?_)
  have h0 : alN n t = 0 := by omega
  have hz : ∀ k, k ≤ n → smN (fun p => ctb (alU n t p) n) k = 0 := fun k hk => by
    have := smN_mono (f := fun p => ctb (alU n t p) n) (k := k) (n - k)
    rw [show k + (n - k) = n by omega] at this
    unfold alN at h0
    omega
  have hu : ∀ p q, p < q → q < n → dgr n t p ≠ dgr n t q := fun p q hpq hq e => by
    have h1 := hz (p + 1) (by omega)
    rw [smN] at h1
    have h2 : ctb (alU n t p) n = 0 := by omega
    have h3 := ctb_0.mp h2 q hq
    simp [alU, hpq, e] at h3
  have hlt : ∀ p, p < n → dgr n t p < n := fun p hp => dgr_lt hp
  have ex0 : ∃ p, p < n ∧ dgr n t p = 0 := Classical.byContradiction (fun hne => by
    have := pig (n - 1) n (fun p => dgr n t p - 1) (fun p hp => by
      have h1 := hlt p hp
      have h2 : dgr n t p ≠ 0 := fun z => hne ⟨p, hp, z⟩
      omega) (fun p q hpq hq => by
      have h1 := hu p q hpq hq
      have h2 : dgr n t p ≠ 0 := fun z => hne ⟨p, by omega, z⟩
      have h3 : dgr n t q ≠ 0 := fun z => hne ⟨q, hq, z⟩
      show dgr n t p - 1 ≠ dgr n t q - 1
      omega)
    omega)
  have ex1 : ∃ p, p < n ∧ dgr n t p = n - 1 := Classical.byContradiction (fun hne => by
    have := pig (n - 1) n (fun p => dgr n t p) (fun p hp => by
      have h1 := hlt p hp
      have h2 : dgr n t p ≠ n - 1 := fun z => hne ⟨p, hp, z⟩
      omega) hu
    omega)
  obtain ⟨p, hp, e0⟩ := ex0
  obtain ⟨q, hq, e1⟩ := ex1
  have hpq : q ≠ p := fun z => by subst z; omega
  have h1 := dg_top hq hp hpq e1
  rw [rwf_sym hq hp] at h1
  have h2 := ctb_0.mp e0 q hq
  rw [h1] at h2
  cases h2
theorem al_ge {n t p : Nat} (hp : p ≤ n) : alP n t p ≤ alN n t := by
  rw [← alP_n]
  have := smN_mono (f := fun p' => ctb (fun q => decide (dgr n t q = dgr n t p')) p') (k := p) (n - p)
  rw [show p + (n - p) = n by omega] at this
  exact this
