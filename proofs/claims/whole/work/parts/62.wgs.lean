/-! PURE 43: the class puts weights -/
def weM (n t : Nat) (w : Nat → Nat) (M : Mm) : Mm := (fun a j => if a = 27 ∧ j < rk t (np n) then nI (w j) else if a = 29 ∧ j < n then nI (psm n t w j (rk t (np n))) else M.1 a j, M.2)
theorem we_eq {n t a j : Nat} {w : Nat → Nat} {M : Mm} : (weM n t w M).1 a j = if a = 27 ∧ j < rk t (np n) then nI (w j) else if a = 29 ∧ j < n then nI (psm n t w j (rk t (np n))) else M.1 a j := rfl
theorem we_27 {n t j : Nat} {w : Nat → Nat} {M : Mm} (h : j < rk t (np n)) : (weM n t w M).1 27 j = nI (w j) := by rw [we_eq, if_pos ⟨rfl, h⟩]
theorem we_29 {n t j : Nat} {w : Nat → Nat} {M : Mm} (h : j < n) : (weM n t w M).1 29 j = nI (psm n t w j (rk t (np n))) := by rw [we_eq, if_neg (by omega), if_pos ⟨rfl, h⟩]
theorem we_off {n t a j : Nat} {w : Nat → Nat} {M : Mm} (h1 : a ≠ 27) (h2 : a ≠ 29) : (weM n t w M).1 a j = M.1 a j := by rw [we_eq, if_neg (fun z => h1 z.1), if_neg (fun z => h2 z.1)]
theorem we_cong {n t : Nat} {w w' : Nat → Nat} {M : Mm} (h : ∀ i, i < rk t (np n) → w i = w' i) : weM n t w M = weM n t w' M := mm_ext (fun a j => by
  rw [we_eq, we_eq]
  by_cases h1 : a = 27 ∧ j < rk t (np n)
  · rw [if_pos h1, if_pos h1, h j h1.2]
  · rw [if_neg h1, if_neg h1]
    by_cases h2 : a = 29 ∧ j < n
    · rw [if_pos h2, if_pos h2, psm_cong (fun i hi _ => h i hi)]
    · rw [if_neg h2, if_neg h2]) rfl
theorem WS.we {n t : Nat} {w : Nat → Nat} {M : Mm} (h : WS n t M) : WS n t (weM n t w M) := ⟨(we_off (by decide) (by decide)).trans h.1, fun i hi => ⟨(we_off (by decide) (by decide)).trans (h.2 i hi).1, (we_off (by decide) (by decide)).trans (h.2 i hi).2.1, (we_off (by decide) (by decide)).trans (h.2 i hi).2.2⟩⟩
def upw (w : Nat → Nat) (k v : Nat) : Nat → Nat := fun i => if i = k then v else w i
theorem smN_upd {f f' : Nat → Nat} {k : Nat} : ∀ {n}, k < n → (∀ i, i < n → i ≠ k → f' i = f i) → smN f' n + f k = smN f n + f' k
  | 0, h, _ => absurd h (by omega)
  | n + 1, h, ho => by
    rw [smN, smN]
    by_cases e : k = n
    · subst e
      rw [smN_cong (f := f') (g := f) (fun i hi => ho i (by omega) (by omega))]
      omega
    · have ih := smN_upd (f := f) (f' := f') (k := k) (n := n) (by omega) (fun i hi => ho i (by omega))
      rw [ho n (by omega) (fun z => e z.symm)]
      omega
theorem psm_up {n t k v j E : Nat} {w : Nat → Nat} (hk : k < E) : psm n t (upw w k v) j E + (if inE n t k j = true then w k else 0) = psm n t w j E + (if inE n t k j = true then v else 0) := by
  have h := smN_upd (f := fun i => if inE n t i j = true then w i else 0) (f' := fun i => if inE n t i j = true then upw w k v i else 0) (k := k) (n := E) hk (fun i _ hne => by
    show (if inE n t i j = true then upw w k v i else 0) = (if inE n t i j = true then w i else 0)
    unfold upw
    rw [if_neg hne])
  have e : upw w k v k = v := if_pos rfl
  simp only [e] at h
  exact h
theorem psm_ge {n t k j : Nat} {w : Nat → Nat} : ∀ {E}, k < E → inE n t k j = true → w k ≤ psm n t w j E
  | 0, h, _ => absurd h (by omega)
  | E + 1, h, hi => by
    have e : psm n t w j (E + 1) = psm n t w j E + (if inE n t E j = true then w E else 0) := rfl
    rw [e]
    by_cases q : k = E
    · subst q; rw [if_pos hi]; omega
    · have := psm_ge (n := n) (t := t) (k := k) (j := j) (w := w) (E := E) (by omega) hi
      omega
theorem ad_I {x u v : Nat} (h : u ≤ x) : nI x + (nI v - nI u) = nI (x + v - u) := by
  rw [Int32.sub_eq_add_neg, ← Int32.add_assoc, nI_add, ← Int32.sub_eq_add_neg, pk_sub (by omega)]
theorem put_I {n t k v : Nat} {w : Nat → Nat} {Mb : Mm} (hn : n < 9) (hE : rk t (np n) ≤ 8) (hS : WS n t Mb) (hk : k < rk t (np n)) : f_We_putWeight (nI k) (nI v) (weM n t w Mb) = some (weM n t (upw w k v) Mb) := by
  obtain ⟨-, -, -, d1, d2, -⟩ := ed_ok hn hk
  have hSM := hS.we (w := w)
  have ik : inb (nI k) 8 = true := inb_nI (show k < 8 by omega) (by decide)
  have ia : inb (nI (ea n t k)) 8 = true := inb_nI (show ea n t k < 8 by omega) (by decide)
  have ib : inb (nI (eb n t k)) 8 = true := inb_nI (show eb n t k < 8 by omega) (by decide)
  have xk : Int32.toNatClampNeg (nI k) = k := ix_nI (by omega)
  have xa : Int32.toNatClampNeg (nI (ea n t k)) = ea n t k := ix_nI (by omega)
  have xb : Int32.toNatClampNeg (nI (eb n t k)) = eb n t k := ix_nI (by omega)
  have inA : inE n t k (ea n t k) = true := by simp [inE]
  have inB : inE n t k (eb n t k) = true := by simp [inE]
  have gA := psm_ge (n := n) (t := t) (w := w) hk inA
  have gB := psm_ge (n := n) (t := t) (w := w) hk inB
  have uA := psm_up (n := n) (t := t) (v := v) (w := w) (j := ea n t k) hk
  have uB' := psm_up (n := n) (t := t) (v := v) (w := w) (j := eb n t k) hk
  rw [if_pos inA, if_pos inA] at uA
  rw [if_pos inB, if_pos inB] at uB'
  unfold f_We_putWeight
  dsimp only [lt]
  rw [if_pos ik, xk, if_pos ik, (hSM.2 k hk).1, if_pos ia, if_pos ia, if_pos ik, xa, si_a _ _ (show (26 : Nat) ≠ 29 by decide), (hSM.2 k hk).2.1, if_pos ib, if_pos ib, if_pos ik, xb, si_k _ _ (show eb n t k ≠ ea n t k by omega), we_27 hk, we_29 (show ea n t k < n by omega), we_29 d2, ad_I gA, ad_I gB]
  congr 1
  refine mm_ext (fun a j => ?_) rfl
  rw [si1, si1, si1, we_eq, we_eq]
  by_cases h1 : a = 27 ∧ j = k
  · rw [if_pos h1, if_pos (by omega), h1.2]
    show nI v = nI (if k = k then v else w k)
    rw [if_pos rfl]
  · rw [if_neg h1]
    by_cases h2 : a = 29 ∧ j = eb n t k
    · rw [if_pos h2, if_neg (by omega), if_pos (by omega), h2.2]
      congr 1
      omega
    · rw [if_neg h2]
      by_cases h3 : a = 29 ∧ j = ea n t k
      · rw [if_pos h3, if_neg (by omega), if_pos (by omega), h3.2]
        congr 1
        omega
      · rw [if_neg h3]
        by_cases h4 : a = 27 ∧ j < rk t (np n)
        · have hne : ¬ j = k := fun z => h1 ⟨h4.1, z⟩
          rw [if_pos h4, if_pos h4]
          show nI (w j) = nI (if j = k then v else w j)
          rw [if_neg hne]
        · rw [if_neg h4, if_neg h4]
          by_cases h5 : a = 29 ∧ j < n
          · have q1 : ¬ j = eb n t k := fun z => h2 ⟨h5.1, z⟩
            have q2 : ¬ j = ea n t k := fun z => h3 ⟨h5.1, z⟩
            rw [if_pos h5, if_pos h5]
            have u := psm_up (n := n) (t := t) (v := v) (w := w) (j := j) hk
            have ni : ¬ inE n t k j = true := by simp [inE, q1, q2]
            rw [if_neg ni, if_neg ni] at u
            congr 1
            omega
          · rw [if_neg h5, if_neg h5]
/-! sums that differ -/
theorem tw2 (N : Nat) {A p : Nat} {s : Nat → Nat} {M : Mm} (hA : A < 2 ^ 8) (hp : p < 8) (hs : ∀ j, (A.testBit j = true ∨ j = p) → M.1 29 j = nI (s j)) (hb : ∀ j, s j < 2 ^ 31) : ∀ (d q nu : Nat), q + d = 8 → d < nu → ((∃ j, q ≤ j ∧ j < 8 ∧ A.testBit j = true ∧ s j = s p) → L_We_hasTwin_2 N (nI p) (nI A) M nu (nI q) = some 1) ∧ ((¬ ∃ j, q ≤ j ∧ j < 8 ∧ A.testBit j = true ∧ s j = s p) → L_We_hasTwin_2 N (nI p) (nI A) M nu (nI q) = some 0)
  | 0, q, nu + 1, hq, hnu => by
    have hq : q = 8 := by omega
    subst hq
    refine ⟨fun ⟨j, h1, h2, _⟩ => by omega, fun _ => ?_⟩
    rw [L_We_hasTwin_2, if_pos (by decide)]
  | d + 1, q, nu + 1, hq, hnu => by
    have ih := tw2 N hA hp hs hb d (q + 1) nu (by omega) (by omega)
    have hbit := bit_1 (a := A) (b := q) (Nat.lt_trans hA (by decide)) (by omega)
    have hu : L_We_hasTwin_2 N (nI p) (nI A) M (nu + 1) (nI q) = if A.testBit q = true then (if s q = s p then some 1 else L_We_hasTwin_2 N (nI p) (nI A) M nu (nI (q + 1))) else L_We_hasTwin_2 N (nI p) (nI A) M nu (nI (q + 1)) := by
      rw [L_We_hasTwin_2, if_neg (show ¬ (8 : Int32) ≤ nI q from nI_ge (a := q) (b := 8) (by omega) (by decide))]
      dsimp only [lt]
      rw [nI_1, if_pos (inb_nI (show q < 8 by omega) (by decide)), if_pos (inb_nI hp (by decide)), ix_nI (by omega), ix_nI (by omega)]
      by_cases z : A.testBit q = true
      · rw [if_pos (hbit.mpr z), if_pos z, hs q (Or.inl z), hs p (Or.inr rfl)]
        by_cases w : s q = s p
        · rw [if_pos (by rw [w]), if_pos w]
        · rw [if_neg (fun v => w ((nI_eq (hb q) (hb p)).mp v)), if_neg w]
      · rw [if_neg (fun v => z (hbit.mp v)), if_neg z]
    rw [hu]
    constructor
    · rintro ⟨j, h1, h2, h3, h4⟩
      by_cases z : A.testBit q = true
      · rw [if_pos z]
        by_cases w : s q = s p
        · rw [if_pos w]
        · rw [if_neg w]
          refine ih.1 ⟨j, ?_, h2, h3, h4⟩
          by_cases e : j = q
          · subst e; exact absurd h4 w
          · omega
      · rw [if_neg z]
        refine ih.1 ⟨j, ?_, h2, h3, h4⟩
        by_cases e : j = q
        · subst e; exact absurd h3 z
        · omega
    · intro hne
      have hr := ih.2 (fun ⟨j, h1, h2, h3, h4⟩ => hne ⟨j, by omega, h2, h3, h4⟩)
      by_cases z : A.testBit q = true
      · rw [if_pos z, if_neg (fun w => hne ⟨q, Nat.le_refl q, by omega, z, w⟩)]
        exact hr
      · rw [if_neg z]
        exact hr
theorem sd2 (N : Nat) {F A : Nat} {s : Nat → Nat} {M : Mm} (hN : 9 < N) (hF : F < 2 ^ 8) (hA : A < 2 ^ 8) (hs : ∀ j, (A.testBit j = true ∨ F.testBit j = true) → M.1 29 j = nI (s j)) (hb : ∀ j, s j < 2 ^ 31) : ∀ (d p nu : Nat), p + d = 8 → d < nu → ((∃ i, p ≤ i ∧ i < 8 ∧ F.testBit i = true ∧ ∃ j, j < 8 ∧ j ≠ i ∧ A.testBit j = true ∧ s j = s i) → L_We_sumsDiffer_2 N (nI F) (nI A) M nu (nI p) = some 0) ∧ ((¬ ∃ i, p ≤ i ∧ i < 8 ∧ F.testBit i = true ∧ ∃ j, j < 8 ∧ j ≠ i ∧ A.testBit j = true ∧ s j = s i) → L_We_sumsDiffer_2 N (nI F) (nI A) M nu (nI p) = some 1)
  | 0, p, nu + 1, hp, hnu => by
    have hp : p = 8 := by omega
    subst hp
    refine ⟨fun ⟨i, h1, h2, _⟩ => by omega, fun _ => ?_⟩
    rw [L_We_sumsDiffer_2, if_pos (by decide)]
  | d + 1, p, nu + 1, hp, hnu => by
    have ih := sd2 N hN hF hA hs hb d (p + 1) nu (by omega) (by omega)
    have hbit := bit_1 (a := F) (b := p) (Nat.lt_trans hF (by decide)) (by omega)
    have hst : ∀ j, (stb A p false 8).testBit j = if j = p then false else A.testBit j := fun j => stb_bit hA (by omega)
    have hu : F.testBit p = true → ((∃ j, j < 8 ∧ j ≠ p ∧ A.testBit j = true ∧ s j = s p) → f_We_hasTwin N (nI p) (nI A &&& (((1 : Int32) <<< (nI p &&& 31)) ^^^ (-1))) M = some 1) ∧ ((¬ ∃ j, j < 8 ∧ j ≠ p ∧ A.testBit j = true ∧ s j = s p) → f_We_hasTwin N (nI p) (nI A &&& (((1 : Int32) <<< (nI p &&& 31)) ^^^ (-1))) M = some 0) := fun hFp => by
      rw [an_sI hA (by omega) (by decide)]
      have h := tw2 N (A := stb A p false 8) (p := p) (s := s) (M := M) stb_lt (by omega) (fun j hj => hs j (by
        rcases hj with hj | hj
        · rw [hst] at hj
          by_cases e : j = p
          · rw [if_pos e] at hj; cases hj
          · rw [if_neg e] at hj; exact Or.inl hj
        · subst hj; exact Or.inr hFp)) hb 8 0 N (by omega) (by omega)
      refine ⟨fun ⟨j, h1, h2, h3, h4⟩ => h.1 ⟨j, by omega, h1, by rw [hst, if_neg h2]; exact h3, h4⟩, fun hne => h.2 (fun ⟨j, _, h1, h3, h4⟩ => ?_)⟩
      rw [hst] at h3
      by_cases e : j = p
      · rw [if_pos e] at h3; cases h3
      · rw [if_neg e] at h3; exact hne ⟨j, h1, e, h3, h4⟩
    have hun : L_We_sumsDiffer_2 N (nI F) (nI A) M (nu + 1) (nI p) = if F.testBit p = true then (f_We_hasTwin N (nI p) (nI A &&& (((1 : Int32) <<< (nI p &&& 31)) ^^^ (-1))) M).bind (fun vu5 => if vu5 = 0 then L_We_sumsDiffer_2 N (nI F) (nI A) M nu (nI (p + 1)) else some 0) else L_We_sumsDiffer_2 N (nI F) (nI A) M nu (nI (p + 1)) := by
      rw [L_We_sumsDiffer_2, if_neg (show ¬ (8 : Int32) ≤ nI p from nI_ge (a := p) (b := 8) (by omega) (by decide))]
      dsimp only [lt]
      rw [nI_1]
      by_cases z : F.testBit p = true
      · rw [if_pos (hbit.mpr z), if_pos z]
      · rw [if_neg (fun v => z (hbit.mp v)), if_neg z]
    rw [hun]
    constructor
    · rintro ⟨i, h1, h2, h3, h4⟩
      by_cases z : F.testBit p = true
      · rw [if_pos z]
        by_cases w : ∃ j, j < 8 ∧ j ≠ p ∧ A.testBit j = true ∧ s j = s p
        · rw [(hu z).1 w, bnd_s, if_neg h10]
        · rw [(hu z).2 w, bnd_s, if_pos rfl]
          refine ih.1 ⟨i, ?_, h2, h3, h4⟩
          by_cases e : i = p
          · subst e; exact absurd h4 w
          · omega
      · rw [if_neg z]
        refine ih.1 ⟨i, ?_, h2, h3, h4⟩
        by_cases e : i = p
        · subst e; exact absurd h3 z
        · omega
    · intro hne
      have hr := ih.2 (fun ⟨i, h1, h2, h3, h4⟩ => hne ⟨i, by omega, h2, h3, h4⟩)
      by_cases z : F.testBit p = true
      · rw [if_pos z, (hu z).2 (fun w => hne ⟨p, Nat.le_refl p, by omega, z, w⟩), bnd_s, if_pos rfl]
        exact hr
      · rw [if_neg z]
        exact hr
theorem unA_iff {s : Nat → Nat} {p : Nat} : ∀ {k}, unA s p k = true ↔ ∀ q, q < k → s p ≠ s q
  | 0 => ⟨fun _ q hq => by omega, fun _ => rfl⟩
  | k + 1 => by
    rw [unA, Bool.and_eq_true, unA_iff (k := k)]
    constructor
    · rintro ⟨h1, h2⟩ q hq
      by_cases e : q = k
      · subst e; simpa using h2
      · exact h1 q (by omega)
    · intro h
      exact ⟨fun q hq => h q (by omega), by simpa using h k (by omega)⟩
theorem unl_iff {s : Nat → Nat} : ∀ {n}, unl s n = true ↔ ∀ p q, q < p → p < n → s p ≠ s q
  | 0 => ⟨fun _ p q _ hp => by omega, fun _ => rfl⟩
  | n + 1 => by
    rw [unl, Bool.and_eq_true, unl_iff (n := n), unA_iff]
    constructor
    · rintro ⟨h1, h2⟩ p q hq hp
      by_cases e : p = n
      · subst e; exact h2 q hq
      · exact h1 p q hq (by omega)
    · intro h
      exact ⟨fun p q hq hp => h p q hq (by omega), fun q hq => h n q hq (by omega)⟩
