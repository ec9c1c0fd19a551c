/-! PURE 41: the reference finds weights -/
def LW (n t G C : Nat) : Prop := 1 ≤ G ∧ G < 5 ∧ C < G ^ rk t (np n) ∧ VW n t G C = true ∧ (∀ c, c < C → VW n t G c = false) ∧ ∀ g, 1 ≤ g → g < G → ∀ c, c < g ^ rk t (np n) → VW n t g c = false
def NW (n t : Nat) : Prop := ∀ g, 1 ≤ g → g < 5 → ∀ c, c < g ^ rk t (np n) → VW n t g c = false
theorem LW_u {n t G C G' C' : Nat} (h : LW n t G C) (h' : LW n t G' C') : G = G' ∧ C = C' := by
  obtain ⟨a1, a2, a3, a4, a5, a6⟩ := h
  obtain ⟨b1', b2, b3, b4, b5, b6⟩ := h'
  have e : G = G' := by
    rcases Nat.lt_trichotomy G G' with q | q | q
    · rw [b6 G a1 q C a3] at a4; cases a4
    · exact q
    · rw [a6 G' b1' q C' b3] at b4; cases b4
  subst e
  refine ⟨rfl, ?_⟩
  rcases Nat.lt_trichotomy C C' with q | q | q
  · rw [b5 C q] at a4; cases a4
  · exact q
  · rw [a5 C' q] at b4; cases b4
theorem LW_n {n t G C : Nat} (h : LW n t G C) (h' : NW n t) : False := by
  have := h' G h.1 h.2.1 C h.2.2.1
  rw [h.2.2.2.1] at this
  cases this
theorem gE_le {g E : Nat} (hg : g < 5) (hE : E ≤ 8) : g ^ E ≤ 65536 := by
  have h1 : g ^ E ≤ 4 ^ E := Nat.pow_le_pow_left (by omega) E
  have h2 : (4 : Nat) ^ E ≤ 4 ^ 8 := Nat.pow_le_pow_right (by decide) hE
  have h3 : (4 : Nat) ^ 8 = 65536 := by decide
  omega
section FW
variable {n t : Nat}
theorem fw39 {g : Nat} (hn : n < 9) (ht : t < 2 ^ np n) (hE : rk t (np n) ≤ 8) (hg1 : 1 ≤ g) (hg : g < 5) : ∀ (d c : Nat) (M : Mm), c + d = g ^ rk t (np n) → (∀ c', c' < c → VW n t g c' = false) → M.1 49 0 = nI n → M.1 49 1 = nI t → (∃ C M', C < g ^ rk t (np n) ∧ VW n t g C = true ∧ (∀ c', c' < C → VW n t g c' = false) ∧ (∀ N nu ju, 28 < N → d < nu → L_Mo_findWeights_39 N (nI (rk t (np n))) (nI g) (nI (g ^ rk t (np n))) ju nu (nI c) M = some (nI g, M')) ∧ (∀ i, i < rk t (np n) → M'.1 58 i = nI (wc g (rk t (np n)) C i) ∧ M'.1 57 i = nI (eK t i)) ∧ ∀ a j, a ≠ 56 → a ≠ 57 → a ≠ 58 → M'.1 a j = M.1 a j) ∨ (∃ M', (∀ c', c' < g ^ rk t (np n) → VW n t g c' = false) ∧ (∀ N nu ju, 28 < N → d < nu → L_Mo_findWeights_39 N (nI (rk t (np n))) (nI g) (nI (g ^ rk t (np n))) ju nu (nI c) M = ju M') ∧ ∀ a j, a ≠ 56 → a ≠ 57 → a ≠ 58 → M'.1 a j = M.1 a j) := by
  have hge := gE_le hg hE
  intro d
  induction d with
  | zero =>
    intro c M hc hV h0 h1
    refine Or.inr ⟨M, fun c' hc' => hV c' (by omega), fun N nu ju hN hnu => ?_, fun _ _ _ _ _ => rfl⟩
    obtain ⟨nu, rfl⟩ : ∃ v, nu = v + 1 := ⟨nu - 1, by omega⟩
    rw [L_Mo_findWeights_39, if_pos (nI_le (by omega) (by omega))]
  | succ d ih =>
    intro c M hc hV h0 h1
    obtain ⟨A, a1, a2, a3⟩ := isw_I (M := M) (c := c) hn ht hE hg1 hg (by omega) h0 h1
    cases hv : VW n t g c with
    | true =>
      refine Or.inl ⟨c, A, by omega, hv, hV, fun N nu ju hN hnu => ?_, a2, a3⟩
      obtain ⟨nu, rfl⟩ : ∃ v, nu = v + 1 := ⟨nu - 1, by omega⟩
      rw [L_Mo_findWeights_39, if_neg (nI_ge (by omega) (by omega)), a1 N hN, hv, bnd_s]
      dsimp only [lt]
      rw [if_neg (show ¬ bI true = 0 by decide)]
    | false =>
      have hstep : ∀ N nu ju, 28 < N → L_Mo_findWeights_39 N (nI (rk t (np n))) (nI g) (nI (g ^ rk t (np n))) ju (nu + 1) (nI c) M = L_Mo_findWeights_39 N (nI (rk t (np n))) (nI g) (nI (g ^ rk t (np n))) ju nu (nI (c + 1)) A := fun N nu ju hN => by
        rw [L_Mo_findWeights_39, if_neg (nI_ge (by omega) (by omega)), a1 N hN, hv, bnd_s]
        dsimp only [lt]
        rw [if_pos (show bI false = 0 from rfl), nI_1]
      rcases ih (c + 1) A (by omega) (fun c' hc' => by
        by_cases e : c' = c
        · subst e; exact hv
        · exact hV c' (by omega)) ((a3 _ _ (by decide) (by decide) (by decide)).trans h0) ((a3 _ _ (by decide) (by decide) (by decide)).trans h1) with ⟨C, M', c1, c2, c3, c4, c5, c6⟩ | ⟨M', c1, c4, c6⟩
      · refine Or.inl ⟨C, M', c1, c2, c3, fun N nu ju hN hnu => ?_, c5, fun a j q1 q2 q3 => (c6 a j q1 q2 q3).trans (a3 a j q1 q2 q3)⟩
        obtain ⟨nu, rfl⟩ : ∃ v, nu = v + 1 := ⟨nu - 1, by omega⟩
        rw [hstep N nu ju hN]
        exact c4 N nu ju hN (by omega)
      · refine Or.inr ⟨M', c1, fun N nu ju hN hnu => ?_, fun a j q1 q2 q3 => (c6 a j q1 q2 q3).trans (a3 a j q1 q2 q3)⟩
        obtain ⟨nu, rfl⟩ : ∃ v, nu = v + 1 := ⟨nu - 1, by omega⟩
        rw [hstep N nu ju hN]
        exact c4 N nu ju hN (by omega)
theorem fw20 (N : Nat) {g E : Nat} (ju : Int32 → Option (Int32 × Mm)) (hE : E ≤ 8) : ∀ (d k nu : Nat), k + d = E → d < nu → L_Mo_findWeights_20 N (nI E) (nI g) ju nu (nI (g ^ k)) (nI k) = ju (nI (g ^ E))
  | 0, k, nu + 1, hk, hnu => by
    have hk : k = E := by omega
    subst hk
    rw [L_Mo_findWeights_20, if_pos (nI_le (Nat.le_refl k) (by omega))]
  | d + 1, k, nu + 1, hk, hnu => by
    have ih := fw20 N (g := g) ju hE d (k + 1) nu (by omega) (by omega)
    rw [L_Mo_findWeights_20, if_neg (nI_ge (by omega) (by omega))]
    dsimp only [lt]
    rw [pk_mul, nI_1, ← Nat.pow_succ]
    exact ih
theorem fw10 (hn : n < 9) (ht : t < 2 ^ np n) (hE : rk t (np n) ≤ 8) : ∀ (d g : Nat) (M : Mm), g + d = 5 → 1 ≤ g → (∀ g', 1 ≤ g' → g' < g → ∀ c, c < g' ^ rk t (np n) → VW n t g' c = false) → M.1 49 0 = nI n → M.1 49 1 = nI t → (∃ G C M', LW n t G C ∧ (∀ N nu, 70000 < N → d < nu → L_Mo_findWeights_10 N (nI (rk t (np n))) nu (nI g) M = some (nI G, M')) ∧ (∀ i, i < rk t (np n) → M'.1 58 i = nI (wc G (rk t (np n)) C i) ∧ M'.1 57 i = nI (eK t i)) ∧ ∀ a j, a ≠ 56 → a ≠ 57 → a ≠ 58 → M'.1 a j = M.1 a j) ∨ (∃ M', NW n t ∧ (∀ N nu, 70000 < N → d < nu → L_Mo_findWeights_10 N (nI (rk t (np n))) nu (nI g) M = some (-1, M')) ∧ ∀ a j, a ≠ 56 → a ≠ 57 → a ≠ 58 → M'.1 a j = M.1 a j) := by
  intro d
  induction d with
  | zero =>
    intro g M hg hg1 hV h0 h1
    have hg5 : g = 5 := by omega
    refine Or.inr ⟨M, fun g' a b => hV g' a (by omega), fun N nu hN hnu => ?_, fun _ _ _ _ _ => rfl⟩
    obtain ⟨nu, rfl⟩ : ∃ v, nu = v + 1 := ⟨nu - 1, by omega⟩
    rw [L_Mo_findWeights_10, hg5, if_pos (by decide)]
  | succ d ih =>
    intro g M hg hg1 hV h0 h1
    have hge := gE_le (show g < 5 by omega) hE
    have hstep : ∀ N nu, 70000 < N → L_Mo_findWeights_10 N (nI (rk t (np n))) (nu + 1) (nI g) M = L_Mo_findWeights_39 N (nI (rk t (np n))) (nI g) (nI (g ^ rk t (np n))) (fun Mu6 => L_Mo_findWeights_10 N (nI (rk t (np n))) nu (nI (g + 1)) Mu6) N 0 M := fun N nu hN => by
      rw [L_Mo_findWeights_10, if_neg (show ¬ (5 : Int32) ≤ nI g from nI_ge (a := g) (b := 5) (by omega) (by decide))]
      dsimp only [lt]
      rw [nI_1]
      have h := fw20 N (g := g) (fun xu4 => L_Mo_findWeights_39 N (nI (rk t (np n))) (nI g) xu4 (fun Mu6 => L_Mo_findWeights_10 N (nI (rk t (np n))) nu (nI (g + 1)) Mu6) N 0 M) hE (rk t (np n)) 0 N (by omega) (by omega)
      rw [Nat.pow_zero] at h
      exact h
    rcases fw39 (g := g) hn ht hE hg1 (by omega) (g ^ rk t (np n)) 0 M (by omega) (fun c' hc' => by omega) h0 h1 with ⟨C, M', c1, c2, c3, c4, c5, c6⟩ | ⟨A, c1, c4, c6⟩
    · refine Or.inl ⟨g, C, M', ⟨hg1, by omega, c1, c2, c3, hV⟩, fun N nu hN hnu => ?_, c5, c6⟩
      obtain ⟨nu, rfl⟩ : ∃ v, nu = v + 1 := ⟨nu - 1, by omega⟩
      rw [hstep N nu hN]
      exact c4 N N _ (by omega) (by omega)
    · have hstep2 : ∀ N nu, 70000 < N → L_Mo_findWeights_10 N (nI (rk t (np n))) (nu + 1) (nI g) M = L_Mo_findWeights_10 N (nI (rk t (np n))) nu (nI (g + 1)) A := fun N nu hN => by
        rw [hstep N nu hN]
        exact c4 N N _ (by omega) (by omega)
      rcases ih (g + 1) A (by omega) (by omega) (fun g' a b => by
        by_cases e : g' = g
        · subst e; exact c1
        · exact hV g' a (by omega)) ((c6 _ _ (by decide) (by decide) (by decide)).trans h0) ((c6 _ _ (by decide) (by decide) (by decide)).trans h1) with ⟨G, C, M', d1, d2, d3, d4⟩ | ⟨M', d1, d2, d4⟩
      · refine Or.inl ⟨G, C, M', d1, fun N nu hN hnu => ?_, d3, fun a j q1 q2 q3 => (d4 a j q1 q2 q3).trans (c6 a j q1 q2 q3)⟩
        obtain ⟨nu, rfl⟩ : ∃ v, nu = v + 1 := ⟨nu - 1, by omega⟩
        rw [hstep2 N nu hN]
        exact d2 N nu hN (by omega)
      · refine Or.inr ⟨M', d1, fun N nu hN hnu => ?_, fun a j q1 q2 q3 => (d4 a j q1 q2 q3).trans (c6 a j q1 q2 q3)⟩
        obtain ⟨nu, rfl⟩ : ∃ v, nu = v + 1 := ⟨nu - 1, by omega⟩
        rw [hstep2 N nu hN]
        exact d2 N nu hN (by omega)
theorem fw_I {M : Mm} (hn : n < 9) (ht : t < 2 ^ np n) (hE : rk t (np n) ≤ 8) (h0 : M.1 49 0 = nI n) (h1 : M.1 49 1 = nI t) : (∃ G C M', LW n t G C ∧ (∀ N, 70000 < N → f_Mo_findWeights N M = some (nI G, M')) ∧ (∀ i, i < rk t (np n) → M'.1 58 i = nI (wc G (rk t (np n)) C i) ∧ M'.1 57 i = nI (eK t i)) ∧ ∀ a j, a ≠ 56 → a ≠ 57 → a ≠ 58 → M'.1 a j = M.1 a j) ∨ (∃ M', NW n t ∧ (∀ N, 70000 < N → f_Mo_findWeights N M = some (-1, M')) ∧ ∀ a j, a ≠ 56 → a ≠ 57 → a ≠ 58 → M'.1 a j = M.1 a j) := by
  have hb : ∀ N, 70000 < N → f_Mo_findWeights N M = L_Mo_findWeights_10 N (nI (rk t (np n))) N 1 M := fun N hN => by
    unfold f_Mo_findWeights
    rw [h1, bits_T (by omega) hn ht, bnd_s]
    rfl
  rcases fw10 hn ht hE 4 1 M (by omega) (by omega) (fun g' a b => by omega) h0 h1 with ⟨G, C, M', d1, d2, d3, d4⟩ | ⟨M', d1, d2, d4⟩
  · exact Or.inl ⟨G, C, M', d1, fun N hN => (hb N hN).trans (d2 N N hN (by omega)), d3, d4⟩
  · exact Or.inr ⟨M', d1, fun N hN => (hb N hN).trans (d2 N N hN (by omega)), d4⟩
end FW
