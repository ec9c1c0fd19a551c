/-! PURE 52: the reference's search for places -/
def RG (n p v : Nat) (f g : Nat → Nat) : Prop := (∀ q, q < p → g q = f q) ∧ v ≤ g p ∧ (∀ q, q < n → g q < n) ∧ ∀ q q', q < n → q' < n → g q = g q' → q = q'
def UPD (n t b m mk dr w : Nat) (Q : (Nat → Nat) → Prop) (B B' : Nat) (M M' : Mm) : Prop := (B' = B ∧ M'.1 49 26 = M.1 49 26 ∧ (∀ j, M'.1 55 j = M.1 55 j) ∧ ∀ g, Q g → B ≤ PS n t b m mk dr w g n) ∨ (∃ g, Q g ∧ B' = PS n t b m mk dr w g n ∧ B' < B ∧ M'.1 49 26 = nI w ∧ (∀ q, q < n → M'.1 55 q = nI (g q)) ∧ ∀ g', Q g' → PS n t b m mk dr w g n < PS n t b m mk dr w g' n ∨ (PS n t b m mk dr w g n = PS n t b m mk dr w g' n ∧ CD n g ≤ CD n g'))
theorem cd_tail {g : Nat → Nat} {p : Nat} : ∀ d, p + 1 + d ≤ 8 → (∀ q, q < p + 1 + d → g q ≤ 7) → cdS g tt (p + 1 + d) + 8 ^ (8 - (p + 1 + d)) ≤ cdS g tt (p + 1) + 8 ^ (7 - p)
  | 0, h, _ => by rw [Nat.add_zero, show 8 - (p + 1) = 7 - p by omega]; exact Nat.le_refl _
  | d + 1, h, hg => by
    have ih := cd_tail (g := g) (p := p) d (by omega) (fun q hq => hg q (by omega))
    have e : cdS g tt (p + 1 + d + 1) = cdS g tt (p + 1 + d) + g (p + 1 + d) * 8 ^ (7 - (p + 1 + d)) := rfl
    have hm : g (p + 1 + d) * 8 ^ (7 - (p + 1 + d)) ≤ 7 * 8 ^ (7 - (p + 1 + d)) := Nat.mul_le_mul (hg _ (by omega)) (Nat.le_refl _)
    rw [show 8 - (p + 1 + d) = (7 - (p + 1 + d)) + 1 by omega, Nat.pow_succ] at ih
    rw [← Nat.add_assoc, e, show 8 - (p + 1 + d + 1) = 7 - (p + 1 + d) by omega]
    omega
theorem cd_lex {n p : Nat} {g g' : Nat → Nat} (hn : n < 9) (hp : p < n) (h1 : ∀ q, q < p → g q = g' q) (h2 : g p < g' p) (hg : ∀ q, q < n → g q < n) : CD n g < CD n g' := by
  obtain ⟨d, rfl⟩ : ∃ d, n = p + 1 + d := ⟨n - (p + 1), by omega⟩
  have ht := cd_tail (g := g) (p := p) d (by omega) (fun q hq => by have := hg q hq; omega)
  have hm : cdS g' tt (p + 1) ≤ cdS g' tt (p + 1 + d) := smN_mono d
  have e1 : cdS g tt (p + 1) = cdS g tt p + g p * 8 ^ (7 - p) := rfl
  have e2 : cdS g' tt (p + 1) = cdS g' tt p + g' p * 8 ^ (7 - p) := rfl
  have e3 : cdS g tt p = cdS g' tt p := cd_cong (fun _ _ => rfl) (fun q hq _ => h1 q hq)
  have hmul : (g p + 1) * 8 ^ (7 - p) ≤ g' p * 8 ^ (7 - p) := Nat.mul_le_mul h2 (Nat.le_refl _)
  rw [Nat.add_mul, Nat.one_mul] at hmul
  have hpos : 0 < 8 ^ (8 - (p + 1 + d)) := Nat.pow_pos (by decide)
  unfold CD
  omega
section LV
variable {n t b m mk dr w : Nat}
theorem UPD.comb {Q Q1 Q2 : (Nat → Nat) → Prop} {B B1 B2 : Nat} {M M1 M2 : Mm} (h1 : UPD n t b m mk dr w Q1 B B1 M M1) (h2 : UPD n t b m mk dr w Q2 B1 B2 M1 M2) (hQ : ∀ g, Q g → Q1 g ∨ Q2 g) (hQ1 : ∀ g, Q1 g → Q g) (hQ2 : ∀ g, Q2 g → Q g) (hlt : ∀ g1 g2, Q1 g1 → Q2 g2 → CD n g1 < CD n g2) : UPD n t b m mk dr w Q B B2 M M2 := by
  rcases h1 with ⟨a1, a2, a3, a4⟩ | ⟨g1, a0, a1, a2, a3, a4, a5⟩
  · rcases h2 with ⟨c1, c2, c3, c4⟩ | ⟨g2, c0, c1, c2, c3, c4, c5⟩
    · refine Or.inl ⟨c1.trans a1, c2.trans a2, fun j => (c3 j).trans (a3 j), fun g hg => ?_⟩
      rcases hQ g hg with q | q
      · exact a4 g q
      · rw [← a1]; exact c4 g q
    · refine Or.inr ⟨g2, hQ2 g2 c0, c1, by omega, c3, c4, fun g hg => ?_⟩
      rcases hQ g hg with q | q
      · have := a4 g q
        left; omega
      · exact c5 g q
  · rcases h2 with ⟨c1, c2, c3, c4⟩ | ⟨g2, c0, c1, c2, c3, c4, c5⟩
    · refine Or.inr ⟨g1, hQ1 g1 a0, c1.trans a1, by omega, c2.trans a3, fun q hq => (c3 q).trans (a4 q hq), fun g hg => ?_⟩
      rcases hQ g hg with q | q
      · exact a5 g q
      · have h3 := c4 g q
        have h4 := hlt g1 g a0 q
        omega
    · refine Or.inr ⟨g2, hQ2 g2 c0, c1, by omega, c3, c4, fun g hg => ?_⟩
      rcases hQ g hg with q | q
      · have h3 := a5 g q
        left; omega
      · exact c5 g q
theorem UPD.lf {Q : (Nat → Nat) → Prop} {B B' : Nat} {M A M' : Mm} (h : UPD n t b m mk dr w Q B B' A M') (h1 : A.1 49 26 = M.1 49 26) (h2 : ∀ j, A.1 55 j = M.1 55 j) : UPD n t b m mk dr w Q B B' M M' := by
  rcases h with ⟨a1, a2, a3, a4⟩ | h
  · exact Or.inl ⟨a1, a2.trans h1, fun j => (a3 j).trans (h2 j), a4⟩
  · exact Or.inr h
theorem lev (hn : n < 9) (hw : w < 2) (ht : t < 2 ^ 31) (hb : b < 2 ^ 31) (hm : m < 2 ^ 31) (hmk : mk ≤ 9) (hdr : dr ≤ 9) : ∀ (e p : Nat), p + e = n → 1 ≤ e → ∀ (d v : Nat), v + d = n → ∀ (f : Nat → Nat) (M : Mm) (B : Nat), M.1 49 4 = nI mk → M.1 49 5 = nI dr → (∀ q, q < p → M.1 53 q = nI (f q)) → (∀ q, q < p → f q < n) → (∀ q q', q < p → q' < p → f q = f q' → q = q') → M.1 53 p = nI v - 1 → M.1 54 p = nI (PS n t b m mk dr w f p) → M.1 49 27 = nI B → B ≤ 1000000 → ∃ K M' B', (∀ N nu, 100 < N → L_Mo_findPlaces_17 N (nI n) (nI t) (nI b) (nI m) (nI w) (nu + K) (nI p) M = L_Mo_findPlaces_17 N (nI n) (nI t) (nI b) (nI m) (nI w) nu (nI p - 1) M') ∧ UPD n t b m mk dr w (RG n p v f) B B' M M' ∧ B' ≤ 1000000 ∧ (∀ q, q < p → M'.1 53 q = M.1 53 q) ∧ (∀ q, q ≤ p → M'.1 54 q = M.1 54 q) ∧ M'.1 49 27 = nI B' ∧ ∀ a j, a ≠ 53 → a ≠ 54 → a ≠ 55 → ¬ (a = 49 ∧ (j = 26 ∨ j = 27)) → M'.1 a j = M.1 a j := by
  intro e
  induction e with
  | zero => intro p _ h1; omega
  | succ e ihe =>
    intro p hp _ d
    induction d with
    | zero =>
      intro v hv f M B h4 h5 h53 hf hfi hv1 h54 h27 hB
      have hv : v = n := by omega
      subst hv
      refine ⟨1, si M 53 p (nI v), B, fun N nu hN => ?_, Or.inl ⟨rfl, si_a _ _ (by decide), fun j => si_a _ _ (by decide), fun g hg => ?_⟩, hB, fun q hq => si_k _ _ (by omega), fun q _ => si_a _ _ (by decide), (si_a _ _ (by decide)).trans h27, fun a j q1 _ _ _ => si_a _ _ q1⟩
      · rw [L_Mo_findPlaces_17, if_neg (nI_pos (by omega)), if_pos (inb_nI (show p < 8 by omega) (by decide)), if_pos (inb_nI (show p < 8 by omega) (by decide))]
        dsimp only [lt]
        rw [if_pos (inb_nI (show p < 8 by omega) (by decide)), ix_nI (by omega), hv1, Int32.sub_add_cancel, si_s, if_neg (nI_nlt (Nat.le_refl v) (by omega)), m1_sub]
      · have := hg.2.1
        have := hg.2.2.1 p (by omega)
        omega
    | succ d ihd =>
      intro v hv f M B h4 h5 h53 hf hfi hv1 h54 h27 hB
      have hvn : v < n := by omega
      have hpn : p < n := by omega
      generalize hA : si M 53 p (nI v) = A
      have oA : ∀ a j, ¬ (a = 53 ∧ j = p) → A.1 a j = M.1 a j := fun a j q => by rw [← hA, si1, if_neg q]
      have Ap : A.1 53 p = nI v := by rw [← hA, si_s]
      have fp : upw f p v p = v := if_pos rfl
      have fq : ∀ q, q < p → upw f p v q = f q := fun q hq => if_neg (by omega)
      have A53 : ∀ q, q ≤ p → A.1 53 q = nI (upw f p v q) := fun q hq => by
        by_cases e : q = p
        · rw [e, Ap, fp]
        · rw [oA _ _ (by omega), h53 q (by omega), fq q (by omega)]
      have A4 : A.1 49 4 = nI mk := (oA _ _ (by omega)).trans h4
      have A5 : A.1 49 5 = nI dr := (oA _ _ (by omega)).trans h5
      have A27 : A.1 49 27 = nI B := (oA _ _ (by omega)).trans h27
      have A54 : A.1 54 p = nI (PS n t b m mk dr w f p) := (oA _ _ (by omega)).trans h54
      have hfl : ∀ q, q ≤ p → upw f p v q < n := fun q hq => by
        by_cases e : q = p
        · rw [e, fp]; exact hvn
        · rw [fq q (by omega)]; exact hf q (by omega)
      have hsum : PS n t b m mk dr w f p + cl n t b m mk dr w (upw f p v) p = PS n t b m mk dr w (upw f p v) (p + 1) := by
        have e1 : PS n t b m mk dr w (upw f p v) (p + 1) = PS n t b m mk dr w (upw f p v) p + cl n t b m mk dr w (upw f p v) p := rfl
        rw [e1, PS_cong (f := upw f p v) (g := f) fq]
      have hsl : PS n t b m mk dr w (upw f p v) (p + 1) ≤ 64000000 := PS_le hmk hdr (by omega)
      -- the step
      have step : ∀ N nu, 100 < N → L_Mo_findPlaces_17 N (nI n) (nI t) (nI b) (nI m) (nI w) (nu + 1) (nI p) M = if tkB (upw f p v) p p = true then L_Mo_findPlaces_17 N (nI n) (nI t) (nI b) (nI m) (nI w) nu (nI p) A else if B ≤ PS n t b m mk dr w (upw f p v) (p + 1) then L_Mo_findPlaces_17 N (nI n) (nI t) (nI b) (nI m) (nI w) nu (nI p) A else if p = n - 1 then L_Mo_findPlaces_17 N (nI n) (nI t) (nI b) (nI m) (nI w) nu (nI p) (bpM n (si (si A 49 27 (nI (PS n t b m mk dr w (upw f p v) (p + 1)))) 49 26 (nI w))) else L_Mo_findPlaces_17 N (nI n) (nI t) (nI b) (nI m) (nI w) nu (nI (p + 1)) (si (si A 54 (p + 1) (nI (PS n t b m mk dr w (upw f p v) (p + 1)))) 53 (p + 1) (-1)) := fun N nu hN => by
        rw [L_Mo_findPlaces_17, if_neg (nI_pos (by omega)), if_pos (inb_nI (show p < 8 by omega) (by decide)), if_pos (inb_nI (show p < 8 by omega) (by decide))]
        dsimp only [lt]
        rw [if_pos (inb_nI (show p < 8 by omega) (by decide)), ix_nI (show p < 2 ^ 31 by omega), hv1, Int32.sub_add_cancel, hA, Ap, if_pos (nI_lt hvn (by omega)), tk_I (by omega) (by omega) (fun q hq => by have := hfl q hq; omega) A53, bnd_s]
        cases hk : tkB (upw f p v) p p with
        | true => rw [if_neg (show ¬ bI true = 0 by decide), if_pos rfl]
        | false =>
          rw [if_pos (show bI false = 0 from rfl), if_neg (show ¬ false = true by decide), if_pos (inb_nI (show p < 9 by omega) (by decide)), pa_I (by omega) hn hw ht hb hm hpn A4 A5 hfl A53, bnd_s, A54, nI_add, hsum, A27]
          by_cases c1 : B ≤ PS n t b m mk dr w (upw f p v) (p + 1)
          · rw [if_pos (nI_le c1 (by omega)), if_pos c1, if_pos (nI_le c1 (by omega))]
          · rw [if_neg (nI_ge (by omega) (by omega)), if_neg c1, if_neg (nI_ge (by omega) (by omega))]
            obtain ⟨n', rfl⟩ : ∃ n', n = n' + 1 := ⟨n - 1, by omega⟩
            rw [nI_pred]
            by_cases c2 : p = n' + 1 - 1
            · rw [if_pos (show nI p = nI n' by rw [show p = n' by omega]), if_pos c2]
              have h := bp114 (n := n' + 1) N (M := si (si A 49 27 (nI (PS (n' + 1) t b m mk dr w (upw f p v) (p + 1)))) 49 26 (nI w)) (fun Mu29 => L_Mo_findPlaces_17 N (nI (n' + 1)) (nI t) (nI b) (nI m) (nI w) nu (nI p) Mu29) hn (n' + 1) 0 N (by omega) (by omega)
              rw [show bpM 0 (si (si A 49 27 (nI (PS (n' + 1) t b m mk dr w (upw f p v) (p + 1)))) 49 26 (nI w)) = si (si A 49 27 (nI (PS (n' + 1) t b m mk dr w (upw f p v) (p + 1)))) 49 26 (nI w) from mm_ext (fun a j => if_neg (by omega)) rfl] at h
              exact h
            · rw [if_neg (fun z => c2 (by have := (nI_eq (by omega) (by omega)).mp z; omega)), if_neg c2, nI_1, if_pos (inb_nI (show p + 1 < 9 by omega) (by decide)), if_pos (inb_nI (show p + 1 < 8 by omega) (by decide)), ix_nI (show p + 1 < 2 ^ 31 by omega)]
      -- the rest of the level
      have hsplit : ∀ g, RG n p v f g → (RG n p v f g ∧ g p = v) ∨ RG n p (v + 1) f g := fun g hg => by
        by_cases e : g p = v
        · exact Or.inl ⟨hg, e⟩
        · exact Or.inr ⟨hg.1, by have := hg.2.1; omega, hg.2.2.1, hg.2.2.2⟩
      have hsub2 : ∀ g, RG n p (v + 1) f g → RG n p v f g := fun g hg => ⟨hg.1, by have := hg.2.1; omega, hg.2.2.1, hg.2.2.2⟩
      have hlex : ∀ g1 g2, (RG n p v f g1 ∧ g1 p = v) → RG n p (v + 1) f g2 → CD n g1 < CD n g2 := fun g1 g2 h1 h2 => cd_lex hn hpn (fun q hq => by rw [h1.1.1 q hq, h2.1 q hq]) (by have := h2.2.1; omega) h1.1.2.2.1
      have agr : ∀ g, RG n p v f g ∧ g p = v → ∀ q, q < p + 1 → g q = upw f p v q := fun g hg q hq => by
        by_cases e : q = p
        · rw [e, fp, hg.2]
        · rw [fq q (by omega), hg.1.1 q (by omega)]
      -- when the branch changes nothing
      have skip : (∀ N nu, 100 < N → L_Mo_findPlaces_17 N (nI n) (nI t) (nI b) (nI m) (nI w) (nu + 1) (nI p) M = L_Mo_findPlaces_17 N (nI n) (nI t) (nI b) (nI m) (nI w) nu (nI p) A) → (∀ g, RG n p v f g ∧ g p = v → B ≤ PS n t b m mk dr w g n) → ∃ K M' B', (∀ N nu, 100 < N → L_Mo_findPlaces_17 N (nI n) (nI t) (nI b) (nI m) (nI w) (nu + K) (nI p) M = L_Mo_findPlaces_17 N (nI n) (nI t) (nI b) (nI m) (nI w) nu (nI p - 1) M') ∧ UPD n t b m mk dr w (RG n p v f) B B' M M' ∧ B' ≤ 1000000 ∧ (∀ q, q < p → M'.1 53 q = M.1 53 q) ∧ (∀ q, q ≤ p → M'.1 54 q = M.1 54 q) ∧ M'.1 49 27 = nI B' ∧ ∀ a j, a ≠ 53 → a ≠ 54 → a ≠ 55 → ¬ (a = 49 ∧ (j = 26 ∨ j = 27)) → M'.1 a j = M.1 a j := fun hs hno => by
        obtain ⟨K, M', B', k1, k2, k3, k4, k5, k6, k7⟩ := ihd (v + 1) (by omega) f A B A4 A5 (fun q hq => by rw [A53 q (by omega), fq q hq]) hf hfi (by rw [Ap, nI_pred]) A54 A27 hB
        refine ⟨K + 1, M', B', fun N nu hN => ?_, ?_, k3, fun q hq => by rw [k4 q hq, oA _ _ (by omega)], fun q hq => by rw [k5 q hq, oA _ _ (by omega)], k6, fun a j q1 q2 q3 q4 => by rw [k7 a j q1 q2 q3 q4, oA a j (by omega)]⟩
        · rw [← Nat.add_assoc, hs N _ hN, k1 N nu hN]
        · have h1 : UPD n t b m mk dr w (fun g => RG n p v f g ∧ g p = v) B B A A := Or.inl ⟨rfl, rfl, fun _ => rfl, hno⟩
          exact (h1.comb k2 hsplit (fun g hg => hg.1) hsub2 hlex).lf (oA _ _ (by omega)) (fun j => oA _ _ (by omega))
      by_cases hk : tkB (upw f p v) p p = true
      · refine skip (fun N nu hN => by rw [step N nu hN, if_pos hk]) (fun g hg => ?_)
        exfalso
        have : ¬ ∀ q, q < p → upw f p v q ≠ upw f p v p := fun z => by
          rw [tk_f.mpr z] at hk; cases hk
        refine this (fun q hq e => ?_)
        have a1 := agr g hg q (by omega)
        have a2 := agr g hg p (by omega)
        have := hg.1.2.2.2 q p (by omega) hpn (by rw [a1, a2, e])
        omega
      · have hk' : tkB (upw f p v) p p = false := by simpa using hk
        by_cases c1 : B ≤ PS n t b m mk dr w (upw f p v) (p + 1)
        · refine skip (fun N nu hN => by rw [step N nu hN, if_neg hk, if_pos c1]) (fun g hg => ?_)
          have e1 : PS n t b m mk dr w g (p + 1) = PS n t b m mk dr w (upw f p v) (p + 1) := PS_cong (agr g hg)
          have e2 : PS n t b m mk dr w g (p + 1) ≤ PS n t b m mk dr w g n := PS_mono (by omega)
          omega
        · have hinj : ∀ q q', q < p + 1 → q' < p + 1 → upw f p v q = upw f p v q' → q = q' := fun q q' hq hq' e => by
            have hne := tk_f.mp hk'
            by_cases e1 : q = p
            · by_cases e2 : q' = p
              · omega
              · rw [e1] at e; exact absurd e.symm (hne q' (by omega))
            · by_cases e2 : q' = p
              · rw [e2] at e; exact absurd e (hne q (by omega))
              · rw [fq q (by omega), fq q' (by omega)] at e
                exact hfi q q' (by omega) (by omega) e
          by_cases c2 : p = n - 1
          · generalize hC : bpM n (si (si A 49 27 (nI (PS n t b m mk dr w (upw f p v) (p + 1)))) 49 26 (nI w)) = C
            have oC : ∀ a j, a ≠ 55 → ¬ (a = 49 ∧ (j = 26 ∨ j = 27)) → C.1 a j = A.1 a j := fun a j q1 q2 => by rw [← hC, bp_off q1, si1, if_neg (by omega), si1, if_neg (by omega)]
            have C27 : C.1 49 27 = nI (PS n t b m mk dr w (upw f p v) (p + 1)) := by rw [← hC, bp_off (by decide), si_k _ _ (by decide), si_s]
            have C26 : C.1 49 26 = nI w := by rw [← hC, bp_off (by decide), si_s]
            have C55 : ∀ q, q < n → C.1 55 q = nI (upw f p v q) := fun q hq => by
              rw [← hC]
              have e : (bpM n (si (si A 49 27 (nI (PS n t b m mk dr w (upw f p v) (p + 1)))) 49 26 (nI w))).1 55 q = (si (si A 49 27 (nI (PS n t b m mk dr w (upw f p v) (p + 1)))) 49 26 (nI w)).1 53 q := if_pos ⟨rfl, hq⟩
              rw [e, si_a _ _ (by decide), si_a _ _ (by decide), A53 q (by omega)]
            obtain ⟨K, M', B', k1, k2, k3, k4, k5, k6, k7⟩ := ihd (v + 1) (by omega) f C (PS n t b m mk dr w (upw f p v) (p + 1)) ((oC _ _ (by decide) (by omega)).trans A4) ((oC _ _ (by decide) (by omega)).trans A5) (fun q hq => by rw [oC _ _ (by decide) (by omega), A53 q (by omega), fq q hq]) hf hfi (by rw [oC _ _ (by decide) (by omega), Ap, nI_pred]) ((oC _ _ (by decide) (by omega)).trans A54) C27 (by omega)
            refine ⟨K + 1, M', B', fun N nu hN => ?_, ?_, k3, fun q hq => by rw [k4 q hq, oC _ _ (by decide) (by omega), oA _ _ (by omega)], fun q hq => by rw [k5 q hq, oC _ _ (by decide) (by omega), oA _ _ (by omega)], k6, fun a j q1 q2 q3 q4 => by rw [k7 a j q1 q2 q3 q4, oC a j q3 q4, oA a j (by omega)]⟩
            · rw [← Nat.add_assoc, step N _ hN, if_neg hk, if_neg c1, if_pos c2, hC, k1 N nu hN]
            · have hpe : p + 1 = n := by omega
              have h1 : UPD n t b m mk dr w (fun g => RG n p v f g ∧ g p = v) B (PS n t b m mk dr w (upw f p v) (p + 1)) M C := by
                refine Or.inr ⟨upw f p v, ⟨⟨fq, by rw [fp]; exact Nat.le_refl v, fun q hq => hfl q (by omega), fun q q' hq hq' => hinj q q' (by omega) (by omega)⟩, fp⟩, by rw [hpe], by omega, C26, C55, fun g hg => ?_⟩
                right
                have ag := agr g hg
                refine ⟨PS_cong (fun q hq => (ag q (by omega)).symm), ?_⟩
                have : CD n (upw f p v) = CD n g := cd_cong (fun _ _ => rfl) (fun q hq _ => (ag q (by omega)).symm)
                omega
              exact h1.comb k2 hsplit (fun g hg => hg.1) hsub2 hlex
          · generalize hC : si (si A 54 (p + 1) (nI (PS n t b m mk dr w (upw f p v) (p + 1)))) 53 (p + 1) (-1) = C
            have oC : ∀ a j, ¬ (a = 53 ∧ j = p + 1) → ¬ (a = 54 ∧ j = p + 1) → C.1 a j = A.1 a j := fun a j q1 q2 => by rw [← hC, si1, if_neg q1, si1, if_neg q2]
            obtain ⟨K1, M1, B1, l1, l2, l3, l4, l5, l6, l7⟩ := ihe (p + 1) (by omega) (by omega) n 0 (by omega) (upw f p v) C B ((oC _ _ (by omega) (by omega)).trans A4) ((oC _ _ (by omega) (by omega)).trans A5) (fun q hq => by rw [oC _ _ (by omega) (by omega), A53 q (by omega)]) (fun q hq => hfl q (by omega)) hinj (by rw [← hC, si_s]; decide) (by rw [← hC, si_a _ _ (by decide), si_s]) ((oC _ _ (by omega) (by omega)).trans A27) hB
            obtain ⟨K, M', B', k1, k2, k3, k4, k5, k6, k7⟩ := ihd (v + 1) (by omega) f M1 B1 (by rw [l7 _ _ (by decide) (by decide) (by decide) (by omega), oC _ _ (by omega) (by omega)]; exact A4) (by rw [l7 _ _ (by decide) (by decide) (by decide) (by omega), oC _ _ (by omega) (by omega)]; exact A5) (fun q hq => by rw [l4 q (by omega), oC _ _ (by omega) (by omega), A53 q (by omega), fq q hq]) hf hfi (by rw [l4 p (by omega), oC _ _ (by omega) (by omega), Ap, nI_pred]) (by rw [l5 p (by omega), oC _ _ (by omega) (by omega)]; exact A54) l6 l3
            refine ⟨K + K1 + 1, M', B', fun N nu hN => ?_, ?_, k3, fun q hq => by rw [k4 q hq, l4 q (by omega), oC _ _ (by omega) (by omega), oA _ _ (by omega)], fun q hq => by rw [k5 q hq, l5 q (by omega), oC _ _ (by omega) (by omega), oA _ _ (by omega)], k6, fun a j q1 q2 q3 q4 => by rw [k7 a j q1 q2 q3 q4, l7 a j q1 q2 q3 q4, oC a j (by omega) (by omega), oA a j (by omega)]⟩
            · rw [← Nat.add_assoc, step N _ hN, if_neg hk, if_neg c1, if_neg c2, hC, ← Nat.add_assoc, l1 N _ hN, nI_pred, k1 N nu hN]
            · have hQ1 : ∀ g, (RG n p v f g ∧ g p = v) ↔ RG n (p + 1) 0 (upw f p v) g := fun g => by
                constructor
                · intro hg
                  exact ⟨agr g hg, by omega, hg.1.2.2.1, hg.1.2.2.2⟩
                · intro hg
                  have e := hg.1 p (by omega)
                  rw [fp] at e
                  exact ⟨⟨fun q hq => by rw [hg.1 q (by omega), fq q hq], by omega, hg.2.2.1, hg.2.2.2⟩, e⟩
              have h1 : UPD n t b m mk dr w (RG n (p + 1) 0 (upw f p v)) B B1 M M1 := l2.lf (by rw [oC _ _ (by omega) (by omega), oA _ _ (by omega)]) (fun j => by rw [oC _ _ (by omega) (by omega), oA _ _ (by omega)])
              exact h1.comb k2 (fun g hg => (hsplit g hg).imp (fun x => (hQ1 g).mp x) id) (fun g hg => ((hQ1 g).mpr hg).1) hsub2 (fun g1 g2 a1 a2 => hlex g1 g2 ((hQ1 g1).mpr a1) a2)
end LV
