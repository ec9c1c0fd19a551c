/-! PURE 59: the draft town of both readers -/
section DR
variable {c : Nat → Nat} {len : Nat}
def cfr (M M' : Mm) : Prop := ∀ b j, ¬ (b = 11 ∧ 3 ≤ j ∧ j ≤ 6) → ¬ (13 ≤ b ∧ b ≤ 17) → M'.1 b j = M.1 b j
def rfr (M M' : Mm) : Prop := ∀ b j, ¬ (b = 49 ∧ 11 ≤ j ∧ j ≤ 22) → M'.1 b j = M.1 b j
theorem cfr.tr {M M1 M2 : Mm} (h : cfr M M1) (h2 : cfr M1 M2) : cfr M M2 := fun b j q r => (h2 b j q r).trans (h b j q r)
theorem rfr.tr {M M1 M2 : Mm} (h : rfr M M1) (h2 : rfr M1 M2) : rfr M M2 := fun b j q => (h2 b j q).trans (h b j q)
def CS (c : Nat → Nat) (len at' n t b m mk dr : Nat) (k : Bool) (M : Mm) : Prop := CX c len M ∧ M.1 11 3 = nI at' ∧ M.1 11 4 = (if k = true then 1 else 0) ∧ M.1 11 5 = 0 ∧ M.1 11 6 = -1 ∧ CT M 13 n t b m mk dr (fun _ => 0)
def RS (c : Nat → Nat) (len at' n t b m mk dr : Nat) (k : Bool) (M : Mm) : Prop := RX c len M ∧ M.1 49 12 = nI at' ∧ M.1 49 11 = -1 ∧ M.1 49 17 = nI n ∧ M.1 49 18 = nI t ∧ M.1 49 19 = nI b ∧ M.1 49 20 = nI m ∧ (k = true → M.1 49 21 = nI mk ∧ M.1 49 22 = nI dr) ∧ (k = false → M.1 49 21 = 0)
def DOK (n t b m mk dr : Nat) (k : Bool) : Prop := TOK n t b m mk dr (fun _ => 0) ∧ (k = false → mk = 1 ∧ dr = 1)
def CFl (kd pl : Nat) (M : Mm) : Prop := M.1 11 5 = nI kd ∧ M.1 11 6 = nI pl
def BOTH (c : Nat → Nat) (len at' n t b m mk dr : Nat) (k : Bool) (f : Nat → Mm → Option Mm) (g : Nat → Mm → Option (Int32 × Mm)) (lo : Nat) : Prop :=
  (∃ kd pl, 1 ≤ kd ∧ kd ≤ 4 ∧ pl ≤ len ∧ (∀ M, CS c len at' n t b m mk dr k M → ∃ M', (∀ N, 401 < N → f N M = some M') ∧ CFl kd pl M' ∧ cfr M M' ∧ CX c len M' ∧ ∃ e, e ≤ len ∧ M'.1 11 3 = nI e) ∧ (∀ M, RS c len at' n t b m mk dr k M → ∃ M', (∀ N, 401 < N → g N M = some (nI kd, M')) ∧ M'.1 49 11 = nI pl ∧ rfr M M'))
  ∨ (∃ at2 n2 t2 b2 m2 mk2 dr2 k2, lo ≤ at2 ∧ at2 ≤ len ∧ DOK n2 t2 b2 m2 mk2 dr2 k2 ∧ (∀ M, CS c len at' n t b m mk dr k M → ∃ M', (∀ N, 401 < N → f N M = some M') ∧ CS c len at2 n2 t2 b2 m2 mk2 dr2 k2 M' ∧ cfr M M') ∧ (∀ M, RS c len at' n t b m mk dr k M → ∃ M', (∀ N, 401 < N → g N M = some (0, M')) ∧ RS c len at2 n2 t2 b2 m2 mk2 dr2 k2 M' ∧ rfr M M'))
theorem CT.ax {M M' : Mm} {a n t b m mk dr : Nat} {sd : Nat → Nat} (h : CT M a n t b m mk dr sd) (he : ∀ x j, a ≤ x → x ≤ a + 4 → M'.1 x j = M.1 x j) : CT M' a n t b m mk dr sd := by
  obtain ⟨h1, h2, h3, h4⟩ := h
  exact ⟨(he _ _ (by omega) (by omega)).trans h1, (he _ _ (by omega) (by omega)).trans h2, (he _ _ (by omega) (by omega)).trans h3, fun p hp => ⟨(he _ _ (by omega) (by omega)).trans (h4 p hp).1, (he _ _ (by omega) (by omega)).trans (h4 p hp).2.1, (he _ _ (by omega) (by omega)).trans (h4 p hp).2.2.1, (he _ _ (by omega) (by omega)).trans (h4 p hp).2.2.2⟩⟩
theorem CS.mv {at' n t b m mk dr : Nat} {k : Bool} {M : Mm} (h : CS c len at' n t b m mk dr k M) (e : Nat) : CS c len e n t b m mk dr k (si M 11 3 (nI e)) ∧ cfr M (si M 11 3 (nI e)) := by
  obtain ⟨h1, h2, h3, h4, h5, h6⟩ := h
  refine ⟨⟨h1.ag (si_k _ _ (by decide)) (fun _ => si_a _ _ (by decide)), si_s _ _ _ _, by rw [si_k _ _ (by decide)]; exact h3, by rw [si_k _ _ (by decide)]; exact h4, by rw [si_k _ _ (by decide)]; exact h5, h6.ax (fun x j hx hx2 => si_a _ _ (by omega))⟩, fun x j q1 q2 => ?_⟩
  rw [si1, if_neg (fun v => q1 ⟨v.1, by omega, by omega⟩)]
theorem cn_ok {lo hi at' n t b m mk dr : Nat} {k : Bool} {M : Mm} (h : CS c len at' n t b m mk dr k M) (hk : nmK c len lo hi at' = 0) : CS c len (nmE c len at') n t b m mk dr k (cnuM c len lo hi at' M) ∧ cfr M (cnuM c len lo hi at' M) := by
  unfold cnuM
  rw [if_pos hk]
  exact h.mv _
theorem cn_no {lo hi at' n t b m mk dr : Nat} {k : Bool} {M : Mm} (h : CS c len at' n t b m mk dr k M) (hk : nmK c len lo hi at' ≠ 0) : CFl (nmK c len lo hi at') (skp c len at') (cnuM c len lo hi at' M) ∧ cfr M (cnuM c len lo hi at' M) ∧ CX c len (cnuM c len lo hi at' M) ∧ (cnuM c len lo hi at' M).1 11 3 = nI (nmE c len at') := by
  unfold cnuM
  rw [if_neg hk]
  refine ⟨⟨by rw [si_k _ _ (by decide), si_s], si_s _ _ _ _⟩, fun x j q1 q2 => ?_, h.1.ag ?_ (fun i => ?_), ?_⟩
  · rw [si1, if_neg (fun v => q1 ⟨v.1, by omega, by omega⟩), si1, if_neg (fun v => q1 ⟨v.1, by omega, by omega⟩), si1, if_neg (fun v => q1 ⟨v.1, by omega, by omega⟩)]
  · rw [si_k _ _ (by decide), si_k _ _ (by decide), si_k _ _ (by decide)]
  · rw [si_a _ _ (by decide), si_a _ _ (by decide), si_a _ _ (by decide)]
  · rw [si_k _ _ (by decide), si_k _ _ (by decide), si_s]
theorem nmK_le {lo hi i : Nat} : nmK c len lo hi i ≤ 2 := by
  unfold nmK
  split
  · omega
  · split <;> omega
theorem rn_ok {at' n t b m mk dr : Nat} {k : Bool} {M M' : Mm} (h : RS c len at' n t b m mk dr k M) (hf : ∀ b j, ¬ (b = 49 ∧ (j = 11 ∨ j = 12 ∨ j = 15 ∨ j = 16)) → M'.1 b j = M.1 b j) (h2 : M'.1 49 12 = nI (nmE c len at')) (h3 : M'.1 49 11 = M.1 49 11) : RS c len (nmE c len at') n t b m mk dr k M' ∧ rfr M M' := by
  obtain ⟨a1, a2, a3, a4, a5, a6, a7, a8, a9⟩ := h
  refine ⟨⟨a1.ag (hf _ _ (by decide)) (fun i => hf _ _ (by omega)), h2, h3.trans a3, (hf _ _ (by decide)).trans a4, (hf _ _ (by decide)).trans a5, (hf _ _ (by decide)).trans a6, (hf _ _ (by decide)).trans a7, fun z => ⟨(hf _ _ (by decide)).trans (a8 z).1, (hf _ _ (by decide)).trans (a8 z).2⟩, fun z => (hf _ _ (by decide)).trans (a9 z)⟩, fun x j q => hf x j (fun v => q ⟨v.1, by omega, by omega⟩)⟩
theorem rn_fr {M M' : Mm} (hf : ∀ b j, ¬ (b = 49 ∧ (j = 11 ∨ j = 12 ∨ j = 15 ∨ j = 16)) → M'.1 b j = M.1 b j) : rfr M M' := fun x j q => hf x j (fun v => q ⟨v.1, by omega, by omega⟩)
theorem rwo_0 {n p : Nat} : rwo n 0 p = 0 := Nat.eq_of_testBit_eq (fun i => by rw [rwo_bit]; simp [rwf])
theorem nmK_v {lo hi i : Nat} (h : nmK c len lo hi i = 0) : lo ≤ nmV c len i ∧ nmV c len i ≤ hi ∧ skp c len i < nmE c len i ∨ nmE c len i < skp c len i := by
  unfold nmK at h
  by_cases z : nmE c len i = skp c len i
  · rw [if_pos z] at h; omega
  · rw [if_neg z] at h
    by_cases q : 3 < nmE c len i - skp c len i ∨ nmV c len i < lo ∨ hi < nmV c len i
    · rw [if_pos q] at h; omega
    · omega
theorem b_people {at' mk dr : Nat} {k : Bool} (ha : at' ≤ len) (hD : DOK 0 0 0 0 mk dr k) : BOTH c len at' 0 0 0 0 mk dr k f_Te_readPeople (fun N M => f_Mo_takeKind N 0 M) at' := by
  have hs := skp_le (c := c) ha
  have he := nmE_le (c := c) ha
  by_cases g : nmK c len 1 8 at' = 0
  · have hv := nmK_v g
    right
    refine ⟨nmE c len at', nmV c len at', 0, 0, 0, mk, dr, k, by omega, he.2, ⟨?_, hD.2⟩, fun M h => ?_, fun M h => ?_⟩
    · obtain ⟨⟨d1, d2, d3, d4, d5, d6, d7⟩, _⟩ := hD
      exact ⟨by omega, Nat.two_pow_pos _, Nat.two_pow_pos _, Nat.two_pow_pos _, d5, d6, d7.1, d7.2.1, d7.2.2.1, d7.2.2.2.1, fun p => ⟨Nat.zero_le _, fun _ => rfl⟩⟩
    · obtain ⟨g1, g2⟩ := cn_ok h g
      refine ⟨si (cnuM c len 1 8 at' M) 13 0 (nI (nmV c len at')), fun N hN => ?_, ?_, ?_⟩
      · unfold f_Te_readPeople
        rw [show f_Te_readNumber N 1 8 M = _ from cnum (lo := 1) (hi := 8) hN ha (by decide) (by decide) h.1 h.2.1, Option.bind_some]
        dsimp only [lt]
        rw [if_pos g1.2.2.2.1]
      · obtain ⟨h1, h2, h3, h4, h5, h6, h7, h8, h9⟩ := g1
        refine ⟨h1.ag (si_a _ _ (by decide)) (fun _ => si_a _ _ (by decide)), by rw [si_a _ _ (by decide)]; exact h2, by rw [si_a _ _ (by decide)]; exact h3, by rw [si_a _ _ (by decide)]; exact h4, by rw [si_a _ _ (by decide)]; exact h5, si_s _ _ _ _, by rw [si_k _ _ (by decide)]; exact h7, by rw [si_k _ _ (by decide)]; exact h8, fun p hp => ?_⟩
        have := h9 p hp
        rw [rwo_0] at this
        rw [rwo_0, si_a _ _ (by decide), si_a _ _ (by decide), si_a _ _ (by decide), si_a _ _ (by decide)]
        exact this
      · exact g2.tr (fun x j q1 q2 => by rw [si1, if_neg (fun v => q2 (by omega))])
    · obtain ⟨M', r1, r2, r3, r4⟩ := rnum (lo := 1) (hi := 8) ha (by decide) (by decide) h.1 h.2.1
      obtain ⟨v1, v2, v3, v4⟩ := r3 g
      obtain ⟨g1, g2⟩ := rn_ok h r2 v3 v4
      refine ⟨si M' 49 17 (nI (nmV c len at')), fun N hN => ?_, ?_, ?_⟩
      · show f_Mo_takeKind N 0 M = _
        unfold f_Mo_takeKind
        rw [if_pos rfl, show f_Mo_takeNumber N 1 8 M = _ from r1 N hN, Option.bind_some]
        dsimp only [lt]
        rw [v1, g]; rfl
      · obtain ⟨a1, a2, a3, a4, a5, a6, a7, a8, a9⟩ := g1
        exact ⟨a1.ag (si_k _ _ (by decide)) (fun _ => si_a _ _ (by decide)), by rw [si_k _ _ (by decide)]; exact a2, by rw [si_k _ _ (by decide)]; exact a3, si_s _ _ _ _, by rw [si_k _ _ (by decide)]; exact a5, by rw [si_k _ _ (by decide)]; exact a6, by rw [si_k _ _ (by decide)]; exact a7, fun z => by rw [si_k _ _ (by decide), si_k _ _ (by decide)]; exact a8 z, fun z => by rw [si_k _ _ (by decide)]; exact a9 z⟩
      · exact g2.tr (fun x j q1 => by rw [si1, if_neg (fun v => q1 (by omega))])
  · have hk := nmK_le (c := c) (len := len) (lo := 1) (hi := 8) (i := at')
    left
    refine ⟨nmK c len 1 8 at', skp c len at', by omega, by omega, hs.2, fun M h => ?_, fun M h => ?_⟩
    · obtain ⟨g1, g2, g3, g4⟩ := cn_no h g
      refine ⟨cnuM c len 1 8 at' M, fun N hN => ?_, g1, g2, g3, _, he.2, g4⟩
      unfold f_Te_readPeople
      rw [show f_Te_readNumber N 1 8 M = _ from cnum (lo := 1) (hi := 8) hN ha (by decide) (by decide) h.1 h.2.1, Option.bind_some]
      dsimp only [lt]
      rw [if_neg (show ¬ (cnuM c len 1 8 at' M).1 11 5 = 0 from fun v => g ((nI_eq (b := 0) (by omega) (by decide)).mp (g1.1.symm.trans v)))]
    · obtain ⟨M', r1, r2, r3, r4⟩ := rnum (lo := 1) (hi := 8) ha (by decide) (by decide) h.1 h.2.1
      refine ⟨si M' 49 17 (M'.1 49 15), fun N hN => ?_, by rw [si_k _ _ (by decide)]; exact r4 g, (rn_fr r2).tr (fun x j q1 => by rw [si1, if_neg (fun v => q1 (by omega))])⟩
      show f_Mo_takeKind N 0 M = _
      unfold f_Mo_takeKind
      rw [if_pos rfl, show f_Mo_takeNumber N 1 8 M = _ from r1 N hN, Option.bind_some]
      rfl
end DR
