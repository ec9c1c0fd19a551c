/-! PURE 67: all clauses, both -/
section RD
variable {c : Nat → Nat} {len : Nat}
def LOOP (c : Nat → Nat) (len e n t b m mk dr : Nat) (k : Bool) : Prop :=
  (∃ kd pl, 1 ≤ kd ∧ kd ≤ 4 ∧ pl ≤ len ∧ (∀ M, CS c len (skp c len e) n t b m mk dr k M → ∃ M', (∀ N nu z (ju : Mm → Option Mm), 401 < N → len + 1 - skp c len e < nu → z ≤ skp c len e → L_Te_read_33 N ju nu (nI z) M = ju M') ∧ CFl kd pl M' ∧ cfr M M') ∧ (∀ M, RS c len e n t b m mk dr k M → ∃ M', (∀ N nu (ju : Int32 → Mm → Option (Int32 × Mm)), 401 < N → len + 1 - skp c len e < nu → L_Mo_town_37 N ju nu 0 M = ju (nI kd) M') ∧ M'.1 49 11 = nI pl ∧ rfr M M'))
  ∨ (∃ n2 t2 b2 m2 mk2 dr2 k2, DOK n2 t2 b2 m2 mk2 dr2 k2 ∧ (∀ M, CS c len (skp c len e) n t b m mk dr k M → ∃ M', (∀ N nu z (ju : Mm → Option Mm), 401 < N → len + 1 - skp c len e < nu → z ≤ skp c len e → L_Te_read_33 N ju nu (nI z) M = ju M') ∧ CS c len len n2 t2 b2 m2 mk2 dr2 k2 M' ∧ cfr M M') ∧ (∀ M, RS c len e n t b m mk dr k M → ∃ M', (∀ N nu (ju : Int32 → Mm → Option (Int32 × Mm)), 401 < N → len + 1 - skp c len e < nu → L_Mo_town_37 N ju nu 0 M = ju 0 M') ∧ RS c len len n2 t2 b2 m2 mk2 dr2 k2 M' ∧ rfr M M'))
theorem loop_end {e n t b m mk dr : Nat} {k : Bool} (he : e ≤ len) (hs : skp c len e = len) (hD : DOK n t b m mk dr k) : LOOP c len e n t b m mk dr k := by
  right
  refine ⟨n, t, b, m, mk, dr, k, hD, fun M h => ⟨M, fun N nu' z ju hN hnu hz => ?_, ?_, fun _ _ _ _ => rfl⟩, fun M h => ?_⟩
  · have hl := h.1.1
    obtain ⟨nu, rfl⟩ : ∃ nu, nu' = nu + 1 := ⟨nu' - 1, by omega⟩
    rw [L_Te_read_33, h.1.2.1, h.2.1]
    by_cases q : (400 : Int32) ≤ nI z
    · rw [if_pos q]
    · rw [if_neg q, if_pos (nI_le (by omega) (by omega))]
  · rw [hs] at h; exact h
  · obtain ⟨g1, g2⟩ := h.mv (skp c len e)
    refine ⟨si M 49 12 (nI (skp c len e)), fun N nu' ju hN hnu => ?_, by rw [hs] at g1 ⊢; exact g1, g2⟩
    obtain ⟨nu, rfl⟩ : ∃ nu, nu' = nu + 1 := ⟨nu' - 1, by omega⟩
    rw [L_Mo_town_37, if_pos rfl, rhere hN he h.1 h.2.1, Option.bind_some]
    dsimp only [lt]
    unfold hrV
    rw [if_neg (show ¬ skp c len e < len by omega), if_pos (by decide)]
theorem loop_all : ∀ (D e n t b m mk dr : Nat) (k : Bool), len - skp c len e ≤ D → e ≤ len → DOK n t b m mk dr k → LOOP c len e n t b m mk dr k
  | 0 => by
    intro e n t b m mk dr k hd he hD
    exact loop_end he (by have := skp_le (c := c) he; omega) hD
  | D + 1 => by
    intro e n t b m mk dr k hd he hD
    have hs := skp_le (c := c) he
    by_cases hq : skp c len e = len
    · exact loop_end he hq hD
    have hc0 : ∀ N nu z (ju : Mm → Option Mm) M M', 401 < N → z ≤ skp c len e → CS c len (skp c len e) n t b m mk dr k M → f_Te_readClause N M = some M' → L_Te_read_33 N ju (nu + 1) (nI z) M = (f_Te_skipBlanks N M').bind fun vu14 => L_Te_read_33 N ju nu (nI (z + 1)) vu14 := fun N nu z ju M M' hN hz h hM => by
      have hl := h.1.1
      rw [L_Te_read_33, h.1.2.1, h.2.1, if_neg (show ¬ (400 : Int32) ≤ nI z from nI_ge (a := z) (b := 400) (by omega) (by decide)), if_neg (nI_ge (by omega) (by omega)), if_pos h.2.2.2.1, hM, Option.bind_some]
      dsimp only [lt]
      rw [nI_1]
    have hr0 : ∀ N nu (ju : Int32 → Mm → Option (Int32 × Mm)) M, 401 < N → RS c len e n t b m mk dr k M → L_Mo_town_37 N ju (nu + 1) 0 M = (f_Mo_takeClause N (si M 49 12 (nI (skp c len e)))).bind fun vu34 => L_Mo_town_37 N ju nu vu34.1 vu34.2 := fun N nu ju M hN h => by
      have c1 := (h.1.2.2 (skp c len e) (by omega)).1
      rw [L_Mo_town_37, if_pos rfl, rhere hN he h.1 h.2.1, Option.bind_some]
      dsimp only [lt]
      unfold hrV
      rw [if_pos (show skp c len e < len by omega), if_neg (show ¬ nI (c (skp c len e)) < 0 from nI_pos (by omega))]
    rcases b_clause hs.2 (skp_id he) hD with ⟨kd, pl, k1, k2, k3, hc, hr⟩ | ⟨at2, n2, t2, b2, m2, mk2, dr2, k2, q1, q2, q3, hc, hr⟩
    · left
      refine ⟨kd, pl, k1, k2, k3, fun M h => ?_, fun M h => ?_⟩
      · obtain ⟨M', x1, x2, x3, x4, e', x5, x6⟩ := hc M h
        have hl := h.1.1
        refine ⟨si M' 11 3 (nI (skp c len e')), fun N nu' z ju hN hnu hz => ?_, ⟨by rw [si_k _ _ (by decide)]; exact x2.1, by rw [si_k _ _ (by decide)]; exact x2.2⟩, x3.tr (fun x j q1 q2 => by rw [si1, if_neg (fun v => q1 (by omega))])⟩
        obtain ⟨nu, rfl⟩ : ∃ nu, nu' = nu + 1 + 1 := ⟨nu' - 2, by omega⟩
        rw [hc0 N (nu + 1) z ju M M' hN hz h (x1 N hN), csk_I hN x5 x4 x6, Option.bind_some, L_Te_read_33]
        by_cases y1 : (400 : Int32) ≤ nI (z + 1)
        · rw [if_pos y1]
        · rw [if_neg y1]
          by_cases y2 : (si M' 11 3 (nI (skp c len e'))).1 11 2 ≤ (si M' 11 3 (nI (skp c len e'))).1 11 3
          · rw [if_pos y2]
          · rw [if_neg y2, if_neg (kz (k := kd) (by omega) (by rw [si_k _ _ (by decide)]; exact x2.1) (by omega))]
      · obtain ⟨g1, g2⟩ := h.mv (skp c len e)
        obtain ⟨M', x1, x2, x3⟩ := hr _ g1
        refine ⟨M', fun N nu' ju hN hnu => ?_, x2, g2.tr x3⟩
        obtain ⟨nu, rfl⟩ : ∃ nu, nu' = nu + 1 + 1 := ⟨nu' - 2, by omega⟩
        rw [hr0 N (nu + 1) ju M hN h, x1 N hN, Option.bind_some]
        dsimp only
        rw [L_Mo_town_37, if_neg (kz (k := kd) (by omega) rfl (by omega))]
    · have hs2 := skp_le (c := c) q2
      rcases loop_all D at2 n2 t2 b2 m2 mk2 dr2 k2 (by omega) q2 q3 with ⟨kd, pl, k1, k2, k3, ic, ir⟩ | ⟨n3, t3, b3, m3, mk3, dr3, k3, i3, ic, ir⟩
      · left
        refine ⟨kd, pl, k1, k2, k3, fun M h => ?_, fun M h => ?_⟩
        · obtain ⟨M', x1, x2, x3⟩ := hc M h
          obtain ⟨g1, g2⟩ := x2.mv (skp c len at2)
          obtain ⟨M3, y1, y2, y3⟩ := ic _ g1
          refine ⟨M3, fun N nu' z ju hN hnu hz => ?_, y2, (x3.tr g2).tr y3⟩
          obtain ⟨nu, rfl⟩ : ∃ nu, nu' = nu + 1 := ⟨nu' - 1, by omega⟩
          rw [hc0 N nu z ju M M' hN hz h (x1 N hN), csk_I hN q2 x2.1 x2.2.1, Option.bind_some]
          exact y1 N nu (z + 1) ju hN (by omega) (by omega)
        · obtain ⟨g1, g2⟩ := h.mv (skp c len e)
          obtain ⟨M', x1, x2, x3⟩ := hr _ g1
          obtain ⟨M3, y1, y2, y3⟩ := ir _ x2
          refine ⟨M3, fun N nu' ju hN hnu => ?_, y2, (g2.tr x3).tr y3⟩
          obtain ⟨nu, rfl⟩ : ∃ nu, nu' = nu + 1 := ⟨nu' - 1, by omega⟩
          rw [hr0 N nu ju M hN h, x1 N hN, Option.bind_some]
          exact y1 N nu ju hN (by omega)
      · right
        refine ⟨n3, t3, b3, m3, mk3, dr3, k3, i3, fun M h => ?_, fun M h => ?_⟩
        · obtain ⟨M', x1, x2, x3⟩ := hc M h
          obtain ⟨g1, g2⟩ := x2.mv (skp c len at2)
          obtain ⟨M3, y1, y2, y3⟩ := ic _ g1
          refine ⟨M3, fun N nu' z ju hN hnu hz => ?_, y2, (x3.tr g2).tr y3⟩
          obtain ⟨nu, rfl⟩ : ∃ nu, nu' = nu + 1 := ⟨nu' - 1, by omega⟩
          rw [hc0 N nu z ju M M' hN hz h (x1 N hN), csk_I hN q2 x2.1 x2.2.1, Option.bind_some]
          exact y1 N nu (z + 1) ju hN (by omega) (by omega)
        · obtain ⟨g1, g2⟩ := h.mv (skp c len e)
          obtain ⟨M', x1, x2, x3⟩ := hr _ g1
          obtain ⟨M3, y1, y2, y3⟩ := ir _ x2
          refine ⟨M3, fun N nu' ju hN hnu => ?_, y2, (g2.tr x3).tr y3⟩
          obtain ⟨nu, rfl⟩ : ∃ nu, nu' = nu + 1 := ⟨nu' - 1, by omega⟩
          rw [hr0 N nu ju M hN h, x1 N hN, Option.bind_some]
          exact y1 N nu ju hN (by omega)
end RD
