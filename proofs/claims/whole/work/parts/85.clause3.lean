/-! PURE 66: a clause, both -/
section CM3
variable {c : Nat → Nat} {len : Nat}
def tkdB (N : Nat) (kd : Int32) (M : Mm) : Option (Int32 × Mm) := (f_Mo_takeKind N kd (si M 49 12 (M.1 49 14))).bind (fun r => if r.1 = 0 then (f_Mo_here N r.2).bind fun v => if v.1 = 59 then some (r.1, si v.2 49 12 (v.2.1 49 12 + 1)) else some (1, si v.2 49 11 (v.2.1 49 12)) else some (r.1, si r.2 49 12 (r.2.1 49 12 + 1)))
theorem tkdB_I {N : Nat} {kd : Int32} {M : Mm} : tkdB N kd M = (f_Mo_takeKind N kd (si M 49 12 (M.1 49 14))).bind fun r => if r.1 = 0 then gEnd N r.2 else some (r.1, si r.2 49 12 (r.2.1 49 12 + 1)) := by
  unfold tkdB
  congr 1
  funext r
  by_cases z : r.1 = 0
  · rw [if_pos z, if_pos z, z]; rfl
  · rw [if_neg z, if_neg z]
theorem tcT_eq {N : Nat} {kd : Int32} {M : Mm} : tcT N kd M = (if kd < 0 then some (1, si M 49 11 (M.1 49 12)) else if kd ≤ 0 then (if kd = 0 then (if 0 < M.1 49 17 then some (3, si M 49 11 (M.1 49 12)) else if kd = 4 then (if M.1 49 21 ≤ 0 then tkdB N kd M else some (3, si M 49 11 (M.1 49 12))) else tkdB N kd M) else if kd = 4 then (if M.1 49 21 ≤ 0 then tkdB N kd M else some (3, si M 49 11 (M.1 49 12))) else tkdB N kd M) else if M.1 49 17 = 0 then some (1, si M 49 11 (M.1 49 12)) else (if kd = 0 then (if 0 < M.1 49 17 then some (3, si M 49 11 (M.1 49 12)) else if kd = 4 then (if M.1 49 21 ≤ 0 then tkdB N kd M else some (3, si M 49 11 (M.1 49 12))) else tkdB N kd M) else if kd = 4 then (if M.1 49 21 ≤ 0 then tkdB N kd M else some (3, si M 49 11 (M.1 49 12))) else tkdB N kd M)) := rfl
theorem tcT_I {N n wc : Nat} {k : Bool} {M : Mm} (hn : n < 9) (hw : wc < 6) (h17 : M.1 49 17 = nI n) (h21 : (M.1 49 21 ≤ 0) ↔ k = false) : tcT N (kdI wc) M = if wf n k wc = 0 then tkdB N (nI (wc - 1)) M else some (nI (wf n k wc), si M 49 11 (M.1 49 12)) := by
  rw [tcT_eq, h17]
  unfold wf
  rcases (show wc = 0 ∨ wc = 1 ∨ wc = 5 ∨ wc = 2 ∨ wc = 3 ∨ wc = 4 by omega) with rfl | rfl | rfl | rfl | rfl | rfl
  · rw [if_pos (show kdI 0 < 0 by decide), if_pos rfl, if_neg (by decide)]; rfl
  · rw [if_neg (show ¬ kdI 1 < 0 by decide), if_pos (show kdI 1 ≤ 0 by decide), if_pos (show kdI 1 = 0 by decide), if_neg (show ¬ (1 : Nat) = 0 by decide)]
    by_cases z : n = 0
    · rw [z, if_neg (show ¬ (0 : Int32) < nI 0 by decide), if_neg (show ¬ kdI 1 = 4 by decide), if_pos rfl, if_pos rfl, if_pos rfl]; rfl
    · rw [if_pos (show (0 : Int32) < nI n from nI_lt (a := 0) (by omega) (by omega)), if_neg z, if_pos rfl, if_neg (by decide)]; rfl
  · rw [if_neg (show ¬ kdI 5 < 0 by decide), if_neg (show ¬ kdI 5 ≤ 0 by decide), if_neg (show ¬ kdI 5 = 0 by decide), if_pos (show kdI 5 = 4 by decide), if_neg (show ¬ (5 : Nat) = 0 by decide), if_neg (show ¬ (5 : Nat) = 1 by decide), if_neg (show ¬ (5 : Nat) = 1 by decide), if_pos (show (5 : Nat) = 5 from rfl)]
    by_cases z : n = 0
    · rw [z, if_pos (show nI 0 = 0 from rfl), if_pos rfl, if_neg (by decide)]; rfl
    · rw [if_neg (show ¬ nI n = 0 from fun v => z ((nI_eq (b := 0) (by omega) (by decide)).mp v)), if_neg z]
      cases k with
      | true => rw [if_neg (fun v => by cases h21.mp v), if_pos rfl, if_neg (by decide)]; rfl
      | false => rw [if_pos (h21.mpr rfl), if_pos (show (if false = true then 3 else 0) = 0 by decide)]; rfl
  · rw [if_neg (show ¬ kdI 2 < 0 by decide), if_neg (show ¬ kdI 2 ≤ 0 by decide), if_neg (show ¬ kdI 2 = 0 by decide), if_neg (show ¬ kdI 2 = 4 by decide), if_neg (show ¬ (2 : Nat) = 0 by decide), if_neg (show ¬ (2 : Nat) = 1 by decide), if_neg (show ¬ (2 : Nat) = 1 by decide), if_neg (show ¬ (2 : Nat) = 5 by decide)]
    by_cases z : n = 0
    · rw [z, if_pos (show nI 0 = 0 from rfl), if_pos rfl, if_neg (by decide)]; rfl
    · rw [if_neg (show ¬ nI n = 0 from fun v => z ((nI_eq (b := 0) (by omega) (by decide)).mp v)), if_neg z, if_pos rfl]; rfl
  · rw [if_neg (show ¬ kdI 3 < 0 by decide), if_neg (show ¬ kdI 3 ≤ 0 by decide), if_neg (show ¬ kdI 3 = 0 by decide), if_neg (show ¬ kdI 3 = 4 by decide), if_neg (show ¬ (3 : Nat) = 0 by decide), if_neg (show ¬ (3 : Nat) = 1 by decide), if_neg (show ¬ (3 : Nat) = 1 by decide), if_neg (show ¬ (3 : Nat) = 5 by decide)]
    by_cases z : n = 0
    · rw [z, if_pos (show nI 0 = 0 from rfl), if_pos rfl, if_neg (by decide)]; rfl
    · rw [if_neg (show ¬ nI n = 0 from fun v => z ((nI_eq (b := 0) (by omega) (by decide)).mp v)), if_neg z, if_pos rfl]; rfl
  · rw [if_neg (show ¬ kdI 4 < 0 by decide), if_neg (show ¬ kdI 4 ≤ 0 by decide), if_neg (show ¬ kdI 4 = 0 by decide), if_neg (show ¬ kdI 4 = 4 by decide), if_neg (show ¬ (4 : Nat) = 0 by decide), if_neg (show ¬ (4 : Nat) = 1 by decide), if_neg (show ¬ (4 : Nat) = 1 by decide), if_neg (show ¬ (4 : Nat) = 5 by decide)]
    by_cases z : n = 0
    · rw [z, if_pos (show nI 0 = 0 from rfl), if_pos rfl, if_neg (by decide)]; rfl
    · rw [if_neg (show ¬ nI n = 0 from fun v => z ((nI_eq (b := 0) (by omega) (by decide)).mp v)), if_neg z, if_pos rfl]; rfl
theorem b_clause {s n t b m mk dr : Nat} {k : Bool} (hs : s ≤ len) (hsk : skp c len s = s) (hD : DOK n t b m mk dr k) : BOTH c len s n t b m mk dr k f_Te_readClause f_Mo_takeClause (s + 1) := by
  have he := wdE_le (c := c) hs
  have hn := hD.1.1
  have hw := wdC_lt (c := c) (s := s) (k := wdE c len s - s)
  have hl : ∀ i, i < wdE c len s - s → 97 ≤ c (s + i) ∧ c (s + i) ≤ 122 := fun i hi => by
    have h1 := sc_in (P := leB c) (d := len - s) (i := s) (s + i) (by omega) (by unfold wdE at hi; omega)
    unfold leB at h1
    exact of_decide_eq_true h1
  have hf : wf n k (wdC c s (wdE c len s - s)) ≤ 3 := by
    unfold wf
    repeat (first | omega | split)
  have href : ∀ M, RS c len s n t b m mk dr k M → ∃ M', M'.1 49 12 = nI s ∧ M'.1 49 14 = nI (wdE c len s) ∧ RS c len s n t b m mk dr k M' ∧ rfr M M' ∧ ∀ N, 401 < N → f_Mo_takeClause N M = if wf n k (wdC c s (wdE c len s - s)) = 0 then tkdB N (nI (wdC c s (wdE c len s - s) - 1)) M' else some (nI (wf n k (wdC c s (wdE c len s - s))), si M' 49 11 (M'.1 49 12)) := fun M h => by
    obtain ⟨M', w1, w2, w3, w4, w5⟩ := rwd hs h.1 h.2.1
    rw [hsk] at w2 w3 w4
    obtain ⟨a1, a2, a3, a4, a5, a6, a7, a8, a9⟩ := h
    have h17 := (w5 49 17 (by decide)).trans a4
    have h21 : (M'.1 49 21 ≤ 0) ↔ k = false := by
      rw [w5 49 21 (by decide)]
      cases k with
      | true =>
        rw [(a8 rfl).1]
        have := hD.1.2.2.2.2.2.2
        exact ⟨fun v => absurd v (nI_ge (a := 0) (by omega) (by omega)), fun v => by cases v⟩
      | false => rw [a9 rfl]; exact ⟨fun _ => rfl, fun _ => by decide⟩
    refine ⟨M', w2, w3, ⟨a1.ag (w5 _ _ (by decide)) (fun _ => w5 _ _ (by omega)), w2, (w5 _ _ (by decide)).trans a3, h17, (w5 _ _ (by decide)).trans a5, (w5 _ _ (by decide)).trans a6, (w5 _ _ (by decide)).trans a7, fun z => ⟨(w5 _ _ (by decide)).trans (a8 z).1, (w5 _ _ (by decide)).trans (a8 z).2⟩, fun z => (w5 _ _ (by decide)).trans (a9 z)⟩, fun x j q => w5 x j (fun v => q (by omega)), fun N hN => (r_kind (w1 N hN) w4 hl).trans (tcT_I hn hw h17 h21)⟩
  by_cases z : wf n k (wdC c s (wdE c len s - s)) = 0
  · have hB := (b_body (c := c) he.2 hD hw z).seq (f2 := f_Te_readEnd) (g2 := gEnd) (fun e n t b m mk dr k h1 h2 => b_end h1 h2)
    have hc : ∀ N M, 401 < N → CS c len s n t b m mk dr k M → f_Te_readClause N M = (fun N M => (bodC (wdC c s (wdE c len s - s)) N M).bind fun M8 => if M8.1 11 5 = 0 then f_Te_readEnd N M8 else some M8) N (si M 11 3 (nI (wdE c len s))) := fun N M hN h => (c_clause hN hs hn h).trans (if_pos z)
    rcases hB with ⟨kd, pl, k1, k2, k3, hc2, hr2⟩ | ⟨at2, n2, t2, b2, m2, mk2, dr2, k2, q1, q2, q3, hc2, hr2⟩
    · left
      refine ⟨kd, pl, k1, k2, k3, fun M h => ?_, fun M h => ?_⟩
      · obtain ⟨g1, g2⟩ := h.mv (wdE c len s)
        obtain ⟨M', x1, x2, x3, x4, x5⟩ := hc2 _ g1
        exact ⟨M', fun N hN => (hc N M hN h).trans (x1 N hN), x2, g2.tr x3, x4, x5⟩
      · obtain ⟨M', v1, v2, v3, v4, v5⟩ := href M h
        obtain ⟨g1, g2⟩ := v3.mv (wdE c len s)
        obtain ⟨M3, x1, x2, x3⟩ := hr2 _ g1
        refine ⟨M3, fun N hN => ?_, x2, (v4.tr g2).tr x3⟩
        rw [v5 N hN, if_pos z, tkdB_I, v2]
        exact x1 N hN
    · right
      refine ⟨at2, n2, t2, b2, m2, mk2, dr2, k2, by omega, q2, q3, fun M h => ?_, fun M h => ?_⟩
      · obtain ⟨g1, g2⟩ := h.mv (wdE c len s)
        obtain ⟨M', x1, x2, x3⟩ := hc2 _ g1
        exact ⟨M', fun N hN => (hc N M hN h).trans (x1 N hN), x2, g2.tr x3⟩
      · obtain ⟨M', v1, v2, v3, v4, v5⟩ := href M h
        obtain ⟨g1, g2⟩ := v3.mv (wdE c len s)
        obtain ⟨M3, x1, x2, x3⟩ := hr2 _ g1
        refine ⟨M3, fun N hN => ?_, x2, (v4.tr g2).tr x3⟩
        rw [v5 N hN, if_pos z, tkdB_I, v2]
        exact x1 N hN
  · left
    refine ⟨wf n k (wdC c s (wdE c len s - s)), s, by omega, by omega, hs, fun M h => ?_, fun M h => ?_⟩
    · obtain ⟨g1, g2⟩ := h.mv (wdE c len s)
      refine ⟨_, fun N hN => (c_clause hN hs hn h).trans (if_neg z), ⟨by rw [si_k _ _ (by decide), si_s], si_s _ _ _ _⟩, g2.tr (fun x j q1 q2 => by rw [si1, if_neg (fun v => q1 (by omega)), si1, if_neg (fun v => q1 (by omega))]), g1.1.ag (by rw [si_k _ _ (by decide), si_k _ _ (by decide)]) (fun _ => by rw [si_a _ _ (by decide), si_a _ _ (by decide)]), _, he.2, by rw [si_k _ _ (by decide), si_k _ _ (by decide)]; exact g1.2.1⟩
    · obtain ⟨M', v1, v2, v3, v4, v5⟩ := href M h
      refine ⟨si M' 49 11 (nI s), fun N hN => ?_, si_s _ _ _ _, v4.tr (fun x j q1 => by rw [si1, if_neg (fun v => q1 (by omega))])⟩
      rw [v5 N hN, if_neg z, v1]
end CM3
