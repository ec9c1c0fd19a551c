/-! PURE 64: a clause, by both readers -/
section CL
variable {c : Nat → Nat} {len : Nat}
def gEnd (N : Nat) (M : Mm) : Option (Int32 × Mm) := (f_Mo_here N M).bind fun vu22 => if vu22.1 = 59 then some (0, si vu22.2 49 12 (vu22.2.1 49 12 + 1)) else some (1, si vu22.2 49 11 (vu22.2.1 49 12))
theorem RS.mv {at' n t b m mk dr : Nat} {k : Bool} {M : Mm} (h : RS c len at' n t b m mk dr k M) (e : Nat) : RS c len e n t b m mk dr k (si M 49 12 (nI e)) ∧ rfr M (si M 49 12 (nI e)) := by
  obtain ⟨a1, a2, a3, a4, a5, a6, a7, a8, a9⟩ := h
  exact ⟨⟨a1.ag (si_k _ _ (by decide)) (fun _ => si_a _ _ (by decide)), si_s _ _ _ _, by rw [si_k _ _ (by decide)]; exact a3, by rw [si_k _ _ (by decide)]; exact a4, by rw [si_k _ _ (by decide)]; exact a5, by rw [si_k _ _ (by decide)]; exact a6, by rw [si_k _ _ (by decide)]; exact a7, fun z => by rw [si_k _ _ (by decide), si_k _ _ (by decide)]; exact a8 z, fun z => by rw [si_k _ _ (by decide)]; exact a9 z⟩, fun x j q1 => by rw [si1, if_neg (fun v => q1 (by omega))]⟩
theorem b_end {e n t b m mk dr : Nat} {k : Bool} (he : e ≤ len) (hD : DOK n t b m mk dr k) : BOTH c len e n t b m mk dr k f_Te_readEnd gEnd (e + 1) := by
  have hs := skp_le (c := c) he
  by_cases z : skp c len e < len ∧ c (skp c len e) = 59
  · right
    refine ⟨skp c len e + 1, n, t, b, m, mk, dr, k, by omega, by omega, hD, fun M h => ?_, fun M h => ?_⟩
    · obtain ⟨g1, g2⟩ := h.mv (skp c len e)
      obtain ⟨w1, w2⟩ := g1.mv (skp c len e + 1)
      have hl := h.1.1
      obtain ⟨c1, c2⟩ := g1.1.2.2 _ z.1
      refine ⟨_, fun N hN => ?_, w1, g2.tr w2⟩
      unfold f_Te_readEnd
      rw [csk_I hN he h.1 h.2.1, Option.bind_some]
      dsimp only [lt]
      rw [g1.1.2.1, g1.2.1, if_neg (nI_ge z.1 (by omega)), if_pos (inb_nI (show skp c len e < 400 by omega) (by decide)), ix_nI (by omega), c2, if_pos (show sbI (c (skp c len e)) = 59 from (sb_eq (k := 59) c1 (by decide)).mpr z.2), nI_1]
    · obtain ⟨g1, g2⟩ := h.mv (skp c len e)
      obtain ⟨w1, w2⟩ := g1.mv (skp c len e + 1)
      refine ⟨_, fun N hN => ?_, w1, g2.tr w2⟩
      unfold gEnd
      rw [rhere hN he h.1 h.2.1, Option.bind_some]
      dsimp only
      unfold hrV
      rw [if_pos z.1, z.2, if_pos (show nI 59 = 59 from rfl), si_s, nI_1]
  · left
    refine ⟨1, skp c len e, by decide, by decide, hs.2, fun M h => ?_, fun M h => ?_⟩
    · obtain ⟨g1, g2⟩ := h.mv (skp c len e)
      have hl := h.1.1
      refine ⟨si (si (si M 11 3 (nI (skp c len e))) 11 5 1) 11 6 (nI (skp c len e)), fun N hN => ?_, ⟨by rw [si_k _ _ (by decide), si_s]; rfl, si_s _ _ _ _⟩, g2.tr (fun x j q1 q2 => by rw [si1, if_neg (fun v => q1 (by omega)), si1, if_neg (fun v => q1 (by omega))]), g1.1.ag (by rw [si_k _ _ (by decide), si_k _ _ (by decide)]) (fun _ => by rw [si_a _ _ (by decide), si_a _ _ (by decide)]), _, hs.2, by rw [si_k _ _ (by decide), si_k _ _ (by decide)]; exact g1.2.1⟩
      unfold f_Te_readEnd
      rw [csk_I hN he h.1 h.2.1, Option.bind_some]
      dsimp only [lt, f_Te_blame]
      rw [g1.1.2.1, g1.2.1]
      by_cases z1 : skp c len e < len
      · obtain ⟨c1, c2⟩ := g1.1.2.2 _ z1
        rw [if_neg (nI_ge z1 (by omega)), if_pos (inb_nI (show skp c len e < 400 by omega) (by decide)), ix_nI (by omega), c2, if_neg (show ¬ sbI (c (skp c len e)) = 59 from fun v => z ⟨z1, (sb_eq (k := 59) c1 (by decide)).mp v⟩)]
      · rw [if_pos (nI_le (by omega) (by omega))]
    · obtain ⟨g1, g2⟩ := h.mv (skp c len e)
      refine ⟨si (si M 49 12 (nI (skp c len e))) 49 11 (nI (skp c len e)), fun N hN => ?_, si_s _ _ _ _, g2.tr (fun x j q1 => by rw [si1, if_neg (fun v => q1 (by omega))])⟩
      unfold gEnd
      rw [rhere hN he h.1 h.2.1, Option.bind_some]
      dsimp only
      unfold hrV
      rw [si_s]
      by_cases z1 : skp c len e < len
      · have c1 := (h.1.2.2 _ z1).1
        rw [if_pos z1, if_neg (show ¬ nI (c (skp c len e)) = 59 from fun v => z ⟨z1, (nI_eq (b := 59) (by omega) (by decide)).mp v⟩)]
        rfl
      · rw [if_neg z1, if_neg (by decide)]
        rfl
theorem BOTH.seq {at' n t b m mk dr lo : Nat} {k : Bool} {f f2 : Nat → Mm → Option Mm} {g g2 : Nat → Mm → Option (Int32 × Mm)} (h : BOTH c len at' n t b m mk dr k f g lo) (h2 : ∀ e n t b m mk dr k, e ≤ len → DOK n t b m mk dr k → BOTH c len e n t b m mk dr k f2 g2 (e + 1)) : BOTH c len at' n t b m mk dr k (fun N M => (f N M).bind fun M8 => if M8.1 11 5 = 0 then f2 N M8 else some M8) (fun N M => (g N M).bind fun r => if r.1 = 0 then g2 N r.2 else some (r.1, si r.2 49 12 (r.2.1 49 12 + 1))) (lo + 1) := by
  rcases h with ⟨kd, pl, k1, k2, k3, hc, hr⟩ | ⟨at2, n2, t2, b2, m2, mk2, dr2, k2, q1, q2, q3, hc, hr⟩
  · left
    refine ⟨kd, pl, k1, k2, k3, fun M h => ?_, fun M h => ?_⟩
    · obtain ⟨M', x1, x2, x3, x4, x5⟩ := hc M h
      refine ⟨M', fun N hN => ?_, x2, x3, x4, x5⟩
      dsimp only
      rw [x1 N hN, Option.bind_some, if_neg (kz (by omega) x2.1 (by omega))]
    · obtain ⟨M', x1, x2, x3⟩ := hr M h
      refine ⟨si M' 49 12 (M'.1 49 12 + 1), fun N hN => ?_, by rw [si_k _ _ (by decide)]; exact x2, x3.tr (fun x j q1 => by rw [si1, if_neg (fun v => q1 (by omega))])⟩
      dsimp only
      rw [x1 N hN, Option.bind_some]
      dsimp only
      rw [if_neg (kz (by omega) rfl (by omega))]
  · rcases h2 at2 n2 t2 b2 m2 mk2 dr2 k2 q2 q3 with ⟨kd, pl, k1, k2, k3, hc2, hr2⟩ | ⟨at3, n3, t3, b3, m3, mk3, dr3, k3, y1, y2, y3, hc2, hr2⟩
    · left
      refine ⟨kd, pl, k1, k2, k3, fun M h => ?_, fun M h => ?_⟩
      · obtain ⟨M', x1, x2, x3⟩ := hc M h
        obtain ⟨M3, z1, z2, z3, z4, z5⟩ := hc2 M' x2
        refine ⟨M3, fun N hN => ?_, z2, x3.tr z3, z4, z5⟩
        dsimp only
        rw [x1 N hN, Option.bind_some, if_pos x2.2.2.2.1, z1 N hN]
      · obtain ⟨M', x1, x2, x3⟩ := hr M h
        obtain ⟨M3, z1, z2, z3⟩ := hr2 M' x2
        refine ⟨M3, fun N hN => ?_, z2, x3.tr z3⟩
        dsimp only
        rw [x1 N hN, Option.bind_some]
        dsimp only
        rw [if_pos rfl, z1 N hN]
    · right
      refine ⟨at3, n3, t3, b3, m3, mk3, dr3, k3, by omega, y2, y3, fun M h => ?_, fun M h => ?_⟩
      · obtain ⟨M', x1, x2, x3⟩ := hc M h
        obtain ⟨M3, z1, z2, z3⟩ := hc2 M' x2
        refine ⟨M3, fun N hN => ?_, z2, x3.tr z3⟩
        dsimp only
        rw [x1 N hN, Option.bind_some, if_pos x2.2.2.2.1, z1 N hN]
      · obtain ⟨M', x1, x2, x3⟩ := hr M h
        obtain ⟨M3, z1, z2, z3⟩ := hr2 M' x2
        refine ⟨M3, fun N hN => ?_, z2, x3.tr z3⟩
        dsimp only
        rw [x1 N hN, Option.bind_some]
        dsimp only
        rw [if_pos rfl, z1 N hN]
theorem rwd {i : Nat} {M : Mm} (hi : i ≤ len) (hX : RX c len M) (h3 : M.1 49 12 = nI i) : ∃ M', (∀ N, 401 < N → f_Mo_readWord N M = some M') ∧ M'.1 49 12 = nI (skp c len i) ∧ M'.1 49 14 = nI (wdE c len (skp c len i)) ∧ M'.2 49 13 = lN (rwN c (skp c len i) (wdE c len (skp c len i) - skp c len i)) ∧ (∀ b j, ¬ (b = 49 ∧ (j = 12 ∨ j = 14)) → M'.1 b j = M.1 b j) := by
  have hs := skp_le (c := c) hi
  have hl := hX.1
  obtain ⟨M', g1, g2, g3, g4⟩ := rwl (c := c) (len := len) (s := skp c len i) (len - skp c len i) 0 (si (sl (si M 49 12 (nI (skp c len i))) 49 13 0) 49 14 (nI (skp c len i))) (by omega) (fun j hj => absurd hj (by omega)) (hX.ag (by rw [si_k _ _ (by decide), sl1, si_k _ _ (by decide)]) (fun _ => by rw [si_a _ _ (by decide), sl1, si_a _ _ (by decide)])) (si_s _ _ _ _) rfl
  refine ⟨M', fun N hN => ?_, ?_, g2, g3, fun b j h => ?_⟩
  · unfold f_Mo_readWord
    rw [rhere hN hi hX h3, Option.bind_some]
    dsimp only [lt]
    rw [sl1, si_s]
    exact g1 N N (by omega)
  · rw [g4 _ _ (by decide), si_k _ _ (by decide), sl1, si_s]
  · rw [g4 b j (fun v => h ⟨v.1, by omega⟩), si1, if_neg (fun v => h ⟨v.1, by omega⟩), sl1, si1, if_neg (fun v => h ⟨v.1, by omega⟩)]
end CL
