/-! PURE 60: the clause of costs -/
section CO
variable {c : Nat → Nat} {len : Nat}
theorem kz {x : Int32} {k : Nat} (hk : k ≤ 4) (h : x = nI k) (h0 : k ≠ 0) : ¬ x = 0 := fun v => h0 ((nI_eq (b := 0) (by omega) (by decide)).mp (h.symm.trans v))
theorem kp {k : Nat} (hk : k ≤ 4) (h0 : k ≠ 0) : ¬ nI k ≤ 0 := nI_ge (a := 0) (by omega) (by omega)
theorem b_cost {at' n t b m mk dr : Nat} (ha : at' ≤ len) (hD : DOK n t b m mk dr false) : BOTH c len at' n t b m mk dr false f_Te_readCost (fun N M => f_Mo_takeKind N 4 M) at' := by
  have hs := skp_le (c := c) ha
  have he := nmE_le (c := c) ha
  have hs2 := skp_le (c := c) he.2
  have he2 := nmE_le (c := c) he.2
  have hk1 := nmK_le (c := c) (len := len) (lo := 1) (hi := 9) (i := at')
  have hk2 := nmK_le (c := c) (len := len) (lo := 1) (hi := 9) (i := nmE c len at')
  by_cases g : nmK c len 1 9 at' = 0
  · by_cases w : nmK c len 1 9 (nmE c len at') = 0
    · have hv := nmK_v g
      have hv2 := nmK_v w
      right
      refine ⟨nmE c len (nmE c len at'), n, t, b, m, nmV c len at', nmV c len (nmE c len at'), true, by omega, he2.2, ⟨?_, fun z => by cases z⟩, fun M h => ?_, fun M h => ?_⟩
      · obtain ⟨⟨d1, d2, d3, d4, d5, d6, d7⟩, _⟩ := hD
        exact ⟨d1, d2, d3, d4, d5, d6, by omega, by omega, by omega, by omega, d7.2.2.2.2⟩
      · obtain ⟨g1, g2⟩ := cn_ok h g
        obtain ⟨w1, w2⟩ := cn_ok g1 w
        refine ⟨si (si (si (cnuM c len 1 9 (nmE c len at') (cnuM c len 1 9 at' M)) 13 1 (nI (nmV c len at'))) 13 2 (nI (nmV c len (nmE c len at')))) 11 4 1, fun N hN => ?_, ?_, ?_⟩
        · unfold f_Te_readCost
          rw [show f_Te_readNumber N 1 9 M = _ from cnum (lo := 1) (hi := 9) hN ha (by decide) (by decide) h.1 h.2.1, Option.bind_some]
          dsimp only [lt]
          rw [if_pos g1.2.2.2.1, show f_Te_readNumber N 1 9 (cnuM c len 1 9 at' M) = _ from cnum (lo := 1) (hi := 9) hN he.2 (by decide) (by decide) g1.1 g1.2.1, Option.bind_some]
          dsimp only
          rw [if_pos w1.2.2.2.1]
        · obtain ⟨h1, h2, h3, h4, h5, h6, h7, h8, h9⟩ := w1
          refine ⟨h1.ag ?_ (fun _ => ?_), ?_, si_s _ _ _ _, ?_, ?_, ?_, ?_, ?_, fun p hp => ?_⟩
          · rw [si_k _ _ (by decide), si_a _ _ (by decide), si_a _ _ (by decide)]
          · rw [si_a _ _ (by decide), si_a _ _ (by decide), si_a _ _ (by decide)]
          · rw [si_k _ _ (by decide), si_a _ _ (by decide), si_a _ _ (by decide)]; exact h2
          · rw [si_k _ _ (by decide), si_a _ _ (by decide), si_a _ _ (by decide)]; exact h4
          · rw [si_k _ _ (by decide), si_a _ _ (by decide), si_a _ _ (by decide)]; exact h5
          · rw [si_a _ _ (by decide), si_k _ _ (by decide), si_k _ _ (by decide)]; exact h6
          · rw [si_a _ _ (by decide), si_k _ _ (by decide), si_s]
          · rw [si_a _ _ (by decide), si_s]
          · have e : ∀ x j, x ≠ 11 → x ≠ 13 → (si (si (si (cnuM c len 1 9 (nmE c len at') (cnuM c len 1 9 at' M)) 13 1 (nI (nmV c len at'))) 13 2 (nI (nmV c len (nmE c len at')))) 11 4 1).1 x j = (cnuM c len 1 9 (nmE c len at') (cnuM c len 1 9 at' M)).1 x j := fun x j q1 q2 => by rw [si_a _ _ q1, si_a _ _ q2, si_a _ _ q2]
            rw [e _ _ (by decide) (by decide), e _ _ (by decide) (by decide), e _ _ (by decide) (by decide), e _ _ (by decide) (by decide)]
            exact h9 p hp
        · exact (g2.tr w2).tr (fun x j q1 q2 => by rw [si1, if_neg (fun v => q1 (by omega)), si1, if_neg (fun v => q2 (by omega)), si1, if_neg (fun v => q2 (by omega))])
      · obtain ⟨M', r1, r2, r3, r4⟩ := rnum (lo := 1) (hi := 9) ha (by decide) (by decide) h.1 h.2.1
        obtain ⟨v1, v2, v3, v4⟩ := r3 g
        obtain ⟨g1, g2⟩ := rn_ok h r2 v3 v4
        obtain ⟨M2, s1, s2, s3, s4⟩ := rnum (lo := 1) (hi := 9) (M := si M' 49 21 (nI (nmV c len at'))) he.2 (by decide) (by decide) (g1.1.ag (si_k _ _ (by decide)) (fun _ => si_a _ _ (by decide))) (by rw [si_k _ _ (by decide)]; exact v3)
        obtain ⟨u1, u2, u3, u4⟩ := s3 w
        refine ⟨si M2 49 22 (nI (nmV c len (nmE c len at'))), fun N hN => ?_, ?_, ?_⟩
        · show f_Mo_takeKind N 4 M = _
          unfold f_Mo_takeKind
          rw [if_neg (by decide), if_pos rfl, show f_Mo_takeNumber N 1 9 M = _ from r1 N hN, Option.bind_some]
          dsimp only [lt]
          rw [v1, g, if_pos (by decide), show f_Mo_takeNumber N 1 9 (si M' 49 21 (nI (nmV c len at'))) = _ from s1 N hN, Option.bind_some]
          dsimp only
          rw [u1, w]; rfl
        · obtain ⟨a1, a2, a3, a4, a5, a6, a7, a8, a9⟩ := g1
          have f : ∀ x j, ¬ (x = 49 ∧ (j = 11 ∨ j = 12 ∨ j = 15 ∨ j = 16 ∨ j = 21 ∨ j = 22)) → (si M2 49 22 (nI (nmV c len (nmE c len at')))).1 x j = M'.1 x j := fun x j q => by
            rw [si1, if_neg (fun v => q ⟨v.1, by omega⟩), s2 x j (fun v => q ⟨v.1, by omega⟩), si1, if_neg (fun v => q ⟨v.1, by omega⟩)]
          refine ⟨a1.ag (f _ _ (by decide)) (fun _ => f _ _ (by omega)), by rw [si_k _ _ (by decide)]; exact u3, ?_, (f _ _ (by decide)).trans a4, (f _ _ (by decide)).trans a5, (f _ _ (by decide)).trans a6, (f _ _ (by decide)).trans a7, fun _ => ⟨?_, si_s _ _ _ _⟩, fun z => by cases z⟩
          · rw [si_k _ _ (by decide), u4, si_k _ _ (by decide)]; exact a3
          · rw [si_k _ _ (by decide), s2 _ _ (by decide), si_s]
        · refine (g2.tr (M2 := si M' 49 21 (nI (nmV c len at'))) (fun x j q1 => by rw [si1, if_neg (fun v => q1 (by omega))])).tr ((rn_fr s2).tr (fun x j q1 => by rw [si1, if_neg (fun v => q1 (by omega))]))
    · left
      refine ⟨nmK c len 1 9 (nmE c len at'), skp c len (nmE c len at'), by omega, by omega, hs2.2, fun M h => ?_, fun M h => ?_⟩
      · obtain ⟨g1, g2⟩ := cn_ok h g
        obtain ⟨w1, w2, w3, w4⟩ := cn_no g1 w
        refine ⟨cnuM c len 1 9 (nmE c len at') (cnuM c len 1 9 at' M), fun N hN => ?_, w1, g2.tr w2, w3, _, he2.2, w4⟩
        unfold f_Te_readCost
        rw [show f_Te_readNumber N 1 9 M = _ from cnum (lo := 1) (hi := 9) hN ha (by decide) (by decide) h.1 h.2.1, Option.bind_some]
        dsimp only [lt]
        rw [if_pos g1.2.2.2.1, show f_Te_readNumber N 1 9 (cnuM c len 1 9 at' M) = _ from cnum (lo := 1) (hi := 9) hN he.2 (by decide) (by decide) g1.1 g1.2.1, Option.bind_some]
        dsimp only
        rw [if_neg (kz (by omega) w1.1 w)]
      · obtain ⟨M', r1, r2, r3, r4⟩ := rnum (lo := 1) (hi := 9) ha (by decide) (by decide) h.1 h.2.1
        obtain ⟨v1, v2, v3, v4⟩ := r3 g
        obtain ⟨g1, g2⟩ := rn_ok h r2 v3 v4
        obtain ⟨M2, s1, s2, s3, s4⟩ := rnum (lo := 1) (hi := 9) (M := si M' 49 21 (nI (nmV c len at'))) he.2 (by decide) (by decide) (g1.1.ag (si_k _ _ (by decide)) (fun _ => si_a _ _ (by decide))) (by rw [si_k _ _ (by decide)]; exact v3)
        refine ⟨si M2 49 22 (M2.1 49 15), fun N hN => ?_, by rw [si_k _ _ (by decide)]; exact s4 w, (g2.tr (M2 := si M' 49 21 (nI (nmV c len at'))) (fun x j q1 => by rw [si1, if_neg (fun v => q1 (by omega))])).tr ((rn_fr s2).tr (fun x j q1 => by rw [si1, if_neg (fun v => q1 (by omega))]))⟩
        show f_Mo_takeKind N 4 M = _
        unfold f_Mo_takeKind
        rw [if_neg (by decide), if_pos rfl, show f_Mo_takeNumber N 1 9 M = _ from r1 N hN, Option.bind_some]
        dsimp only [lt]
        rw [v1, g, if_pos (by decide), show f_Mo_takeNumber N 1 9 (si M' 49 21 (nI (nmV c len at'))) = _ from s1 N hN, Option.bind_some]
  · left
    refine ⟨nmK c len 1 9 at', skp c len at', by omega, by omega, hs.2, fun M h => ?_, fun M h => ?_⟩
    · obtain ⟨g1, g2, g3, g4⟩ := cn_no h g
      refine ⟨cnuM c len 1 9 at' M, fun N hN => ?_, g1, g2, g3, _, he.2, g4⟩
      unfold f_Te_readCost
      rw [show f_Te_readNumber N 1 9 M = _ from cnum (lo := 1) (hi := 9) hN ha (by decide) (by decide) h.1 h.2.1, Option.bind_some]
      dsimp only [lt]
      rw [if_neg (kz (by omega) g1.1 g)]
    · obtain ⟨M', r1, r2, r3, r4⟩ := rnum (lo := 1) (hi := 9) ha (by decide) (by decide) h.1 h.2.1
      refine ⟨si (si M' 49 21 (M'.1 49 15)) 49 22 ((si M' 49 21 (M'.1 49 15)).1 49 15), fun N hN => ?_, by rw [si_k _ _ (by decide), si_k _ _ (by decide)]; exact r4 g, (rn_fr r2).tr (fun x j q1 => by rw [si1, if_neg (fun v => q1 (by omega)), si1, if_neg (fun v => q1 (by omega))])⟩
      show f_Mo_takeKind N 4 M = _
      unfold f_Mo_takeKind
      rw [if_neg (by decide), if_pos rfl, show f_Mo_takeNumber N 1 9 M = _ from r1 N hN, Option.bind_some]
      dsimp only [lt]
      rw [if_neg (kp (by omega) g)]
end CO
