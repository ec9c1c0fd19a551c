/-! PURE 63: the clauses of two persons, both -/
section TY
variable {c : Nat → Nat} {len : Nat}
theorem r_two {N at' n t b m mk dr kd : Nat} {k : Bool} {M M' M2 : Mm} (hN : 401 < N) (ha : at' ≤ len) (hn1 : 1 ≤ n) (hT : TOK n t b m mk dr (fun _ => 0)) (h17 : M.1 49 17 = nI n) (h17' : M'.1 49 17 = nI n) (hd : kd = 1 ∨ kd = 2 ∨ kd = 3) (g : nmK c len 0 (n - 1) at' = 0) (r1 : f_Mo_takeNumber N 0 (nI (n - 1)) M = some (nI (nmK c len 0 (n - 1) at'), M')) (v1 : M'.1 49 15 = nI (nmV c len at')) (s1 : f_Mo_takeNumber N 0 (nI (n - 1)) M' = some (nI (nmK c len 0 (n - 1) (nmE c len at')), M2)) : f_Mo_takeKind N (nI kd) M = (if nI (nmK c len 0 (n - 1) (nmE c len at')) ≤ 0 then (if nI (nmV c len at') = M2.1 49 15 then some ((4 : Int32), si M2 49 11 (M2.1 49 16)) else (f_Mo_pairOf N (M2.1 49 17) (nI (nmV c len at')) (M2.1 49 15)).bind fun vu12 => if f_Mo_has (M2.1 49 18 ||| M2.1 49 19) vu12 = 0 then (f_Mo_pairOf N (M2.1 49 17) (nI (nmV c len at')) (M2.1 49 15)).bind fun vu14 => (fun xu15 : Int32 => (fun Mu18 : Mm => (fun Mu21 : Mm => some ((0 : Int32), si Mu21 49 20 (Mu21.1 49 20 ||| (if nI kd = 3 then xu15 else 0)))) (si Mu18 49 19 (Mu18.1 49 19 ||| (if nI kd = 2 then xu15 else 0)))) (si M2 49 18 (M2.1 49 18 ||| (if nI kd = 2 then 0 else xu15)))) ((1 : Int32) <<< (vu14 &&& 31)) else some ((4 : Int32), si M2 49 11 (M2.1 49 16))) else some (nI (nmK c len 0 (n - 1) (nmE c len at')), M2)) := by
  have hkd : ¬ nI kd = 0 ∧ ¬ nI kd = 4 := by rcases hd with rfl | rfl | rfl <;> exact ⟨by decide, by decide⟩
  have hbe : ∀ x : Option (Int32 × Mm), (x.bind fun vu3 => some (vu3.1, vu3.2)) = x := fun x => by cases x <;> rfl
  unfold f_Mo_takeKind
  rw [if_neg hkd.1, if_neg hkd.2]
  dsimp only [lt]
  rw [hbe]
  unfold f_Mo_takeTwo
  rw [h17, nI_p1 hn1, r1, Option.bind_some]
  dsimp only [lt, f_Mo_fails]
  rw [g, if_pos (by decide), h17', nI_p1 hn1, s1, Option.bind_some, v1]
  dsimp only
  by_cases z : nI (nmK c len 0 (n - 1) (nmE c len at')) ≤ 0
  · rw [if_pos z, if_pos z]
    rcases hd with rfl | rfl | rfl <;> rfl
  · rw [if_neg z, if_neg z]
theorem b_two {at' n t b m mk dr kd : Nat} {k : Bool} (ha : at' ≤ len) (hn1 : 1 ≤ n) (hD : DOK n t b m mk dr k) (hd : kd = 1 ∨ kd = 2 ∨ kd = 3) : BOTH c len at' n t b m mk dr k (fun N M => f_Te_readTwo N (nI (kd + 1)) M) (fun N M => f_Mo_takeKind N (nI kd) M) at' := by
  have hT := hD.1
  have hn := hT.1
  have hs := skp_le (c := c) ha
  have he := nmE_le (c := c) ha
  have hs2 := skp_le (c := c) he.2
  have he2 := nmE_le (c := c) he.2
  have hk1 := nmK_le (c := c) (len := len) (lo := 0) (hi := n - 1) (i := at')
  have hk2 := nmK_le (c := c) (len := len) (lo := 0) (hi := n - 1) (i := nmE c len at')
  have hkd : ¬ nI kd = 0 ∧ ¬ nI kd = 4 := by rcases hd with rfl | rfl | rfl <;> exact ⟨by decide, by decide⟩
  have kid := nmK_id (c := c) (lo := 0) (hh := n - 1) he.2
  have eid := nmE_id (c := c) he.2
  have sid := skp_id (c := c) he.2
  by_cases g : nmK c len 0 (n - 1) at' = 0
  · have hv1 := nmK_v g
    by_cases w : nmK c len 0 (n - 1) (nmE c len at') = 0
    · have hv2 := nmK_v w
      have w' := kid.trans w
      by_cases z : bad n t b (nmV c len at') (nmV c len (nmE c len at')) = true
      · left
        refine ⟨4, skp c len (nmE c len at'), by decide, by decide, hs2.2, fun M h => ?_, fun M h => ?_⟩
        · obtain ⟨g1, g2⟩ := cn_ok h g
          obtain ⟨w1, w2⟩ := g1.mv (skp c len (nmE c len at'))
          obtain ⟨x1, x2⟩ := cn_ok w1 w'
          refine ⟨_, fun N hN => (c_two hN ha hn1 hT h g).trans ((if_pos x1.2.2.2.1).trans (if_pos z)), ⟨?_, si_s _ _ _ _⟩, ((g2.tr w2).tr x2).tr ?_, x1.1.ag ?_ (fun _ => ?_), _, he2.2, ?_⟩
          · rw [si_k _ _ (by decide), si_s]; rfl
          · exact fun x j q1 q2 => by rw [si1, if_neg (fun v => q1 (by omega)), si1, if_neg (fun v => q1 (by omega))]
          · rw [si_k _ _ (by decide), si_k _ _ (by decide)]
          · rw [si_a _ _ (by decide), si_a _ _ (by decide)]
          · rw [si_k _ _ (by decide), si_k _ _ (by decide), x1.2.1, eid]
        · obtain ⟨M', r1, r2, r3, r4⟩ := rnum (lo := 0) (hi := n - 1) ha (by decide) (by omega) h.1 h.2.1
          obtain ⟨v1, v2, v3, v4⟩ := r3 g
          obtain ⟨g1, g2⟩ := rn_ok h r2 v3 v4
          obtain ⟨M2, s1, s2, s3, s4⟩ := rnum (lo := 0) (hi := n - 1) he.2 (by decide) (by omega) g1.1 v3
          obtain ⟨u1, u2, u3, u4⟩ := s3 w
          obtain ⟨x1, x2⟩ := rn_ok g1 s2 u3 u4
          refine ⟨si M2 49 11 (nI (skp c len (nmE c len at'))), fun N hN => ?_, si_s _ _ _ _, (g2.tr x2).tr (fun x j q1 => by rw [si1, if_neg (fun v => q1 (by omega))])⟩
          refine (r_two (k := k) hN ha hn1 hT h.2.2.2.1 g1.2.2.2.1 hd g (r1 N hN) v1 (s1 N hN)).trans ?_
          rw [w, if_pos (by decide), r_put hT (by omega) (show nmV c len (nmE c len at') < n by omega) hd u1 u2 x1.2.2.2.1 x1.2.2.2.2.1 x1.2.2.2.2.2.1 x1.2.2.2.2.2.2.1 N hN, if_pos z]
          rfl
      · right
        have hne : nmV c len at' ≠ nmV c len (nmE c len at') := fun v => z (by unfold bad; rw [decide_eq_true v, Bool.true_or])
        have htb : t.testBit (pn n (nmV c len at') (nmV c len (nmE c len at'))) = false ∧ b.testBit (pn n (nmV c len at') (nmV c len (nmE c len at'))) = false := by
          unfold bad at z
          rw [decide_eq_false hne, Bool.false_or, Bool.or_eq_true, not_or] at z
          exact ⟨by simpa using z.1, by simpa using z.2⟩
        have hk := pn_lt n hn (nmV c len at') (by omega) (nmV c len (nmE c len at')) (by omega) hne
        refine ⟨nmE c len (nmE c len at'), n, t2 kd t (pn n (nmV c len at') (nmV c len (nmE c len at'))) (np n), b2 kd b (pn n (nmV c len at') (nmV c len (nmE c len at'))) (np n), m2 kd m (pn n (nmV c len at') (nmV c len (nmE c len at'))) (np n), mk, dr, k, by omega, he2.2, ⟨two_T hT hk htb.1 htb.2 hd, hD.2⟩, fun M h => ?_, fun M h => ?_⟩
        · obtain ⟨g1, g2⟩ := cn_ok h g
          obtain ⟨w1, w2⟩ := g1.mv (skp c len (nmE c len at'))
          obtain ⟨x1, x2⟩ := cn_ok w1 w'
          obtain ⟨M3, p1, p2, p3⟩ := putC_I hT x1.2.2.2.2.2 (show nmV c len at' < n by omega) (show nmV c len (nmE c len at') < n by omega) hne htb.1 htb.2 hd
          refine ⟨M3, fun N hN => (c_two hN ha hn1 hT h g).trans ((if_pos x1.2.2.2.1).trans ((if_neg z).trans p1)), ?_, ((g2.tr w2).tr x2).tr (fun x j q1 q2 => p3 x j (by omega))⟩
          rw [eid] at x1
          obtain ⟨h1, h2, h3, h4, h5, h6⟩ := x1
          exact ⟨h1.ag (p3 _ _ (by omega)) (fun _ => p3 _ _ (by omega)), (p3 _ _ (by omega)).trans h2, (p3 _ _ (by omega)).trans h3, (p3 _ _ (by omega)).trans h4, (p3 _ _ (by omega)).trans h5, p2⟩
        · obtain ⟨M', r1, r2, r3, r4⟩ := rnum (lo := 0) (hi := n - 1) ha (by decide) (by omega) h.1 h.2.1
          obtain ⟨v1, v2, v3, v4⟩ := r3 g
          obtain ⟨g1, g2⟩ := rn_ok h r2 v3 v4
          obtain ⟨M2, s1, s2, s3, s4⟩ := rnum (lo := 0) (hi := n - 1) he.2 (by decide) (by omega) g1.1 v3
          obtain ⟨u1, u2, u3, u4⟩ := s3 w
          obtain ⟨x1, x2⟩ := rn_ok g1 s2 u3 u4
          refine ⟨si (si (si M2 49 18 (nI (t2 kd t (pn n (nmV c len at') (nmV c len (nmE c len at'))) (np n)))) 49 19 (nI (b2 kd b (pn n (nmV c len at') (nmV c len (nmE c len at'))) (np n)))) 49 20 (nI (m2 kd m (pn n (nmV c len at') (nmV c len (nmE c len at'))) (np n))), fun N hN => (r_two (k := k) hN ha hn1 hT h.2.2.2.1 g1.2.2.2.1 hd g (r1 N hN) v1 (s1 N hN)).trans ?_, ?_, ?_⟩
          · rw [w, if_pos (by decide), r_put hT (by omega) (show nmV c len (nmE c len at') < n by omega) hd u1 u2 x1.2.2.2.1 x1.2.2.2.2.1 x1.2.2.2.2.2.1 x1.2.2.2.2.2.2.1 N hN, if_neg z]
          · obtain ⟨a1, a2, a3, a4, a5, a6, a7, a8, a9⟩ := x1
            refine ⟨a1.ag ?_ (fun _ => ?_), ?_, ?_, ?_, ?_, ?_, si_s _ _ _ _, fun y => ⟨?_, ?_⟩, fun y => ?_⟩
            · rw [si_k _ _ (by decide), si_k _ _ (by decide), si_k _ _ (by decide)]
            · rw [si_a _ _ (by decide), si_a _ _ (by decide), si_a _ _ (by decide)]
            · rw [si_k _ _ (by decide), si_k _ _ (by decide), si_k _ _ (by decide)]; exact a2
            · rw [si_k _ _ (by decide), si_k _ _ (by decide), si_k _ _ (by decide)]; exact a3
            · rw [si_k _ _ (by decide), si_k _ _ (by decide), si_k _ _ (by decide)]; exact a4
            · rw [si_k _ _ (by decide), si_k _ _ (by decide), si_s]
            · rw [si_k _ _ (by decide), si_s]
            · rw [si_k _ _ (by decide), si_k _ _ (by decide), si_k _ _ (by decide)]; exact (a8 y).1
            · rw [si_k _ _ (by decide), si_k _ _ (by decide), si_k _ _ (by decide)]; exact (a8 y).2
            · rw [si_k _ _ (by decide), si_k _ _ (by decide), si_k _ _ (by decide)]; exact a9 y
          · exact (g2.tr x2).tr (fun x j q1 => by rw [si1, if_neg (fun v => q1 (by omega)), si1, if_neg (fun v => q1 (by omega)), si1, if_neg (fun v => q1 (by omega))])
    · left
      have w' : nmK c len 0 (n - 1) (skp c len (nmE c len at')) ≠ 0 := fun v => w (kid.symm.trans v)
      refine ⟨nmK c len 0 (n - 1) (nmE c len at'), skp c len (nmE c len at'), by omega, by omega, hs2.2, fun M h => ?_, fun M h => ?_⟩
      · obtain ⟨g1, g2⟩ := cn_ok h g
        obtain ⟨w1, w2⟩ := g1.mv (skp c len (nmE c len at'))
        obtain ⟨x1, x2, x3, x4⟩ := cn_no w1 w'
        refine ⟨_, fun N hN => (c_two hN ha hn1 hT h g).trans (if_neg (kz (by omega) x1.1 w')), ?_, (g2.tr w2).tr x2, x3, _, he2.2, x4.trans (by rw [eid])⟩
        rw [kid, sid] at x1
        exact x1
      · obtain ⟨M', r1, r2, r3, r4⟩ := rnum (lo := 0) (hi := n - 1) ha (by decide) (by omega) h.1 h.2.1
        obtain ⟨v1, v2, v3, v4⟩ := r3 g
        obtain ⟨g1, g2⟩ := rn_ok h r2 v3 v4
        obtain ⟨M2, s1, s2, s3, s4⟩ := rnum (lo := 0) (hi := n - 1) he.2 (by decide) (by omega) g1.1 v3
        refine ⟨M2, fun N hN => (r_two (k := k) hN ha hn1 hT h.2.2.2.1 g1.2.2.2.1 hd g (r1 N hN) v1 (s1 N hN)).trans (if_neg (kp (by omega) w)), s4 w, g2.tr (rn_fr s2)⟩
  · left
    refine ⟨nmK c len 0 (n - 1) at', skp c len at', by omega, by omega, hs.2, fun M h => ?_, fun M h => ?_⟩
    · obtain ⟨g1, g2, g3, g4⟩ := cn_no h g
      refine ⟨cnuM c len 0 (n - 1) at' M, fun N hN => ?_, g1, g2, g3, _, he.2, g4⟩
      show f_Te_readTwo N (nI (kd + 1)) M = _
      unfold f_Te_readTwo
      rw [h.2.2.2.2.2.1, nI_p1 hn1, show f_Te_readNumber N 0 (nI (n - 1)) M = _ from cnum (lo := 0) (hi := n - 1) hN ha (by decide) (by omega) h.1 h.2.1, Option.bind_some]
      dsimp only [lt]
      rw [if_neg (kz (by omega) g1.1 g)]
    · obtain ⟨M', r1, r2, r3, r4⟩ := rnum (lo := 0) (hi := n - 1) ha (by decide) (by omega) h.1 h.2.1
      refine ⟨M', fun N hN => ?_, r4 g, rn_fr r2⟩
      show f_Mo_takeKind N (nI kd) M = _
      unfold f_Mo_takeKind
      rw [if_neg hkd.1, if_neg hkd.2]
      unfold f_Mo_takeTwo
      rw [h.2.2.2.1, nI_p1 hn1, show f_Mo_takeNumber N 0 (nI (n - 1)) M = _ from r1 N hN, Option.bind_some]
      dsimp only [lt]
      rw [if_neg (kp (by omega) g), if_neg (kp (by omega) g), Option.bind_some]
end TY
