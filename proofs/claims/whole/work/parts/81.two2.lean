/-! PURE 62: the clauses of two persons, read -/
section TX
variable {c : Nat → Nat} {len : Nat}
def bad (n t b p q : Nat) : Bool := decide (p = q) || (t.testBit (pn n p q) || b.testBit (pn n p q))
theorem nI_p1 {n : Nat} (hn : 1 ≤ n) : nI n - 1 = nI (n - 1) := pk_sub (b := 1) hn
theorem two_slf {M : Mm} {a p : Nat} : f_To_hasTwo a (nI p) (nI p) M = 0 := by
  unfold f_To_hasTwo
  by_cases h : f_To_has a (nI p) M = 0
  · rw [if_pos h]
  · rw [if_neg h, if_neg h, if_pos rfl]
theorem c_two {N at' n t b m mk dr kd : Nat} {k : Bool} {M : Mm} (hN : 401 < N) (ha : at' ≤ len) (hn1 : 1 ≤ n) (hT : TOK n t b m mk dr (fun _ => 0)) (h : CS c len at' n t b m mk dr k M) (g : nmK c len 0 (n - 1) at' = 0) : f_Te_readTwo N (nI (kd + 1)) M = (fun X3 : Mm => if X3.1 11 5 = 0 then (if bad n t b (nmV c len at') (nmV c len (nmE c len at')) = true then some (si (si X3 11 5 4) 11 6 (nI (skp c len (nmE c len at')))) else putC kd (nmV c len at') (nmV c len (nmE c len at')) X3) else some X3) (cnuM c len 0 (n - 1) (skp c len (nmE c len at')) (si (cnuM c len 0 (n - 1) at' M) 11 3 (nI (skp c len (nmE c len at'))))) := by
  have hn := hT.1
  have hs := skp_le (c := c) ha
  have he := nmE_le (c := c) ha
  have hs2 := skp_le (c := c) he.2
  obtain ⟨g1, g2⟩ := cn_ok h g
  obtain ⟨w1, w2⟩ := g1.mv (skp c len (nmE c len at'))
  have q1 := cnum (lo := 0) (hi := n - 1) hN ha (by decide) (by omega) h.1 h.2.1
  have q2 := cnum (lo := 0) (hi := n - 1) hN hs2.2 (by decide) (by omega) w1.1 w1.2.1
  unfold f_Te_readTwo
  rw [h.2.2.2.2.2.1, nI_p1 hn1, show f_Te_readNumber N 0 (nI (n - 1)) M = _ from q1, Option.bind_some]
  dsimp only [lt]
  rw [if_pos g1.2.2.2.1, csk_I hN he.2 g1.1 g1.2.1, Option.bind_some, w1.2.2.2.2.2.1, nI_p1 hn1, show f_Te_readNumber N 0 (nI (n - 1)) _ = _ from q2, Option.bind_some]
  dsimp only
  rw [nmV_id he.2, si_s]
  by_cases z : (cnuM c len 0 (n - 1) (skp c len (nmE c len at')) (si (cnuM c len 0 (n - 1) at' M) 11 3 (nI (skp c len (nmE c len at'))))).1 11 5 = 0
  · rw [if_pos z, if_pos z]
    have w : nmK c len 0 (n - 1) (skp c len (nmE c len at')) = 0 := by
      by_cases v : nmK c len 0 (n - 1) (skp c len (nmE c len at')) = 0
      · exact v
      · exact absurd z (kz (by have := nmK_le (c := c) (len := len) (lo := 0) (hi := n - 1) (i := skp c len (nmE c len at')); omega) (cn_no w1 v).1.1 v)
    obtain ⟨x1, x2⟩ := cn_ok w1 w
    have hv1 := nmK_v g
    rw [nmK_id he.2] at w
    have hv2 := nmK_v w
    have he2 := nmE_le (c := c) he.2
    unfold bad
    by_cases e : nmV c len at' = nmV c len (nmE c len at')
    · rw [← e, two_slf, if_pos rfl, decide_eq_true rfl, Bool.true_or, if_pos rfl]
      rfl
    · rw [two_yes hn x1.2.2.2.2.2.1 (show nmV c len at' < n by omega) (show nmV c len (nmE c len at') < n by omega) e, if_neg (by decide), fri_I hn x1.2.2.2.2.2 (by omega) (by omega) e, Option.bind_some, decide_eq_false e, Bool.false_or]
      by_cases e1 : t.testBit (pn n (nmV c len at') (nmV c len (nmE c len at'))) = true
      · rw [if_pos e1, if_neg (by decide), e1, Bool.true_or, if_pos rfl]
        rfl
      · have e1' : t.testBit (pn n (nmV c len at') (nmV c len (nmE c len at'))) = false := by simpa using e1
        have em : ¬ m.testBit (pn n (nmV c len at') (nmV c len (nmE c len at'))) = true := fun v => e1 (hT.2.2.2.2.2.1 _ v)
        rw [if_neg e1, if_pos rfl, bar_I hn x1.2.2.2.2.2 (by omega) (by omega) e, Option.bind_some, e1', Bool.false_or]
        unfold brs
        by_cases e2 : b.testBit (pn n (nmV c len at') (nmV c len (nmE c len at'))) = true
        · rw [if_pos e2, if_neg (by decide), if_pos e2]
          rfl
        · rw [if_neg e2, if_neg em, if_pos (by rfl), if_neg e2]
          rfl
  · rw [if_neg z, if_neg z]
theorem or_t2 {t k w kd : Nat} (ht : t < 2 ^ w) (hk : k < w) (hw : w ≤ 31) (hd : kd = 1 ∨ kd = 2 ∨ kd = 3) : nI t ||| (if nI kd = 2 then (0 : Int32) else (1 : Int32) <<< (nI k &&& 31)) = nI (t2 kd t k w) := by
  rcases hd with rfl | rfl | rfl
  · rw [if_neg (by decide), or_sI ht hk hw]; rfl
  · rw [if_pos (by decide), show (0 : Int32) = nI 0 from rfl, or_I, Nat.or_zero]; rfl
  · rw [if_neg (by decide), or_sI ht hk hw]; rfl
theorem or_b2 {t k w kd : Nat} (ht : t < 2 ^ w) (hk : k < w) (hw : w ≤ 31) (hd : kd = 1 ∨ kd = 2 ∨ kd = 3) : nI t ||| (if nI kd = 2 then (1 : Int32) <<< (nI k &&& 31) else (0 : Int32)) = nI (b2 kd t k w) := by
  rcases hd with rfl | rfl | rfl
  · rw [if_neg (by decide), show (0 : Int32) = nI 0 from rfl, or_I, Nat.or_zero]; rfl
  · rw [if_pos (by decide), or_sI ht hk hw]; rfl
  · rw [if_neg (by decide), show (0 : Int32) = nI 0 from rfl, or_I, Nat.or_zero]; rfl
theorem or_m2 {t k w kd : Nat} (ht : t < 2 ^ w) (hk : k < w) (hw : w ≤ 31) (hd : kd = 1 ∨ kd = 2 ∨ kd = 3) : nI t ||| (if nI kd = 3 then (1 : Int32) <<< (nI k &&& 31) else (0 : Int32)) = nI (m2 kd t k w) := by
  rcases hd with rfl | rfl | rfl
  · rw [if_neg (by decide), show (0 : Int32) = nI 0 from rfl, or_I, Nat.or_zero]; rfl
  · rw [if_neg (by decide), show (0 : Int32) = nI 0 from rfl, or_I, Nat.or_zero]; rfl
  · rw [if_pos (by decide), or_sI ht hk hw]; rfl
theorem ite_ap {P : Prop} [Decidable P] {α : Type} (f : Int32 → α) (x y : Int32) : (if P then f x else f y) = f (if P then x else y) := by split <;> rfl
/-- the reference's second half, once both numbers are read -/
theorem r_put {n t b m p q s kd : Nat} {mk dr : Nat} {M2 : Mm} {sd : Nat → Nat} (hT : TOK n t b m mk dr sd) (hp : p < n) (hq : q < n) (hd : kd = 1 ∨ kd = 2 ∨ kd = 3) (h15 : M2.1 49 15 = nI q) (h16 : M2.1 49 16 = nI s) (h17 : M2.1 49 17 = nI n) (h18 : M2.1 49 18 = nI t) (h19 : M2.1 49 19 = nI b) (h20 : M2.1 49 20 = nI m) (N : Nat) (hN : 401 < N) :
    (if nI p = M2.1 49 15 then some ((4 : Int32), si M2 49 11 (M2.1 49 16)) else (f_Mo_pairOf N (M2.1 49 17) (nI p) (M2.1 49 15)).bind fun vu12 => if f_Mo_has (M2.1 49 18 ||| M2.1 49 19) vu12 = 0 then (f_Mo_pairOf N (M2.1 49 17) (nI p) (M2.1 49 15)).bind fun vu14 => (fun xu15 : Int32 => (fun Mu18 : Mm => (fun Mu21 : Mm => some ((0 : Int32), si Mu21 49 20 (Mu21.1 49 20 ||| (if nI kd = 3 then xu15 else 0)))) (si Mu18 49 19 (Mu18.1 49 19 ||| (if nI kd = 2 then xu15 else 0)))) (si M2 49 18 (M2.1 49 18 ||| (if nI kd = 2 then 0 else xu15)))) ((1 : Int32) <<< (vu14 &&& 31)) else some ((4 : Int32), si M2 49 11 (M2.1 49 16)))
    = if bad n t b p q = true then some ((4 : Int32), si M2 49 11 (nI s)) else some (0, si (si (si M2 49 18 (nI (t2 kd t (pn n p q) (np n)))) 49 19 (nI (b2 kd b (pn n p q) (np n)))) 49 20 (nI (m2 kd m (pn n p q) (np n)))) := by
  have hn := hT.1
  have hw : np n ≤ 31 := Nat.le_trans (np_le n hn) (by decide)
  rw [h15, h16, h17, h18, h19]
  unfold bad
  by_cases e : p = q
  · rw [if_pos (by rw [e]), decide_eq_true e, Bool.true_or, if_pos rfl]
  · have hk := pn_lt n hn p hp q hq e
    rw [if_neg (fun v => e ((nI_eq (by omega) (by omega)).mp v)), po_I (by omega) hn hp hq e, Option.bind_some, Option.bind_some, or_I, has_I (Nat.or_lt_two_pow (np_lt31 hn hT.2.1) (np_lt31 hn hT.2.2.1)) (by omega), Nat.testBit_or, decide_eq_false e, Bool.false_or]
    by_cases z : (t.testBit (pn n p q) || b.testBit (pn n p q)) = true
    · rw [if_pos z, if_neg (by decide), if_pos z]
    · rw [if_neg z, if_pos rfl, if_neg z]
      dsimp only
      rw [or_t2 hT.2.1 hk hw hd]
      have e1 : ∀ x : Int32, (si M2 49 18 x).1 49 19 = nI b := fun x => by rw [si_k _ _ (by decide)]; exact h19
      rw [e1, or_b2 hT.2.2.1 hk hw hd]
      have e2 : ∀ x y : Int32, (si (si M2 49 18 x) 49 19 y).1 49 20 = nI m := fun x y => by rw [si_k _ _ (by decide), si_k _ _ (by decide)]; exact h20
      rw [e2, or_m2 hT.2.2.2.1 hk hw hd]
end TX
