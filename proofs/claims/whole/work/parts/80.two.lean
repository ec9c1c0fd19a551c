/-! PURE 61: the clauses of two persons -/
theorem setb13 {M : Mm} {n t b m mk dr p q c : Nat} {sd : Nat → Nat} (hn : n < 9) (h : CT M 13 n t b m mk dr sd) (hp : p < n) (hq : q < n) (hpq : p ≠ q) (hc : c < 3) : ∃ M1, f_To_setBar 13 (nI p) (nI q) (nI c) M = some M1 ∧ (∀ a j, a ≠ 14 → a ≠ 15 → a ≠ 16 → M1.1 a j = M.1 a j) ∧ (t < 2 ^ np n → b < 2 ^ np n → m < 2 ^ np n → ∀ j, j < 8 → M1.1 14 j = nI (rwo n (brT c t (pn n p q) (np n)) j) ∧ M1.1 15 j = nI (rwo n (stb b (pn n p q) (decide (c = 1)) (np n)) j) ∧ M1.1 16 j = nI (rwo n (stb m (pn n p q) (decide (c = 2)) (np n)) j)) := by
  have r2 : ∀ p, p < 8 → M.1 14 p = nI (rwo n t p) := fun p hp => (h.2.2.2 p hp).1
  have r3 : ∀ p, p < 8 → M.1 15 p = nI (rwo n b p) := fun p hp => (h.2.2.2 p hp).2.1
  have r4 : ∀ p, p < 8 → M.1 16 p = nI (rwo n m p) := fun p hp => (h.2.2.2 p hp).2.2.1
  have e1 : (nI c = 1) ↔ c = 1 := nI_eq (b := 1) (by omega) (by decide)
  have e2 : (nI c = 2) ↔ c = 2 := nI_eq (b := 2) (by omega) (by decide)
  have e0 : (nI c = 0) ↔ c = 0 := nI_eq (b := 0) (by omega) (by decide)
  have s1 := mark_I (a := 13) (v := decide (c = 1)) hn r3 hp hq hpq
  have s2 := mark_I (a := 13) (v := decide (c = 2)) hn (mk_keep (n := n) (t := b) (p := p) (q := q) (v := decide (c = 1)) (show (16 : Nat) ≠ 15 by decide) r4) hp hq hpq
  have s3 := mark_I (a := 13) (v := decide (c = 2)) hn (mk_keep (n := n) (t := m) (p := p) (q := q) (v := decide (c = 2)) (show (14 : Nat) ≠ 16 by decide) (mk_keep (n := n) (t := b) (p := p) (q := q) (v := decide (c = 1)) (show (14 : Nat) ≠ 15 by decide) r2)) hp hq hpq
  rw [b01] at s1 s2 s3
  have ev : f_To_setBar 13 (nI p) (nI q) (nI c) M = if c = 0 then some (mkM 16 p q n m (decide (c = 2)) (mkM 15 p q n b (decide (c = 1)) M)) else some (mkM 14 p q n t (decide (c = 2)) (mkM 16 p q n m (decide (c = 2)) (mkM 15 p q n b (decide (c = 1)) M))) := by
    unfold f_To_setBar
    simp only [lt, e1, e2, e0, Nat.reduceAdd]
    have j1 : ∀ (k : Int32 → Option Mm), (if c = 1 then k 1 else k 0) = k (if c = 1 then 1 else 0) := fun k => by split <;> rfl
    have j2 : ∀ (k : Int32 → Option Mm), (if c = 2 then k 1 else k 0) = k (if c = 2 then 1 else 0) := fun k => by split <;> rfl
    rw [j1 (fun x => (f_To_mark 13 15 (nI p) (nI q) x M).bind fun vu3 => if c = 2 then (f_To_mark 13 16 (nI p) (nI q) 1 vu3).bind fun vu6 => if c = 0 then some vu6 else if c = 2 then (f_To_mark 13 14 (nI p) (nI q) 1 vu6).bind fun vu10 => some vu10 else (f_To_mark 13 14 (nI p) (nI q) 0 vu6).bind fun vu10 => some vu10 else (f_To_mark 13 16 (nI p) (nI q) 0 vu3).bind fun vu6 => if c = 0 then some vu6 else if c = 2 then (f_To_mark 13 14 (nI p) (nI q) 1 vu6).bind fun vu10 => some vu10 else (f_To_mark 13 14 (nI p) (nI q) 0 vu6).bind fun vu10 => some vu10)]
    try dsimp only
    rw [s1]
    show (if c = 2 then _ else _) = _
    rw [j2 (fun x => (f_To_mark 13 16 (nI p) (nI q) x (mkM 15 p q n b (decide (c = 1)) M)).bind fun vu6 => if c = 0 then some vu6 else if c = 2 then (f_To_mark 13 14 (nI p) (nI q) 1 vu6).bind fun vu10 => some vu10 else (f_To_mark 13 14 (nI p) (nI q) 0 vu6).bind fun vu10 => some vu10)]
    try dsimp only
    rw [s2]
    show (if c = 0 then _ else _) = _
    by_cases z : c = 0
    · rw [if_pos z, if_pos z]
    · rw [if_neg z, if_neg z, j2 (fun x => (f_To_mark 13 14 (nI p) (nI q) x (mkM 16 p q n m (decide (c = 2)) (mkM 15 p q n b (decide (c = 1)) M))).bind fun vu10 => some vu10)]
      try dsimp only
      rw [s3]
      rfl
  by_cases z : c = 0
  · rw [if_pos z] at ev
    refine ⟨_, ev, fun a j q2 q3 q4 => by rw [mk_off q4, mk_off q3], fun ht hb hm j hj => ⟨?_, ?_, ?_⟩⟩
    · rw [mk_off (by decide), mk_off (by decide), r2 j hj]; unfold brT; rw [if_pos z]
    · rw [mk_off (by decide)]; exact mk_rows hn hb r3 hp hq hpq j hj
    · exact mk_rows hn hm (mk_keep (by decide) r4) hp hq hpq j hj
  · rw [if_neg z] at ev
    refine ⟨_, ev, fun a j q2 q3 q4 => by rw [mk_off q2, mk_off q4, mk_off q3], fun ht hb hm j hj => ⟨?_, ?_, ?_⟩⟩
    · unfold brT; rw [if_neg z]; exact mk_rows hn ht (mk_keep (by decide) (mk_keep (by decide) r2)) hp hq hpq j hj
    · rw [mk_off (by decide), mk_off (by decide)]; exact mk_rows hn hb r3 hp hq hpq j hj
    · rw [mk_off (by decide)]; exact mk_rows hn hm (mk_keep (by decide) r4) hp hq hpq j hj
theorem stb_id {t k w : Nat} {v : Bool} (ht : t < 2 ^ w) (hk : k < w) (h : t.testBit k = v) : stb t k v w = t := Nat.eq_of_testBit_eq (fun i => by
  rw [stb_bit ht hk]
  by_cases e : i = k
  · rw [if_pos e, e, h]
  · rw [if_neg e])
section TW
variable {c : Nat → Nat} {len : Nat}
theorem skp_id {i : Nat} (hi : i ≤ len) : skp c len (skp c len i) = skp c len i := by
  have hs := skp_le (c := c) hi
  by_cases q : skp c len i < len
  · have h := sc_out (P := blB c) (d := len - i) (i := i) (by unfold skp at q; omega)
    have h : blB c (skp c len i) = false := h
    have : skp c len (skp c len i) = scF (blB c) (len - skp c len i) (skp c len i) := rfl
    rw [this]
    exact sc_self h
  · have : skp c len (skp c len i) = scF (blB c) (len - skp c len i) (skp c len i) := rfl
    rw [this, show len - skp c len i = 0 by omega]
    rfl
theorem nmE_id {i : Nat} (hi : i ≤ len) : nmE c len (skp c len i) = nmE c len i := by unfold nmE; rw [skp_id hi]
theorem nmV_id {i : Nat} (hi : i ≤ len) : nmV c len (skp c len i) = nmV c len i := by unfold nmV; rw [nmE_id hi, skp_id hi]
theorem nmK_id {i lo hh : Nat} (hi : i ≤ len) : nmK c len lo hh (skp c len i) = nmK c len lo hh i := by unfold nmK; rw [nmE_id hi, nmV_id hi, skp_id hi]
def t2 (kd t k w : Nat) : Nat := if kd = 2 then t else stb t k true w
def b2 (kd b k w : Nat) : Nat := if kd = 2 then stb b k true w else b
def m2 (kd m k w : Nat) : Nat := if kd = 3 then stb m k true w else m
theorem two_T {n t b m mk dr k kd : Nat} {sd : Nat → Nat} (hT : TOK n t b m mk dr sd) (hk : k < np n) (ht : t.testBit k = false) (hb : b.testBit k = false) (hd : kd = 1 ∨ kd = 2 ∨ kd = 3) : TOK n (t2 kd t k (np n)) (b2 kd b k (np n)) (m2 kd m k (np n)) mk dr sd := by
  have hm : m.testBit k = false := by
    cases e : m.testBit k with
    | false => rfl
    | true => rw [hT.2.2.2.2.2.1 k e] at ht; cases ht
  rcases hd with rfl | rfl | rfl
  · exact hT.tie (v := true) hk (fun _ => hb) (fun z => by cases z)
  · have h := hT.bar (c := 1) hk (by decide)
    have e1 : brT 1 t k (np n) = t := stb_id hT.2.1 hk ht
    have e2 : stb m k (decide ((1 : Nat) = 2)) (np n) = m := stb_id hT.2.2.2.1 hk hm
    rw [e1, e2] at h
    exact h
  · have h := hT.bar (c := 2) hk (by decide)
    have e2 : stb b k (decide ((2 : Nat) = 1)) (np n) = b := stb_id hT.2.2.1 hk hb
    rw [e2] at h
    exact h
def putC (kd p q : Nat) (M : Mm) : Option Mm := if nI (kd + 1) = 2 then (f_To_mark 13 14 (nI p) (nI q) 1 M).bind fun vu23 => some vu23 else if nI (kd + 1) = 4 then (f_To_setBar 13 (nI p) (nI q) 2 M).bind fun vu21 => some vu21 else (f_To_setBar 13 (nI p) (nI q) 1 M).bind fun vu21 => some vu21
theorem putC_I {n t b m mk dr p q kd : Nat} {sd : Nat → Nat} {M : Mm} (hT : TOK n t b m mk dr sd) (hC : CT M 13 n t b m mk dr sd) (hp : p < n) (hq : q < n) (hpq : p ≠ q) (ht : t.testBit (pn n p q) = false) (hb : b.testBit (pn n p q) = false) (hd : kd = 1 ∨ kd = 2 ∨ kd = 3) : ∃ M', putC kd p q M = some M' ∧ CT M' 13 n (t2 kd t (pn n p q) (np n)) (b2 kd b (pn n p q) (np n)) (m2 kd m (pn n p q) (np n)) mk dr sd ∧ (∀ x j, ¬ (14 ≤ x ∧ x ≤ 16) → M'.1 x j = M.1 x j) := by
  have hn := hT.1
  have hk := pn_lt n hn p hp q hq hpq
  have hm : m.testBit (pn n p q) = false := by
    cases e : m.testBit (pn n p q) with
    | false => rfl
    | true => rw [hT.2.2.2.2.2.1 _ e] at ht; cases ht
  obtain ⟨c1, c2, c3, c4⟩ := hC
  rcases hd with rfl | rfl | rfl
  · have r : ∀ p, p < 8 → M.1 14 p = nI (rwo n t p) := fun p hp => (c4 p hp).1
    refine ⟨mkM 14 p q n t true M, ?_, ⟨?_, ?_, ?_, fun j hj => ⟨mk_rows hn hT.2.1 r hp hq hpq j hj, ?_, ?_, ?_⟩⟩, fun x j h => mk_off (by omega)⟩
    · unfold putC
      rw [if_pos (by decide), show f_To_mark 13 14 (nI p) (nI q) 1 M = _ from mark_I (a := 13) (v := true) hn r hp hq hpq]
      rfl
    · rw [mk_off (by decide)]; exact c1
    · rw [mk_off (by decide)]; exact c2
    · rw [mk_off (by decide)]; exact c3
    · rw [mk_off (by decide)]; exact (c4 j hj).2.1
    · rw [mk_off (by decide)]; exact (c4 j hj).2.2.1
    · rw [mk_off (by decide)]; exact (c4 j hj).2.2.2
  · obtain ⟨M1, s1, s2, s3⟩ := setb13 (c := 1) hn ⟨c1, c2, c3, c4⟩ hp hq hpq (by decide)
    have s3 := s3 hT.2.1 hT.2.2.1 hT.2.2.2.1
    have e1 : brT 1 t (pn n p q) (np n) = t := stb_id hT.2.1 hk ht
    have e2 : stb m (pn n p q) (decide ((1 : Nat) = 2)) (np n) = m := stb_id hT.2.2.2.1 hk hm
    rw [e1, e2] at s3
    refine ⟨M1, ?_, ⟨?_, ?_, ?_, fun j hj => ⟨(s3 j hj).1, (s3 j hj).2.1, (s3 j hj).2.2, ?_⟩⟩, fun x j h => s2 x j (by omega) (by omega) (by omega)⟩
    · unfold putC
      rw [if_neg (by decide), if_neg (by decide), show f_To_setBar 13 (nI p) (nI q) 1 M = _ from s1]
      rfl
    · rw [s2 _ _ (by decide) (by decide) (by decide)]; exact c1
    · rw [s2 _ _ (by decide) (by decide) (by decide)]; exact c2
    · rw [s2 _ _ (by decide) (by decide) (by decide)]; exact c3
    · rw [s2 _ _ (by decide) (by decide) (by decide)]; exact (c4 j hj).2.2.2
  · obtain ⟨M1, s1, s2, s3⟩ := setb13 (c := 2) hn ⟨c1, c2, c3, c4⟩ hp hq hpq (by decide)
    have s3 := s3 hT.2.1 hT.2.2.1 hT.2.2.2.1
    have e2 : stb b (pn n p q) (decide ((2 : Nat) = 1)) (np n) = b := stb_id hT.2.2.1 hk hb
    rw [e2] at s3
    refine ⟨M1, ?_, ⟨?_, ?_, ?_, fun j hj => ⟨(s3 j hj).1, (s3 j hj).2.1, (s3 j hj).2.2, ?_⟩⟩, fun x j h => s2 x j (by omega) (by omega) (by omega)⟩
    · unfold putC
      rw [if_neg (by decide), if_pos (by decide), show f_To_setBar 13 (nI p) (nI q) 2 M = _ from s1]
      rfl
    · rw [s2 _ _ (by decide) (by decide) (by decide)]; exact c1
    · rw [s2 _ _ (by decide) (by decide) (by decide)]; exact c2
    · rw [s2 _ _ (by decide) (by decide) (by decide)]; exact c3
    · rw [s2 _ _ (by decide) (by decide) (by decide)]; exact (c4 j hj).2.2.2
end TW
