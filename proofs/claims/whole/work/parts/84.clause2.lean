/-! PURE 65: a clause, read -/
section CM2
variable {c : Nat → Nat} {len : Nat}
def wf (n : Nat) (k : Bool) (wc : Nat) : Nat := if wc = 0 then 1 else if n = 0 then (if wc = 1 then 0 else 1) else if wc = 1 then 3 else if wc = 5 then (if k = true then 3 else 0) else 0
theorem wdC_lt {s k : Nat} : wdC c s k < 6 := by
  unfold wdC
  repeat (split; omega)
  omega
def bodC (wc : Nat) (N : Nat) (M : Mm) : Option Mm := if nI wc = 1 then f_Te_readPeople N M else if nI wc = 5 then f_Te_readCost N M else f_Te_readTwo N (nI wc) M
theorem b_body {e n t b m mk dr wc : Nat} {k : Bool} (he : e ≤ len) (hD : DOK n t b m mk dr k) (hw : wc < 6) (h : wf n k wc = 0) : BOTH c len e n t b m mk dr k (bodC wc) (fun N M => f_Mo_takeKind N (nI (wc - 1)) M) e := by
  unfold wf at h
  rcases (show wc = 0 ∨ wc = 1 ∨ wc = 5 ∨ wc = 2 ∨ wc = 3 ∨ wc = 4 by omega) with rfl | rfl | rfl | rfl | rfl | rfl
  · rw [if_pos rfl] at h; cases h
  · by_cases z : n = 0
    · subst z
      obtain ⟨⟨d1, d2, d3, d4, d5⟩, d6⟩ := hD
      have e0 : np 0 = 0 := by decide
      rw [e0] at d2 d3 d4
      have t0 : t = 0 := by omega
      have b0 : b = 0 := by omega
      have m0 : m = 0 := by omega
      subst t0 b0 m0
      exact b_people he ⟨⟨d1, by rw [e0]; omega, by rw [e0]; omega, by rw [e0]; omega, d5⟩, d6⟩
    · rw [if_neg (by decide), if_neg z, if_pos rfl] at h; cases h
  · by_cases z : n = 0
    · rw [if_neg (by decide), if_pos z, if_neg (by decide)] at h; cases h
    · cases k with
      | true => rw [if_neg (by decide), if_neg z, if_neg (by decide), if_pos rfl, if_pos rfl] at h; cases h
      | false => exact b_cost he hD
  · by_cases z : n = 0
    · rw [if_neg (by decide), if_pos z, if_neg (by decide)] at h; cases h
    · exact b_two (kd := 1) he (by omega) hD (by decide)
  · by_cases z : n = 0
    · rw [if_neg (by decide), if_pos z, if_neg (by decide)] at h; cases h
    · exact b_two (kd := 2) he (by omega) hD (by decide)
  · by_cases z : n = 0
    · rw [if_neg (by decide), if_pos z, if_neg (by decide)] at h; cases h
    · exact b_two (kd := 3) he (by omega) hD (by decide)
theorem wfl_I {n wc : Nat} {k : Bool} {M : Mm} (hn : n < 9) (hw : wc < 6) (h0 : M.1 13 0 = nI n) (h4 : M.1 11 4 = (if k = true then 1 else 0)) : f_Te_wordFault (nI wc) M = nI (wf n k wc) := by
  unfold f_Te_wordFault wf
  dsimp only [lt]
  rw [h0, h4]
  by_cases z : n = 0
  · subst z
    rcases (show wc = 0 ∨ wc = 1 ∨ wc = 5 ∨ wc = 2 ∨ wc = 3 ∨ wc = 4 by omega) with rfl | rfl | rfl | rfl | rfl | rfl <;> cases k <;> decide
  · rw [if_neg (show ¬ nI n ≤ 0 from nI_ge (a := 0) (by omega) (by omega)), if_neg z]
    rcases (show wc = 0 ∨ wc = 1 ∨ wc = 5 ∨ wc = 2 ∨ wc = 3 ∨ wc = 4 by omega) with rfl | rfl | rfl | rfl | rfl | rfl <;> cases k <;> decide
theorem c_clause {N s n t b m mk dr : Nat} {k : Bool} {M : Mm} (hN : 401 < N) (hs : s ≤ len) (hn : n < 9) (h : CS c len s n t b m mk dr k M) : f_Te_readClause N M = if wf n k (wdC c s (wdE c len s - s)) = 0 then (bodC (wdC c s (wdE c len s - s)) N (si M 11 3 (nI (wdE c len s)))).bind (fun M8 => if M8.1 11 5 = 0 then f_Te_readEnd N M8 else some M8) else some (si (si (si M 11 3 (nI (wdE c len s))) 11 5 (nI (wf n k (wdC c s (wdE c len s - s))))) 11 6 (nI s)) := by
  obtain ⟨g1, g2⟩ := h.mv (wdE c len s)
  have hw := wdC_lt (c := c) (s := s) (k := wdE c len s - s)
  have hb : ∀ x : Option Mm, (x.bind fun v => some v) = x := fun x => by cases x <;> rfl
  unfold f_Te_readClause
  dsimp only [lt, f_Te_blame]
  rw [cwd hN hs h.1 h.2.1, Option.bind_some]
  dsimp only
  rw [wfl_I hn hw g1.2.2.2.2.2.1 g1.2.2.1, h.2.1]
  generalize wdC c s (wdE c len s - s) = wc at *
  have hf : wf n k wc ≤ 3 := by
    unfold wf
    repeat (first | omega | split)
  by_cases z : wf n k wc = 0
  · rw [if_pos (show nI (wf n k wc) = 0 by rw [z]; rfl), if_pos z]
    unfold bodC
    by_cases e1 : nI wc = 1
    · rw [if_pos e1, if_pos e1]; simp only [hb]
    · rw [if_neg e1, if_neg e1]
      by_cases e5 : nI wc = 5
      · rw [if_pos e5, if_pos e5]; simp only [hb]
      · rw [if_neg e5, if_neg e5]; simp only [hb]
  · rw [if_neg (kz (by omega) rfl z), if_neg z]
/-- the reference's clause, once the word's kind is known -/
def tcT (N : Nat) (kd : Int32) (M : Mm) : Option (Int32 × Mm) :=
  if kd < 0 then some (1, si M 49 11 (M.1 49 12)) else
  if kd ≤ 0 then (if kd = 0 then (if 0 < M.1 49 17 then some (3, si M 49 11 (M.1 49 12)) else if kd = 4 then (if M.1 49 21 ≤ 0 then (f_Mo_takeKind N kd (si M 49 12 (M.1 49 14))).bind (fun r => if r.1 = 0 then (f_Mo_here N r.2).bind fun v => if v.1 = 59 then some (r.1, si v.2 49 12 (v.2.1 49 12 + 1)) else some (1, si v.2 49 11 (v.2.1 49 12)) else some (r.1, si r.2 49 12 (r.2.1 49 12 + 1))) else some (3, si M 49 11 (M.1 49 12))) else (f_Mo_takeKind N kd (si M 49 12 (M.1 49 14))).bind (fun r => if r.1 = 0 then (f_Mo_here N r.2).bind fun v => if v.1 = 59 then some (r.1, si v.2 49 12 (v.2.1 49 12 + 1)) else some (1, si v.2 49 11 (v.2.1 49 12)) else some (r.1, si r.2 49 12 (r.2.1 49 12 + 1)))) else if kd = 4 then (if M.1 49 21 ≤ 0 then (f_Mo_takeKind N kd (si M 49 12 (M.1 49 14))).bind (fun r => if r.1 = 0 then (f_Mo_here N r.2).bind fun v => if v.1 = 59 then some (r.1, si v.2 49 12 (v.2.1 49 12 + 1)) else some (1, si v.2 49 11 (v.2.1 49 12)) else some (r.1, si r.2 49 12 (r.2.1 49 12 + 1))) else some (3, si M 49 11 (M.1 49 12))) else (f_Mo_takeKind N kd (si M 49 12 (M.1 49 14))).bind (fun r => if r.1 = 0 then (f_Mo_here N r.2).bind fun v => if v.1 = 59 then some (r.1, si v.2 49 12 (v.2.1 49 12 + 1)) else some (1, si v.2 49 11 (v.2.1 49 12)) else some (r.1, si r.2 49 12 (r.2.1 49 12 + 1)))) else
  if M.1 49 17 = 0 then some (1, si M 49 11 (M.1 49 12)) else (if kd = 0 then (if 0 < M.1 49 17 then some (3, si M 49 11 (M.1 49 12)) else if kd = 4 then (if M.1 49 21 ≤ 0 then (f_Mo_takeKind N kd (si M 49 12 (M.1 49 14))).bind (fun r => if r.1 = 0 then (f_Mo_here N r.2).bind fun v => if v.1 = 59 then some (r.1, si v.2 49 12 (v.2.1 49 12 + 1)) else some (1, si v.2 49 11 (v.2.1 49 12)) else some (r.1, si r.2 49 12 (r.2.1 49 12 + 1))) else some (3, si M 49 11 (M.1 49 12))) else (f_Mo_takeKind N kd (si M 49 12 (M.1 49 14))).bind (fun r => if r.1 = 0 then (f_Mo_here N r.2).bind fun v => if v.1 = 59 then some (r.1, si v.2 49 12 (v.2.1 49 12 + 1)) else some (1, si v.2 49 11 (v.2.1 49 12)) else some (r.1, si r.2 49 12 (r.2.1 49 12 + 1)))) else if kd = 4 then (if M.1 49 21 ≤ 0 then (f_Mo_takeKind N kd (si M 49 12 (M.1 49 14))).bind (fun r => if r.1 = 0 then (f_Mo_here N r.2).bind fun v => if v.1 = 59 then some (r.1, si v.2 49 12 (v.2.1 49 12 + 1)) else some (1, si v.2 49 11 (v.2.1 49 12)) else some (r.1, si r.2 49 12 (r.2.1 49 12 + 1))) else some (3, si M 49 11 (M.1 49 12))) else (f_Mo_takeKind N kd (si M 49 12 (M.1 49 14))).bind (fun r => if r.1 = 0 then (f_Mo_here N r.2).bind fun v => if v.1 = 59 then some (r.1, si v.2 49 12 (v.2.1 49 12 + 1)) else some (1, si v.2 49 11 (v.2.1 49 12)) else some (r.1, si r.2 49 12 (r.2.1 49 12 + 1))))
def cdJ : List Int64 := [f_Mo_longer (f_Mo_code 112 101 111 112) 108 101, (((27 : Int64) * (f_Mo_longer (f_Mo_code 102 114 105 101) 110 100)) + 115) - 96, f_Mo_longer (f_Mo_code 98 97 114 114) 101 100, f_Mo_code 109 117 115 116, f_Mo_code 99 111 115 116]
theorem cdJ_I : ∀ j, j < 5 → cdJ.getD j 0 = lN (cdR (kR j)) ∧ okL (kR j) = true ∧ cdR (kR j) ≤ 100000000000000 := by decide +kernel
theorem kd_I {s k j : Nat} {x : Int64} (hj : j < 5) (hl : ∀ i, i < k → 97 ≤ c (s + i) ∧ c (s + i) ≤ 122) (hx : x = lN (rwN c s k)) : lg_cmp x (cdJ.getD j 0) = 0 ↔ isB c s (kR j) k = true := by
  obtain ⟨h1, h2, h3⟩ := cdJ_I j hj
  have hle := rwN_le (c := c) (s := s) (k := k) (fun i hi => (hl i hi).2)
  rw [lgc_eq, hx, h1, ← rw_is (kR j) k h2 h3 hl]
  constructor
  · intro v
    have e := congrArg Int64.toInt v
    rw [pk_lT (by omega), pk_lT (by omega)] at e
    omega
  · intro v; rw [v]
def kdI (wc : Nat) : Int32 := if wc = 0 then -1 else nI (wc - 1)
theorem r_kind {N : Nat} {s k : Nat} {M M' : Mm} (hw : f_Mo_readWord N M = some M') (h13 : M'.2 49 13 = lN (rwN c s k)) (hl : ∀ i, i < k → 97 ≤ c (s + i) ∧ c (s + i) ≤ 122) : f_Mo_takeClause N M = tcT N (kdI (wdC c s k)) M' := by
  have t0 := kd_I (c := c) (j := 0) (by decide) hl h13
  have t1 := kd_I (c := c) (j := 1) (by decide) hl h13
  have t2 := kd_I (c := c) (j := 2) (by decide) hl h13
  have t3 := kd_I (c := c) (j := 3) (by decide) hl h13
  have t4 := kd_I (c := c) (j := 4) (by decide) hl h13
  have hX : f_Mo_takeClause N M = (f_Mo_readWord N M).bind fun vu1 => (fun ju4 : Int32 → Option (Int32 × Mm) => (fun ju2 : Int32 → Option (Int32 × Mm) => if lg_cmp (vu1.2 49 13) (cdJ.getD 0 0) = 0 then ju2 0 else if lg_cmp (vu1.2 49 13) (cdJ.getD 1 0) = 0 then ju2 1 else ju2 (-1)) (fun xu3 => if xu3 < 0 then (if lg_cmp (vu1.2 49 13) (cdJ.getD 2 0) = 0 then ju4 2 else if lg_cmp (vu1.2 49 13) (cdJ.getD 3 0) = 0 then ju4 3 else if lg_cmp (vu1.2 49 13) (cdJ.getD 4 0) = 0 then ju4 4 else ju4 (-1)) else ju4 xu3)) (fun kd => tcT N kd vu1) := rfl
  rw [hX, hw, Option.bind_some]
  dsimp only
  unfold wdC
  by_cases e0 : isB c s (kR 0) k = true
  · rw [if_pos (t0.mpr e0), if_pos e0, if_neg (by decide)]; rfl
  rw [if_neg (fun v => e0 (t0.mp v)), if_neg e0]
  by_cases e1 : isB c s (kR 1) k = true
  · rw [if_pos (t1.mpr e1), if_pos e1, if_neg (by decide)]; rfl
  rw [if_neg (fun v => e1 (t1.mp v)), if_neg e1, if_pos (by decide)]
  by_cases e2 : isB c s (kR 2) k = true
  · rw [if_pos (t2.mpr e2), if_pos e2]; rfl
  rw [if_neg (fun v => e2 (t2.mp v)), if_neg e2]
  by_cases e3 : isB c s (kR 3) k = true
  · rw [if_pos (t3.mpr e3), if_pos e3]; rfl
  rw [if_neg (fun v => e3 (t3.mp v)), if_neg e3]
  by_cases e4 : isB c s (kR 4) k = true
  · rw [if_pos (t4.mpr e4), if_pos e4]; rfl
  · rw [if_neg (fun v => e4 (t4.mp v)), if_neg e4]; rfl
end CM2
