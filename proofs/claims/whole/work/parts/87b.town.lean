/-! PURE 69: town() -/
def rs0 (M : Mm) : Mm := si (si (si (si (si (si (si M 49 11 (-1)) 49 12 0) 49 17 0) 49 18 0) 49 19 0) 49 20 0) 49 21 0
theorem rs0_off {M : Mm} {x j : Nat} (h : ¬ (x = 49 ∧ 11 ≤ j ∧ j ≤ 22)) : (rs0 M).1 x j = M.1 x j := by
  unfold rs0
  rw [si1, if_neg (fun v => h (by omega)), si1, if_neg (fun v => h (by omega)), si1, if_neg (fun v => h (by omega)), si1, if_neg (fun v => h (by omega)), si1, if_neg (fun v => h (by omega)), si1, if_neg (fun v => h (by omega)), si1, if_neg (fun v => h (by omega))]
theorem rs0_RS {c : Nat → Nat} {len : Nat} {M : Mm} (hX : RX c len M) : RS c len 0 0 0 0 0 1 1 false (rs0 M) := by
  refine ⟨hX.ag (rs0_off (by decide)) (fun _ => rs0_off (by omega)), rfl, rfl, rfl, rfl, rfl, rfl, (fun z => absurd z (by decide)), fun _ => rfl⟩
/-- the reference's end of town() -/
def twE (N : Nat) (x : Int32) (M : Mm) : Option (Int32 × Mm) := if x ≤ 0 then (fun Mu16 : Mm => (fun Mu22 : Mm => (f_Mo_tellCounts N Mu22).bind fun vu23 => some ((si (si (si vu23 49 33 0) 63 0 0) 63 1 0).1 49 0, si (si (si vu23 49 33 0) 63 0 0) 63 1 0)) (si (si Mu16 49 4 (if Mu16.1 49 21 ≤ 0 then 1 else Mu16.1 49 21)) 49 5 (if Mu16.1 49 21 ≤ 0 then 1 else Mu16.1 49 22))) (si (si (si (si (si M 49 10 0) 49 0 (M.1 49 17)) 49 1 (M.1 49 18)) 49 2 (M.1 49 19)) 49 3 (M.1 49 20)) else some (((-10) : Int32) - x, si M 49 10 0)
theorem twE_I {N : Nat} {x : Int32} {M R : Mm} (h : ∀ ju : Int32 → Mm → Option (Int32 × Mm), L_Mo_town_37 N ju N 0 (rs0 M) = ju x R) : f_Mo_town N M = twE N x R := by
  unfold f_Mo_town
  dsimp only [lt]
  refine (h _).trans ?_
  unfold twE
  by_cases z : x ≤ 0
  · rw [if_pos z, if_pos z]
    dsimp only
    by_cases q : R.1 49 21 ≤ 0
    · rw [if_pos (show (si (si (si (si (si R 49 10 0) 49 0 (R.1 49 17)) 49 1 (R.1 49 18)) 49 2 (R.1 49 19)) 49 3 (R.1 49 20)).1 49 21 ≤ 0 from q)]
      refine (if_pos (show R.1 49 21 ≤ 0 from q)).trans ?_
      refine (if_pos (show R.1 49 21 ≤ 0 from q)).trans ?_
      rw [if_pos (show (si (si (si (si (si R 49 10 0) 49 0 (R.1 49 17)) 49 1 (R.1 49 18)) 49 2 (R.1 49 19)) 49 3 (R.1 49 20)).1 49 21 ≤ 0 from q)]
      rfl
    · rw [if_neg (show ¬ (si (si (si (si (si R 49 10 0) 49 0 (R.1 49 17)) 49 1 (R.1 49 18)) 49 2 (R.1 49 19)) 49 3 (R.1 49 20)).1 49 21 ≤ 0 from q)]
      refine (if_neg (show ¬ R.1 49 21 ≤ 0 from q)).trans ?_
      refine (if_neg (show ¬ R.1 49 21 ≤ 0 from q)).trans ?_
      rw [if_neg (show ¬ (si (si (si (si (si R 49 10 0) 49 0 (R.1 49 17)) 49 1 (R.1 49 18)) 49 2 (R.1 49 19)) 49 3 (R.1 49 20)).1 49 21 ≤ 0 from q)]
      rfl
  · rw [if_neg z, if_neg z]
theorem q_town {M : Mm} (h : Rel M) : ∃ (r : Int32) (M1 M2 : Mm), (∀ N, 401 < N → f_Uc_town N M = some (r, M1) ∧ f_Mo_town N M1 = some (r, M2)) ∧ Rel M2 := by
  obtain ⟨n, t, b, m, mk, dr, sd, hT, hC, hM, hS, ⟨len, l1, l2, l3, l4⟩, hF, hB, ⟨hI0, hI1⟩, hW⟩ := h
  have hc : ∀ i, i < len → (M.1 52 i).toNatClampNeg < 256 ∧ M.1 52 i = nI (M.1 52 i).toNatClampNeg ∧ M.1 12 i = sbI (M.1 52 i).toNatClampNeg := fun i hi => by
    obtain ⟨x, x1, x2, x3⟩ := l4 i hi
    rw [x2, ix_nI (by omega)]
    exact ⟨x1, rfl, x3⟩
  have hCX : CX (fun i => (M.1 52 i).toNatClampNeg) len M := ⟨l1, l2, fun i hi => ⟨(hc i hi).1, (hc i hi).2.2⟩⟩
  have hRX : RX (fun i => (M.1 52 i).toNatClampNeg) len M := ⟨l1, l3, fun i hi => ⟨(hc i hi).1, (hc i hi).2.1⟩⟩
  generalize (fun i => (M.1 52 i).toNatClampNeg) = c at hCX hRX
  obtain ⟨M0, z1, z2, z3⟩ := cread hCX
  rcases loop_all len 0 0 0 0 0 1 1 false (by omega) (Nat.zero_le len) DOK0 with ⟨kd, pl, k1, k2, k3, hc, hr⟩ | ⟨n2, t2, b2, m2, mk2, dr2, k2, hD, hc, hr⟩
  · obtain ⟨Mc, x1, x2, x3⟩ := hc M0 z1
    have f1 : ∀ x j, ¬ (x = 11 ∧ 2 ≤ j ∧ j ≤ 6) → ¬ (13 ≤ x ∧ x ≤ 17) → (si Mc 11 2 0).1 x j = M.1 x j := fun x j q1 q2 => by
      rw [si1, if_neg (fun v => q1 (by omega)), x3 x j (by omega) q2, z2 x j (by omega) q2]
    have hRX1 : RX c len (si Mc 11 2 0) := hRX.ag (f1 _ _ (by omega) (by omega)) (fun _ => f1 _ _ (by omega) (by omega))
    obtain ⟨Mr, y1, y2, y3⟩ := hr (rs0 (si Mc 11 2 0)) (rs0_RS hRX1)
    have f2 : ∀ x j, ¬ (x = 49 ∧ 10 ≤ j ∧ j ≤ 22) → (si Mr 49 10 0).1 x j = (si Mc 11 2 0).1 x j := fun x j q => by
      rw [si1, if_neg (fun v => q (by omega)), y3 x j (by omega), rs0_off (by omega)]
    have f3 : ∀ x j, ¬ (x = 11 ∧ 2 ≤ j ∧ j ≤ 6) → ¬ (13 ≤ x ∧ x ≤ 17) → ¬ (x = 49 ∧ 10 ≤ j ∧ j ≤ 22) → (si Mr 49 10 0).1 x j = M.1 x j := fun x j q1 q2 q3 => (f2 x j q3).trans (f1 x j q1 q2)
    have hk : (si Mc 11 2 0).1 11 5 = nI kd := by rw [si_k _ _ (by decide)]; exact x2.1
    refine ⟨-10 - nI kd, si Mc 11 2 0, si Mr 49 10 0, fun N hN => ⟨?_, ?_⟩, ?_⟩
    · unfold f_Uc_town f_Te_faultKind
      rw [z3 N Mc hN (fun ju => x1 N N 0 ju hN (by omega) (Nat.zero_le _)), Option.bind_some, hk, if_neg (kz (by omega) rfl (by omega))]
    · rw [twE_I (fun ju => y1 N N ju hN (by omega))]
      unfold twE
      rw [if_neg (kp (by omega) (by omega))]
    · obtain ⟨s, s1, s2, s3⟩ := hS
      refine ⟨n, t, b, m, mk, dr, sd, hT, hC.ag ?_, hM.ag ?_, ⟨s, s1, (f3 _ _ (by omega) (by omega) (by omega)).trans s2, (f3 _ _ (by omega) (by omega) (by omega)).trans s3⟩, ⟨0, by decide, ?_, si_s _ _ _ _, fun i hi => absurd hi (by omega)⟩, ?_, hB.ag ?_, ⟨hI0.ag ?_, hI1.ag ?_⟩, hW.ag ?_⟩
      · intro x j u
        simp only [uCT, Bool.and_eq_true, decide_eq_true_eq] at u
        exact f3 x j (by omega) (by omega) (by omega)
      · intro x j u
        simp only [uMT, Bool.or_eq_true, Bool.and_eq_true, beq_iff_eq, decide_eq_true_eq] at u
        exact f3 x j (by omega) (by omega) (by omega)
      · rw [f2 _ _ (by omega), si_s]; rfl
      · rw [f2 _ _ (by omega), si_k _ _ (by decide), si_k _ _ (by decide), y2]; exact x2.2
      · intro x j u
        simp only [uBk, Bool.or_eq_true, Bool.and_eq_true, beq_iff_eq, decide_eq_true_eq] at u
        exact f3 x j (by omega) (by omega) (by omega)
      · intro x j u
        simp only [uIm, Bool.or_eq_true, Bool.and_eq_true, beq_iff_eq, decide_eq_true_eq] at u
        exact f3 x j (by omega) (by omega) (by omega)
      · intro x j u
        simp only [uIm, Bool.or_eq_true, Bool.and_eq_true, beq_iff_eq, decide_eq_true_eq] at u
        exact f3 x j (by omega) (by omega) (by omega)
      · intro x j u
        simp only [uWy, Bool.or_eq_true, Bool.and_eq_true, beq_iff_eq, decide_eq_true_eq] at u
        exact f3 x j (by omega) (by omega) (by omega)
  · obtain ⟨Mc, x1, x2, x3⟩ := hc M0 z1
    have hn := hD.1.1
    have f1 : ∀ x j, ¬ (x = 11 ∧ 2 ≤ j ∧ j ≤ 6) → ¬ (13 ≤ x ∧ x ≤ 17) → (si Mc 11 2 0).1 x j = M.1 x j := fun x j q1 q2 => by
      rw [si1, if_neg (fun v => q1 (by omega)), x3 x j (by omega) q2, z2 x j (by omega) q2]
    have hCT : CT (si Mc 11 2 0) 13 n2 t2 b2 m2 mk2 dr2 (fun _ => 0) := x2.2.2.2.2.2.ax (fun x j q1 q2 => si_a _ _ (by omega))
    have hCP := cp_CT (a := 1) hCT
    have hsay := say_I (M := cpK 1 13 8 (si Mc 11 2 0)) hn hCP.1 (fun p hp => (hCP.2.2.2 p hp).1)
    have f1b : ∀ x j, ¬ (x = 11 ∧ 2 ≤ j ∧ j ≤ 6) → ¬ (13 ≤ x ∧ x ≤ 17) → ¬ (1 ≤ x ∧ x ≤ 5) → ¬ (x = 33 ∧ j = 3) → ¬ (x = 37 ∧ j = 2) → ¬ (x = 43 ∧ j = 2) → (si (si (si (scK 1 n2 t2 n2 (cpK 1 13 8 (si Mc 11 2 0))) 33 3 0) 37 2 0) 43 2 0).1 x j = M.1 x j := fun x j q1 q2 q3 q4 q5 q6 => by
      rw [si1, if_neg q6, si1, if_neg q5, si1, if_neg q4, sc_off (by omega), cp_off (by omega), f1 x j q1 q2]
    have f1c : ∀ x j, 1 ≤ x → x ≤ 4 → (si (si (si (scK 1 n2 t2 n2 (cpK 1 13 8 (si Mc 11 2 0))) 33 3 0) 37 2 0) 43 2 0).1 x j = (cpK 1 13 8 (si Mc 11 2 0)).1 x j := fun x j q1 q2 => by
      rw [si_a _ _ (by omega), si_a _ _ (by omega), si_a _ _ (by omega), sc_off (by omega)]
    have hX1 : ∃ X1, X1 = si (si (si (scK 1 n2 t2 n2 (cpK 1 13 8 (si Mc 11 2 0))) 33 3 0) 37 2 0) 43 2 0 := ⟨_, rfl⟩
    obtain ⟨X1, eX⟩ := hX1
    rw [← eX] at f1b f1c
    have hCT1 : CT X1 1 n2 t2 b2 m2 mk2 dr2 (dgS n2 t2) := by
      refine ⟨(f1c _ _ (by omega) (by omega)).trans hCP.1, (f1c _ _ (by omega) (by omega)).trans hCP.2.1, (f1c _ _ (by omega) (by omega)).trans hCP.2.2.1, fun p hp => ⟨(f1c _ _ (by omega) (by omega)).trans (hCP.2.2.2 p hp).1, (f1c _ _ (by omega) (by omega)).trans (hCP.2.2.2 p hp).2.1, (f1c _ _ (by omega) (by omega)).trans (hCP.2.2.2 p hp).2.2.1, ?_⟩⟩
      rw [eX, si_a _ _ (by omega), si_a _ _ (by omega), si_a _ _ (by omega)]
      exact sc_at (sd := fun _ => 0) (hCP.2.2.2 p hp).2.2.2 (fun _ => rfl)
    have hRX1 : RX c len X1 := hRX.ag (f1b _ _ (by omega) (by omega) (by omega) (by omega) (by omega) (by omega)) (fun _ => f1b _ _ (by omega) (by omega) (by omega) (by omega) (by omega) (by omega))
    obtain ⟨Mr, y1, y2, y3⟩ := hr (rs0 X1) (rs0_RS hRX1)
    obtain ⟨a1, a2, a3, a4, a5, a6, a7, a8, a9⟩ := y2
    have hmd := hD.1.2.2.2.2.2.2
    have e4 : (if Mr.1 49 21 ≤ 0 then (1 : Int32) else Mr.1 49 21) = nI mk2 ∧ (if Mr.1 49 21 ≤ 0 then (1 : Int32) else Mr.1 49 22) = nI dr2 := by
      cases k2 with
      | true =>
        rw [(a8 rfl).1, (a8 rfl).2, if_neg (show ¬ nI mk2 ≤ 0 from nI_ge (a := 0) (by omega) (by omega)), if_neg (show ¬ nI mk2 ≤ 0 from nI_ge (a := 0) (by omega) (by omega))]
        exact ⟨rfl, rfl⟩
      | false =>
        rw [a9 rfl, if_pos (by decide), if_pos (by decide), (hD.2 rfl).1, (hD.2 rfl).2]
        exact ⟨rfl, rfl⟩
    have hQ : ∃ Q, Q = si (si (si (si (si (si (si Mr 49 10 0) 49 0 (nI n2)) 49 1 (nI t2)) 49 2 (nI b2)) 49 3 (nI m2)) 49 4 (nI mk2)) 49 5 (nI dr2) := ⟨_, rfl⟩
    obtain ⟨Q, eQ⟩ := hQ
    have q0 : Q.1 49 0 = nI n2 := by rw [eQ]; rfl
    have q1 : Q.1 49 1 = nI t2 := by rw [eQ]; rfl
    have q2 : Q.1 49 2 = nI b2 := by rw [eQ]; rfl
    have q3 : Q.1 49 3 = nI m2 := by rw [eQ]; rfl
    have q4 : Q.1 49 4 = nI mk2 := by rw [eQ]; rfl
    have q5 : Q.1 49 5 = nI dr2 := by rw [eQ]; rfl
    have q10 : Q.1 49 10 = 0 := by rw [eQ]; rfl
    have q11 : Q.1 49 11 = -1 := by rw [eQ]; exact a3
    have qo : ∀ x j, ¬ (x = 49 ∧ (j ≤ 5 ∨ (10 ≤ j ∧ j ≤ 22))) → Q.1 x j = X1.1 x j := fun x j q => by
      rw [eQ, si1, if_neg (fun v => q (by omega)), si1, if_neg (fun v => q (by omega)), si1, if_neg (fun v => q (by omega)), si1, if_neg (fun v => q (by omega)), si1, if_neg (fun v => q (by omega)), si1, if_neg (fun v => q (by omega)), si1, if_neg (fun v => q (by omega)), y3 x j (by omega), rs0_off (by omega)]
    have ht31 := np_lt31 hn hD.1.2.1
    have g0 : ∀ x j, x ≠ 50 → ¬ (x = 49 ∧ j = 33) → ¬ (x = 63 ∧ j < 2) → (si (si (si (tcK n2 t2 8 Q) 49 33 0) 63 0 0) 63 1 0).1 x j = Q.1 x j := fun x j u1 u2 u3 => by
      rw [si1, if_neg (fun v => u3 (by omega)), si1, if_neg (fun v => u3 (by omega)), si1, if_neg u2, tc_off u1]
    have f4 : ∀ x j, ¬ (x = 11 ∧ 2 ≤ j ∧ j ≤ 6) → ¬ (13 ≤ x ∧ x ≤ 17) → ¬ (1 ≤ x ∧ x ≤ 5) → ¬ (33 ≤ x ∧ x ≤ 48) → x ≠ 50 → ¬ (59 ≤ x) → ¬ (x = 49 ∧ (j ≤ 5 ∨ (10 ≤ j ∧ j ≤ 22) ∨ j = 33)) → (si (si (si (tcK n2 t2 8 Q) 49 33 0) 63 0 0) 63 1 0).1 x j = M.1 x j := fun x j u1 u2 u3 u4 u5 u6 u7 => by
      rw [g0 x j u5 (by omega) (by omega), qo x j (by omega), f1b x j u1 u2 u3 (by omega) (by omega) (by omega)]
    refine ⟨nI n2, X1, si (si (si (tcK n2 t2 8 Q) 49 33 0) 63 0 0) 63 1 0, fun N hN => ⟨?_, ?_⟩, ?_⟩
    · unfold f_Uc_town f_Te_faultKind
      rw [z3 N Mc hN (fun ju => x1 N N 0 ju hN (by omega) (Nat.zero_le _)), Option.bind_some, if_pos (show (si Mc 11 2 0).1 11 5 = 0 by rw [si_k _ _ (by decide)]; exact x2.2.2.2.1), copy_I (by omega) (by omega), Option.bind_some, hsay N (by omega), Option.bind_some]
      dsimp only [lt, f_Bk_empty]
      rw [← eX, hCT1.1]
    · rw [twE_I (fun ju => y1 N N ju hN (by omega))]
      unfold twE
      rw [if_pos (by decide)]
      dsimp only
      rw [a4, a5, a6, a7]
      have e21 : (si (si (si (si (si Mr 49 10 0) 49 0 (nI n2)) 49 1 (nI t2)) 49 2 (nI b2)) 49 3 (nI m2)).1 49 21 = Mr.1 49 21 := rfl
      have e22 : (si (si (si (si (si Mr 49 10 0) 49 0 (nI n2)) 49 1 (nI t2)) 49 2 (nI b2)) 49 3 (nI m2)).1 49 22 = Mr.1 49 22 := rfl
      rw [e21, e22, e4.1, e4.2, ← eQ, tc_I hn ht31 q0 q1 N (by omega), Option.bind_some, g0 _ _ (by decide) (by decide) (by decide), q0]
    · obtain ⟨s, s1, s2, s3⟩ := hS
      refine ⟨n2, t2, b2, m2, mk2, dr2, dgS n2 t2, ?_, hCT1.ax ?_, ⟨?_, ?_, ?_, ?_, ?_, ?_, ?_⟩, ⟨s, s1, (f4 _ _ (by omega) (by omega) (by omega) (by omega) (by omega) (by omega) (by omega)).trans s2, (f4 _ _ (by omega) (by omega) (by omega) (by omega) (by omega) (by omega) (by omega)).trans s3⟩, ⟨0, by decide, ?_, ?_, fun i hi => absurd hi (by omega)⟩, ?_, ⟨0, by decide, ?_, ?_, fun i hi => absurd hi (by omega)⟩, ⟨Or.inl ⟨?_, ?_⟩, Or.inl ⟨?_, ?_⟩⟩, hW.ag ?_⟩
      · obtain ⟨d1, d2, d3, d4, d5, d6, d7, d8, d9, d10, d11⟩ := hD.1
        exact ⟨d1, d2, d3, d4, d5, d6, d7, d8, d9, d10, fun p => dgS_ok hn p⟩
      · intro x j u1 u2
        rw [g0 x j (by omega) (by omega) (by omega), qo x j (by omega)]
      · rw [g0 _ _ (by decide) (by decide) (by decide), q0]
      · rw [g0 _ _ (by decide) (by decide) (by decide), q1]
      · rw [g0 _ _ (by decide) (by decide) (by decide), q2]
      · rw [g0 _ _ (by decide) (by decide) (by decide), q3]
      · rw [g0 _ _ (by decide) (by decide) (by decide), q4]
      · rw [g0 _ _ (by decide) (by decide) (by decide), q5]
      · intro p hp
        rw [si_a _ _ (by decide), si_a _ _ (by decide), si_a _ _ (by decide)]
        exact if_pos ⟨rfl, hp⟩
      · rw [g0 _ _ (by decide) (by decide) (by decide), qo _ _ (by omega), eX, si_a _ _ (by decide), si_a _ _ (by decide), si_a _ _ (by decide), sc_off (by decide), cp_off (by decide), si_s]; rfl
      · rw [g0 _ _ (by decide) (by decide) (by decide), q10]; rfl
      · rw [g0 _ _ (by decide) (by decide) (by decide), g0 _ _ (by decide) (by decide) (by decide), q11, qo _ _ (by omega), eX, si_a _ _ (by decide), si_a _ _ (by decide), si_a _ _ (by decide), sc_off (by decide), cp_off (by decide), si_k _ _ (by decide)]
        exact x2.2.2.2.2.1
      · rw [g0 _ _ (by decide) (by decide) (by decide), qo _ _ (by omega), eX, si_a _ _ (by decide), si_a _ _ (by decide), si_s]; rfl
      · rw [si_a _ _ (by decide), si_a _ _ (by decide), si_s]; rfl
      · rw [g0 _ _ (by decide) (by decide) (by decide), qo _ _ (by omega), eX, si_a _ _ (by decide), si_s]
      · rw [si_k _ _ (by decide), si_s]
      · rw [g0 _ _ (by decide) (by decide) (by decide), qo _ _ (by omega), eX, si_s]
      · rw [si_s]
      · intro x j u
        simp only [uWy, Bool.or_eq_true, Bool.and_eq_true, beq_iff_eq, decide_eq_true_eq] at u
        exact f4 x j (by omega) (by omega) (by omega) (by omega) (by omega) (by omega) (by omega)
