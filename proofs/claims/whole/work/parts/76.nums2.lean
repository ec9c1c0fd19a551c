/-! PURE 57: a number of the text, by both readers -/
section NM
variable {c : Nat → Nat} {len : Nat}
def nmE (c : Nat → Nat) (len i : Nat) : Nat := scF (dgB c) (len - skp c len i) (skp c len i)
def nmV (c : Nat → Nat) (len i : Nat) : Nat := cvN c (skp c len i) (nmE c len i - skp c len i)
def nmK (c : Nat → Nat) (len lo hi i : Nat) : Nat := if nmE c len i = skp c len i then 1 else if 3 < nmE c len i - skp c len i ∨ nmV c len i < lo ∨ hi < nmV c len i then 2 else 0
def cnuM (c : Nat → Nat) (len lo hi i : Nat) (M : Mm) : Mm := if nmK c len lo hi i = 0 then si M 11 3 (nI (nmE c len i)) else si (si (si M 11 3 (nI (nmE c len i))) 11 5 (nI (nmK c len lo hi i))) 11 6 (nI (skp c len i))
theorem nmE_le {i : Nat} (hi : i ≤ len) : skp c len i ≤ nmE c len i ∧ nmE c len i ≤ len := by
  have h1 := skp_le (c := c) hi
  have := sc_le (P := dgB c) (d := len - skp c len i) (i := skp c len i)
  unfold nmE
  omega
theorem nm_dg {i : Nat} : ∀ j, j < nmE c len i - skp c len i → c (skp c len i + j) ≤ 57 := fun j hj => by
  have h1 := sc_in (P := dgB c) (d := len - skp c len i) (i := skp c len i) (skp c len i + j) (by omega) (by unfold nmE at hj; omega)
  unfold dgB at h1
  have := of_decide_eq_true h1
  omega
theorem nmV_lt {i : Nat} : nmV c len i < 1000 := (cv_le (c := c) nm_dg).2
theorem cnum {N i lo hi : Nat} {M : Mm} (hN : 401 < N) (hi' : i ≤ len) (hlo : lo < 100) (hhi : hi < 100) (hX : CX c len M) (h3 : M.1 11 3 = nI i) : f_Te_readNumber N (nI lo) (nI hi) M = some (nI (nmV c len i), cnuM c len lo hi i M) := by
  unfold f_Te_readNumber
  rw [csk_I hN hi' hX h3, Option.bind_some]
  dsimp only [lt, f_Te_blame]
  have hl := hX.1
  have hs := skp_le (c := c) hi'
  have he := nmE_le (c := c) hi'
  have hv := nmV_lt (c := c) (len := len) (i := i)
  rw [si_s]
  refine (cnm N (s := skp c len i) _ (len - skp c len i) 0 N (si M 11 3 (nI (skp c len i))) (by omega) (by omega) (fun j hj => absurd hj (by omega)) (hX.ag (si_k _ _ (by decide)) (fun _ => si_a _ _ (by decide))) (si_s _ _ _ _)).trans ?_
  rw [si_si, Nat.add_zero, show scF (dgB c) (len - skp c len i) (skp c len i) = nmE c len i from rfl, show cvN c (skp c len i) (nmE c len i - skp c len i) = nmV c len i from rfl, si_s]
  unfold cnuM nmK
  by_cases z : nmE c len i = skp c len i
  · rw [if_pos (show nI (nmE c len i) = nI (skp c len i) by rw [z]), if_pos z, if_neg (by decide)]; rfl
  · rw [if_neg (fun v => z ((nI_eq (by omega) (by omega)).mp v)), if_neg z, pk_sub (by omega)]
    by_cases z1 : 3 < nmE c len i - skp c len i
    · rw [if_pos (show (3 : Int32) < nI (nmE c len i - skp c len i) from nI_lt (a := 3) z1 (by omega)), if_pos (Or.inl z1), if_neg (by decide)]; rfl
    · rw [if_neg (show ¬ (3 : Int32) < nI (nmE c len i - skp c len i) from nI_nlt (a := 3) (by omega) (by decide))]
      by_cases z2 : nmV c len i < lo
      · rw [if_pos (nI_lt z2 (by omega)), if_pos (Or.inr (Or.inl z2)), if_neg (by decide)]; rfl
      · rw [if_neg (nI_nlt (by omega) (by omega))]
        by_cases z4 : nmV c len i ≤ hi
        · rw [if_pos (nI_le z4 (by omega)), if_neg (show ¬ (3 < nmE c len i - skp c len i ∨ nmV c len i < lo ∨ hi < nmV c len i) by omega), if_pos rfl]
        · rw [if_neg (nI_ge (by omega) (by omega)), if_pos (Or.inr (Or.inr (by omega))), if_neg (by decide)]; rfl
theorem rnum {i lo hi : Nat} {M : Mm} (hi' : i ≤ len) (hlo : lo < 100) (hhi : hi < 100) (hX : RX c len M) (h3 : M.1 49 12 = nI i) : ∃ M', (∀ N, 401 < N → f_Mo_takeNumber N (nI lo) (nI hi) M = some (nI (nmK c len lo hi i), M')) ∧ (∀ b j, ¬ (b = 49 ∧ (j = 11 ∨ j = 12 ∨ j = 15 ∨ j = 16)) → M'.1 b j = M.1 b j) ∧ (nmK c len lo hi i = 0 → M'.1 49 15 = nI (nmV c len i) ∧ M'.1 49 16 = nI (skp c len i) ∧ M'.1 49 12 = nI (nmE c len i) ∧ M'.1 49 11 = M.1 49 11) ∧ (nmK c len lo hi i ≠ 0 → M'.1 49 11 = nI (skp c len i)) := by
  have hl := hX.1
  have hs := skp_le (c := c) hi'
  have he := nmE_le (c := c) hi'
  have hv := nmV_lt (c := c) (len := len) (i := i)
  by_cases z : nmE c len i = skp c len i
  · have hk : nmK c len lo hi i = 1 := if_pos z
    refine ⟨si (si M 49 12 (nI (skp c len i))) 49 11 (nI (skp c len i)), fun N hN => ?_, fun b j h => ?_, fun h => absurd h (by omega), fun _ => si_s _ _ _ _⟩
    · unfold f_Mo_takeNumber
      rw [rhere hN hi' hX h3, Option.bind_some]
      dsimp only [lt, f_Mo_fails]
      rw [hk, show (48 : Int64) = (48 : Int32).toInt64 from rfl, show (57 : Int64) = (57 : Int32).toInt64 from rfl, in_if, si_s]
      unfold hrV
      by_cases q : skp c len i < len
      · rw [if_pos q]
        have hd : dgB c (skp c len i) = false := by
          have := sc_out (P := dgB c) (d := len - skp c len i) (i := skp c len i) (by unfold nmE at z; omega)
          unfold nmE at z
          rw [z] at this; exact this
        unfold dgB at hd
        have hd := of_decide_eq_false hd
        have hc := (hX.2.2 _ q).1
        by_cases q1 : c (skp c len i) < 48
        · rw [if_pos (show nI (c (skp c len i)) < 48 from nI_lt (b := 48) q1 (by decide))]; rfl
        · rw [if_neg (show ¬ nI (c (skp c len i)) < 48 from nI_nlt (b := 48) (by omega) (by omega)), if_pos (show (57 : Int32) < nI (c (skp c len i)) from nI_lt (a := 57) (by omega) (by omega))]; rfl
      · rw [if_neg q, if_pos (by decide)]; rfl
    · rw [si1, if_neg (fun v => h ⟨v.1, Or.inl v.2⟩), si1, if_neg (fun v => h ⟨v.1, Or.inr (Or.inl v.2)⟩)]
  · have q : skp c len i < len := by omega
    have hd := sc_in (P := dgB c) (d := len - skp c len i) (i := skp c len i) (skp c len i) (Nat.le_refl _) (by unfold nmE at z he; omega)
    unfold dgB at hd
    have hd := of_decide_eq_true hd
    have hrun : ∀ N, 401 < N → f_Mo_takeNumber N (nI lo) (nI hi) M = (fun Mu8 : Mm => if (3 : Int32) < nI (nmE c len i) - nI (skp c len i) then some ((2 : Int32), si Mu8 49 11 (nI (skp c len i))) else if f_Mo_in (nI (rvN c (skp c len i) (nmE c len i - skp c len i))).toInt64 (nI lo).toInt64 (nI hi).toInt64 = 0 then some ((2 : Int32), si Mu8 49 11 (nI (skp c len i))) else some (0, Mu8)) (si (si (si (si (si M 49 12 (nI (skp c len i))) 49 16 (nI (skp c len i))) 49 15 0) 49 15 (nI (rvN c (skp c len i) (nmE c len i - skp c len i)))) 49 12 (nI (nmE c len i))) := fun N hN => by
      unfold f_Mo_takeNumber
      rw [rhere hN hi' hX h3, Option.bind_some]
      dsimp only [lt, f_Mo_fails]
      rw [show (48 : Int64) = (48 : Int32).toInt64 from rfl, show (57 : Int64) = (57 : Int32).toInt64 from rfl, in_if, si_s]
      unfold hrV
      rw [if_pos q, if_neg (show ¬ nI (c (skp c len i)) < 48 from nI_nlt (b := 48) (by omega) (by omega)), if_neg (show ¬ (57 : Int32) < nI (c (skp c len i)) from nI_nlt (a := 57) (by omega) (by decide))]
      refine (rnm N (s := skp c len i) _ (len - skp c len i) 0 N (si (si (si M 49 12 (nI (skp c len i))) 49 16 (nI (skp c len i))) 49 15 0) (by omega) (by omega) (fun j hj => absurd hj (by omega)) (hX.ag (by rw [si_k _ _ (by decide), si_k _ _ (by decide), si_k _ _ (by decide)]) (fun _ => by rw [si_a _ _ (by decide), si_a _ _ (by decide), si_a _ _ (by decide)])) (by rw [si_k _ _ (by decide), si_k _ _ (by decide), si_s]; rfl) (by rw [si_s]; rfl)).trans ?_
      rw [Nat.add_zero, show scF (dgB c) (len - skp c len i) (skp c len i) = nmE c len i from rfl, si_s, si_k _ _ (by decide), si_k _ _ (by decide), si_k _ _ (by decide), si_s, si_k _ _ (by decide), si_s]
    have hoff : ∀ b j, ¬ (b = 49 ∧ (j = 11 ∨ j = 12 ∨ j = 15 ∨ j = 16)) → (si (si (si (si (si M 49 12 (nI (skp c len i))) 49 16 (nI (skp c len i))) 49 15 0) 49 15 (nI (rvN c (skp c len i) (nmE c len i - skp c len i)))) 49 12 (nI (nmE c len i))).1 b j = M.1 b j := fun b j h => by
      rw [si1, if_neg (fun v => h ⟨v.1, by omega⟩), si1, if_neg (fun v => h ⟨v.1, by omega⟩), si1, if_neg (fun v => h ⟨v.1, by omega⟩), si1, if_neg (fun v => h ⟨v.1, by omega⟩), si1, if_neg (fun v => h ⟨v.1, by omega⟩)]
    by_cases g : nmK c len lo hi i = 0
    · have g1 : ¬ (3 < nmE c len i - skp c len i ∨ nmV c len i < lo ∨ hi < nmV c len i) := fun v => by
        unfold nmK at g; rw [if_neg z, if_pos v] at g; omega
      have erv : rvN c (skp c len i) (nmE c len i - skp c len i) = nmV c len i := rv_cv (by omega) nm_dg
      refine ⟨_, fun N hN => ?_, hoff, fun _ => ⟨?_, ?_, si_s _ _ _ _, ?_⟩, fun h => absurd g h⟩
      · rw [hrun N hN, g]
        dsimp only
        rw [pk_sub (by omega), if_neg (show ¬ (3 : Int32) < nI (nmE c len i - skp c len i) from nI_nlt (a := 3) (by omega) (by decide)), in_if, erv, if_neg (nI_nlt (by omega) (by omega)), if_neg (nI_nlt (by omega) (by omega))]
        rfl
      · rw [si_k _ _ (by decide), si_s, erv]
      · rw [si_k _ _ (by decide), si_k _ _ (by decide), si_k _ _ (by decide), si_s]
      · rw [si_k _ _ (by decide), si_k _ _ (by decide), si_k _ _ (by decide), si_k _ _ (by decide), si_k _ _ (by decide)]
    · have g1 : 3 < nmE c len i - skp c len i ∨ nmV c len i < lo ∨ hi < nmV c len i := by
        by_cases v : 3 < nmE c len i - skp c len i ∨ nmV c len i < lo ∨ hi < nmV c len i
        · exact v
        · exact absurd (show nmK c len lo hi i = 0 by unfold nmK; rw [if_neg z, if_neg v]) g
      have g2 : nmK c len lo hi i = 2 := by unfold nmK; rw [if_neg z, if_pos g1]
      refine ⟨si (si (si (si (si (si M 49 12 (nI (skp c len i))) 49 16 (nI (skp c len i))) 49 15 0) 49 15 (nI (rvN c (skp c len i) (nmE c len i - skp c len i)))) 49 12 (nI (nmE c len i))) 49 11 (nI (skp c len i)), fun N hN => (hrun N hN).trans ?_, fun b j h => ?_, fun h => absurd h g, fun _ => si_s _ _ _ _⟩
      · dsimp only
        rw [pk_sub (by omega), g2]
        by_cases z1 : 3 < nmE c len i - skp c len i
        · rw [if_pos (show (3 : Int32) < nI (nmE c len i - skp c len i) from nI_lt (a := 3) z1 (by omega))]; rfl
        · have erv : rvN c (skp c len i) (nmE c len i - skp c len i) = nmV c len i := rv_cv (by omega) nm_dg
          rw [if_neg (show ¬ (3 : Int32) < nI (nmE c len i - skp c len i) from nI_nlt (a := 3) (by omega) (by decide)), in_if, erv]
          by_cases z2 : nmV c len i < lo
          · rw [if_pos (nI_lt z2 (by omega))]; rfl
          · rw [if_neg (nI_nlt (by omega) (by omega)), if_pos (nI_lt (by omega) (by omega))]; rfl
      · rw [si1, if_neg (fun v => h ⟨v.1, Or.inl v.2⟩)]
        exact hoff b j h
end NM
