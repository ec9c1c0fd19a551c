/-! PURE 28b: sorts, the numbers of the reference, all -/
theorem tp_ad {n o v a b c d e j : Nat} (hj : j < 5) : tp (a + ad1 n o v 0) (b + ad1 n o v 1) (c + ad1 n o v 2) (d + ad1 n o v 3) (e + ad1 n o v 4) j = tp a b c d e j + ad1 n o v j := by
  rcases (show j = 0 ∨ j = 1 ∨ j = 2 ∨ j = 3 ∨ j = 4 by omega) with rfl | rfl | rfl | rfl | rfl <;> rfl
theorem stE_ok {n : Nat} (hn : n < 6) : ∀ (K o a b c d e : Nat), stE n K o a b c d e = ctb (fun x => unl (fun j => tp a b c d e j + sX n K o x j) n) (3 ^ K)
  | 0, o, a, b, c, d, e => by
    rw [stE, Nat.pow_zero, ctb, ctb, Nat.zero_add]
    unfold b1
    rw [unl_cong (s := fun j => tp a b c d e j + sX n 0 o 0 j) (s' := tp a b c d e) (fun j _ => rfl)]
  | K + 1, o, a, b, c, d, e => by
    rw [stE, stE_ok hn K, stE_ok hn K, stE_ok hn K, Nat.pow_succ, Nat.mul_comm, ctb3]
    congr 1
    · congr 1
      · refine ctb_cong (fun x _ => unl_cong (fun j hj => ?_))
        rw [sX, show 3 * x % 3 = 0 by omega, show 3 * x / 3 = x by omega, show byd 0 = 0 from rfl, show ad1 n o 0 j = 0 by unfold ad1; split <;> rfl, Nat.zero_add]
      · refine ctb_cong (fun x _ => unl_cong (fun j hj => ?_))
        rw [sX, show (3 * x + 1) % 3 = 1 by omega, show (3 * x + 1) / 3 = x by omega, show byd 1 = 1 from rfl, tp_ad (by omega), Nat.add_assoc]
    · refine ctb_cong (fun x _ => unl_cong (fun j hj => ?_))
      rw [sX, show (3 * x + 2) % 3 = 2 by omega, show (3 * x + 2) / 3 = x by omega, show byd 2 = 10 from rfl, tp_ad (by omega), Nat.add_assoc]
theorem soG_st {n : Nat} (hn : n < 6) : ctb (soG n) (3 ^ np n) = stE n (np n) 0 0 0 0 0 0 := by
  rw [stE_ok hn]
  refine ctb_cong (fun x _ => unl_cong (fun j hj => ?_))
  have : tp 0 0 0 0 0 j = 0 := by unfold tp; split; rfl; split; rfl; split; rfl; split <;> rfl
  rw [this]
theorem st_p0 : ad1 5 0 1 0 = 1 ∧ ad1 5 0 1 1 = 1 ∧ ad1 5 0 1 2 = 0 ∧ ad1 5 0 1 3 = 0 ∧ ad1 5 0 1 4 = 0 ∧ ad1 5 0 10 0 = 10 ∧ ad1 5 0 10 1 = 10 ∧ ad1 5 0 10 2 = 0 ∧ ad1 5 0 10 3 = 0 ∧ ad1 5 0 10 4 = 0 := by decide
theorem st_p1 : ad1 5 1 1 0 = 1 ∧ ad1 5 1 1 1 = 0 ∧ ad1 5 1 1 2 = 1 ∧ ad1 5 1 1 3 = 0 ∧ ad1 5 1 1 4 = 0 ∧ ad1 5 1 10 0 = 10 ∧ ad1 5 1 10 1 = 0 ∧ ad1 5 1 10 2 = 10 ∧ ad1 5 1 10 3 = 0 ∧ ad1 5 1 10 4 = 0 := by decide
theorem st_o0 (a b c d e : Nat) : stE 5 10 0 a b c d e = stE 5 9 1 a b c d e + stE 5 9 1 (a + 1) (b + 1) c d e + stE 5 9 1 (a + 10) (b + 10) c d e := by
  obtain ⟨a1, a2, a3, a4, a5, a6, a7, a8, a9, a10⟩ := st_p0
  rw [stE, a1, a2, a3, a4, a5, a6, a7, a8, a9, a10]
  simp only [Nat.add_zero, Nat.zero_add]
theorem st_o1 (a b c d e : Nat) : stE 5 9 1 a b c d e = stE 5 8 2 a b c d e + stE 5 8 2 (a + 1) b (c + 1) d e + stE 5 8 2 (a + 10) b (c + 10) d e := by
  obtain ⟨a1, a2, a3, a4, a5, a6, a7, a8, a9, a10⟩ := st_p1
  rw [stE, a1, a2, a3, a4, a5, a6, a7, a8, a9, a10]
  simp only [Nat.add_zero, Nat.reduceAdd]
theorem st_5 : stE 5 10 0 0 0 0 0 0 = 14760 := by
  have h_0_0 := st_0_0
  have h_0_1 := st_0_1
  have h_0_10 := st_0_10
  have h_1_0 := st_1_0
  have h_1_1 := st_1_1
  have h_1_10 := st_1_10
  have h_10_0 := st_10_0
  have h_10_1 := st_10_1
  have h_10_10 := st_10_10
  rw [st_o0, st_o1, st_o1, st_o1]
  simp only [Nat.add_zero, Nat.zero_add] at * 
  omega
theorem sor5 : sorT 5 = 14760 := by decide
theorem np_5 : np 5 = 10 := by decide
theorem st_all {n : Nat} (h1 : 1 ≤ n) (hn : n < 6) : ctb (soG n) (3 ^ np n) = sorT n := by
  rw [soG_st hn]
  by_cases h : n < 5
  · exact st_sm n h h1
  · have e : n = 5 := by omega
    rw [e, np_5, st_5, sor5]
