/-! PURE 58: a word of the text, by both readers -/
section WD
variable {c : Nat → Nat} {len : Nat}
/-- the reference's number of a word -/
def rwN (c : Nat → Nat) (s : Nat) : Nat → Nat
  | 0 => 0
  | k + 1 => if rwN c s k ≤ 100000000000000 then 27 * rwN c s k + (c (s + k) - 96) else 200000000000000
def cdR : List Nat → Nat
  | [] => 0
  | x :: r => 27 * cdR r + (x - 96)
def isB (c : Nat → Nat) (s : Nat) : List Nat → Nat → Bool
  | [], k => decide (k = 0)
  | _ :: _, 0 => false
  | x :: r, k + 1 => decide (c (s + k) = x) && isB c s r k
def okL : List Nat → Bool
  | [] => true
  | x :: r => decide (97 ≤ x ∧ x ≤ 122) && okL r
theorem rw_is {s : Nat} : ∀ (r : List Nat) (k : Nat), okL r = true → cdR r ≤ 100000000000000 → (∀ j, j < k → 97 ≤ c (s + j) ∧ c (s + j) ≤ 122) → (rwN c s k = cdR r ↔ isB c s r k = true)
  | [], 0, _, _, _ => by simp [rwN, cdR, isB]
  | [], k + 1, _, _, h => by
    have hk := h k (by omega)
    rw [rwN, cdR, isB]
    constructor
    · intro z
      by_cases q : rwN c s k ≤ 100000000000000
      · rw [if_pos q] at z; omega
      · rw [if_neg q] at z; omega
    · intro z
      have := of_decide_eq_true z
      omega
  | x :: r, 0, ho, _, _ => by
    rw [okL, Bool.and_eq_true] at ho
    have := of_decide_eq_true ho.1
    rw [rwN, cdR, isB]
    constructor
    · intro z; omega
    · intro z; cases z
  | x :: r, k + 1, ho, hc, h => by
    rw [okL, Bool.and_eq_true] at ho
    have hx := of_decide_eq_true ho.1
    have hk := h k (by omega)
    rw [cdR] at hc
    have ih := rw_is (s := s) r k ho.2 (by omega) (fun j hj => h j (by omega))
    rw [rwN, cdR, isB, Bool.and_eq_true, decide_eq_true_eq, ← ih]
    by_cases q : rwN c s k ≤ 100000000000000
    · rw [if_pos q]; omega
    · rw [if_neg q]; omega
theorem isB_len {s : Nat} : ∀ {r : List Nat} {k : Nat}, isB c s r k = true → k = r.length
  | [], k, h => by rw [isB] at h; exact of_decide_eq_true h
  | _ :: _, 0, h => by rw [isB] at h; cases h
  | x :: r, k + 1, h => by
    rw [isB, Bool.and_eq_true] at h
    rw [List.length_cons, isB_len h.2]
theorem rwN_le {s : Nat} : ∀ {k}, (∀ j, j < k → c (s + j) ≤ 122) → rwN c s k ≤ 2700000000000026
  | 0, _ => by simp [rwN]
  | k + 1, h => by
    have hk := h k (by omega)
    rw [rwN]
    by_cases q : rwN c s k ≤ 100000000000000
    · rw [if_pos q]; omega
    · rw [if_neg q]; omega
def kwN : List (List Nat) := [[112, 101, 111, 112, 108, 101], [102, 114, 105, 101, 110, 100, 115], [98, 97, 114, 114, 101, 100], [109, 117, 115, 116], [99, 111, 115, 116]]
def kR (j : Nat) : List Nat := (kwN.getD j []).reverse
def fwB (c : Nat → Nat) (s : Nat) (w : Nat → Nat) : Nat → Nat → Bool
  | 0, _ => true
  | d + 1, z => decide (c (s + z) = w z) && fwB c s w d (z + 1)
def wN (j i : Nat) : Nat := (kwN.getD j []).getD i 0
theorem kl_I : ∀ j, j < 5 → slen j = nI (klen.getD j 0) ∧ klen.getD j 0 < 8 ∧ (kR j).length = klen.getD j 0 := by decide +kernel
theorem sch_I : ∀ j, j < 5 → ∀ i, i < 8 → i < klen.getD j 0 → sch j (nI i) = nI (wN j i) ∧ wN j i < 128 := by decide +kernel
theorem stl {N j s : Nat} {M : Mm} (hj : j < 5) (hX : CX c len M) (hs : s + klen.getD j 0 ≤ len) : ∀ (d z nu : Nat), z + d = klen.getD j 0 → d < nu → L_Te_stands_17 N j (nI s) M nu (nI z) = some (if fwB c s (wN j) d z = true then 1 else 0)
  | 0, z, nu + 1, hz, hnu => by
    have hk := kl_I j hj
    rw [L_Te_stands_17, hk.1, if_pos (nI_le (by omega) (by omega)), fwB, if_pos rfl]
  | d + 1, z, nu + 1, hz, hnu => by
    have hk := kl_I j hj
    have hl := hX.1
    obtain ⟨c1, c2⟩ := hX.2.2 (s + z) (by omega)
    obtain ⟨s1, s2⟩ := sch_I j hj z (by omega) (by omega)
    have ih := stl (N := N) hj hX hs d (z + 1) nu (by omega) (by omega)
    rw [L_Te_stands_17, hk.1, if_neg (nI_ge (by omega) (by omega)), nI_add, if_pos (inb_nI (show s + z < 400 by omega) (by decide)), if_pos (inb_nI (show z < klen.getD j 0 by omega) (by omega)), ix_nI (by omega), c2, s1, fwB]
    dsimp only [lt]
    by_cases q : c (s + z) = wN j z
    · rw [if_pos ((sb_eq c1 s2).mpr q), nI_1, ih, decide_eq_true q, Bool.true_and]
    · rw [if_neg (fun v => q ((sb_eq c1 s2).mp v)), decide_eq_false q, Bool.false_and, if_neg (by decide)]
theorem rev4 : ∀ a0 a1 a2 a3 : Bool, (a0 && (a1 && (a2 && (a3 && true)))) = (a3 && (a2 && (a1 && (a0 && true)))) := by decide
theorem rev6 : ∀ a0 a1 a2 a3 a4 a5 : Bool, (a0 && (a1 && (a2 && (a3 && (a4 && (a5 && true)))))) = (a5 && (a4 && (a3 && (a2 && (a1 && (a0 && true)))))) := by decide
theorem rev7 : ∀ a0 a1 a2 a3 a4 a5 a6 : Bool, (a0 && (a1 && (a2 && (a3 && (a4 && (a5 && (a6 && true))))))) = (a6 && (a5 && (a4 && (a3 && (a2 && (a1 && (a0 && true))))))) := by decide
theorem fw_is {s : Nat} : ∀ j, j < 5 → fwB c s (wN j) (klen.getD j 0) 0 = isB c s (kR j) (klen.getD j 0)
  | 0, _ => rev6 (decide (c (s + 0) = 112)) (decide (c (s + 1) = 101)) (decide (c (s + 2) = 111)) (decide (c (s + 3) = 112)) (decide (c (s + 4) = 108)) (decide (c (s + 5) = 101))
  | 1, _ => rev7 (decide (c (s + 0) = 102)) (decide (c (s + 1) = 114)) (decide (c (s + 2) = 105)) (decide (c (s + 3) = 101)) (decide (c (s + 4) = 110)) (decide (c (s + 5) = 100)) (decide (c (s + 6) = 115))
  | 2, _ => rev6 (decide (c (s + 0) = 98)) (decide (c (s + 1) = 97)) (decide (c (s + 2) = 114)) (decide (c (s + 3) = 114)) (decide (c (s + 4) = 101)) (decide (c (s + 5) = 100))
  | 3, _ => rev4 (decide (c (s + 0) = 109)) (decide (c (s + 1) = 117)) (decide (c (s + 2) = 115)) (decide (c (s + 3) = 116))
  | 4, _ => rev4 (decide (c (s + 0) = 99)) (decide (c (s + 1) = 111)) (decide (c (s + 2) = 115)) (decide (c (s + 3) = 116))
  | j + 5, h => absurd h (by omega)
theorem std_I {N j s k : Nat} {M : Mm} (hN : 401 < N) (hj : j < 5) (hX : CX c len M) (hk : s + k ≤ len) (h3 : M.1 11 3 = nI (s + k)) : f_Te_stands N j (nI s) M = some (if isB c s (kR j) k = true then 1 else 0) := by
  have hl := hX.1
  have hq := kl_I j hj
  unfold f_Te_stands
  rw [h3, pk_sub (by omega), show s + k - s = k by omega, hq.1]
  by_cases e : k = klen.getD j 0
  · rw [if_pos (by rw [e])]
    refine (stl (N := N) hj hX (by omega) (klen.getD j 0) 0 N (by omega) (by omega)).trans ?_
    rw [fw_is j hj, e]
  · rw [if_neg (fun v => e ((nI_eq (by omega) (by omega)).mp v)), if_neg (fun v => e ((isB_len v).trans hq.2.2))]
def wdE (c : Nat → Nat) (len i : Nat) : Nat := scF (leB c) (len - i) i
def wdC (c : Nat → Nat) (s k : Nat) : Nat := if isB c s (kR 0) k = true then 1 else if isB c s (kR 1) k = true then 2 else if isB c s (kR 2) k = true then 3 else if isB c s (kR 3) k = true then 4 else if isB c s (kR 4) k = true then 5 else 0
theorem cwl (N : Nat) (ju : Mm → Option (Int32 × Mm)) : ∀ (d i nu : Nat) (M : Mm), i + d = len → d < nu → CX c len M → M.1 11 3 = nI i → L_Te_readWord_5 N ju nu M = ju (si M 11 3 (nI (scF (leB c) d i)))
  | 0, i, nu + 1, M, hi, hnu, hX, h3 => by
    have hl := hX.1
    rw [L_Te_readWord_5, hX.2.1, h3, if_pos (nI_le (by omega) (by omega)), scF, si_id h3]
  | d + 1, i, nu + 1, M, hi, hnu, hX, h3 => by
    have hl := hX.1
    obtain ⟨c1, c2⟩ := hX.2.2 i (by omega)
    have i4 : inb (nI i) 400 = true := inb_nI (show i < 400 by omega) (by decide)
    rw [L_Te_readWord_5, hX.2.1, h3, if_neg (nI_ge (by omega) (by omega)), if_pos i4, ix_nI (by omega), c2, scF]
    dsimp only [lt]
    by_cases z : 97 ≤ c i ∧ c i ≤ 122
    · have ih := cwl N ju d (i + 1) nu (si M 11 3 (nI (i + 1))) (by omega) (by omega) (hX.ag (si_k _ _ (by decide)) (fun _ => si_a _ _ (by decide))) (si_s _ _ _ _)
      rw [if_neg (show ¬ sbI (c i) < 97 from fun v => by have := (sb_lt (k := 97) c1 (by decide)).mp v; omega), if_pos i4, if_neg (show ¬ (122 : Int32) < sbI (c i) from fun v => by have := (sb_gt (k := 122) c1 (by decide)).mp v; omega), nI_1, if_pos (show leB c i = true by simp [leB, z]), ih, si_si]
    · rw [if_neg (show ¬ leB c i = true by simp [leB]; omega), si_id h3]
      by_cases q : sbI (c i) < 97
      · rw [if_pos q]
      · rw [if_neg q, if_pos i4, if_pos (show (122 : Int32) < sbI (c i) from (sb_gt (k := 122) c1 (by decide)).mpr (by
          have : ¬ (c i < 97 ∨ 128 ≤ c i) := fun v => q ((sb_lt (k := 97) c1 (by decide)).mpr v)
          omega))]
theorem wdE_le {i : Nat} (hi : i ≤ len) : i ≤ wdE c len i ∧ wdE c len i ≤ len := by
  have := sc_le (P := leB c) (d := len - i) (i := i)
  unfold wdE
  omega
theorem w01 (b : Bool) {α : Type} (x y : α) : (if (if b = true then (1 : Int32) else 0) = 0 then x else y) = if b = true then y else x := by
  cases b <;> rfl
theorem cwd {N i : Nat} {M : Mm} (hN : 401 < N) (hi : i ≤ len) (hX : CX c len M) (h3 : M.1 11 3 = nI i) : f_Te_readWord N M = some (nI (wdC c i (wdE c len i - i)), si M 11 3 (nI (wdE c len i))) := by
  have hl := hX.1
  have he := wdE_le (c := c) hi
  unfold f_Te_readWord
  dsimp only [lt]
  rw [h3]
  refine (cwl N _ (len - i) i N M (by omega) (by omega) hX h3).trans ?_
  rw [show scF (leB c) (len - i) i = wdE c len i from rfl]
  have hX' : CX c len (si M 11 3 (nI (wdE c len i))) := hX.ag (si_k _ _ (by decide)) (fun _ => si_a _ _ (by decide))
  have h3' : (si M 11 3 (nI (wdE c len i))).1 11 3 = nI (i + (wdE c len i - i)) := by rw [si_s, show i + (wdE c len i - i) = wdE c len i by omega]
  have hS : ∀ j, j < 5 → f_Te_stands N j (nI i) (si M 11 3 (nI (wdE c len i))) = some (if isB c i (kR j) (wdE c len i - i) = true then 1 else 0) := fun j hj => std_I hN hj hX' (by omega) h3'
  rw [hS 0 (by decide), Option.bind_some, w01, hS 1 (by decide), Option.bind_some, w01, hS 2 (by decide), Option.bind_some, w01, hS 3 (by decide), Option.bind_some, w01, hS 4 (by decide), Option.bind_some, w01]
  unfold wdC
  by_cases e0 : isB c i (kR 0) (wdE c len i - i) = true
  · rw [if_pos e0, if_pos e0]; rfl
  rw [if_neg e0, if_neg e0]
  by_cases e1 : isB c i (kR 1) (wdE c len i - i) = true
  · rw [if_pos e1, if_pos e1]; rfl
  rw [if_neg e1, if_neg e1]
  by_cases e2 : isB c i (kR 2) (wdE c len i - i) = true
  · rw [if_pos e2, if_pos e2]; rfl
  rw [if_neg e2, if_neg e2]
  by_cases e3 : isB c i (kR 3) (wdE c len i - i) = true
  · rw [if_pos e3, if_pos e3]; rfl
  rw [if_neg e3, if_neg e3]
  by_cases e4 : isB c i (kR 4) (wdE c len i - i) = true
  · rw [if_pos e4, if_pos e4]; rfl
  · rw [if_neg e4, if_neg e4]; rfl
theorem c64 : ∀ x, x < 256 → (nI x).toInt64 = lN x := by decide +kernel
theorem cm_le0 (x y : Int64) : lg_cmp x y ≤ 0 ↔ ¬ y < x := by rw [← Int32.not_lt, cm_gt]
theorem rwl {s : Nat} : ∀ (d k : Nat) (M : Mm), s + k + d = len → (∀ j, j < k → c (s + j) ≤ 122) → RX c len M → M.1 49 14 = nI (s + k) → M.2 49 13 = lN (rwN c s k) → ∃ M', (∀ N nu, d < nu → L_Mo_readWord_18 N nu M = some M') ∧ M'.1 49 14 = nI (scF (leB c) d (s + k)) ∧ M'.2 49 13 = lN (rwN c s (scF (leB c) d (s + k) - s)) ∧ (∀ b j, ¬ (b = 49 ∧ j = 14) → M'.1 b j = M.1 b j)
  | 0, k, M, hi, hd, hX, h3, h13 => by
    have hl := hX.1
    refine ⟨M, fun N nu' hnu => ?_, h3, ?_, fun _ _ _ => rfl⟩
    · obtain ⟨nu, rfl⟩ : ∃ nu, nu' = nu + 1 := ⟨nu' - 1, by omega⟩
      rw [L_Mo_readWord_18, hX.2.1, h3, if_pos (nI_le (by omega) (by omega))]
    · rw [scF, show s + k - s = k by omega]; exact h13
  | d + 1, k, M, hi, hd, hX, h3, h13 => by
    have hl := hX.1
    obtain ⟨c1, c2⟩ := hX.2.2 (s + k) (by omega)
    have i4 : inb (nI (s + k)) 400 = true := inb_nI (show s + k < 400 by omega) (by decide)
    have hu : ∀ N nu, L_Mo_readWord_18 N (nu + 1) M = (if nI (c (s + k)) < 97 then some M else if (122 : Int32) < nI (c (s + k)) then some M else if lg_cmp (lN (rwN c s k)) 100000000000000 ≤ 0 then L_Mo_readWord_18 N nu (si (sl M 49 13 (((27 : Int64) * lN (rwN c s k) + (nI (c (s + k))).toInt64) - 96)) 49 14 (nI (s + (k + 1)))) else L_Mo_readWord_18 N nu (si (sl M 49 13 200000000000000) 49 14 (nI (s + (k + 1))))) := fun N nu => by
      rw [L_Mo_readWord_18, hX.2.1, h3, if_neg (nI_ge (by omega) (by omega)), if_pos i4, ix_nI (by omega), c2, show (97 : Int64) = (97 : Int32).toInt64 from rfl, show (122 : Int64) = (122 : Int32).toInt64 from rfl, in_if, h13]
      dsimp only [lt]
      have e14 : ∀ x : Int64, (sl M 49 13 x).1 49 14 = nI (s + k) := fun x => h3
      rw [e14, e14, nI_1, show s + k + 1 = s + (k + 1) by omega, if_pos i4]
    rw [scF]
    by_cases z : 97 ≤ c (s + k) ∧ c (s + k) ≤ 122
    · have hdd : ∀ j, j < k + 1 → c (s + j) ≤ 122 := fun j hj => by
        by_cases e : j = k
        · subst e; exact z.2
        · exact hd j (by omega)
      have hle := rwN_le (c := c) (s := s) (k := k) hd
      obtain ⟨M', g1, g2, g3, g4⟩ := rwl (s := s) d (k + 1) (si (sl M 49 13 (lN (rwN c s (k + 1)))) 49 14 (nI (s + (k + 1)))) (by omega) hdd (hX.ag (by rw [si_k _ _ (by decide)]; rfl) (fun _ => by rw [si_a _ _ (by decide)]; rfl)) (si_s _ _ _ _) rfl
      refine ⟨M', fun N nu' hnu => ?_, by rw [if_pos (show leB c (s + k) = true by simp [leB, z])]; exact g2, by rw [if_pos (show leB c (s + k) = true by simp [leB, z])]; exact g3, fun b j h => by rw [g4 b j h, si1, if_neg h]; rfl⟩
      obtain ⟨nu, rfl⟩ : ∃ nu, nu' = nu + 1 := ⟨nu' - 1, by omega⟩
      have g1 := g1 N nu (by omega)
      rw [hu, if_neg (show ¬ nI (c (s + k)) < 97 from nI_nlt (b := 97) z.1 (by omega)), if_neg (show ¬ (122 : Int32) < nI (c (s + k)) from nI_nlt (a := 122) (by omega) (by decide))]
      by_cases q : rwN c s k ≤ 100000000000000
      · rw [if_pos ((cm_le0 _ _).mpr (fun v => by
          have := (pk_lLT (a := 100000000000000) (by decide) (by omega)).mp v
          omega)), c64 _ c1, show (27 : Int64) = lN 27 from rfl, lN_mul, lN_add, show (96 : Int64) = lN 96 from rfl, lN_sub (by omega), show 27 * rwN c s k + c (s + k) - 96 = 27 * rwN c s k + (c (s + k) - 96) by omega]
        rw [rwN, if_pos q] at g1
        exact g1
      · rw [if_neg (show ¬ lg_cmp (lN (rwN c s k)) 100000000000000 ≤ 0 from fun w => (cm_le0 _ _).mp w ((pk_lLT (a := 100000000000000) (by decide) (by omega)).mpr (by omega)))]
        rw [rwN, if_neg q] at g1
        exact g1
    · refine ⟨M, fun N nu' hnu => ?_, by rw [if_neg (show ¬ leB c (s + k) = true by simp [leB]; omega)]; exact h3, by rw [if_neg (show ¬ leB c (s + k) = true by simp [leB]; omega), show s + k - s = k by omega]; exact h13, fun _ _ _ => rfl⟩
      obtain ⟨nu, rfl⟩ : ∃ nu, nu' = nu + 1 := ⟨nu' - 1, by omega⟩
      rw [hu]
      by_cases q : c (s + k) < 97
      · rw [if_pos (show nI (c (s + k)) < 97 from nI_lt (b := 97) q (by decide))]
      · rw [if_neg (show ¬ nI (c (s + k)) < 97 from nI_nlt (b := 97) (by omega) (by omega)), if_pos (show (122 : Int32) < nI (c (s + k)) from nI_lt (a := 122) (by omega) (by omega))]
end WD
