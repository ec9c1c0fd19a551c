/-! PURE 28: sorts, the numbers of the reference -/
theorem ctb3 (g : Nat → Bool) : ∀ k, ctb g (3 * k) = ctb (fun x => g (3 * x)) k + ctb (fun x => g (3 * x + 1)) k + ctb (fun x => g (3 * x + 2)) k
  | 0 => rfl
  | k + 1 => by
    have ih := ctb3 g k
    rw [show 3 * (k + 1) = 3 * k + 1 + 1 + 1 by omega, ctb, ctb, ctb, ih, ctb, ctb, ctb]
    omega
def tp (a b c d e j : Nat) : Nat := if j = 0 then a else if j = 1 then b else if j = 2 then c else if j = 3 then d else e
def stE (n : Nat) : Nat → Nat → Nat → Nat → Nat → Nat → Nat → Nat
  | 0, _, a, b, c, d, e => b1 (unl (tp a b c d e) n)
  | K + 1, o, a, b, c, d, e => stE n K (o + 1) a b c d e + stE n K (o + 1) (a + ad1 n o 1 0) (b + ad1 n o 1 1) (c + ad1 n o 1 2) (d + ad1 n o 1 3) (e + ad1 n o 1 4) + stE n K (o + 1) (a + ad1 n o 10 0) (b + ad1 n o 10 1) (c + ad1 n o 10 2) (d + ad1 n o 10 3) (e + ad1 n o 10 4)
theorem st_0_0 : stE 5 8 2 (0 + 0) 0 0 0 0 = 1728 := by decide +kernel
theorem st_0_1 : stE 5 8 2 (0 + 1) 0 1 0 0 = 1596 := by decide +kernel
theorem st_0_10 : stE 5 8 2 (0 + 10) 0 10 0 0 = 1596 := by decide +kernel
theorem st_1_0 : stE 5 8 2 (1 + 0) 1 0 0 0 = 1596 := by decide +kernel
theorem st_1_1 : stE 5 8 2 (1 + 1) 1 1 0 0 = 1728 := by decide +kernel
theorem st_1_10 : stE 5 8 2 (1 + 10) 1 10 0 0 = 1596 := by decide +kernel
theorem st_10_0 : stE 5 8 2 (10 + 0) 10 0 0 0 = 1596 := by decide +kernel
theorem st_10_1 : stE 5 8 2 (10 + 1) 10 1 0 0 = 1596 := by decide +kernel
theorem st_10_10 : stE 5 8 2 (10 + 10) 10 10 0 0 = 1728 := by decide +kernel
theorem st_sm : ∀ n, n < 5 → (1 ≤ n → stE n (np n) 0 0 0 0 0 0 = sorT n) := by decide +kernel
