/-! PURE 49: the class's table; rows on longs begun from kit/laws/BITS.to-paste -/
theorem wb_tb (n : Nat) : (lN n).toBitVec = BitVec.ofNat 64 n := rfl
theorem wb_inj {a b : Int64} (h : a.toBitVec = b.toBitVec) : a = b := Int64.toBitVec_inj.mp h
theorem wb_c : ∀ k, k < 64 → ((nI k).toInt64 &&& 63) = lN k := by decide +kernel
theorem wb_sm : ∀ k, k < 64 → (BitVec.ofNat 64 k).smod 64 = BitVec.ofNat 64 k := by decide +kernel
theorem wb_shl (n : Nat) {k : Nat} (hk : k < 64) : lN n <<< ((nI k).toInt64 &&& 63) = lN (n * 2 ^ k) := by
  rw [wb_c k hk]
  apply wb_inj
  rw [Int64.toBitVec_shiftLeft, wb_tb, wb_tb, wb_tb, wb_sm k hk]
  apply BitVec.eq_of_toNat_eq
  rw [BitVec.shiftLeft_eq', BitVec.toNat_shiftLeft, BitVec.toNat_ofNat, BitVec.toNat_ofNat, BitVec.toNat_ofNat, Nat.mod_eq_of_lt (show k < 2 ^ 64 by omega), Nat.shiftLeft_eq, Nat.mul_mod, Nat.mod_mod, ← Nat.mul_mod]
theorem wb_and {a b : Nat} (ha : a < 2 ^ 64) (hb : b < 2 ^ 64) : lN a &&& lN b = lN (a &&& b) := by
  apply wb_inj
  rw [Int64.toBitVec_and, wb_tb, wb_tb, wb_tb]
  apply BitVec.eq_of_toNat_eq
  rw [BitVec.toNat_and, BitVec.toNat_ofNat, BitVec.toNat_ofNat, BitVec.toNat_ofNat, Nat.mod_eq_of_lt ha, Nat.mod_eq_of_lt hb, Nat.mod_eq_of_lt (Nat.and_lt_two_pow _ hb)]
theorem wb_shr63 {a k : Nat} (hk : k < 64) (h : a < 2 ^ 63) : lN a >>> ((nI k).toInt64 &&& 63) = lN (a / 2 ^ k) := by
  have hd : a / 2 ^ k ≤ a := Nat.div_le_self _ _
  rw [wb_c k hk]
  apply Int64.toInt_inj.mp
  have hD : ((lN k).toBitVec.smod 64).toNat = k := by
    rw [wb_tb, wb_sm k hk, BitVec.toNat_ofNat, Nat.mod_eq_of_lt (by omega)]
  have e : (lN a >>> lN k).toInt = (lN a).toInt >>> k := by
    conv => rhs; rw [← hD]
    exact BitVec.toInt_sshiftRight ..
  rw [e, Int.shiftRight_eq_div_pow, pk_lT h, pk_lT (by omega)]
  rfl
theorem lNV : (4611686018427387904 : Int64) = lN NV := rfl
theorem lgc_eq (x y : Int64) : lg_cmp x y = 0 ↔ x = y := by
  unfold lg_cmp
  by_cases h : x > y
  · rw [if_pos h]
    exact ⟨fun z => absurd z (by decide), fun z => by subst z; exact absurd h Int64.lt_irrefl⟩
  · rw [if_neg h]
    by_cases e : x = y
    · rw [if_pos e]; exact ⟨fun _ => e, fun _ => rfl⟩
    · rw [if_neg e]; exact ⟨fun z => absurd z (by decide), fun z => absurd z e⟩
theorem sh_I {p : Nat} (hp : p < 8) : f_Mk_shiftOf (nI p) = nI (3 * (7 - p)) := by
  unfold f_Mk_shiftOf
  rw [show (7 : Int32) = nI 7 from rfl, pk_sub (by omega), show (3 : Int32) = nI 3 from rfl, pk_mul]
theorem p8 {p : Nat} : 2 ^ (3 * (7 - p)) = 8 ^ (7 - p) := by rw [Nat.pow_mul]
theorem minJ {a b : Nat} (ha : a < 2 ^ 63) (hb : b < 2 ^ 63) : f_Ma_min_JJ (lN a) (lN b) = lN (min a b) := by
  unfold f_Ma_min_JJ
  by_cases h : b < a
  · rw [if_pos ((cm_gt _ _).mpr ((pk_lLT hb ha).mpr h)), Nat.min_eq_right (by omega)]
  · rw [if_neg (fun z => h ((pk_lLT hb ha).mp ((cm_gt _ _).mp z))), Nat.min_eq_left (by omega)]
theorem bc8 {y : Nat} {f : Nat → Bool} (h : ∀ i, y.testBit i = (decide (i < 8) && f i)) : f_In_bitCount (nI y) = nI (ctb f 8) := by
  have e : y = bs f 8 := Nat.eq_of_testBit_eq (fun i => by rw [h, bs_bit])
  rw [e, bc_bs (by decide)]
theorem pc_bc {x : Nat} (hx : x < 2 ^ 8) : f_In_bitCount (nI x) = nI (pcnt x) := bc8 (fun i => by
  by_cases h : i < 8
  · simp [h]
  · rw [lt_bit hx (by omega)]; simp [h])
def BD (T : Nat → Nat) (x : Nat) : Prop := T x = NV ∨ T x ≤ x * 2147483648
section MK
variable {n t b m mk dr w a : Nat} {sd : Nat → Nat} {T : Nat → Nat} {M : Mm}
theorem chN_le {k p rest : Nat} (h1 : mk ≤ 9) (h2 : dr ≤ 9) : chN n t mk dr w k p rest ≤ 72 := by
  unfold chN
  split
  · exact Nat.mul_le_mul h1 (ctb_le _ _)
  · exact Nat.mul_le_mul h2 (ctb_le _ _)
theorem Xv_bd {k p rest : Nat} (hn : n < 9) (hk : k < n) (h1 : mk ≤ 9) (h2 : dr ≤ 9) (hB : BD T rest) : Xv n t b m mk dr w T k p rest = NV ∨ Xv n t b m mk dr w T k p rest ≤ (rest + 1) * 2147483648 := by
  unfold Xv
  by_cases h : hdB n b m w k p rest = true
  · rw [if_pos h]; exact Or.inl rfl
  · rw [if_neg h]
    by_cases h3 : T rest = NV
    · rw [if_pos h3]; exact Or.inl rfl
    · rw [if_neg h3]
      right
      have hb := hB.resolve_left h3
      have hc := chN_le (n := n) (t := t) (w := w) (k := k) (p := p) (rest := rest) h1 h2
      have hs := spl_lt n hn k hk
      have hp : 8 ^ (7 - p) ≤ 8 ^ 7 := Nat.pow_le_pow_right (by decide) (by omega)
      have hm : spl n k * 8 ^ (7 - p) ≤ 7 * 8 ^ 7 := Nat.mul_le_mul (by omega) hp
      have h8 : (8 : Nat) ^ 7 = 2097152 := by decide
      rw [Nat.add_mul]
      omega
theorem wn_I {k p rest : Nat} (hn : n < 9) (hk : k < n) (hp : p < n) (hr : rest < 2 ^ n) (hC : CT M a n t b m mk dr sd) (h1 : mk ≤ 9) (h2 : dr ≤ 9) (hT : M.2 19 rest = lN (T rest)) (hB : BD T rest) : f_Mk_withNext a (nI p) (nI rest) (bI (frB w k)) (nI (spl n k)) M = some (lN (Xv n t b m mk dr w T k p rest)) := by
  have hpw : 2 ^ n ≤ 2 ^ 8 := Nat.pow_le_pow_right (by decide) (by omega)
  have hr8 : rest < 2 ^ 8 := by omega
  have hspl := spl_lt n hn k hk
  have ip : inb (nI p) 8 = true := inb_nI (by omega) (by decide)
  have ir : inb (nI rest) 256 = true := inb_nI (by omega) (by decide)
  have xp : Int32.toNatClampNeg (nI p) = p := ix_nI (by omega)
  have xr : Int32.toNatClampNeg (nI rest) = rest := ix_nI (by omega)
  have rl : ∀ x, rwo n x p < 2 ^ 8 := fun x => rwo_lt hn
  have hTl : T rest < 2 ^ 63 := by
    rcases hB with q | q
    · rw [q]; unfold NV; omega
    · omega
  have hcmp : (lg_cmp (lN (T rest)) 4611686018427387904 = 0) ↔ T rest = NV := by
    rw [lgc_eq, lNV, pk_lEQ hTl (by unfold NV; omega)]
  have hz : ∀ x, ((nI (rwo n x p) &&& nI rest) = 0) ↔ rwo n x p &&& rest = 0 := fun x => by
    rw [an_I]
    exact nI0_iff (Nat.lt_of_le_of_lt Nat.and_le_left (Nat.lt_trans (rl x) (by decide)))
  have hsh : (nI (spl n k)).toInt64 <<< ((f_Mk_shiftOf (nI p)).toInt64 &&& 63) = lN (spl n k * 8 ^ (7 - p)) := by
    rw [sh_I (by omega), nI_l (by omega), wb_shl _ (by omega), p8]
  have h24 : ∀ x, lN x <<< (((24 : Int32)).toInt64 &&& 63) = lN (x * 16777216) := fun x => wb_shl x (k := 24) (by decide)
  have hch := chN_le (n := n) (t := t) (w := w) (k := k) (p := p) (rest := rest) h1 h2
  unfold f_Mk_withNext Xv hdB chN
  unfold chN at hch
  dsimp only [lt]
  simp only [if_pos ip, if_pos ir, xp, xr]
  rw [(hC.2.2.2 p (by omega)).1, (hC.2.2.2 p (by omega)).2.1, (hC.2.2.2 p (by omega)).2.2.1, hT, hC.2.1, hC.2.2.1, hsh, lNV]
  rw [lNV] at hcmp
  cases hf : frB w k with
  | true =>
    rw [hf, if_pos rfl] at hch
    rw [if_neg (show ¬ bI true = 0 by decide), if_neg (show ¬ bI true = 0 by decide)]
    by_cases q : rwo n b p &&& rest = 0
    · rw [if_pos ((hz b).mpr q), if_neg (show ¬ decide (¬ ((if true = true then rwo n b p else rwo n m p) &&& rest = 0)) = true by rw [if_pos rfl, q]; decide)]
      by_cases q2 : T rest = NV
      · rw [if_pos (hcmp.mpr q2), if_pos q2]
      · rw [if_neg (fun z => q2 (hcmp.mp z)), if_neg q2, m1_I, xo_I, an_I, bc8 (f := fun q => rest.testBit q && !((rwo n t p).testBit q)) (fun i => by
          rw [Nat.testBit_and, Nat.testBit_xor, show (4294967295 : Nat) = 2 ^ 32 - 1 from rfl, Nat.testBit_two_pow_sub_one]
          by_cases h8 : i < 8
          · have h32 : i < 32 := by omega
            simp [h8, h32]
          · rw [lt_bit hr8 (by omega)]; simp [h8]), pk_mul, nI_l (by omega), h24, lN_add, lN_add]
        rfl
    · rw [if_neg (fun z => q ((hz b).mp z)), if_pos (show decide (¬ ((if true = true then rwo n b p else rwo n m p) &&& rest = 0)) = true by rw [if_pos rfl]; simp [q])]
  | false =>
    rw [hf, if_neg (by decide)] at hch
    rw [if_pos (show bI false = 0 from rfl), if_pos (show bI false = 0 from rfl)]
    by_cases q : rwo n m p &&& rest = 0
    · rw [if_pos ((hz m).mpr q), if_neg (show ¬ decide (¬ ((if false = true then rwo n b p else rwo n m p) &&& rest = 0)) = true by rw [if_neg (by decide), q]; decide)]
      by_cases q2 : T rest = NV
      · rw [if_pos (hcmp.mpr q2), if_pos q2]
      · rw [if_neg (fun z => q2 (hcmp.mp z)), if_neg q2, an_I, bc8 (f := fun q => rest.testBit q && (rwo n t p).testBit q) (fun i => by
          rw [Nat.testBit_and]
          by_cases h8 : i < 8
          · simp [h8]
          · rw [lt_bit hr8 (by omega)]; simp [h8]), pk_mul, nI_l (by omega), h24, lN_add, lN_add]
        rfl
    · rw [if_neg (fun z => q ((hz m).mp z)), if_pos (show decide (¬ ((if false = true then rwo n b p else rwo n m p) &&& rest = 0)) = true by rw [if_neg (by decide)]; simp [q])]
theorem rem_lt {x p : Nat} (hx : x < 2 ^ 8) (hp : p < 8) (h : x.testBit p = true) : rem1 x p < x := by
  have hbr : ∀ i, (rem1 x p).testBit i = if i = p then false else x.testBit i := fun i => stb_bit hx hp
  have e : rem1 x p ||| 2 ^ p = x := by
    apply Nat.eq_of_testBit_eq
    intro i
    rw [Nat.testBit_or, hbr, Nat.testBit_two_pow]
    by_cases e : i = p
    · subst e; rw [if_pos rfl]; simp [h]
    · have e2 : ¬ p = i := fun z => e z.symm
      rw [if_neg e]; simp [e2]
  have h1 : rem1 x p ≤ x := by
    have : rem1 x p ≤ rem1 x p ||| 2 ^ p := Nat.left_le_or
    omega
  have h2 : rem1 x p ≠ x := fun z => by
    have := hbr p
    rw [z, if_pos rfl, h] at this
    cases this
  omega
theorem mk89 (N : Nat) {x k : Nat} (ju : Int64 → Option (Int64 × Mm)) (hn : n < 9) (hk : k < n) (hx : x < 2 ^ n) (h0 : M.1 18 1 = nI n) (hC : CT M a n t b m mk dr sd) (h1 : mk ≤ 9) (h2 : dr ≤ 9) (hT : ∀ j, j < x → M.2 19 j = lN (T j) ∧ BD T j) : ∀ (d p nu : Nat), p + d = n → d < nu → L_Mk_leastByWay_89 N a (nI x) M (nI (spl n k)) (bI (frB w k)) ju nu (lN (fo (fun a b => min a b) NV (fun p => Xv n t b m mk dr w T k p (rem1 x p)) (fun p => x.testBit p) p)) (nI p) = ju (lN (fo (fun a b => min a b) NV (fun p => Xv n t b m mk dr w T k p (rem1 x p)) (fun p => x.testBit p) n))
  | 0, p, nu + 1, hp, hnu => by
    have hp : p = n := by omega
    subst hp
    rw [L_Mk_leastByWay_89, h0, if_pos (nI_le (Nat.le_refl p) (by omega))]
  | d + 1, p, nu + 1, hp, hnu => by
    have ih := mk89 N ju hn hk hx h0 hC h1 h2 hT d (p + 1) nu (by omega) (by omega)
    have hpw : 2 ^ n ≤ 2 ^ 8 := Nat.pow_le_pow_right (by decide) (by omega)
    have hbit := bit_1 (a := x) (b := p) (by omega) (by omega)
    have hfo := mE_e (c := fun p => Xv n t b m mk dr w T k p (rem1 x p)) (V := fun p => x.testBit p) (e := NV) p
    rw [L_Mk_leastByWay_89, h0, if_neg (nI_ge (by omega) (by omega))]
    dsimp only [lt]
    rw [nI_1]
    rw [fo] at ih
    by_cases z : x.testBit p = true
    · have hl := rem_lt (show x < 2 ^ 8 by omega) (show p < 8 by omega) z
      have hrm : nI x &&& (((1 : Int32) <<< (nI p &&& 31)) ^^^ (-1)) = nI (rem1 x p) := an_sI (show x < 2 ^ 8 by omega) (by omega) (by decide)
      have hXb := Xv_bd (t := t) (b := b) (m := m) (w := w) (p := p) hn hk h1 h2 (hT _ hl).2
      have hXl : Xv n t b m mk dr w T k p (rem1 x p) < 2 ^ 63 := by
        rcases hXb with q | q
        · rw [q]; unfold NV; omega
        · omega
      rw [if_pos z] at ih
      rw [if_pos (hbit.mpr z), hrm, wn_I hn hk (by omega) (by omega) hC h1 h2 (hT _ hl).1 (hT _ hl).2, bnd_s, minJ (by have : NV < 2 ^ 63 := by decide
                                                                                                                       omega) hXl]
      exact ih
    · rw [if_neg z] at ih
      rw [if_neg (fun v => z (hbit.mp v))]
      exact ih
end MK
