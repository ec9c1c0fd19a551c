/-! PURE 25: sides, their numbers -/
theorem smN_at (F : Nat → Nat) (k : Nat) : ∀ d, smN F (k + d) = smN F k + smN (fun i => F (k + i)) d
  | 0 => by simp [smN]
  | d + 1 => by rw [← Nat.add_assoc, smN, smN_at F k d, smN, Nat.add_assoc]
theorem smN_mul (F : Nat → Nat) (R : Nat) : ∀ K, smN F (R * K) = smN (fun c => smN (fun h => F (R * c + h)) R) K
  | 0 => by simp [smN]
  | K + 1 => by rw [Nat.mul_succ, smN_at, smN_mul F R K, smN]
def sdC (c : Nat) : Nat := smN (fun h => ctb (fun l => sdG 4 4 (256 * (16 * c + h) + l)) 256) 16
def sdT (c : Nat) : Nat := [144, 72, 72, 48, 72, 48, 48, 72, 72, 48, 48, 72, 48, 72, 72, 144].getD c 0
theorem sdC_0 : sdC 0 = 144 := by decide +kernel
theorem sdC_1 : sdC 1 = 72 := by decide +kernel
theorem sdC_2 : sdC 2 = 72 := by decide +kernel
theorem sdC_3 : sdC 3 = 48 := by decide +kernel
theorem sdC_4 : sdC 4 = 72 := by decide +kernel
theorem sdC_5 : sdC 5 = 48 := by decide +kernel
theorem sdC_6 : sdC 6 = 48 := by decide +kernel
theorem sdC_7 : sdC 7 = 72 := by decide +kernel
theorem sdC_8 : sdC 8 = 72 := by decide +kernel
theorem sdC_9 : sdC 9 = 48 := by decide +kernel
theorem sdC_10 : sdC 10 = 48 := by decide +kernel
theorem sdC_11 : sdC 11 = 72 := by decide +kernel
theorem sdC_12 : sdC 12 = 48 := by decide +kernel
theorem sdC_13 : sdC 13 = 72 := by decide +kernel
theorem sdC_14 : sdC 14 = 72 := by decide +kernel
theorem sdC_15 : sdC 15 = 144 := by decide +kernel
theorem sdC_all : ∀ c, c < 16 → sdC c = sdT c
  | 0, _ => sdC_0
  | 1, _ => sdC_1
  | 2, _ => sdC_2
  | 3, _ => sdC_3
  | 4, _ => sdC_4
  | 5, _ => sdC_5
  | 6, _ => sdC_6
  | 7, _ => sdC_7
  | 8, _ => sdC_8
  | 9, _ => sdC_9
  | 10, _ => sdC_10
  | 11, _ => sdC_11
  | 12, _ => sdC_12
  | 13, _ => sdC_13
  | 14, _ => sdC_14
  | 15, _ => sdC_15
  | c + 16, h => absurd h (by omega)
theorem sv_44 : ctb (sdG 4 4) (2 ^ (4 * 4)) = 1152 := by
  rw [show (2 : Nat) ^ (4 * 4) = 256 * (16 * 16) from rfl, ctb_mul, smN_mul]
  have h : smN sdC 16 = smN sdT 16 := smN_cong sdC_all
  exact h.trans (by decide)
def sdD (a b : Nat) : Nat := smN (fun h => ctb (fun l => sdG a b (256 * h + l)) 256) 16
theorem sdD_34 : sdD 3 4 = 144 := by decide +kernel
theorem sdD_43 : sdD 4 3 = 144 := by decide +kernel
theorem sv_34 : ctb (sdG 3 4) (2 ^ (3 * 4)) = 144 := by
  rw [show (2 : Nat) ^ (3 * 4) = 256 * 16 from rfl, ctb_mul]
  exact sdD_34
theorem sv_43 : ctb (sdG 4 3) (2 ^ (4 * 3)) = 144 := by
  rw [show (2 : Nat) ^ (4 * 3) = 256 * 16 from rfl, ctb_mul]
  exact sdD_43
theorem sv_sm : ∀ a, a < 5 → ∀ b, b < 5 → (1 ≤ a → 1 ≤ b → a * b < 10 → ctb (sdG a b) (2 ^ (a * b)) = sidT a b) := by decide +kernel
/-! more fuel, same answer -/
theorem mo_ub {Nu Mu : Nat} {p0 p1 p2 xx : Int32} : ∀ (nu mu : Nat) (zz rr : Int32), nu ≤ mu → L_Wa_unlikeBelow_9 Nu p0 p1 p2 xx nu zz = some rr → L_Wa_unlikeBelow_9 Mu p0 p1 p2 xx mu zz = some rr
  | 0, _, _, _, _, h => by cases h
  | nu + 1, 0, _, _, hl, _ => absurd hl (by omega)
  | nu + 1, mu + 1, zz, rr, hl, h => by
    rw [L_Wa_unlikeBelow_9] at h ⊢
    by_cases c1 : p1 ≤ zz
    · rw [if_pos c1] at h ⊢; exact h
    · rw [if_neg c1] at h ⊢
      by_cases c2 : ((p0 >>> ((p2 * zz) &&& 31)) &&& xx) = ((p0 >>> ((p2 * p1) &&& 31)) &&& xx)
      · rw [if_pos c2] at h ⊢; exact h
      · rw [if_neg c2] at h ⊢
        exact mo_ub nu mu _ rr (by omega) h
theorem mo_ub0 {Nu Mu : Nat} {p0 p1 p2 rr : Int32} (hl : Nu ≤ Mu) (h : f_Wa_unlikeBelow Nu p0 p1 p2 = some rr) : f_Wa_unlikeBelow Mu p0 p1 p2 = some rr := mo_ub _ _ _ _ hl h
theorem mo_bind {α β : Type} {x y : Option α} {f g : α → Option β} {rr : β} (h : x.bind f = some rr) (hx : ∀ a, x = some a → y = some a) (hf : ∀ a, x = some a → f a = some rr → g a = some rr) : y.bind g = some rr := by
  cases x with
  | none => cases h
  | some a => rw [hx a rfl]; exact hf a rfl h
theorem mo_au {Nu Mu : Nat} {p0 p1 p2 : Int32} (hN : Nu ≤ Mu) : ∀ (nu mu : Nat) (zz rr : Int32), nu ≤ mu → L_Wa_allUnlike_2 Nu p0 p1 p2 nu zz = some rr → L_Wa_allUnlike_2 Mu p0 p1 p2 mu zz = some rr
  | 0, _, _, _, _, h => by cases h
  | nu + 1, 0, _, _, hl, _ => absurd hl (by omega)
  | nu + 1, mu + 1, zz, rr, hl, h => by
    rw [L_Wa_allUnlike_2] at h ⊢
    by_cases c1 : p1 ≤ zz
    · rw [if_pos c1] at h ⊢; exact h
    · rw [if_neg c1] at h ⊢
      refine mo_bind h (fun a ha => mo_ub0 hN ha) (fun a _ hf => ?_)
      by_cases c2 : a = 0
      · rw [if_pos c2] at hf ⊢; exact hf
      · rw [if_neg c2] at hf ⊢
        exact mo_au hN nu mu _ rr (by omega) hf
theorem mo_sp {Nu Mu : Nat} {p0 p1 : Int32} : ∀ (nu mu : Nat) (zz yy rr : Int32), nu ≤ mu → L_Wa_spread_4 Nu p0 p1 nu zz yy = some rr → L_Wa_spread_4 Mu p0 p1 mu zz yy = some rr
  | 0, _, _, _, _, _, h => by cases h
  | nu + 1, 0, _, _, _, hl, _ => absurd hl (by omega)
  | nu + 1, mu + 1, zz, yy, rr, hl, h => by
    rw [L_Wa_spread_4] at h ⊢
    by_cases c1 : p1 ≤ yy
    · rw [if_pos c1] at h ⊢; exact h
    · rw [if_neg c1] at h ⊢
      exact mo_sp nu mu _ _ rr (by omega) h
theorem mo_ac {Nu Mu : Nat} {p0 p1 p2 p3 p4 : Int32} {fu gu : Int32 → Int32 → Int32 → Int32 → Int32 → Option Int32} (hN : Nu ≤ Mu) (hfg : ∀ a b c d e rr, fu a b c d e = some rr → gu a b c d e = some rr) : ∀ (nu mu : Nat) (zz yy rr : Int32), nu ≤ mu → L_Wa_acrossFrom_27 Nu p0 p1 p2 p3 p4 fu nu zz yy = some rr → L_Wa_acrossFrom_27 Mu p0 p1 p2 p3 p4 gu mu zz yy = some rr
  | 0, _, _, _, _, _, h => by cases h
  | nu + 1, 0, _, _, _, hl, _ => absurd hl (by omega)
  | nu + 1, mu + 1, zz, yy, rr, hl, h => by
    rw [L_Wa_acrossFrom_27] at h ⊢
    by_cases c1 : ((1 : Int32) <<< (p2 &&& 31)) ≤ yy
    · rw [if_pos c1] at h ⊢; exact h
    · rw [if_neg c1] at h ⊢
      dsimp only [lt] at h ⊢
      by_cases c2 : ((p3 >>> (f_In_bitCount yy &&& 31)) &&& 1) = 0
      · rw [if_pos c2] at h ⊢
        refine mo_bind h (fun a ha => mo_sp _ _ _ _ _ hN ha) (fun a _ hf => ?_)
        refine mo_bind hf (fun a ha => hfg _ _ _ _ _ _ ha) (fun a _ hf => ?_)
        exact mo_ac hN hfg nu mu _ _ rr (by omega) hf
      · rw [if_neg c2] at h ⊢
        exact mo_ac hN hfg nu mu _ _ rr (by omega) h
theorem mo_af {Nu Mu : Nat} (hN : Nu ≤ Mu) : ∀ (dd : Nat) (p0 p1 p2 p3 p4 rr : Int32), f_Wa_acrossFrom Nu dd p0 p1 p2 p3 p4 = some rr → f_Wa_acrossFrom Mu dd p0 p1 p2 p3 p4 = some rr
  | 0, _, _, _, _, _, _, h => by cases h
  | dd + 1, p0, p1, p2, p3, p4, rr, h => by
    rw [f_Wa_acrossFrom] at h ⊢
    by_cases c1 : p0 < p1
    · rw [if_pos c1] at h ⊢
      exact mo_ac hN (fun a b c d e rr => mo_af hN dd a b c d e rr) _ _ _ _ rr hN h
    · rw [if_neg c1] at h ⊢
      exact mo_bind h (fun a ha => mo_au hN _ _ _ _ hN ha) (fun a _ hf => hf)

theorem af_11 : f_Wa_acrossFrom 20 20 0 (nI 1) (nI 1) 0 0 = some (nI (sidT 1 1)) := by decide +kernel
theorem af_12 : f_Wa_acrossFrom 20 20 0 (nI 1) (nI 2) 0 0 = some (nI (sidT 1 2)) := by decide +kernel
theorem af_13 : f_Wa_acrossFrom 20 20 0 (nI 1) (nI 3) 0 0 = some (nI (sidT 1 3)) := by decide +kernel
theorem af_14 : f_Wa_acrossFrom 20 20 0 (nI 1) (nI 4) 0 0 = some (nI (sidT 1 4)) := by decide +kernel
theorem af_21 : f_Wa_acrossFrom 20 20 0 (nI 2) (nI 1) 0 0 = some (nI (sidT 2 1)) := by decide +kernel
theorem af_22 : f_Wa_acrossFrom 20 20 0 (nI 2) (nI 2) 0 0 = some (nI (sidT 2 2)) := by decide +kernel
theorem af_23 : f_Wa_acrossFrom 20 20 0 (nI 2) (nI 3) 0 0 = some (nI (sidT 2 3)) := by decide +kernel
theorem af_24 : f_Wa_acrossFrom 20 20 0 (nI 2) (nI 4) 0 0 = some (nI (sidT 2 4)) := by decide +kernel
theorem af_31 : f_Wa_acrossFrom 20 20 0 (nI 3) (nI 1) 0 0 = some (nI (sidT 3 1)) := by decide +kernel
theorem af_32 : f_Wa_acrossFrom 20 20 0 (nI 3) (nI 2) 0 0 = some (nI (sidT 3 2)) := by decide +kernel
theorem af_33 : f_Wa_acrossFrom 20 20 0 (nI 3) (nI 3) 0 0 = some (nI (sidT 3 3)) := by decide +kernel
theorem af_34 : f_Wa_acrossFrom 20 20 0 (nI 3) (nI 4) 0 0 = some (nI (sidT 3 4)) := by decide +kernel
theorem af_41 : f_Wa_acrossFrom 20 20 0 (nI 4) (nI 1) 0 0 = some (nI (sidT 4 1)) := by decide +kernel
theorem af_42 : f_Wa_acrossFrom 20 20 0 (nI 4) (nI 2) 0 0 = some (nI (sidT 4 2)) := by decide +kernel
theorem af_43 : f_Wa_acrossFrom 20 20 0 (nI 4) (nI 3) 0 0 = some (nI (sidT 4 3)) := by decide +kernel
theorem af_44 : f_Wa_acrossFrom 20 20 0 (nI 4) (nI 4) 0 0 = some (nI (sidT 4 4)) := by decide +kernel
theorem af_all {N a b : Nat} (hN : 20 < N) (ha1 : 1 ≤ a) (ha : a < 5) (hb1 : 1 ≤ b) (hb : b < 5) : f_Wa_acrossFrom N 20 0 (nI a) (nI b) 0 0 = some (nI (sidT a b)) := by
  refine mo_af (Nu := 20) (by omega) 20 _ _ _ _ _ _ ?_
  rcases (show a = 1 ∨ a = 2 ∨ a = 3 ∨ a = 4 by omega) with rfl | rfl | rfl | rfl <;> rcases (show b = 1 ∨ b = 2 ∨ b = 3 ∨ b = 4 by omega) with rfl | rfl | rfl | rfl
  · exact af_11
  · exact af_12
  · exact af_13
  · exact af_14
  · exact af_21
  · exact af_22
  · exact af_23
  · exact af_24
  · exact af_31
  · exact af_32
  · exact af_33
  · exact af_34
  · exact af_41
  · exact af_42
  · exact af_43
  · exact af_44
