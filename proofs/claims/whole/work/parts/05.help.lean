/-! helpers of the printed walks -/
def lt {α β : Type} (e : α) (k : α → β) : β := k e
theorem lt_of {α β : Type} {e x : α} {k : α → β} {r : β} (hx : x = e) (hf : lt e k = r) : k x = r := by subst hx; exact hf
theorem lt_ex {α β : Type} {e : α} {k : α → β} {r : β} (hf : lt e k = r) : ∃ x, x = e ∧ k x = r := ⟨e, rfl, hf⟩
theorem ip {c : Prop} [Decidable c] {α : Type} {a b r : α} (q : c) (hf : (if c then a else b) = r) : a = r := (if_pos q).symm.trans hf
theorem im {c : Prop} [Decidable c] {α : Type} {a b r : α} (q : ¬ c) (hf : (if c then a else b) = r) : b = r := (if_neg q).symm.trans hf
def inb (i : Int32) (n : Nat) : Bool := decide (¬ (i < 0 ∨ n ≤ i.toNatClampNeg))
theorem inb_iff {i : Int32} {n : Nat} : inb i n = true ↔ vp_in i n := by unfold inb vp_in; exact decide_eq_true_iff
theorem ck {α : Type} {i : Int32} {n : Nat} {A : Option α} {r : α} (hf : (if inb i n = true then A else none) = some r) : vp_in i n ∧ A = some r := by
  by_cases h : inb i n = true
  · rw [if_pos h] at hf; exact ⟨inb_iff.mp h, hf⟩
  · rw [if_neg h] at hf; cases hf
theorem ckp {α : Type} {c : Prop} [Decidable c] {A : Option α} {r : α} (hf : (if c then A else none) = some r) : c ∧ A = some r := by
  by_cases h : c
  · rw [if_pos h] at hf; exact ⟨h, hf⟩
  · rw [if_neg h] at hf; cases hf
theorem ckz {α : Type} {c : Prop} [Decidable c] {A : Option α} {r : α} (hf : (if c then A else none) = some r) : c ∧ A = some r := ckp hf
theorem bnd {α β : Type} {x : Option α} {k : α → Option β} {r : β} (hf : x.bind k = some r) : ∃ v, x = some v ∧ k v = some r := by
  cases x with
  | none => cases hf
  | some v => exact ⟨v, rfl, hf⟩
section SWX
variable {G : GT} {d : Nat} {cc : ByteArray} {own : String} {nL : Nat} {ret : Option FieldType} {R : Option Value × Mm} {M : Mm} {pc : Nat} {lv : List (Option Value)} {st : List Value}
theorem nmI {x : Int32} (k : ∀ y : Int32, y = x → SW G d cc own nL ret R M pc lv (.int y :: st)) : SW G d cc own nL ret R M pc lv (.int x :: st) := k x rfl
theorem nmL {x : Int64} (k : ∀ y : Int64, y = x → SW G d cc own nL ret R M pc lv (.long y :: st)) : SW G d cc own nL ret R M pc lv (.long x :: st) := k x rfl
theorem nmM (k : ∀ M' : Mm, M' = M → SW G d cc own nL ret R M' pc lv st) : SW G d cc own nL ret R M pc lv st := k M rfl
def dropL (lv : List (Option Value)) : List Nat → List (Option Value)
  | [] => lv
  | k :: ks => dropL (lv.set k none) ks
theorem dropL_get {i : Nat} {v : Value} : ∀ {ks : List Nat} {lv : List (Option Value)}, (dropL lv ks)[i]? = some (some v) → lv[i]? = some (some v)
  | [], _, h => h
  | k :: ks, lv, h => by
    have h1 := dropL_get (ks := ks) (lv := lv.set k none) h
    by_cases e : k = i
    · subst e
      rw [List.getElem?_set] at h1
      simp only [if_true] at h1
      split at h1 <;> simp at h1
    · rwa [List.getElem?_set_ne e] at h1
theorem r_weak (ks : List Nat) {lv' : List (Option Value)} (h : dropL lv ks = lv') (k : SW G d cc own nL ret R M pc lv' st) : SW G d cc own nL ret R M pc lv st := by
  intro p e Rm s m args below meth c cells slots Q C H locs ls hP hS hL
  refine k p e Rm s m args below meth c cells slots Q C H locs ls hP hS ⟨hL.1, hL.2.1, fun q hq => ?_⟩
  obtain ⟨j, v, hj, rfl⟩ := lvl_mem.mp hq
  subst h
  exact hL.2.2 _ (lvl_mem.mpr ⟨j, v, dropL_get hj, rfl⟩)
end SWX
theorem to_all : ∀ a, a < 64 → sh a = (5, 0) → (rf a 3 = a + 1 ∧ rf a 4 = a + 2 ∧ rf a 5 = a + 3 ∧ rf a 6 = a + 4) ∧ sh (a + 1) = (10, 8) ∧ sh (a + 2) = (10, 8) ∧ sh (a + 3) = (10, 8) ∧ sh (a + 4) = (10, 8) := by decide +kernel
theorem to_f {a : Nat} (h : sh a = (5, 0)) : (rf a 3 = a + 1 ∧ rf a 4 = a + 2 ∧ rf a 5 = a + 3 ∧ rf a 6 = a + 4) ∧ sh (a + 1) = (10, 8) ∧ sh (a + 2) = (10, 8) ∧ sh (a + 3) = (10, 8) ∧ sh (a + 4) = (10, 8) := to_all a (sh_lt h (by decide)) h
theorem to_r3 {a : Nat} (h : sh a = (5, 0)) : rf a 3 = a + 1 := (to_f h).1.1
theorem to_r4 {a : Nat} (h : sh a = (5, 0)) : rf a 4 = a + 2 := (to_f h).1.2.1
theorem to_r5 {a : Nat} (h : sh a = (5, 0)) : rf a 5 = a + 3 := (to_f h).1.2.2.1
theorem to_r6 {a : Nat} (h : sh a = (5, 0)) : rf a 6 = a + 4 := (to_f h).1.2.2.2
theorem to_s3 {a : Nat} (h : sh a = (5, 0)) : sh (a + 1) = (10, 8) := (to_f h).2.1
theorem to_s4 {a : Nat} (h : sh a = (5, 0)) : sh (a + 2) = (10, 8) := (to_f h).2.2.1
theorem to_s5 {a : Nat} (h : sh a = (5, 0)) : sh (a + 3) = (10, 8) := (to_f h).2.2.2.1
theorem to_s6 {a : Nat} (h : sh a = (5, 0)) : sh (a + 4) = (10, 8) := (to_f h).2.2.2.2
theorem im_all : ∀ a, a < 64 → sh a = (1, 0) → rf a 0 = a + 1 ∧ sh (a + 1) = (5, 0) := by decide +kernel
theorem im_r {a : Nat} (h : sh a = (1, 0)) : rf a 0 = a + 1 := (im_all a (sh_lt h (by decide)) h).1
theorem im_s {a : Nat} (h : sh a = (1, 0)) : sh (a + 1) = (5, 0) := (im_all a (sh_lt h (by decide)) h).2
theorem sh_0 : sh 0 = (8, 0) := by decide
theorem rf_0_0 : rf 0 0 = 1 := by decide
theorem rf_0_1 : rf 0 1 = 6 := by decide
theorem rf_0_2 : rf 0 2 = 11 := by decide
theorem rf_0_3 : rf 0 3 = 18 := by decide
theorem rf_0_4 : rf 0 4 = 20 := by decide
theorem rf_0_5 : rf 0 5 = 24 := by decide
theorem rf_0_6 : rf 0 6 = 30 := by decide
theorem rf_0_7 : rf 0 7 = 33 := by decide
theorem rf_0_8 : rf 0 8 = 37 := by decide
theorem rf_0_9 : rf 0 9 = 43 := by decide
theorem sh_1 : sh 1 = (5, 0) := by decide
theorem rf_1_3 : rf 1 3 = 2 := by decide
theorem rf_1_4 : rf 1 4 = 3 := by decide
theorem rf_1_5 : rf 1 5 = 4 := by decide
theorem rf_1_6 : rf 1 6 = 5 := by decide
theorem sh_2 : sh 2 = (10, 8) := by decide
theorem sh_3 : sh 3 = (10, 8) := by decide
theorem sh_4 : sh 4 = (10, 8) := by decide
theorem sh_5 : sh 5 = (10, 8) := by decide
theorem sh_6 : sh 6 = (5, 0) := by decide
theorem rf_6_3 : rf 6 3 = 7 := by decide
theorem rf_6_4 : rf 6 4 = 8 := by decide
theorem rf_6_5 : rf 6 5 = 9 := by decide
theorem rf_6_6 : rf 6 6 = 10 := by decide
theorem sh_7 : sh 7 = (10, 8) := by decide
theorem sh_8 : sh 8 = (10, 8) := by decide
theorem sh_9 : sh 9 = (10, 8) := by decide
theorem sh_10 : sh 10 = (10, 8) := by decide
theorem sh_11 : sh 11 = (4, 0) := by decide
theorem rf_11_0 : rf 11 0 = 12 := by decide
theorem rf_11_1 : rf 11 1 = 13 := by decide
theorem sh_12 : sh 12 = (12, 400) := by decide
theorem sh_13 : sh 13 = (5, 0) := by decide
theorem rf_13_3 : rf 13 3 = 14 := by decide
theorem rf_13_4 : rf 13 4 = 15 := by decide
theorem rf_13_5 : rf 13 5 = 16 := by decide
theorem rf_13_6 : rf 13 6 = 17 := by decide
theorem sh_14 : sh 14 = (10, 8) := by decide
theorem sh_15 : sh 15 = (10, 8) := by decide
theorem sh_16 : sh 16 = (10, 8) := by decide
theorem sh_17 : sh 17 = (10, 8) := by decide
theorem sh_18 : sh 18 = (2, 0) := by decide
theorem rf_18_0 : rf 18 0 = 19 := by decide
theorem sh_19 : sh 19 = (13, 256) := by decide
theorem sh_20 : sh 20 = (3, 0) := by decide
theorem rf_20_0 : rf 20 0 = 21 := by decide
theorem rf_20_1 : rf 20 1 = 22 := by decide
theorem rf_20_2 : rf 20 2 = 23 := by decide
theorem sh_21 : sh 21 = (10, 6) := by decide
theorem sh_22 : sh 22 = (10, 7) := by decide
theorem sh_23 : sh 23 = (10, 6) := by decide
theorem sh_24 : sh 24 = (7, 0) := by decide
theorem rf_24_0 : rf 24 0 = 25 := by decide
theorem rf_24_1 : rf 24 1 = 26 := by decide
theorem rf_24_2 : rf 24 2 = 27 := by decide
theorem rf_24_3 : rf 24 3 = 28 := by decide
theorem rf_24_4 : rf 24 4 = 29 := by decide
theorem sh_25 : sh 25 = (10, 8) := by decide
theorem sh_26 : sh 26 = (10, 8) := by decide
theorem sh_27 : sh 27 = (10, 8) := by decide
theorem sh_28 : sh 28 = (10, 8) := by decide
theorem sh_29 : sh 29 = (10, 8) := by decide
theorem sh_30 : sh 30 = (6, 0) := by decide
theorem rf_30_0 : rf 30 0 = 31 := by decide
theorem rf_30_1 : rf 30 1 = 32 := by decide
theorem sh_31 : sh 31 = (10, 25) := by decide
theorem sh_32 : sh 32 = (10, 6) := by decide
theorem sh_33 : sh 33 = (0, 0) := by decide
theorem rf_33_0 : rf 33 0 = 34 := by decide
theorem rf_33_1 : rf 33 1 = 35 := by decide
theorem rf_33_2 : rf 33 2 = 36 := by decide
theorem sh_34 : sh 34 = (10, 30) := by decide
theorem sh_35 : sh 35 = (10, 30) := by decide
theorem sh_36 : sh 36 = (11, 30) := by decide
theorem sh_37 : sh 37 = (1, 0) := by decide
theorem rf_37_0 : rf 37 0 = 38 := by decide
theorem sh_38 : sh 38 = (5, 0) := by decide
theorem rf_38_3 : rf 38 3 = 39 := by decide
theorem rf_38_4 : rf 38 4 = 40 := by decide
theorem rf_38_5 : rf 38 5 = 41 := by decide
theorem rf_38_6 : rf 38 6 = 42 := by decide
theorem sh_39 : sh 39 = (10, 8) := by decide
theorem sh_40 : sh 40 = (10, 8) := by decide
theorem sh_41 : sh 41 = (10, 8) := by decide
theorem sh_42 : sh 42 = (10, 8) := by decide
theorem sh_43 : sh 43 = (1, 0) := by decide
theorem rf_43_0 : rf 43 0 = 44 := by decide
theorem sh_44 : sh 44 = (5, 0) := by decide
theorem rf_44_3 : rf 44 3 = 45 := by decide
theorem rf_44_4 : rf 44 4 = 46 := by decide
theorem rf_44_5 : rf 44 5 = 47 := by decide
theorem rf_44_6 : rf 44 6 = 48 := by decide
theorem sh_45 : sh 45 = (10, 8) := by decide
theorem sh_46 : sh 46 = (10, 8) := by decide
theorem sh_47 : sh 47 = (10, 8) := by decide
theorem sh_48 : sh 48 = (10, 8) := by decide
theorem sh_49 : sh 49 = (9, 0) := by decide
theorem rf_49_6 : rf 49 6 = 50 := by decide
theorem rf_49_8 : rf 49 8 = 51 := by decide
theorem rf_49_9 : rf 49 9 = 52 := by decide
theorem rf_49_23 : rf 49 23 = 53 := by decide
theorem rf_49_24 : rf 49 24 = 54 := by decide
theorem rf_49_25 : rf 49 25 = 55 := by decide
theorem rf_49_30 : rf 49 30 = 56 := by decide
theorem rf_49_31 : rf 49 31 = 57 := by decide
theorem rf_49_32 : rf 49 32 = 58 := by decide
theorem rf_49_34 : rf 49 34 = 59 := by decide
theorem rf_49_35 : rf 49 35 = 60 := by decide
theorem rf_49_36 : rf 49 36 = 61 := by decide
theorem rf_49_37 : rf 49 37 = 62 := by decide
theorem rf_49_38 : rf 49 38 = 63 := by decide
theorem sh_50 : sh 50 = (10, 8) := by decide
theorem sh_51 : sh 51 = (10, 8) := by decide
theorem sh_52 : sh 52 = (10, 400) := by decide
theorem sh_53 : sh 53 = (10, 8) := by decide
theorem sh_54 : sh 54 = (10, 9) := by decide
theorem sh_55 : sh 55 = (10, 8) := by decide
theorem sh_56 : sh 56 = (10, 8) := by decide
theorem sh_57 : sh 57 = (10, 8) := by decide
theorem sh_58 : sh 58 = (10, 8) := by decide
theorem sh_59 : sh 59 = (10, 30) := by decide
theorem sh_60 : sh 60 = (10, 30) := by decide
theorem sh_61 : sh 61 = (11, 30) := by decide
theorem sh_62 : sh 62 = (10, 40) := by decide
theorem sh_63 : sh 63 = (11, 2) := by decide
